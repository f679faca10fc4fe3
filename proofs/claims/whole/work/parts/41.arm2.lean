/-! Arm: findSwitch, open, enlist, hear. -/
/-- on x a CHOICE of these PARTS could be a SWITCH: its ALL -/
def fsx (t : tr) (w : Int64) (ps : List Nat) (x : Nat) : Option Nat := if tb w x = false ∧ ps.all (fun p => (tk t p x).isSome) = true then coL t x none ps else none
/-- the least such variable from x on, of n, and its ALL -/
def fsF (t : tr) (w : Int64) (ps : List Nat) (x n : Nat) : Option (Nat × Nat) := match n with
  | 0 => none
  | n + 1 => match fsx t w ps x with
    | some v => some (x, v)
    | none => fsF t w ps (x + 1) n
/-- the SWITCH that a CHOICE of these PARTS is: variable and ALL -/
def fsw (t : tr) (w : Int64) (ps : List Nat) : Option (Nat × Nat) := if ps.length < 2 then none else fsF t w ps 0 60
def fsH (h : mx_H) (a : Nat) (o : Option (Nat × Nat)) : mx_H := match o with
  | none => h
  | some (x, v) => hwI (hwI h a 6 (nI x)) a 7 (nI v)
theorem coL_le {t : tr} (T : tOk t) {x : Nat} : ∀ {ps : List Nat} {cm : Option Nat} {v : Nat}, (∀ p ∈ ps, p < tN t) → (∀ v, cm = some v → v ≤ 100) → coL t x cm ps = some v → v ≤ 100 := by
  intro ps
  induction ps with
  | nil => intro cm v _ h1 h2; exact h1 v h2
  | cons p r ih =>
    intro cm v hps h1 h2
    have hp := hps p List.mem_cons_self
    have ha : tka t p x ≤ 100 := by
      unfold tka
      cases hc : tk t p x with
      | none => simp
      | some c =>
        obtain ⟨-, g2, g3, -⟩ := tk_spec T hp hc
        exact ((T.at g2).2.2.2.2.2.2.2.2.1 g3).2.2
    have hr := fun q hq => hps q (List.mem_cons_of_mem p hq)
    cases cm with
    | none => rw [coL] at h2; exact ih hr (fun w hw => by cases hw; exact ha) h2
    | some u =>
      rw [coL] at h2
      by_cases e : tka t p x = u
      · rw [if_pos e] at h2; exact ih hr h1 h2
      · rw [if_neg e] at h2; cases h2
theorem fsF_spec {t : tr} {w : Int64} {ps : List Nat} : ∀ {n x y v : Nat}, fsF t w ps x n = some (y, v) → x ≤ y ∧ y < x + n ∧ fsx t w ps y = some v := by
  intro n
  induction n with
  | zero => intro x y v h; simp [fsF] at h
  | succ n ih =>
    intro x y v h
    rw [fsF] at h
    cases hc : fsx t w ps x with
    | some u => rw [hc] at h; cases h; exact ⟨by omega, by omega, hc⟩
    | none =>
      rw [hc] at h
      obtain ⟨h1, h2, h3⟩ := ih h
      exact ⟨by omega, by omega, h3⟩
theorem fsw_spec {t : tr} (T : tOk t) {w : Int64} {ps : List Nat} {y v : Nat} (hps : ∀ p ∈ ps, p < tN t) (h : fsw t w ps = some (y, v)) : 2 ≤ ps.length ∧ y < 60 ∧ tb w y = false ∧ (∀ p ∈ ps, (tk t p y).isSome = true) ∧ coL t y none ps = some v ∧ v ≤ 100 := by
  unfold fsw at h
  by_cases hl : ps.length < 2
  · rw [if_pos hl] at h; cases h
  · rw [if_neg hl] at h
    obtain ⟨-, h2, h3⟩ := fsF_spec h
    unfold fsx at h3
    by_cases hc : tb w y = false ∧ ps.all (fun p => (tk t p y).isSome) = true
    · rw [if_pos hc] at h3
      exact ⟨by omega, by omega, hc.1, fun p hp => List.all_eq_true.mp hc.2 p hp, h3, coL_le T hps (fun v hv => by cases hv) h3⟩
    · rw [if_neg hc] at h3; cases h3
section
variable {na : Nat → Nat} {t : tr} {κ : Nat → Nat} {h : mx_H}
/-- the variables TAKEN by each of these -/
def tAnd (h : mx_H) (na : Nat → Nat) (w : Int64) (l : List Nat) : Int64 := match l with
  | [] => w
  | p :: r => tAnd h na (w &&& hpL h (na p) 14) r
theorem tAnd_tb (T : tOk t) {x : Nat} (hx : x < 60) : ∀ (l : List Nat) (w : Int64), (∀ p ∈ l, p < tN t ∧ hpL h (na p) 14 = thm t p) → tb (tAnd h na w l) x = (tb w x && l.all (fun p => (tk t p x).isSome)) := by
  intro l
  induction l with
  | nil => intro w _; simp [tAnd]
  | cons p r ih =>
    intro w hl
    obtain ⟨h1, h2⟩ := hl p List.mem_cons_self
    rw [tAnd, ih _ (fun q hq => hl q (List.mem_cons_of_mem _ hq)), tb_and, h2, thm_tb T h1 hx, List.all_cons, Bool.and_assoc]
theorem A_find_loop1 {C : mx_C} {Q : Option mx_V → mx_H → Prop} (H : nAll na t κ h) (u : Option Nat) (z : Option mx_V) : ∀ (l : List Nat) (r : Option Nat) (w : Int64), Chn na h 13 r l → (∀ p ∈ l, p < tN t) →
    mx_W C (mx_nth cd_A_findSwitch) (24, [some (.inr (.inr u)), some (.inr (.inl (tAnd h na w l))), none, some (.inr (.inr none)), z], [], h) Q →
    mx_W C (mx_nth cd_A_findSwitch) (13, [some (.inr (.inr u)), some (.inr (.inl w)), none, some (.inr (.inr r)), z], [], h) Q := by
  intro l
  induction l with
  | nil =>
    intro r w hr hl k
    have hr : r = none := hr
    subst hr
    iterate 2 refine mw_go rfl rfl ?_
    refine mw_ifT rfl ?_
    exact k
  | cons p l ih =>
    intro r w hr hl k
    obtain ⟨rfl, hch⟩ := hr
    have Hp := H p (hl p List.mem_cons_self)
    iterate 2 refine mw_go rfl rfl ?_
    refine mw_ifF (by simp) ?_
    iterate 2 refine mw_go rfl rfl ?_
    refine mw_gL rfl rfl Hp.K ?_
    iterate 3 refine mw_go rfl rfl ?_
    refine mw_gR rfl rfl Hp.K ?_
    iterate 2 refine mw_go rfl rfl ?_
    exact ih _ _ hch (fun q hq => hl q (List.mem_cons_of_mem _ hq)) k
theorem A_find_loop2 {d : Nat} {Q : Option mx_V → mx_H → Prop} (T : tOk t) (H : nAll na t κ h) {a : Nat} (hka : hpK h a = some (.inl 0)) (hv : hpI h a 6 = -1) {ps : List Nat} (hch : Chn na h 13 (hpR h a 3) ps) (hps : ∀ p ∈ ps, p < tN t ∧ hpL h (na p) 14 = thm t p) {w w' : Int64} (hw : ∀ x, x < 60 → tb w' x = (!tb w x && ps.all (fun p => (tk t p x).isSome))) :
    ∀ (n x : Nat) (z : Option mx_V), x + n = 60 → Q none (fsH h a (fsF t w ps x n)) →
    mx_W (mx_Call mx_prog (d + 2)) (mx_nth cd_A_findSwitch) (26, [some (.inr (.inr (some a))), some (.inr (.inl w')), none, some (.inl (nI x)), z], [], h) Q := by
  intro n
  induction n with
  | zero =>
    intro x z hxn hq
    iterate 3 refine mw_go rfl rfl ?_
    have e : nI 60 ≤ nI x ↔ 60 ≤ x := nI_leI (by omega) (by omega)
    refine mw_ifT (e.mpr (by omega)) ?_
    exact mw_r4 rfl hq
  | succ n ih =>
    intro x z hxn hq
    iterate 3 refine mw_go rfl rfl ?_
    have e : nI 60 ≤ nI x ↔ 60 ≤ x := nI_leI (by omega) (by omega)
    refine mw_ifF (fun q => absurd (e.mp q) (by omega)) ?_
    refine mw_go rfl rfl ?_
    refine mv_gI rfl rfl hka hv ?_
    iterate 2 refine mw_go rfl rfl ?_
    refine mw_ifT rfl ?_
    iterate 2 refine mw_go rfl rfl ?_
    refine mw_cv (N_has_ok (d + 1) h w' (x := x) (by omega)) rfl rfl rfl (Nat.le_of_ble_eq_true rfl) trivial ?_
    refine mw_go rfl rfl ?_
    have hwx := hw x (by omega)
    have none' : fsx t w ps x = none → ∀ z, mx_W (mx_Call mx_prog (d + 2)) (mx_nth cd_A_findSwitch) (52, [some (.inr (.inr (some a))), some (.inr (.inl w')), none, some (.inl (nI x)), z], [], h) Q := by
      intro hn z
      rw [fsF, hn] at hq
      iterate 2 refine mw_go rfl rfl ?_
      have e1 : nI x + 1 = nI (x + 1) := nI_1 x
      show mx_W _ _ (26, [some (.inr (.inr (some a))), some (.inr (.inl w')), none, some (.inl (nI x + 1)), z], [], h) _
      rw [e1]
      exact ih (x + 1) z (by omega) hq
    refine mw_ifP (e_bI _) (fun hb => ?_) (fun hb => ?_)
    · iterate 5 refine mw_go rfl rfl ?_
      refine mw_ifT rfl ?_
      refine none' ?_ _
      unfold fsx
      rw [if_neg]
      rintro ⟨q1, q2⟩
      rw [hwx, q1, q2] at hb
      exact absurd hb (by decide)
    · have hb : tb w' x = true := by cases hh : tb w' x with
        | true => rfl
        | false => exact absurd hh hb
      rw [hb] at hwx
      have hwx := hwx.symm
      rw [Bool.and_eq_true, Bool.not_eq_true'] at hwx
      have hall := List.all_eq_true.mp hwx.2
      iterate 2 refine mw_go rfl rfl ?_
      refine mw_cv (A_commonAll_ok d T H hka (x := x) (by omega) hch (fun p hp => ⟨(hps p hp).1, hall p hp⟩)) rfl rfl rfl (Nat.le_of_ble_eq_true rfl) ⟨_, rfl, hka⟩ ?_
      iterate 5 refine mw_go rfl rfl ?_
      have hle : ∀ v, coL t x none ps = some v → v ≤ 100 := fun v hv => coL_le T (fun p hp => (hps p hp).1) (fun v hv => by cases hv) hv
      have hfx : fsx t w ps x = coL t x none ps := by unfold fsx; rw [if_pos ⟨hwx.1, hwx.2⟩]
      refine mw_ifP (e_iO (fun v hv => by have := hle v hv; omega)) (fun hn => none' (by rw [hfx]; exact hn) _) (fun hn => ?_)
      obtain ⟨v, hv⟩ : ∃ v, coL t x none ps = some v := by
        cases hc : coL t x none ps with
        | none => exact absurd hc hn
        | some v => exact ⟨v, rfl⟩
      rw [fsF, hfx, hv] at hq
      rw [hv]
      iterate 2 refine mw_go rfl rfl ?_
      refine mw_pI rfl rfl hka ?_
      iterate 2 refine mw_go rfl rfl ?_
      refine mw_pI rfl rfl hka ?_
      iterate 2 refine mw_go rfl rfl ?_
      -- the next turn ends the loop: the variable is set
      have e1 : nI x + 1 = nI (x + 1) := nI_1 x
      show mx_W _ _ (26, [some (.inr (.inr (some a))), some (.inr (.inl w')), none, some (.inl (nI x + 1)), some (.inl (iO (some v)))], [], _) _
      rw [e1]
      iterate 3 refine mw_go rfl rfl ?_
      have e2 : nI 60 ≤ nI (x + 1) ↔ 60 ≤ x + 1 := nI_leI (by omega) (by omega)
      refine mw_ifP e2 (fun _ => mw_r4 rfl hq) (fun _ => ?_)
      refine mw_go rfl rfl ?_
      refine mw_gI rfl rfl hka ?_
      have e3 : hpI (hwI (hwI h a 6 (nI x)) a 7 (iO (some v))) a 6 = nI x := by simp [hpI_wI]
      rw [e3]
      iterate 2 refine mw_go rfl rfl ?_
      refine mw_ifF (nI_m1 (by omega)) ?_
      exact mw_r4 rfl hq
theorem A_findSwitch_ok (d : Nat) (T : tOk t) (H : nAll na t κ h) {a : Nat} (hka : hpK h a = some (.inl 0)) (hv : hpI h a 6 = -1) {ps : List Nat} (hsz : hpI h a 5 = nI ps.length) (hL : ps.length < 2 ^ 31) (hch : Chn na h 13 (hpR h a 3) ps) (hps : ∀ p ∈ ps, p < tN t ∧ hpL h (na p) 14 = thm t p) : cl (d + 3) j_A_findSwitch [.inr (.inr (some a))] h none (fsH h a (fsw t (hpL h a 2) ps)) := by
  refine cl_of (Nat.le_of_ble_eq_true rfl) ?_
  show mx_W _ (mx_nth cd_A_findSwitch) (0, [some (.inr (.inr (some a))), none, none, none, none], [], h) _
  refine mw_go rfl rfl ?_
  refine mv_gI rfl rfl hka hsz ?_
  iterate 2 refine mw_go rfl rfl ?_
  have e : nI 2 ≤ nI ps.length ↔ 2 ≤ ps.length := nI_leI (by omega) hL
  refine mw_ifP e (fun h2 => ?_) (fun h2 => ?_)
  · refine mw_go rfl rfl ?_
    refine mw_gL rfl rfl hka ?_
    iterate 4 refine mw_go rfl rfl ?_
    refine mw_gR rfl rfl hka ?_
    refine mw_go rfl rfl ?_
    refine A_find_loop1 H _ _ ps _ _ hch (fun p hp => (hps p hp).1) ?_
    iterate 2 refine mw_go rfl rfl ?_
    refine A_find_loop2 T H hka hv hch hps (w := hpL h a 2) ?_ 60 0 none rfl ?_
    · intro x hx
      rw [tAnd_tb T hx _ _ hps, tb_not _ (by omega)]
    · refine ⟨rfl, ?_⟩
      rw [fsw, if_neg (by omega)]
  · exact mw_r4 rfl ⟨rfl, by rw [fsw, if_pos (by omega)]; rfl⟩
end
