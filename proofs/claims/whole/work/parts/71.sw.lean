/-! The reference: isSwitch, switchOf. -/
/-- the PARTS ps stand in its row from a on -/
def PA (m : Nat) (h : mx_H) (a : Nat) (ps : List Nat) : Prop := ∀ k p, ps[k]? = some p → hpI h (m + 21) (a + k) = nI p
def isl (t : tr) (x v : Nat) (l : List Nat) : Bool := match l with
  | [] => true
  | p :: r => match tk t p x with
    | none => false
    | some c => if tA t c = v then isl t x v r else false
def iw (t : tr) (x : Nat) (l : List Nat) : Bool := match l with
  | [] => false
  | p :: r => match tk t p x with
    | none => false
    | some c => isl t x (tA t c) r
theorem isl_eq {t : tr} {x : Nat} : ∀ (l : List Nat) (v : Nat), isl t x v l = (l.all (fun p => (tk t p x).isSome) && (coL t x (some v) l).isSome) := by
  intro l
  induction l with
  | nil => intro v; rfl
  | cons p r ih =>
    intro v
    rw [isl, List.all_cons, coL]
    unfold tka
    cases hk : tk t p x with
    | none => simp
    | some c =>
      dsimp only
      by_cases e : tA t c = v
      · rw [if_pos e, if_pos e, ih v]; simp
      · rw [if_neg e, if_neg e]; simp
theorem iw_eq {t : tr} {x : Nat} {l : List Nat} (hl : l ≠ []) : iw t x l = (l.all (fun p => (tk t p x).isSome) && (coL t x none l).isSome) := by
  cases l with
  | nil => exact absurd rfl hl
  | cons p r =>
    rw [iw, List.all_cons, coL]
    unfold tka
    cases hk : tk t p x with
    | none => simp
    | some c => dsimp only; rw [isl_eq]; simp
theorem fsx_iw {t : tr} {w : Int64} {x : Nat} {l : List Nat} (hl : l ≠ []) : (fsx t w l x).isSome = (!tb w x && iw t x l) := by
  rw [iw_eq hl]
  unfold fsx
  cases hb : tb w x with
  | true => simp
  | false =>
    cases ha : l.all (fun p => (tk t p x).isSome) with
    | true => simp
    | false => simp
section
variable {m : Nat} {t : tr} {h : mx_H}
theorem tk_5 (T : tOk t) {p x c : Nat} (hp : p < tN t) (h : tk t p x = some c) : c < tN t ∧ tS t c = 5 ∧ tA t c ≤ 100 ∧ tG t c < 100 := by
  obtain ⟨-, h1, h2, -⟩ := tk_spec T hp h
  have := (T.at h1).2.2.2.2.2.2.2.2.1 h2
  exact ⟨h1, h2, this.2.2, this.2.1⟩
theorem M_isSwitch_loop {d : Nat} {Q : Option mx_V → mx_H → Prop} (S : mS m h) (T : tOk t) (H : mT m t h) {a x c0 : Nat} {ps : List Nat} (hps : ∀ p ∈ ps, p < tN t) (hP : PA m h a ps) (ha : a + ps.length ≤ 6000) (hx : x < 60) (hc0 : c0 < tN t) (h5 : tS t c0 = 5) : ∀ (l : List Nat) (k : Nat) (z : Option mx_V), ps.drop k = l → k ≤ ps.length → Q (some (.inl (bI (isl t x (tA t c0) l)))) h →
    mx_W (mx_Call mx_prog (d + 1)) (mx_nth cd_M_isSwitch) (15, [some (.inr (.inr (some m))), some (.inl (nI a)), some (.inl (nI ps.length)), some (.inl (nI x)), some (.inl (nI c0)), some (.inl (nI k)), z], [], h) Q := by
  have hN := T.2.1
  have hA0 := ((T.at hc0).2.2.2.2.2.2.2.2.1 h5).2.2
  intro l
  induction l with
  | nil =>
    intro k z hd hk hq
    have hlen := congrArg List.length hd
    rw [List.length_drop] at hlen
    have hlen : ps.length - k = 0 := hlen
    iterate 3 refine mw_go rfl rfl ?_
    refine mw_ifT ((nI_leI (by omega) (by omega)).mpr (by omega)) ?_
    refine mw_go rfl rfl ?_
    exact mw_r3 rfl (Or.inr rfl) hq
  | cons p r ih =>
    intro k z hd hk hq
    have hlen := congrArg List.length hd
    rw [List.length_drop, List.length_cons] at hlen
    have hkp : ps[k]? = some p := by
      have := congrArg (fun l => l[0]?) hd
      simpa using this
    have hd' : ps.drop (k + 1) = r := by
      have := congrArg List.tail hd
      rw [List.tail_drop] at this
      exact this
    have hpm := List.mem_of_getElem? hkp
    have hpl := hps p hpm
    iterate 3 refine mw_go rfl rfl ?_
    refine mw_ifF (fun q => absurd ((nI_leI (by omega) (by omega)).mp q) (by omega)) ?_
    iterate 2 refine mw_go rfl rfl ?_
    refine mv_gR rfl rfl S.1 (S.r 25 rfl) ?_
    iterate 3 refine mw_go rfl rfl ?_
    refine mv_ial rfl rfl (S.a 25 rfl) (nI_add a k) (show a + k < 6000 by omega) (by decide) (hP k p hkp) ?_
    refine mw_go rfl rfl ?_
    refine mw_cv (M_taking_ok d S T H hpl hx) rfl rfl rfl (Nat.le_of_ble_eq_true rfl) ⟨_, rfl, S.1⟩ ?_
    rw [isl] at hq
    iterate 4 refine mw_go rfl rfl ?_
    have no : ∀ z, Q (some (.inl (bI false))) h → mx_W (mx_Call mx_prog (d + 1)) (mx_nth cd_M_isSwitch) (40, [some (.inr (.inr (some m))), some (.inl (nI a)), some (.inl (nI ps.length)), some (.inl (nI x)), some (.inl (nI c0)), some (.inl (nI k)), z], [], h) Q := by
      intro z hq
      refine mw_go rfl rfl ?_
      exact mw_r3 rfl (Or.inl rfl) hq
    cases hk : tk t p x with
    | none =>
      rw [hk] at hq
      refine mw_ifT rfl ?_
      exact no _ hq
    | some c =>
      rw [hk] at hq
      dsimp only at hq
      obtain ⟨c1, c2, c3, c4⟩ := tk_5 T hpl hk
      refine mw_ifF (nI_m1 (by omega)) ?_
      refine mw_go rfl rfl ?_
      refine mv_gR rfl rfl S.1 (S.r 10 rfl) ?_
      refine mw_go rfl rfl ?_
      refine mv_ial rfl rfl (S.a 10 rfl) rfl (show c < 250 by omega) (by decide) ((H.2 c c1).A5 c2) ?_
      refine mw_go rfl rfl ?_
      refine mv_gR rfl rfl S.1 (S.r 10 rfl) ?_
      refine mw_go rfl rfl ?_
      refine mv_ial rfl rfl (S.a 10 rfl) rfl (show c0 < 250 by omega) (by decide) ((H.2 c0 hc0).A5 h5) ?_
      refine mw_go rfl rfl ?_
      refine mw_ifP (nI_eq (by omega) (by omega)) (fun e => ?_) (fun e => ?_)
      · rw [if_pos e] at hq
        iterate 2 refine mw_go rfl rfl ?_
        show mx_W _ _ (15, [some (.inr (.inr (some m))), some (.inl (nI a)), some (.inl (nI ps.length)), some (.inl (nI x)), some (.inl (nI c0)), some (.inl (nI k + 1)), some (.inl (nI c))], [], h) _
        rw [nI_1]
        exact ih (k + 1) _ hd' (by omega) hq
      · rw [if_neg e] at hq
        exact no _ hq
theorem M_isSwitch_ok (d : Nat) (S : mS m h) (T : tOk t) (H : mT m t h) {a x : Nat} {ps : List Nat} (hne : ps ≠ []) (hps : ∀ p ∈ ps, p < tN t) (hP : PA m h a ps) (ha : a + ps.length ≤ 6000) (hx : x < 60) : cl (d + 2) j_M_isSwitch [.inr (.inr (some m)), .inl (nI a), .inl (nI ps.length), .inl (nI x)] h (some (.inl (bI (iw t x ps)))) h := by
  refine cl_of (Nat.le_of_ble_eq_true rfl) ?_
  show mx_W _ (mx_nth cd_M_isSwitch) (0, [some (.inr (.inr (some m))), some (.inl (nI a)), some (.inl (nI ps.length)), some (.inl (nI x)), none, none, none], [], h) _
  cases hp : ps with
  | nil => exact absurd hp hne
  | cons p r =>
    rw [← hp]
    have hkp : ps[0]? = some p := by rw [hp]; rfl
    have hpl := hps p (List.mem_of_getElem? hkp)
    have hl : ps.length = r.length + 1 := by rw [hp]; rfl
    iterate 2 refine mw_go rfl rfl ?_
    refine mv_gR rfl rfl S.1 (S.r 25 rfl) ?_
    refine mw_go rfl rfl ?_
    refine mv_ial rfl rfl (S.a 25 rfl) rfl (show a < 6000 by omega) (by decide) (hP 0 p hkp) ?_
    refine mw_go rfl rfl ?_
    refine mw_cv (M_taking_ok d S T H hpl hx) rfl rfl rfl (Nat.le_of_ble_eq_true rfl) ⟨_, rfl, S.1⟩ ?_
    iterate 4 refine mw_go rfl rfl ?_
    cases hk : tk t p x with
    | none =>
      refine mw_ifT rfl ?_
      refine mw_go rfl rfl ?_
      exact mw_r3 rfl (Or.inl rfl) ⟨by rw [hp, iw, hk]; rfl, rfl⟩
    | some c =>
      obtain ⟨c1, c2, c3, c4⟩ := tk_5 T hpl hk
      have hN := T.2.1
      refine mw_ifF (nI_m1 (by omega)) ?_
      iterate 2 refine mw_go rfl rfl ?_
      exact M_isSwitch_loop S T H hps hP ha hx c1 c2 r 1 _ (by rw [hp]; rfl) (by omega) ⟨by rw [hp, iw, hk], rfl⟩
theorem M_switchOf_loop {d : Nat} {Q : Option mx_V → mx_H → Prop} (S : mS m h) (T : tOk t) (H : mT m t h) {a : Nat} {ps : List Nat} (hne : ps ≠ []) (hps : ∀ p ∈ ps, p < tN t) (hP : PA m h a ps) (ha : a + ps.length ≤ 6000) (w : Int64) : ∀ (n x : Nat), x + n = 60 → Q (some (.inl (iO ((fsF t w ps x n).map (fun q => q.1))))) h →
    mx_W (mx_Call mx_prog (d + 2)) (mx_nth cd_M_switchOf) (7, [some (.inr (.inr (some m))), some (.inl (nI a)), some (.inl (nI ps.length)), some (.inr (.inl w)), none, some (.inl (nI x))], [], h) Q := by
  intro n
  induction n with
  | zero =>
    intro x hx hq
    iterate 3 refine mw_go rfl rfl ?_
    refine mw_ifT ((nI_leI (a := 60) (by omega) (by omega)).mpr (by omega)) ?_
    refine mw_go rfl rfl ?_
    exact mw_r0 rfl hq
  | succ n ih =>
    intro x hx hq
    rw [fsF] at hq
    have hfx := fsx_iw (t := t) (w := w) (x := x) hne
    iterate 3 refine mw_go rfl rfl ?_
    refine mw_ifF (fun q => absurd ((nI_leI (a := 60) (by omega) (by omega)).mp q) (by omega)) ?_
    iterate 5 refine mw_go rfl rfl ?_
    rw [tb_shr _ (show x < 64 by omega)]
    iterate 3 refine mw_go rfl rfl ?_
    have on : fsx t w ps x = none → mx_W (mx_Call mx_prog (d + 2)) (mx_nth cd_M_switchOf) (26, [some (.inr (.inr (some m))), some (.inl (nI a)), some (.inl (nI ps.length)), some (.inr (.inl w)), none, some (.inl (nI x))], [], h) Q := by
      intro e
      rw [e] at hq
      iterate 2 refine mw_go rfl rfl ?_
      show mx_W _ _ (7, [some (.inr (.inr (some m))), some (.inl (nI a)), some (.inl (nI ps.length)), some (.inr (.inl w)), none, some (.inl (nI x + 1))], [], h) _
      rw [nI_1]
      exact ih (x + 1) (by omega) hq
    refine mw_ifP (cmp0 _) (fun hb => ?_) (fun hb => on ?_)
    · rw [hb, Bool.not_false, Bool.true_and] at hfx
      iterate 4 refine mw_go rfl rfl ?_
      refine mw_cv (M_isSwitch_ok d S T H hne hps hP ha (show x < 60 by omega)) rfl rfl rfl (Nat.le_of_ble_eq_true rfl) ⟨_, rfl, S.1⟩ ?_
      refine mw_go rfl rfl ?_
      refine mw_ifP (e_bI _) (fun hi => on ?_) (fun hi => ?_)
      · rw [hi] at hfx
        cases hf : fsx t w ps x with
        | none => rfl
        | some v => rw [hf] at hfx; cases hfx
      · refine mw_go rfl rfl ?_
        cases hf : fsx t w ps x with
        | none => rw [hf] at hfx; exact absurd hfx.symm hi
        | some v => rw [hf] at hq; exact mw_r0 rfl hq
    · have hb : tb w x = true := by cases hh : tb w x with
        | true => rfl
        | false => exact absurd hh hb
      rw [hb] at hfx
      cases hf : fsx t w ps x with
      | none => rfl
      | some v => rw [hf] at hfx; cases hfx
/-- switchOf: the variable of the SWITCH that a CHOICE of the PARTS ps is, w left out -/
theorem M_switchOf_ok (d : Nat) (S : mS m h) (T : tOk t) (H : mT m t h) {a : Nat} {ps : List Nat} (hps : ∀ p ∈ ps, p < tN t) (hP : PA m h a ps) (ha : a + ps.length ≤ 6000) (w : Int64) : cl (d + 3) j_M_switchOf [.inr (.inr (some m)), .inl (nI a), .inl (nI ps.length), .inr (.inl w)] h (some (.inl (iO ((fsw t w ps).map (fun q => q.1))))) h := by
  refine cl_of (Nat.le_of_ble_eq_true rfl) ?_
  show mx_W _ (mx_nth cd_M_switchOf) (0, [some (.inr (.inr (some m))), some (.inl (nI a)), some (.inl (nI ps.length)), some (.inr (.inl w)), none, none], [], h) _
  iterate 3 refine mw_go rfl rfl ?_
  refine mw_ifP (nI_leI (a := 2) (by omega) (by omega)) (fun h2 => ?_) (fun h2 => ?_)
  · iterate 2 refine mw_go rfl rfl ?_
    exact M_switchOf_loop S T H (fun e => by rw [e] at h2; exact absurd h2 (by decide)) hps hP ha w 60 0 (by omega) ⟨by unfold fsw; rw [if_neg (by omega)], rfl⟩
  · refine mw_go rfl rfl ?_
    exact mw_r0 rfl ⟨by unfold fsw; rw [if_pos (by omega)]; rfl, rfl⟩
end
