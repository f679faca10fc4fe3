/-! The class's NODES: methods that read. -/
theorem mw_ifP {C : mx_C} {code : Nat → mx_I} {Q : Option mx_V → mx_H → Prop} {c p : Prop} {hd : Decidable c} {a b : Nat} {x : mx_L × List mx_V × mx_H} (e : c ↔ p) (h1 : p → mx_W C code (a, x) Q) (h2 : ¬ p → mx_W C code (b, x) Q) : mx_W C code (@ite _ c hd a b, x) Q := mw_if hd (fun hc => h1 (e.mp hc)) (fun hc => h2 (fun hp => hc (e.mpr hp)))
theorem mw_ifT {C : mx_C} {code : Nat → mx_I} {Q : Option mx_V → mx_H → Prop} {c : Prop} {hd : Decidable c} {a b : Nat} {x : mx_L × List mx_V × mx_H} (hc : c) (h1 : mx_W C code (a, x) Q) : mx_W C code (@ite _ c hd a b, x) Q := by rw [if_pos hc]; exact h1
theorem mw_ifF {C : mx_C} {code : Nat → mx_I} {Q : Option mx_V → mx_H → Prop} {c : Prop} {hd : Decidable c} {a b : Nat} {x : mx_L × List mx_V × mx_H} (hc : ¬ c) (h1 : mx_W C code (b, x) Q) : mx_W C code (@ite _ c hd a b, x) Q := by rw [if_neg hc]; exact h1
theorem e_lit {a b : Nat} {z : Int32} (hz : nI b = z) (ha : a < 2 ^ 31) (hb : b < 2 ^ 31) : nI a = z ↔ a = b := by rw [← hz]; exact nI_eq ha hb
theorem e_bI (b : Bool) : bI b = 0 ↔ b = false := by cases b <;> decide
theorem tOk.at {t : tr} (T : tOk t) {i : Nat} (hi : i < tN t) : tS t i < 6 ∧ tD t i ≤ 20 ∧ (∀ c ∈ tC t i, i < c ∧ c < tN t ∧ tP t c = i) ∧ (tC t i).Nodup ∧ (3 < tS t i → tC t i = []) ∧ (tS t i = 2 → (tC t i).length ≤ 1) ∧ (tS t i = 3 → (tC t i).length ≤ 3) ∧ (tS t i = 4 → tV t i < 5) ∧ (tS t i = 5 → tV t i < 60 ∧ tG t i < 100 ∧ tA t i ≤ 100) ∧ (0 < i → tP t i < i) := T.2.2 i hi
theorem thd_f {t : tr} {p : Nat} (h5 : ¬ tS t p = 5) (h4 : ¬ (tS t p = 4 ∧ tV t p = 0)) : thd t p = false := by
  unfold thd
  rw [beq_eq_false_iff_ne.mpr h5, Bool.false_or, Bool.and_eq_false_iff, beq_eq_false_iff_ne, beq_eq_false_iff_ne]
  by_cases h : tS t p = 4
  · exact Or.inr (fun q => h4 ⟨h, q⟩)
  · exact Or.inl h
theorem thd_t5 {t : tr} {p : Nat} (h5 : tS t p = 5) : thd t p = true := by unfold thd; rw [h5]; rfl
theorem thd_t4 {t : tr} {p : Nat} (h4 : tS t p = 4) (h0 : tV t p = 0) : thd t p = true := by unfold thd; rw [h4, h0]; rfl
/-- the first TAKE of x among these -/
def tko (t : tr) (x : Nat) (l : List Nat) : Option Nat := match l with
  | [] => none
  | c :: r => if tS t c = 5 ∧ tV t c = x then some c else tko t x r
section
variable {na : Nat → Nat} {t : tr} {κ : Nat → Nat} {h : mx_H}
theorem N_takeOf_loop {C : mx_C} {Q : Option mx_V → mx_H → Prop} (T : tOk t) (H : nAll na t κ h) {x : Nat} (hx : x < 60) (u : Option Nat) : ∀ (l : List Nat) (r : Option Nat), Chn na h 12 r l → (∀ c ∈ l, c < tN t) → Q (some (.inr (.inr ((tko t x l).map na)))) h →
    mx_W C (mx_nth cd_N_takeOf) (9, [some (.inr (.inr u)), some (.inl (nI x)), some (.inr (.inr r))], [], h) Q := by
  intro l
  induction l with
  | nil =>
    intro r hr hl hq
    have hr : r = none := hr
    subst hr
    iterate 2 refine mw_go rfl rfl ?_
    refine mw_ifT rfl ?_
    refine mw_go rfl rfl ?_
    exact mw_r2 rfl hq
  | cons c l ih =>
    intro r hr hl hq
    obtain ⟨rfl, hch⟩ := hr
    have hc := hl c List.mem_cons_self
    have Hc := H c hc
    have Tc := T.at hc
    iterate 2 refine mw_go rfl rfl ?_
    refine mw_ifF (by simp) ?_
    refine mw_go rfl rfl ?_
    refine mv_gI rfl rfl Hc.K Hc.S ?_
    iterate 2 refine mw_go rfl rfl ?_
    have next : ¬ (tS t c = 5 ∧ tV t c = x) → mx_W C (mx_nth cd_N_takeOf) (21, [some (.inr (.inr u)), some (.inl (nI x)), some (.inr (.inr (some (na c))))], [], h) Q := by
      intro hn
      refine mw_go rfl rfl ?_
      refine mw_gR rfl rfl Hc.K ?_
      iterate 2 refine mw_go rfl rfl ?_
      refine ih _ hch (fun z hz => hl z (List.mem_cons_of_mem _ hz)) ?_
      rw [tko, if_neg hn] at hq
      exact hq
    refine mw_ifP (e_lit (b := 5) rfl (by omega) (by omega)) (fun h5 => ?_) (fun h5 => next (fun q => h5 q.1))
    refine mw_go rfl rfl ?_
    refine mv_gI rfl rfl Hc.K (Hc.V5 h5) ?_
    iterate 2 refine mw_go rfl rfl ?_
    refine mw_ifP (nI_eq (by have := (Tc.2.2.2.2.2.2.2.2.1 h5).1; omega) (by omega)) (fun hv => ?_) (fun hv => next (fun q => hv q.2))
    refine mw_go rfl rfl ?_
    refine mw_r2 rfl ?_
    rw [tko, if_pos ⟨h5, hv⟩] at hq
    exact hq
/-- takeOf: this if it is a TAKE, else the first TAKE of x among its PARTS -/
theorem N_takeOf_ok (d : Nat) (T : tOk t) (H : nAll na t κ h) {p x : Nat} (hp : p < tN t) (hx : x < 60) : cl (d + 1) j_N_takeOf [.inr (.inr (some (na p))), .inl (nI x)] h (some (.inr (.inr ((if tS t p = 5 then some p else tko t x (tC t p)).map na)))) h := by
  refine cl_of (Nat.le_of_ble_eq_true rfl) ?_
  show mx_W _ (mx_nth cd_N_takeOf) (0, [some (.inr (.inr (some (na p)))), some (.inl (nI x)), none], [], h) _
  have Hp := H p hp
  have Tp := T.at hp
  refine mw_go rfl rfl ?_
  refine mv_gI rfl rfl Hp.K Hp.S ?_
  iterate 2 refine mw_go rfl rfl ?_
  refine mw_ifP (e_lit (b := 5) rfl (by omega) (by omega)) (fun h5 => ?_) (fun h5 => ?_)
  · refine mw_go rfl rfl ?_
    exact mw_r2 rfl ⟨by rw [if_pos h5]; rfl, rfl⟩
  · refine mw_go rfl rfl ?_
    refine mw_gR rfl rfl Hp.K ?_
    refine mw_go rfl rfl ?_
    exact N_takeOf_loop T H hx _ _ _ Hp.C (fun c hc => (Tp.2.2.1 c hc).2.1) ⟨by rw [if_neg h5], rfl⟩
theorem N_stays_ok (d : Nat) (T : tOk t) (H : nAll na t κ h) {p : Nat} (hp : p < tN t) (hκ : tS t p = 4 → κ p = tV t p) (hκ5 : κ p < 5) : cl (d + 1) j_N_staysInHead [.inr (.inr (some (na p)))] h (some (.inl (bI (thd t p)))) h := by
  refine cl_of (Nat.le_of_ble_eq_true rfl) ?_
  show mx_W _ (mx_nth cd_N_staysInHead) (0, [some (.inr (.inr (some (na p))))], [], h) _
  have Hp := H p hp
  have Tp := T.at hp
  refine mw_go rfl rfl ?_
  refine mv_gI rfl rfl Hp.K Hp.S ?_
  iterate 2 refine mw_go rfl rfl ?_
  refine mw_ifP (e_lit (b := 5) rfl (by omega) (by omega)) (fun h5 => ?_) (fun h5 => ?_)
  · iterate 2 refine mw_go rfl rfl ?_
    exact mw_r3 rfl (Or.inr rfl) ⟨by rw [thd_t5 h5]; rfl, rfl⟩
  · refine mw_go rfl rfl ?_
    refine mv_gI rfl rfl Hp.K Hp.S ?_
    iterate 2 refine mw_go rfl rfl ?_
    refine mw_ifP (e_lit (b := 4) rfl (by omega) (by omega)) (fun h4 => ?_) (fun h4 => ?_)
    · refine mw_go rfl rfl ?_
      refine mv_gI rfl rfl Hp.K Hp.k ?_
      refine mw_go rfl rfl ?_
      refine mw_ifP (e_lit (b := 0) rfl (by omega) (by omega)) (fun h0 => ?_) (fun h0 => ?_)
      · iterate 2 refine mw_go rfl rfl ?_
        exact mw_r3 rfl (Or.inr rfl) ⟨by rw [hκ h4] at h0; rw [thd_t4 h4 h0]; rfl, rfl⟩
      · iterate 1 refine mw_go rfl rfl ?_
        exact mw_r3 rfl (Or.inl rfl) ⟨by rw [hκ h4] at h0; rw [thd_f h5 (fun q => h0 q.2)]; rfl, rfl⟩
    · iterate 1 refine mw_go rfl rfl ?_
      exact mw_r3 rfl (Or.inl rfl) ⟨by rw [thd_f h5 (fun q => h4 q.1)]; rfl, rfl⟩
/-- the variables TAKEN, as takenInHead finds them -/
def thL (t : tr) (f m : Int64) (l : List Nat) : Int64 := match l with
  | [] => f
  | c :: r => if thd t c = true then thL t (if tS t c = 5 ∧ tb m (tV t c) = false then f ||| bL (tV t c) else f) (m ||| tM t c) r else f
def thm (t : tr) (p : Nat) : Int64 := if tS t p = 5 then bL (tV t p) else if tS t p = 0 then thL t 0 0 (tC t p) else 0
theorem N_taken_loop {d : Nat} {Q : Option mx_V → mx_H → Prop} (T : tOk t) (H : nAll na t κ h) (hκ : ∀ i, i < tN t → κ i < 5 ∧ (tS t i = 4 → κ i = tV t i)) (u : Option Nat) : ∀ (l : List Nat) (r : Option Nat) (f m : Int64), Chn na h 12 r l → (∀ c ∈ l, c < tN t) → Q (some (.inr (.inl (thL t f m l)))) h →
    mx_W (mx_Call mx_prog (d + 1)) (mx_nth cd_N_takenInHead) (20, [some (.inr (.inr u)), some (.inr (.inl f)), none, some (.inr (.inl m)), none, some (.inr (.inr r))], [], h) Q := by
  intro l
  induction l with
  | nil =>
    intro r f m hr hl hq
    have hr : r = none := hr
    subst hr
    iterate 2 refine mw_go rfl rfl ?_
    refine mw_ifT rfl ?_
    refine mw_go rfl rfl ?_
    exact mw_r1 rfl hq
  | cons c l ih =>
    intro r f m hr hl hq
    obtain ⟨rfl, hch⟩ := hr
    have hc := hl c List.mem_cons_self
    have Hc := H c hc
    have Tc := T.at hc
    have hκc := hκ c hc
    iterate 2 refine mw_go rfl rfl ?_
    refine mw_ifF (by simp) ?_
    refine mw_go rfl rfl ?_
    refine mw_cv (N_stays_ok d T H hc hκc.2 hκc.1) rfl rfl rfl (Nat.le_of_ble_eq_true rfl) ⟨_, rfl, Hc.K⟩ ?_
    refine mw_go rfl rfl ?_
    refine mw_ifP (e_bI _) (fun hs => ?_) (fun hs => ?_)
    · refine mw_go rfl rfl ?_
      refine mw_r1 rfl ?_
      rw [thL, if_neg (by rw [hs]; decide)] at hq
      exact hq
    · have hs : thd t c = true := by cases hh : thd t c with
        | true => rfl
        | false => exact absurd hh hs
      rw [thL, if_pos hs] at hq
      have next : ∀ g, g = (if tS t c = 5 ∧ tb m (tV t c) = false then f ||| bL (tV t c) else f) → mx_W (mx_Call mx_prog (d + 1)) (mx_nth cd_N_takenInHead) (40, [some (.inr (.inr u)), some (.inr (.inl g)), none, some (.inr (.inl m)), none, some (.inr (.inr (some (na c))))], [], h) Q := by
        intro g hg
        iterate 2 refine mw_go rfl rfl ?_
        refine mv_gL rfl rfl Hc.K Hc.M ?_
        iterate 3 refine mw_go rfl rfl ?_
        refine mw_gR rfl rfl Hc.K ?_
        iterate 2 refine mw_go rfl rfl ?_
        refine ih _ g (m ||| tM t c) hch (fun z hz => hl z (List.mem_cons_of_mem _ hz)) ?_
        rw [hg]; exact hq
      refine mw_go rfl rfl ?_
      refine mv_gI rfl rfl Hc.K Hc.S ?_
      iterate 2 refine mw_go rfl rfl ?_
      refine mw_ifP (e_lit (b := 5) rfl (by omega) (by omega)) (fun h5 => ?_) (fun h5 => next f (by rw [if_neg (fun q => h5 q.1)]))
      have hv := (Tc.2.2.2.2.2.2.2.2.1 h5).1
      iterate 2 refine mw_go rfl rfl ?_
      refine mv_gI rfl rfl Hc.K (Hc.V5 h5) ?_
      refine mw_cv (N_has_ok d h m (x := tV t c) (by omega)) rfl rfl rfl (Nat.le_of_ble_eq_true rfl) trivial ?_
      refine mw_go rfl rfl ?_
      refine mw_ifP (e_bI _) (fun hm => ?_) (fun hm => next f (by rw [if_neg (fun q => hm q.2)]))
      iterate 2 refine mw_go rfl rfl ?_
      refine mv_gI rfl rfl Hc.K (Hc.V5 h5) ?_
      refine mw_cv (N_bit_ok d h (tV t c)) rfl rfl rfl (Nat.le_of_ble_eq_true rfl) trivial ?_
      iterate 2 refine mw_go rfl rfl ?_
      exact next _ (by rw [if_pos ⟨h5, hm⟩])
theorem N_taken_ok (d : Nat) (T : tOk t) (H : nAll na t κ h) (hκ : ∀ i, i < tN t → κ i < 5 ∧ (tS t i = 4 → κ i = tV t i)) {p : Nat} (hp : p < tN t) : cl (d + 2) j_N_takenInHead [.inr (.inr (some (na p)))] h (some (.inr (.inl (thm t p)))) h := by
  refine cl_of (Nat.le_of_ble_eq_true rfl) ?_
  show mx_W _ (mx_nth cd_N_takenInHead) (0, [some (.inr (.inr (some (na p)))), none, none, none, none, none], [], h) _
  have Hp := H p hp
  have Tp := T.at hp
  refine mw_go rfl rfl ?_
  refine mv_gI rfl rfl Hp.K Hp.S ?_
  iterate 2 refine mw_go rfl rfl ?_
  refine mw_ifP (e_lit (b := 5) rfl (by omega) (by omega)) (fun h5 => ?_) (fun h5 => ?_)
  · refine mw_go rfl rfl ?_
    refine mv_gI rfl rfl Hp.K (Hp.V5 h5) ?_
    refine mw_cv (N_bit_ok d h (tV t p)) rfl rfl rfl (Nat.le_of_ble_eq_true rfl) trivial ?_
    exact mw_r1 rfl ⟨by rw [thm, if_pos h5], rfl⟩
  · refine mw_go rfl rfl ?_
    refine mv_gI rfl rfl Hp.K Hp.S ?_
    refine mw_go rfl rfl ?_
    refine mw_ifP (e_lit (b := 0) rfl (by omega) (by omega)) (fun h0 => ?_) (fun h0 => ?_)
    · iterate 5 refine mw_go rfl rfl ?_
      refine mw_gR rfl rfl Hp.K ?_
      refine mw_go rfl rfl ?_
      exact N_taken_loop T H hκ _ _ _ _ _ Hp.C (fun c hc => (Tp.2.2.1 c hc).2.1) ⟨by rw [thm, if_neg h5, if_pos h0], rfl⟩
    · refine mw_go rfl rfl ?_
      exact mw_r1 rfl ⟨by rw [thm, if_neg h5, if_neg h0], rfl⟩
/-- what the document says of it -/
theorem thL_tb (T : tOk t) : ∀ (l : List Nat) (f m : Int64) (x : Nat), (∀ c ∈ l, c < tN t) → x < 60 → tb (thL t f m l) x = (tb f x || (!tb m x && (tkl t x l).isSome)) := by
  intro l
  induction l with
  | nil => intro f m x _ _; simp [thL, tkl]
  | cons c r ih =>
    intro f m x hl hx
    rw [thL, tkl]
    by_cases hs : thd t c = true
    · rw [if_pos hs, if_pos hs, ih _ _ _ (fun z hz => hl z (List.mem_cons_of_mem _ hz)) hx, tb_or2]
      by_cases h5 : tS t c = 5
      · have hv := ((T.at (hl c List.mem_cons_self)).2.2.2.2.2.2.2.2.1 h5).1
        by_cases hx' : tV t c = x
        · subst hx'
          rw [if_pos (show tS t c = 5 ∧ tV t c = tV t c from ⟨h5, rfl⟩)]
          cases hm : tb m (tV t c) with
          | true => rw [if_neg (by simp)]; simp
          | false =>
            rw [if_pos ⟨h5, rfl⟩, tb_or _ _ (by omega)]
            simp
        · rw [if_neg (show ¬ (tS t c = 5 ∧ tV t c = x) from fun q => hx' q.2)]
          have e1 : tb (if tS t c = 5 ∧ tb m (tV t c) = false then f ||| bL (tV t c) else f) x = tb f x := by
            split
            · rw [tb_or _ _ (by omega)]; simp [hx']
            · rfl
          rw [e1]
          cases tb m x <;> cases tb (tM t c) x <;> simp
      · rw [if_neg (fun q => h5 q.1), if_neg (fun q => h5 q.1)]
        cases tb m x <;> cases tb (tM t c) x <;> simp
    · rw [if_neg hs, if_neg hs]; simp
theorem thm_tb (T : tOk t) {p x : Nat} (hp : p < tN t) (hx : x < 60) : tb (thm t p) x = (tk t p x).isSome := by
  have Tp := T.at hp
  unfold thm tk
  by_cases h5 : tS t p = 5
  · have hv := (Tp.2.2.2.2.2.2.2.2.1 h5).1
    rw [if_pos h5, if_neg (by omega), tb_bL _ (by omega)]
    by_cases hx' : tV t p = x
    · rw [if_pos ⟨h5, hx'⟩]; simp [hx']
    · rw [if_neg (fun q => hx' q.2)]; simp [hx']
  · rw [if_neg h5]
    by_cases h0 : tS t p = 0
    · rw [if_pos h0, if_pos h0, thL_tb T _ _ _ _ (fun c hc => (Tp.2.2.1 c hc).2.1) hx, tb_zero]; simp
    · rw [if_neg h0, if_neg h0, if_neg (fun q => h5 q.1), tb_zero]; rfl
end
