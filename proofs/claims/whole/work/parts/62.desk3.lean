/-! CountDesk's methods that tell. -/
def kA (t : tr) (κ : Nat → Nat) (x : Int32) : Int32 := match nd t x with
  | none => -1
  | some i => nI (κ i)
def sA' (t : tr) (x : Int32) : Int32 := match nd t x with
  | none => -1
  | some i => if tS t i = 1 then iO (swV t i) else -1
def rA (t : tr) (x g : Int32) : Int32 := match nd t x with
  | none => 0
  | some i => if tS t i = 1 then nI (swN t i g) else 0
def fiN (a b : Nat) : Nat := if kf a = true ∧ kf b = false then 1 else if km a = 2 ∧ km b = 1 then 2 else 0
def fA (κ : Nat → Nat) (x : Int32) : Int32 := if ¬ x < 0 ∧ x ≤ 3 then nI (fiN (κ 0) x.toNatClampNeg) else 3
def wB (t : tr) (i j : Nat) : Int32 := match j with
  | 0 => nI (tS t i)
  | 1 => nI (tC t i).length
  | 2 => oI (decide (3 < tS t i)) (tV t i)
  | 3 => oI (tS t i == 5) (tG t i)
  | 4 => oI (tS t i == 5) (tA t i)
  | k + 5 => iO ((tC t i)[k]?)
def wA (t : tr) (i : Nat) (y : Int32) : Int32 := if y < 0 then -1 else wB t i y.toNatClampNeg
def nA (t : tr) (x y : Int32) : Int32 := match nd t x with
  | none => -1
  | some i => wA t i y
theorem nI_5 (k : Nat) : nI (k + 5) - 5 = nI k := by
  rw [← nI_add k 5, show nI 5 = 5 by decide, Int32.add_sub_cancel]
section
variable {D ar s tp oa z u : Nat} {G : mx_H} {w : Int64} {r : Int32} {h : mx_H} {aa : Nat → Nat} {M : Nat} {na : Nat → Nat} {t : tr} {κ : Nat → Nat}
theorem D_kind_ok (d : Nat) (T : tOk t) (W : dI D ar s tp oa h aa M na t κ) (x : Int32) : cl (d + 2) j_D_kind [.inr (.inr (some D)), .inl x] h (some (.inl (kA t κ x))) h := by
  refine cl_of (Nat.le_of_ble_eq_true rfl) ?_
  show mx_W _ (mx_nth cd_D_kind) (0, [some (.inr (.inr (some D))), some (.inl x), none], [], h) _
  iterate 2 refine mw_go rfl rfl ?_
  refine mw_cv (D_find_ok d T W x) rfl rfl rfl (Nat.le_of_ble_eq_true rfl) ⟨_, rfl, W.1⟩ ?_
  iterate 3 refine mw_go rfl rfl ?_
  rcases nd_cs t x with ⟨e, -⟩ | ⟨i, hi, -, -, e⟩
  · rw [e]
    refine mw_ifT rfl ?_
    iterate 2 refine mw_go rfl rfl ?_
    exact mw_r0 rfl ⟨by rw [kA, e], rfl⟩
  · rw [e]
    refine mw_ifF (by simp) ?_
    iterate 1 refine mw_go rfl rfl ?_
    have Hi := W.2.2.2.2.2.2.2.2 i hi
    refine mv_gI rfl rfl Hi.K Hi.k ?_
    exact mw_r0 rfl ⟨by rw [kA, e], rfl⟩
theorem D_switches_ok (d : Nat) (x : Int32) (I : dP D ar s tp oa z u G w r t h) : ∃ h', cl (d + 5) j_D_switches [.inr (.inr (some D)), .inl x] h (some (.inl (sA' t x))) h' ∧ dP D ar s tp oa z u G w r t h' := by
  obtain ⟨aa, M, na, κ, W, B, K, T⟩ := I
  have walk : mx_W (mx_Call mx_prog (d + 4)) (mx_nth cd_D_switches) (0, [some (.inr (.inr (some D))), some (.inl x), none], [], h) (fun r1 h' => r1 = some (.inl (sA' t x)) ∧ dP D ar s tp oa z u G w r t h') := by
    iterate 2 refine mw_go rfl rfl ?_
    refine mw_cv (D_find_ok (d + 3) T W.1 x) rfl rfl rfl (Nat.le_of_ble_eq_true rfl) ⟨_, rfl, W.1.1⟩ ?_
    iterate 3 refine mw_go rfl rfl ?_
    rcases nd_cs t x with ⟨e, -⟩ | ⟨i, hi, -, -, e⟩
    · rw [e]
      refine mw_ifT rfl ?_
      iterate 2 refine mw_go rfl rfl ?_
      exact mw_r0 rfl ⟨by rw [sA', e], aa, M, na, κ, W, B, K, T⟩
    · rw [e]
      refine mw_ifF (by simp) ?_
      have Hi := W.1.2.2.2.2.2.2.2.2 i hi
      have Ti := T.at hi
      iterate 1 refine mw_go rfl rfl ?_
      refine mv_gI rfl rfl Hi.K Hi.S ?_
      iterate 2 refine mw_go rfl rfl ?_
      refine mw_ifP (e_lit (b := 1) rfl (by omega) (by omega)) (fun h1 => ?_) (fun h1 => ?_)
      · refine mw_go rfl rfl ?_
        refine mv_gR rfl rfl W.1.1 W.1.2.2.1 ?_
        refine mw_go rfl rfl ?_
        obtain ⟨h', c1, F1⟩ := S_variableOf_ok d T B (nAll_inj T W.1.2.2.2.2.2.2.2.2) hi W.1.2.2.2.2.1 W.1.2.2.2.2.2.1 W.1.2.2.2.2.2.2.2.2
        refine mw_cv c1 rfl rfl rfl (Nat.le_of_ble_eq_true rfl) ⟨_, rfl, W.1.2.2.2.2.1.1⟩ ?_
        exact mw_r0 rfl ⟨by rw [sA', e]; dsimp only; rw [if_pos h1], aa, M, na, κ, dW_kFr W F1 (fun p hp => (Ti.2.2.1 p hp).2.1), B, K, T⟩
      · iterate 2 refine mw_go rfl rfl ?_
        exact mw_r0 rfl ⟨by rw [sA', e]; dsimp only; rw [if_neg h1], aa, M, na, κ, W, B, K, T⟩
  obtain ⟨r1, h', hcl, rfl, K'⟩ := mc_of (prog := mx_prog) (j := j_D_switches) (as := [.inr (.inr (some D)), .inl x]) (Nat.le_of_ble_eq_true rfl) walk
  exact ⟨h', hcl, K'⟩
theorem D_arms_ok (d : Nat) (x g : Int32) (I : dP D ar s tp oa z u G w r t h) : ∃ h', cl (d + 6) j_D_arms [.inr (.inr (some D)), .inl x, .inl g] h (some (.inl (rA t x g))) h' ∧ dP D ar s tp oa z u G w r t h' := by
  obtain ⟨aa, M, na, κ, W, B, K, T⟩ := I
  have walk : mx_W (mx_Call mx_prog (d + 5)) (mx_nth cd_D_arms) (0, [some (.inr (.inr (some D))), some (.inl x), some (.inl g), none], [], h) (fun r1 h' => r1 = some (.inl (rA t x g)) ∧ dP D ar s tp oa z u G w r t h') := by
    iterate 2 refine mw_go rfl rfl ?_
    refine mw_cv (D_find_ok (d + 4) T W.1 x) rfl rfl rfl (Nat.le_of_ble_eq_true rfl) ⟨_, rfl, W.1.1⟩ ?_
    iterate 3 refine mw_go rfl rfl ?_
    rcases nd_cs t x with ⟨e, -⟩ | ⟨i, hi, -, -, e⟩
    · rw [e]
      refine mw_ifT rfl ?_
      iterate 2 refine mw_go rfl rfl ?_
      exact mw_r0 rfl ⟨by rw [rA, e], aa, M, na, κ, W, B, K, T⟩
    · rw [e]
      refine mw_ifF (by simp) ?_
      have Hi := W.1.2.2.2.2.2.2.2.2 i hi
      have Ti := T.at hi
      iterate 1 refine mw_go rfl rfl ?_
      refine mv_gI rfl rfl Hi.K Hi.S ?_
      iterate 2 refine mw_go rfl rfl ?_
      refine mw_ifP (e_lit (b := 1) rfl (by omega) (by omega)) (fun h1 => ?_) (fun h1 => ?_)
      · refine mw_go rfl rfl ?_
        refine mv_gR rfl rfl W.1.1 W.1.2.2.1 ?_
        iterate 2 refine mw_go rfl rfl ?_
        obtain ⟨h', aa', M', c1, F1⟩ := S_armsOf_ok d T B (nAll_inj T W.1.2.2.2.2.2.2.2.2) hi W.1.2.2.2.2.1 W.1.2.2.2.2.2.1 W.1.2.2.2.2.2.2.2.2 g
        refine mw_cv c1 rfl rfl rfl (Nat.le_of_ble_eq_true rfl) ⟨_, rfl, W.1.2.2.2.2.1.1⟩ ?_
        exact mw_r0 rfl ⟨by rw [rA, e]; dsimp only; rw [if_pos h1], aa', M', na, κ, dW_kFr W F1 (fun p hp => (Ti.2.2.1 p hp).2.1), B, K, T⟩
      · iterate 2 refine mw_go rfl rfl ?_
        exact mw_r0 rfl ⟨by rw [rA, e]; dsimp only; rw [if_neg h1], aa, M, na, κ, W, B, K, T⟩
  obtain ⟨r1, h', hcl, rfl, K'⟩ := mc_of (prog := mx_prog) (j := j_D_arms) (as := [.inr (.inr (some D)), .inl x, .inl g]) (Nat.le_of_ble_eq_true rfl) walk
  exact ⟨h', hcl, K'⟩
theorem D_fits_ok (d : Nat) (T : tOk t) (B : kB t κ) (W : dI D ar s tp oa h aa M na t κ) (x : Int32) : cl (d + 3) j_D_fits [.inr (.inr (some D)), .inl x] h (some (.inl (fA κ x))) h := by
  refine cl_of (Nat.le_of_ble_eq_true rfl) ?_
  show mx_W _ (mx_nth cd_D_fits) (0, [some (.inr (.inr (some D))), some (.inl x), none], [], h) _
  have no : ¬ (¬ x < 0 ∧ x ≤ 3) → mx_W (mx_Call mx_prog (d + 2)) (mx_nth cd_D_fits) (5, [some (.inr (.inr (some D))), some (.inl x), none], [], h) (fun r1 h1 => r1 = some (.inl (fA κ x)) ∧ h1 = h) := by
    intro hn
    refine mw_go rfl rfl ?_
    exact mw_r0 rfl ⟨by rw [fA, if_neg hn], rfl⟩
  iterate 2 refine mw_go rfl rfl ?_
  refine mw_if _ (fun hc => no (fun q => q.1 hc)) (fun h0 => ?_)
  iterate 3 refine mw_go rfl rfl ?_
  refine mw_if _ (fun h3 => ?_) (fun hc => no (fun q => hc q.2))
  obtain ⟨j, hj, rfl⟩ := nI_of2 (M := 3) (n := 3) rfl h0 h3
  have eA : fA κ (nI j) = nI (fiN (κ 0) j) := by rw [fA, if_pos ⟨h0, h3⟩, nI_clamp (by omega)]
  rw [eA]
  have hT := T.1
  have e0 : kA t κ 0 = nI (κ 0) := by
    unfold kA nd
    rw [if_neg (by decide), show (0 : Int32).toNatClampNeg = 0 by decide, if_pos (by omega)]
  have hb := (B 0 (by omega)).1
  iterate 2 refine mw_go rfl rfl ?_
  refine mw_cv (D_kind_ok d T W 0) rfl rfl rfl (Nat.le_of_ble_eq_true rfl) ⟨_, rfl, W.1⟩ ?_
  rw [e0]
  iterate 2 refine mw_go rfl rfl ?_
  refine mw_cv (K_canFail_ok (d + 1) h hb) rfl rfl rfl (Nat.le_of_ble_eq_true rfl) trivial ?_
  refine mw_go rfl rfl ?_
  have two : ¬ (kf (κ 0) = true ∧ kf j = false) → mx_W (mx_Call mx_prog (d + 2)) (mx_nth cd_D_fits) (19, [some (.inr (.inr (some D))), some (.inl (nI j)), some (.inl (nI (κ 0)))], [], h) (fun r1 h1 => r1 = some (.inl (nI (fiN (κ 0) j))) ∧ h1 = h) := by
    intro hn
    refine mw_go rfl rfl ?_
    refine mw_cv (K_most_ok (d + 1) h hb) rfl rfl rfl (Nat.le_of_ble_eq_true rfl) trivial ?_
    iterate 2 refine mw_go rfl rfl ?_
    have hm := km_lt (κ 0)
    have hm2 := km_lt j
    refine mw_ifP (e_lit (b := 2) rfl (by omega) (by omega)) (fun h2 => ?_) (fun h2 => ?_)
    · refine mw_go rfl rfl ?_
      refine mw_cv (K_most_ok (d + 1) h (show j < 5 by omega)) rfl rfl rfl (Nat.le_of_ble_eq_true rfl) trivial ?_
      iterate 2 refine mw_go rfl rfl ?_
      refine mw_ifP (e_lit (b := 1) rfl (by omega) (by omega)) (fun h1 => ?_) (fun h1 => ?_)
      · iterate 2 refine mw_go rfl rfl ?_
        exact mw_r0 rfl ⟨by rw [fiN, if_neg hn, if_pos ⟨h2, h1⟩]; rfl, rfl⟩
      · iterate 1 refine mw_go rfl rfl ?_
        exact mw_r0 rfl ⟨by rw [fiN, if_neg hn, if_neg (fun q => h1 q.2)]; rfl, rfl⟩
    · iterate 1 refine mw_go rfl rfl ?_
      exact mw_r0 rfl ⟨by rw [fiN, if_neg hn, if_neg (fun q => h2 q.1)]; rfl, rfl⟩
  refine mw_ifP (e_bI _) (fun hf => two (fun q => by rw [hf] at q; exact absurd q.1 (by decide))) (fun hf => ?_)
  refine mw_go rfl rfl ?_
  refine mw_cv (K_canFail_ok (d + 1) h (show j < 5 by omega)) rfl rfl rfl (Nat.le_of_ble_eq_true rfl) trivial ?_
  refine mw_go rfl rfl ?_
  refine mw_ifP (e_bI _) (fun hj' => ?_) (fun hj' => two (fun q => hj' q.2))
  refine mw_go rfl rfl ?_
  have hf : kf (κ 0) = true := by cases hh : kf (κ 0) with
    | true => rfl
    | false => exact absurd hh hf
  exact mw_r0 rfl ⟨by rw [fiN, if_pos ⟨hf, hj'⟩]; rfl, rfl⟩
theorem sw_5 {a b c d e f : Nat} (k : Nat) (hk : k + 5 < 2 ^ 31) : sw_at [(0, a), (1, b), (2, c), (3, d), (4, e)] f (nI (k + 5)) = f := by
  have h : ∀ j : Nat, j < 5 → ¬ nI (k + 5) = nI j := fun j hj => nI_ne hk (by omega) (by omega)
  unfold sw_at
  rw [if_neg (show ¬ nI (k + 5) = 0 from h 0 (by omega))]
  unfold sw_at
  rw [if_neg (show ¬ nI (k + 5) = 1 from h 1 (by omega))]
  unfold sw_at
  rw [if_neg (show ¬ nI (k + 5) = 2 from h 2 (by omega))]
  unfold sw_at
  rw [if_neg (show ¬ nI (k + 5) = 3 from h 3 (by omega))]
  unfold sw_at
  rw [if_neg (show ¬ nI (k + 5) = 4 from h 4 (by omega))]
  rfl
theorem D_node_ok (d : Nat) (T : tOk t) (B : kB t κ) (W : dI D ar s tp oa h aa M na t κ) (x y : Int32) : cl (d + 2) j_D_node [.inr (.inr (some D)), .inl x, .inl y] h (some (.inl (nA t x y))) h := by
  refine cl_of (Nat.le_of_ble_eq_true rfl) ?_
  show mx_W _ (mx_nth cd_D_node) (0, [some (.inr (.inr (some D))), some (.inl x), some (.inl y), none], [], h) _
  iterate 2 refine mw_go rfl rfl ?_
  refine mw_cv (D_find_ok d T W x) rfl rfl rfl (Nat.le_of_ble_eq_true rfl) ⟨_, rfl, W.1⟩ ?_
  iterate 3 refine mw_go rfl rfl ?_
  rcases nd_cs t x with ⟨e, -⟩ | ⟨i, hi, -, -, e⟩
  · rw [e]
    refine mw_ifT rfl ?_
    iterate 1 refine mw_go rfl rfl ?_
    exact mw_r0 rfl ⟨by rw [nA, e], rfl⟩
  · rw [e]
    have eA : nA t x y = wA t i y := by rw [nA, e]
    rw [eA]
    refine mw_ifF (by simp) ?_
    have Hi := W.2.2.2.2.2.2.2.2 i hi
    have Ti := T.at hi
    iterate 2 refine mw_go rfl rfl ?_
    by_cases h0 : y < 0
    · refine mw_ifF (Int32.not_le.mpr h0) ?_
      refine mw_go rfl rfl ?_
      exact mw_r0 rfl ⟨by rw [wA, if_pos h0], rfl⟩
    · refine mw_ifT (Int32.not_lt.mp h0) ?_
      obtain ⟨j, hj, rfl⟩ := nI_of h0
      have eW : wA t i (nI j) = wB t i j := by rw [wA, if_neg h0, nI_clamp hj]
      rw [eW]
      clear eW eA h0
      match j, hj with
      | 0, _ =>
        iterate 3 refine mw_go rfl rfl ?_
        refine mv_gI rfl rfl Hi.K Hi.S ?_
        exact mw_r0 rfl ⟨rfl, rfl⟩
      | 1, _ =>
        iterate 3 refine mw_go rfl rfl ?_
        refine mv_gI rfl rfl Hi.K Hi.c ?_
        exact mw_r0 rfl ⟨rfl, rfl⟩
      | 2, _ =>
        iterate 3 refine mw_go rfl rfl ?_
        refine mv_gI rfl rfl Hi.K Hi.S ?_
        iterate 2 refine mw_go rfl rfl ?_
        show mx_W _ _ _ (fun r1 h1 => r1 = some (.inl (oI (decide (3 < tS t i)) (tV t i))) ∧ h1 = h)
        refine mw_ifP (e_lit (b := 4) rfl (by omega) (by omega)) (fun h4 => ?_) (fun h4 => ?_)
        · refine mw_go rfl rfl ?_
          refine mv_gI rfl rfl Hi.K Hi.k ?_
          refine mw_go rfl rfl ?_
          exact mw_r0 rfl ⟨by rw [(B i hi).2 h4, decide_eq_true (by omega)]; rfl, rfl⟩
        · refine mw_go rfl rfl ?_
          refine mv_gI rfl rfl Hi.K Hi.V ?_
          refine mw_r0 rfl ⟨?_, rfl⟩
          by_cases h5 : tS t i = 5
          · rw [h5]; rfl
          · rw [beq_eq_false_iff_ne.mpr h5, decide_eq_false (show ¬ 3 < tS t i by omega)]
      | 3, _ =>
        iterate 3 refine mw_go rfl rfl ?_
        refine mv_gI rfl rfl Hi.K Hi.G ?_
        exact mw_r0 rfl ⟨rfl, rfl⟩
      | 4, _ =>
        iterate 3 refine mw_go rfl rfl ?_
        refine mv_gI rfl rfl Hi.K Hi.A ?_
        exact mw_r0 rfl ⟨rfl, rfl⟩
      | k + 5, hj =>
        iterate 2 refine mw_go rfl rfl ?_
        rw [sw_5 k hj]
        iterate 4 refine mw_go rfl rfl ?_
        rw [nI_5]
        refine mw_cv (N_part_ok d T W.2.2.2.2.2.2.2.2 hi (show k < 2 ^ 31 by omega)) rfl rfl rfl (Nat.le_of_ble_eq_true rfl) ⟨_, rfl, Hi.K⟩ ?_
        exact mw_r0 rfl ⟨rfl, rfl⟩
end
