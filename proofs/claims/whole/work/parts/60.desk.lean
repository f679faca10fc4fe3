/-! CountDesk's methods that change. First what they do, as functions of the tree. -/
def nd (t : tr) (x : Int32) : Option Nat := if x < 0 then none else if x.toNatClampNeg < tN t then some x.toNatClampNeg else none
theorem nd_cs (t : tr) (x : Int32) : (nd t x = none ∧ (x < 0 ∨ ∃ j, j < 2 ^ 31 ∧ x = nI j ∧ tN t ≤ j)) ∨ ∃ i, i < tN t ∧ i < 2 ^ 31 ∧ x = nI i ∧ nd t x = some i := by
  unfold nd
  by_cases h0 : x < 0
  · exact Or.inl ⟨if_pos h0, Or.inl h0⟩
  · obtain ⟨j, hj, rfl⟩ := nI_of h0
    rw [if_neg h0, nI_clamp hj]
    by_cases h : j < tN t
    · exact Or.inr ⟨j, h, hj, rfl, if_pos h⟩
    · exact Or.inl ⟨if_neg h, Or.inr ⟨j, hj, rfl, by omega⟩⟩
/-- the NODE of that number, if a PART more can be put into it -/
def par (t : tr) (x : Int32) : Option Nat := match nd t x with
  | none => none
  | some p => if tN t < 250 ∧ trm t p = true then some p else none
theorem par_spec {t : tr} {x : Int32} {p : Nat} (h : par t x = some p) : p < tN t ∧ tN t < 250 ∧ trm t p = true := by
  unfold par at h
  rcases nd_cs t x with ⟨e, -⟩ | ⟨i, hi, -, -, e⟩
  · rw [e] at h; cases h
  · rw [e] at h
    dsimp only at h
    by_cases hc : tN t < 250 ∧ trm t i = true
    · rw [if_pos hc] at h
      cases h
      exact ⟨hi, hc.1, hc.2⟩
    · rw [if_neg hc] at h; cases h
def vr (x : Int32) : Bool := decide (¬ x < 0 ∧ x < 60)
def vc (g a : Int32) : Bool := decide (¬ a < 0 ∧ a ≤ 100 ∧ ¬ g < 0 ∧ g < 100 ∧ (a = 0 ∨ g < a))
def oA (t : tr) (x s : Int32) : tr × Int32 := match par t x with
  | none => (t, -1)
  | some p => if ¬ s < 0 ∧ s ≤ 3 then (tAd t p s.toNatClampNeg 0 0 0 0, nI (tN t)) else (t, -1)
def oG (t : tr) (x k : Int32) (w : Int64) : tr × Int32 := match par t x with
  | none => (t, -1)
  | some p => if ¬ k < 0 ∧ k ≤ 4 then (tAd t p 4 k.toNatClampNeg 0 0 w, nI (tN t)) else (t, -1)
def oT (t : tr) (x v g a : Int32) (w : Int64) : tr × Int32 := match par t x with
  | none => (t, -1)
  | some p => if vr v = true ∧ vc g a = true then (tAd t p 5 v.toNatClampNeg g.toNatClampNeg a.toNatClampNeg w, nI (tN t)) else (t, -1)
theorem vr_spec {x : Int32} (h : vr x = true) : ∃ j, j < 60 ∧ x = nI j := by
  obtain ⟨h1, h2⟩ := of_decide_eq_true h
  obtain ⟨j, hj, rfl⟩ := nI_of h1
  exact ⟨j, (nI_ltI hj (b := 60) (by decide)).mp h2, rfl⟩
theorem vc_spec {g a : Int32} (h : vc g a = true) : ∃ i j, i < 100 ∧ j ≤ 100 ∧ g = nI i ∧ a = nI j := by
  obtain ⟨h1, h2, h3, h4, h5⟩ := of_decide_eq_true h
  obtain ⟨j, hj, rfl⟩ := nI_of h1
  obtain ⟨i, hi, rfl⟩ := nI_of h3
  exact ⟨i, j, (nI_ltI hi (b := 100) (by decide)).mp h4, (nI_leI hj (b := 100) (by decide)).mp h2, rfl, rfl⟩
theorem D_isVariable_ok (d : Nat) (h : mx_H) (x : Int32) : cl (d + 1) j_D_isVariable [.inl x] h (some (.inl (bI (vr x)))) h := by
  refine cl_of (Nat.le_of_ble_eq_true rfl) ?_
  show mx_W _ (mx_nth cd_D_isVariable) (0, [some (.inl x)], [], h) _
  iterate 2 refine mw_go rfl rfl ?_
  refine mw_if _ (fun hc => ?_) (fun hc => ?_)
  · refine mw_go rfl rfl ?_
    exact mw_r3 rfl (Or.inl rfl) ⟨by rw [vr, decide_eq_false (fun q => q.1 hc)]; rfl, rfl⟩
  · iterate 3 refine mw_go rfl rfl ?_
    refine mw_if _ (fun h6 => ?_) (fun h6 => ?_)
    · refine mw_go rfl rfl ?_
      exact mw_r3 rfl (Or.inl rfl) ⟨by rw [vr, decide_eq_false (fun q => Int32.not_le.mpr q.2 h6)]; rfl, rfl⟩
    · iterate 2 refine mw_go rfl rfl ?_
      exact mw_r3 rfl (Or.inr rfl) ⟨by rw [vr, decide_eq_true ⟨hc, Int32.not_le.mp h6⟩]; rfl, rfl⟩
theorem D_isConstructor_ok (d : Nat) (h : mx_H) (g a : Int32) : cl (d + 1) j_D_isConstructor [.inl g, .inl a] h (some (.inl (bI (vc g a)))) h := by
  refine cl_of (Nat.le_of_ble_eq_true rfl) ?_
  show mx_W _ (mx_nth cd_D_isConstructor) (0, [some (.inl g), some (.inl a)], [], h) _
  have no : vc g a = false → mx_W (mx_Call mx_prog d) (mx_nth cd_D_isConstructor) (10, [some (.inl g), some (.inl a)], [], h) (fun r1 h1 => r1 = some (.inl (bI (vc g a))) ∧ h1 = h) := by
    intro e
    refine mw_go rfl rfl ?_
    exact mw_r3 rfl (Or.inl rfl) ⟨by rw [e]; rfl, rfl⟩
  have yes : vc g a = true → mx_W (mx_Call mx_prog d) (mx_nth cd_D_isConstructor) (17, [some (.inl g), some (.inl a)], [], h) (fun r1 h1 => r1 = some (.inl (bI (vc g a))) ∧ h1 = h) := by
    intro e
    iterate 2 refine mw_go rfl rfl ?_
    exact mw_r3 rfl (Or.inr rfl) ⟨by rw [e]; rfl, rfl⟩
  iterate 2 refine mw_go rfl rfl ?_
  refine mw_if _ (fun hc => no (decide_eq_false (fun q => q.1 hc))) (fun h1 => ?_)
  iterate 3 refine mw_go rfl rfl ?_
  refine mw_if _ (fun hc => no (decide_eq_false (fun q => Int32.not_lt.mpr q.2.1 hc))) (fun h2 => ?_)
  iterate 2 refine mw_go rfl rfl ?_
  refine mw_if _ (fun hc => no (decide_eq_false (fun q => q.2.2.1 hc))) (fun h3 => ?_)
  iterate 3 refine mw_go rfl rfl ?_
  refine mw_if _ (fun h4 => ?_) (fun hc => no (decide_eq_false (fun q => hc q.2.2.2.1)))
  iterate 2 refine mw_go rfl rfl ?_
  refine mw_if _ (fun h5 => yes (decide_eq_true ⟨h1, Int32.not_lt.mp h2, h3, h4, Or.inl h5⟩)) (fun h5 => ?_)
  iterate 3 refine mw_go rfl rfl ?_
  refine mw_if _ (fun h6 => ?_) (fun h6 => yes (decide_eq_true ⟨h1, Int32.not_lt.mp h2, h3, h4, Or.inr (Int32.not_le.mp h6)⟩))
  refine mw_go rfl rfl ?_
  exact mw_r3 rfl (Or.inl rfl) ⟨by rw [vc, decide_eq_false (fun q => ?_)]; rfl; exact q.2.2.2.2.elim h5 (fun z => Int32.not_le.mpr z h6), rfl⟩
section
variable {D ar s tp oa z u : Nat} {G : mx_H} {w : Int64} {r : Int32} {h : mx_H} {aa : Nat → Nat} {M : Nat} {na : Nat → Nat} {t : tr} {κ : Nat → Nat}
theorem D_find_ok (d : Nat) (T : tOk t) (W : dI D ar s tp oa h aa M na t κ) (x : Int32) : cl (d + 1) j_D_find [.inr (.inr (some D)), .inl x] h (some (.inr (.inr ((nd t x).map na)))) h := by
  refine cl_of (Nat.le_of_ble_eq_true rfl) ?_
  show mx_W _ (mx_nth cd_D_find) (0, [some (.inr (.inr (some D))), some (.inl x)], [], h) _
  obtain ⟨w1, w2, w3, w4, w5, w6, w7, w8, w9⟩ := W
  have hN := T.2.1
  iterate 2 refine mw_go rfl rfl ?_
  rcases nd_cs t x with ⟨e, hx⟩ | ⟨i, hi, -, rfl, e⟩
  · have no : mx_W (mx_Call mx_prog d) (mx_nth cd_D_find) (11, [some (.inr (.inr (some D))), some (.inl x)], [], h) (fun r1 h1 => r1 = some (.inr (.inr ((nd t x).map na))) ∧ h1 = h) := by
      refine mw_go rfl rfl ?_
      exact mw_r2 rfl ⟨by rw [e]; rfl, rfl⟩
    refine mw_if _ (fun hc => no) (fun h0 => ?_)
    rcases hx with hx | ⟨j, hj, rfl, hjn⟩
    · exact absurd hx h0
    · iterate 2 refine mw_go rfl rfl ?_
      refine mv_gI rfl rfl w1 w7 ?_
      refine mw_go rfl rfl ?_
      refine mw_ifT ((nI_leI (by omega) hj).mpr hjn) ?_
      exact no
  · refine mw_ifF (nI_pos (by omega)) ?_
    iterate 2 refine mw_go rfl rfl ?_
    refine mv_gI rfl rfl w1 w7 ?_
    refine mw_go rfl rfl ?_
    refine mw_ifF (fun q => absurd ((nI_leI (by omega) (by omega)).mp q) (by omega)) ?_
    iterate 2 refine mw_go rfl rfl ?_
    refine mv_gR rfl rfl w1 w2 ?_
    refine mw_alen rfl rfl w4 ?_
    refine mw_go rfl rfl ?_
    refine mw_ifT ((nI_ltI (by omega) (by omega)).mpr (by omega)) ?_
    refine mw_go rfl rfl ?_
    refine mv_gR rfl rfl w1 w2 ?_
    refine mw_go rfl rfl ?_
    refine mw_aal rfl rfl w4 rfl (show i < 250 by omega) (by decide) ?_
    rw [w8 i hi]
    exact mw_r2 rfl ⟨by rw [e]; rfl, rfl⟩
theorem len_ok (T : tOk t) {p : Nat} (hp : p < tN t) : (tC t p).length < 2 ^ 31 := by
  have Tp := T.at hp
  have := nodup_len (tN t) (tC t p) Tp.2.2.2.1 (fun x hx => (Tp.2.2.1 x hx).2.1)
  have := T.2.1
  omega
theorem D_open_ok (d : Nat) (T : tOk t) (W : dI D ar s tp oa h aa M na t κ) (x : Int32) : cl (d + 2) j_D_openParent [.inr (.inr (some D)), .inl x] h (some (.inr (.inr ((par t x).map na)))) h := by
  refine cl_of (Nat.le_of_ble_eq_true rfl) ?_
  show mx_W _ (mx_nth cd_D_openParent) (0, [some (.inr (.inr (some D))), some (.inl x), none], [], h) _
  obtain ⟨w1, w2, w3, w4, w5, w6, w7, w8, w9⟩ := id W
  have hN := T.2.1
  iterate 2 refine mw_go rfl rfl ?_
  refine mw_cv (D_find_ok d T W x) rfl rfl rfl (Nat.le_of_ble_eq_true rfl) ⟨_, rfl, w1⟩ ?_
  iterate 3 refine mw_go rfl rfl ?_
  have no : ∀ q, par t x = none → mx_W (mx_Call mx_prog (d + 1)) (mx_nth cd_D_openParent) (13, [some (.inr (.inr (some D))), some (.inl x), q], [], h) (fun r1 h1 => r1 = some (.inr (.inr ((par t x).map na))) ∧ h1 = h) := by
    intro q e
    refine mw_go rfl rfl ?_
    exact mw_r2 rfl ⟨by rw [e]; rfl, rfl⟩
  rcases nd_cs t x with ⟨e, -⟩ | ⟨i, hi, -, -, e⟩
  · rw [e]
    refine mw_ifT rfl ?_
    exact no _ (by unfold par; rw [e])
  · rw [e]
    refine mw_ifF (by simp) ?_
    refine mw_go rfl rfl ?_
    refine mv_gI rfl rfl w1 w7 ?_
    iterate 2 refine mw_go rfl rfl ?_
    refine mw_ifP (nI_leI (a := 250) (by omega) (by omega)) (fun hc => no _ (by unfold par; rw [e]; exact if_neg (by omega))) (fun hc => ?_)
    refine mw_go rfl rfl ?_
    refine mw_cv (N_hasRoom_ok d T w9 hi (len_ok T hi)) rfl rfl rfl (Nat.le_of_ble_eq_true rfl) ⟨_, rfl, (w9 i hi).K⟩ ?_
    refine mw_go rfl rfl ?_
    refine mw_ifP (e_bI _) (fun hr => no _ (by unfold par; rw [e]; exact if_neg (fun q => by rw [hr] at q; exact absurd q.2 (by decide)))) (fun hr => ?_)
    refine mw_go rfl rfl ?_
    refine mw_r2 rfl ⟨?_, rfl⟩
    have hr : trm t i = true := by cases hh : trm t i with
      | true => rfl
      | false => exact absurd hh hr
    unfold par
    rw [e]
    dsimp only
    rw [if_pos ⟨by omega, hr⟩]
theorem D_empty_ok (d : Nat) (h : mx_H) (hk : hpK h D = some (.inl 3)) : cl (d + 1) j_D_emptyWaiting [.inr (.inr (some D))] h (some (.inr (.inl (hpL h D 3)))) (hwI (hwL h D 3 0) D 4 0) := by
  refine cl_of (Nat.le_of_ble_eq_true rfl) ?_
  show mx_W _ (mx_nth cd_D_emptyWaiting) (0, [some (.inr (.inr (some D))), none, none], [], h) _
  refine mw_go rfl rfl ?_
  refine mw_gL rfl rfl hk ?_
  iterate 3 refine mw_go rfl rfl ?_
  refine mw_pL rfl rfl hk ?_
  iterate 2 refine mw_go rfl rfl ?_
  refine mw_pI rfl rfl hk ?_
  refine mw_go rfl rfl ?_
  exact mw_r1 rfl ⟨rfl, rfl⟩
theorem dW_mono {z2 u2 : Nat} (W : dW D ar s tp oa z u G w r h aa M na t κ) (hz : z ≤ z2) (hu : u ≤ u2) : dW D ar s tp oa z2 u2 G w r h aa M na t κ := by
  obtain ⟨w1, w2, w3, w4, w5, w6⟩ := W
  exact ⟨w1, w2, w3, by omega, by omega, w6⟩
theorem dW_wt (T : tOk t) (W : dW D ar s tp oa z u G w r h aa M na t κ) (w' : Int64) (r' : Int32) : dW D ar s tp oa z u G w' r' (hwI (hwL h D 3 w') D 4 r') aa M na t κ := by
  obtain ⟨⟨w1, w2, w3, w4, w5, w6, w7, w8, w9⟩, w10, w11, w12, w13, w14⟩ := W
  obtain ⟨p1, p2, p3, p4, p5, p6, p7, p8, p9⟩ := w5
  have niD : ∀ i, i < tN t → na i ≠ D := fun i hi e => by have := (w9 i hi).K; rw [e, w1] at this; cases this
  refine ⟨⟨w1, w2, w3, w4, ⟨p1, p2, p3, p4, p5, p6, p7, p8, p9⟩, w6, ?_, w8, nAll_congr w9 (fun i hi => ⟨rfl, fun k => ?_, ?_, fun _ _ => rfl⟩) T⟩, ?_, ?_, w12, w13, cFr_tr w14 (cFr_tr (cFr_wL w1 mK_n3) (cFr_wI (h := hwL h D 3 w') w1 mK_n3))⟩
  · rw [hpI_wI, if_neg (fun q => absurd q.2 (by decide))]; exact w7
  · rw [hpI_wI, if_neg (fun q => niD i hi q.1)]; rfl
  · rw [hpL_wI, hpL_wL, if_neg (fun q => niD i hi q.1)]
  · rw [hpL_wI, hpL_wL, if_pos ⟨rfl, rfl⟩]
  · rw [hpI_wI, if_pos ⟨rfl, rfl⟩]
end
