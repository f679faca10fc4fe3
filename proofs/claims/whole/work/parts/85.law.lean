/-! The law's own run. -/
section
variable {C : mx_C} {code : Nat → mx_I} {Q : Option mx_V → mx_H → Prop} {i n : Nat} {ls : mx_L} {st : List mx_V} {h : mx_H}
theorem mw_sld {b L v : Nat} {xs : Nat → Int32} {j : Int32} (hc : code i = .inl (x_sld n b L xs)) (hj : j = nI v) (hv : v < L) (hl : L < 2 ^ 31) (kk : mx_W C code (n, ls, .inl (xs v) :: st, h) Q) : mx_W C code (i, ls, .inl j :: .inr (.inr (some b)) :: st, h) Q := by
  subst hj
  have h1 := nI_in hv hl
  have h2 : (nI v).toNatClampNeg = v := nI_clamp (by omega)
  rw [h2] at h1
  refine mw_go hc ?_ kk
  show x_sld n b L xs _ = _
  simp only [x_sld, h1, not_false_eq_true, and_self, if_true, h2]
theorem mw_sln {b L : Nat} (hc : code i = .inl (x_sln n b L)) (kk : mx_W C code (n, ls, .inl (nI L) :: st, h) Q) : mx_W C code (i, ls, .inr (.inr (some b)) :: st, h) Q := by
  refine mw_go hc ?_ kk
  show x_sln n b L _ = _
  simp only [x_sln, if_true]
  rfl
theorem mw_sw {k : Int32} {p d : Nat} {r : List (Int32 × Nat)} {x : Int32} {y : mx_L × List mx_V × mx_H} (h1 : mx_W C code (p, y) Q) (h2 : mx_W C code (sw_at r d x, y) Q) : mx_W C code (sw_at ((k, p) :: r) d x, y) Q := by
  unfold sw_at
  by_cases e : x = k
  · rw [if_pos e]; exact h1
  · rw [if_neg e]; exact h2
end
theorem nI_p2 (i : Nat) : nI i + 2 = nI (i + 2) := by rw [← nI_add]; rfl
theorem nI_p3 (i : Nat) : nI i + 3 = nI (i + 3) := by rw [← nI_add]; rfl
theorem nI_p4 (i : Nat) : nI i + 4 = nI (i + 4) := by rw [← nI_add]; rfl
theorem nI_p5 (i : Nat) : nI i + 5 = nI (i + 5) := by rw [← nI_add]; rfl
theorem L_lt {L i : Nat} (hL : L ≤ 2560) (hi : i ≤ 2560) : nI L - 5 < nI i ↔ L < i + 5 := by
  by_cases h : 5 ≤ L
  · obtain ⟨k, rfl⟩ : ∃ k, L = k + 5 := ⟨L - 5, by omega⟩
    rw [nI_5, nI_ltI (by omega) (by omega)]
    omega
  · have hn : nI L - 5 < 0 := by
      rcases (show L = 0 ∨ L = 1 ∨ L = 2 ∨ L = 3 ∨ L = 4 by omega) with rfl | rfl | rfl | rfl | rfl <;> decide
    refine ⟨fun _ => by omega, fun _ => ?_⟩
    exact Int32.lt_of_lt_of_le hn (Int32.not_lt.mp (nI_pos (by omega)))
/-- after j calls: class and reference hold the same -/
def LI (D m zb ub j : Nat) (h : mx_H) : Prop := ∃ ar s tp oa w r t, dP D ar s tp oa (zb + j) (ub + 15 * j) h w (nI r) t h ∧ mJ m t w r h ∧ r ≤ 7
theorem LI_next {D m zb ub j ar s tp oa z u : Nat} {G h1 h2 : mx_H} {w : Int64} {r : Nat} {t : tr} (I : dP D ar s tp oa z u G w (nI r) t h1) (S : mS m h1) (F : mF m h1 h2) (J : mJ m t w r h2) (hr : r ≤ 7) (hz : z ≤ zb + (j + 1)) (hu : u ≤ ub + 15 * (j + 1)) : LI D m zb ub (j + 1) h2 :=
  ⟨ar, s, tp, oa, w, r, t, dP_mF (dP_mono I hz hu) S F, J, hr⟩
theorem oPr_le {r : Nat} (hr : r ≤ 7) (x : Int32) : oPr r x ≤ 7 := by unfold oPr; split <;> omega
section
variable {X : mx_X0} {D m zb ub j : Nat} {h : mx_H} {Q : Option mx_V → mx_H → Prop}
abbrev lwL (X : mx_X0) (D m j : Nat) : mx_L := [some (.inr (.inr (some (eSb (mE X))))), some (.inr (.inr (some D))), some (.inr (.inr (some m))), some (.inl (nI (5 * j)))]
abbrev lwW (X : mx_X0) (D m j i : Nat) (h : mx_H) (Q : Option mx_V → mx_H → Prop) : Prop := mx_W (mx_Call mx_prog 8) (mx_nth (cd_L_law X)) (i, lwL X D m j, [], h) Q
theorem lw_clear (I : LI D m zb ub j h) (K : ∀ h', LI D m zb ub (j + 1) h' → lwW X D m j 250 h' Q) : lwW X D m j 22 h Q := by
  obtain ⟨ar, s, tp, oa, w, r, t, I, J, hr⟩ := I
  have hD : hpK h D = some (.inl 3) := by obtain ⟨aa, M, na, κ, W, -⟩ := id I; exact W.1.1
  obtain ⟨h1, k1, I1⟩ := D_clear_ok 5 I
  have J1 := mJ_cFr J (dP_cFr I1)
  obtain ⟨h2, k2, F2, J2⟩ := M_clear_ok 5 J1.1
  refine mw_go rfl rfl ?_
  refine mw_cn k1 rfl rfl rfl (Nat.le_of_ble_eq_true rfl) ⟨_, rfl, hD⟩ ?_
  refine mw_go rfl rfl ?_
  refine mw_cn k2 rfl rfl rfl (Nat.le_of_ble_eq_true rfl) ⟨_, rfl, J1.1.1⟩ ?_
  refine mw_go rfl rfl ?_
  exact K h2 (LI_next (r := 0) I1 J1.1 F2 J2 (by omega) (by omega) (by omega))
theorem lw_put (hL : eSL (mE X) ≤ 2560) (hj : 5 * j + 5 ≤ eSL (mE X)) (I : LI D m zb ub j h) (K : ∀ h', LI D m zb ub (j + 1) h' → lwW X D m j 250 h' Q) : lwW X D m j 27 h Q := by
  obtain ⟨ar, s, tp, oa, w, r, t, I, J, hr⟩ := I
  have hD : hpK h D = some (.inl 3) := by obtain ⟨aa, M, na, κ, W, -⟩ := id I; exact W.1.1
  obtain ⟨h1, k1, I1⟩ := D_put_ok 6 hr (eSx (mE X) (5 * j + 1)) I
  have J1 := mJ_cFr J (dP_cFr I1)
  obtain ⟨h2, k2, F2, J2⟩ := M_put_ok 7 hr (eSx (mE X) (5 * j + 1)) J1
  iterate 5 refine mw_go rfl rfl ?_
  refine mw_sld rfl (nI_1 (5 * j)) (by omega) (by omega) ?_
  refine mw_cv k1 rfl rfl rfl (Nat.le_of_ble_eq_true rfl) ⟨_, rfl, hD⟩ ?_
  iterate 5 refine mw_go rfl rfl ?_
  refine mw_sld rfl (nI_1 (5 * j)) (by omega) (by omega) ?_
  refine mw_cv k2 rfl rfl rfl (Nat.le_of_ble_eq_true rfl) ⟨_, rfl, J1.1.1⟩ ?_
  refine mw_go rfl rfl ?_
  refine mw_ifT rfl ?_
  exact K h2 (LI_next I1 J1.1 F2 J2 (oPr_le hr _) (by omega) (by omega))
theorem lw_add (hL : eSL (mE X) ≤ 2560) (hj : 5 * j + 5 ≤ eSL (mE X)) (I : LI D m zb ub j h) (K : ∀ h', LI D m zb ub (j + 1) h' → lwW X D m j 250 h' Q) : lwW X D m j 44 h Q := by
  obtain ⟨ar, s, tp, oa, w, r, t, I, J, hr⟩ := I
  have hD : hpK h D = some (.inl 3) := by obtain ⟨aa, M, na, κ, W, -⟩ := id I; exact W.1.1
  obtain ⟨h1, k1, I1⟩ := D_add_ok 1 (eSx (mE X) (5 * j + 1)) (eSx (mE X) (5 * j + 2)) I
  have J1 := mJ_cFr J (dP_cFr I1)
  obtain ⟨h2, k2, F2, J2⟩ := M_add_ok 5 (dP_T I) (eSx (mE X) (5 * j + 1)) (eSx (mE X) (5 * j + 2)) J1
  iterate 5 refine mw_go rfl rfl ?_
  refine mw_sld rfl (nI_1 (5 * j)) (by omega) (by omega) ?_
  iterate 4 refine mw_go rfl rfl ?_
  refine mw_sld rfl (nI_p2 (5 * j)) (by omega) (by omega) ?_
  refine mw_cv k1 rfl rfl rfl (Nat.le_of_ble_eq_true rfl) ⟨_, rfl, hD⟩ ?_
  iterate 5 refine mw_go rfl rfl ?_
  refine mw_sld rfl (nI_1 (5 * j)) (by omega) (by omega) ?_
  iterate 4 refine mw_go rfl rfl ?_
  refine mw_sld rfl (nI_p2 (5 * j)) (by omega) (by omega) ?_
  refine mw_cv k2 rfl rfl rfl (Nat.le_of_ble_eq_true rfl) ⟨_, rfl, J1.1.1⟩ ?_
  refine mw_go rfl rfl ?_
  refine mw_ifT rfl ?_
  exact K h2 (LI_next (r := 0) I1 J1.1 F2 J2 (by omega) (by omega) (by omega))
theorem lw_goal (hL : eSL (mE X) ≤ 2560) (hj : 5 * j + 5 ≤ eSL (mE X)) (I : LI D m zb ub j h) (K : ∀ h', LI D m zb ub (j + 1) h' → lwW X D m j 250 h' Q) : lwW X D m j 71 h Q := by
  obtain ⟨ar, s, tp, oa, w, r, t, I, J, hr⟩ := I
  have hD : hpK h D = some (.inl 3) := by obtain ⟨aa, M, na, κ, W, -⟩ := id I; exact W.1.1
  obtain ⟨h1, k1, I1⟩ := D_goal_ok 1 (eSx (mE X) (5 * j + 1)) (eSx (mE X) (5 * j + 2)) I
  have J1 := mJ_cFr J (dP_cFr I1)
  obtain ⟨h2, k2, F2, J2⟩ := M_goal_ok 5 (dP_T I) (eSx (mE X) (5 * j + 1)) (eSx (mE X) (5 * j + 2)) J1
  iterate 5 refine mw_go rfl rfl ?_
  refine mw_sld rfl (nI_1 (5 * j)) (by omega) (by omega) ?_
  iterate 4 refine mw_go rfl rfl ?_
  refine mw_sld rfl (nI_p2 (5 * j)) (by omega) (by omega) ?_
  refine mw_cv k1 rfl rfl rfl (Nat.le_of_ble_eq_true rfl) ⟨_, rfl, hD⟩ ?_
  iterate 5 refine mw_go rfl rfl ?_
  refine mw_sld rfl (nI_1 (5 * j)) (by omega) (by omega) ?_
  iterate 4 refine mw_go rfl rfl ?_
  refine mw_sld rfl (nI_p2 (5 * j)) (by omega) (by omega) ?_
  refine mw_cv k2 rfl rfl rfl (Nat.le_of_ble_eq_true rfl) ⟨_, rfl, J1.1.1⟩ ?_
  refine mw_go rfl rfl ?_
  refine mw_ifT rfl ?_
  exact K h2 (LI_next (r := 0) I1 J1.1 F2 J2 (by omega) (by omega) (by omega))
theorem lw_take (hL : eSL (mE X) ≤ 2560) (hj : 5 * j + 5 ≤ eSL (mE X)) (I : LI D m zb ub j h) (K : ∀ h', LI D m zb ub (j + 1) h' → lwW X D m j 250 h' Q) : lwW X D m j 98 h Q := by
  obtain ⟨ar, s, tp, oa, w, r, t, I, J, hr⟩ := I
  have hD : hpK h D = some (.inl 3) := by obtain ⟨aa, M, na, κ, W, -⟩ := id I; exact W.1.1
  obtain ⟨h1, k1, I1⟩ := D_take_ok 1 (eSx (mE X) (5 * j + 1)) (eSx (mE X) (5 * j + 2)) (eSx (mE X) (5 * j + 3)) (eSx (mE X) (5 * j + 4)) I
  have J1 := mJ_cFr J (dP_cFr I1)
  obtain ⟨h2, k2, F2, J2⟩ := M_take_ok 5 (dP_T I) (eSx (mE X) (5 * j + 1)) (eSx (mE X) (5 * j + 2)) (eSx (mE X) (5 * j + 3)) (eSx (mE X) (5 * j + 4)) J1
  iterate 5 refine mw_go rfl rfl ?_
  refine mw_sld rfl (nI_1 (5 * j)) (by omega) (by omega) ?_
  iterate 4 refine mw_go rfl rfl ?_
  refine mw_sld rfl (nI_p2 (5 * j)) (by omega) (by omega) ?_
  iterate 4 refine mw_go rfl rfl ?_
  refine mw_sld rfl (nI_p3 (5 * j)) (by omega) (by omega) ?_
  iterate 4 refine mw_go rfl rfl ?_
  refine mw_sld rfl (nI_p4 (5 * j)) (by omega) (by omega) ?_
  refine mw_cv k1 rfl rfl rfl (Nat.le_of_ble_eq_true rfl) ⟨_, rfl, hD⟩ ?_
  iterate 5 refine mw_go rfl rfl ?_
  refine mw_sld rfl (nI_1 (5 * j)) (by omega) (by omega) ?_
  iterate 4 refine mw_go rfl rfl ?_
  refine mw_sld rfl (nI_p2 (5 * j)) (by omega) (by omega) ?_
  iterate 4 refine mw_go rfl rfl ?_
  refine mw_sld rfl (nI_p3 (5 * j)) (by omega) (by omega) ?_
  iterate 4 refine mw_go rfl rfl ?_
  refine mw_sld rfl (nI_p4 (5 * j)) (by omega) (by omega) ?_
  refine mw_cv k2 rfl rfl rfl (Nat.le_of_ble_eq_true rfl) ⟨_, rfl, J1.1.1⟩ ?_
  refine mw_go rfl rfl ?_
  refine mw_ifT rfl ?_
  exact K h2 (LI_next (r := 0) I1 J1.1 F2 J2 (by omega) (by omega) (by omega))
theorem lw_kind (hL : eSL (mE X) ≤ 2560) (hj : 5 * j + 5 ≤ eSL (mE X)) (I : LI D m zb ub j h) (K : ∀ h', LI D m zb ub (j + 1) h' → lwW X D m j 250 h' Q) : lwW X D m j 145 h Q := by
  obtain ⟨ar, s, tp, oa, w, r, t, I, J, hr⟩ := I
  obtain ⟨aa, M, na, κ, W, B, KK, T⟩ := id I
  have hD : hpK h D = some (.inl 3) := W.1.1
  have k1 := D_kind_ok 6 T W.1 (eSx (mE X) (5 * j + 1))
  obtain ⟨h2, k2, F2, J2⟩ := M_kind_ok 1 T B KK (eSx (mE X) (5 * j + 1)) J
  iterate 5 refine mw_go rfl rfl ?_
  refine mw_sld rfl (nI_1 (5 * j)) (by omega) (by omega) ?_
  refine mw_cv k1 rfl rfl rfl (Nat.le_of_ble_eq_true rfl) ⟨_, rfl, hD⟩ ?_
  iterate 5 refine mw_go rfl rfl ?_
  refine mw_sld rfl (nI_1 (5 * j)) (by omega) (by omega) ?_
  refine mw_cv k2 rfl rfl rfl (Nat.le_of_ble_eq_true rfl) ⟨_, rfl, J.1.1⟩ ?_
  refine mw_go rfl rfl ?_
  refine mw_ifT rfl ?_
  exact K h2 (LI_next I J.1 F2 J2 hr (by omega) (by omega))
theorem lw_switches (hL : eSL (mE X) ≤ 2560) (hj : 5 * j + 5 ≤ eSL (mE X)) (I : LI D m zb ub j h) (K : ∀ h', LI D m zb ub (j + 1) h' → lwW X D m j 250 h' Q) : lwW X D m j 162 h Q := by
  obtain ⟨ar, s, tp, oa, w, r, t, I, J, hr⟩ := I
  have hD : hpK h D = some (.inl 3) := by obtain ⟨aa, M, na, κ, W, -⟩ := id I; exact W.1.1
  obtain ⟨h1, k1, I1⟩ := D_switches_ok 3 (eSx (mE X) (5 * j + 1)) I
  have J1 := mJ_cFr J (dP_cFr I1)
  obtain ⟨h2, k2, F2, J2, -⟩ := M_switches_ok 4 (dP_T I) (eSx (mE X) (5 * j + 1)) J1
  iterate 5 refine mw_go rfl rfl ?_
  refine mw_sld rfl (nI_1 (5 * j)) (by omega) (by omega) ?_
  refine mw_cv k1 rfl rfl rfl (Nat.le_of_ble_eq_true rfl) ⟨_, rfl, hD⟩ ?_
  iterate 5 refine mw_go rfl rfl ?_
  refine mw_sld rfl (nI_1 (5 * j)) (by omega) (by omega) ?_
  refine mw_cv k2 rfl rfl rfl (Nat.le_of_ble_eq_true rfl) ⟨_, rfl, J1.1.1⟩ ?_
  refine mw_go rfl rfl ?_
  refine mw_ifT rfl ?_
  exact K h2 (LI_next I1 J1.1 F2 J2 hr (by omega) (by omega))
theorem lw_arms (hL : eSL (mE X) ≤ 2560) (hj : 5 * j + 5 ≤ eSL (mE X)) (I : LI D m zb ub j h) (K : ∀ h', LI D m zb ub (j + 1) h' → lwW X D m j 250 h' Q) : lwW X D m j 179 h Q := by
  obtain ⟨ar, s, tp, oa, w, r, t, I, J, hr⟩ := I
  have hD : hpK h D = some (.inl 3) := by obtain ⟨aa, M, na, κ, W, -⟩ := id I; exact W.1.1
  obtain ⟨h1, k1, I1⟩ := D_arms_ok 2 (eSx (mE X) (5 * j + 1)) (eSx (mE X) (5 * j + 2)) I
  have J1 := mJ_cFr J (dP_cFr I1)
  obtain ⟨h2, k2, F2, J2⟩ := M_arms_ok 3 (dP_T I) (eSx (mE X) (5 * j + 1)) (eSx (mE X) (5 * j + 2)) J1
  iterate 5 refine mw_go rfl rfl ?_
  refine mw_sld rfl (nI_1 (5 * j)) (by omega) (by omega) ?_
  iterate 4 refine mw_go rfl rfl ?_
  refine mw_sld rfl (nI_p2 (5 * j)) (by omega) (by omega) ?_
  refine mw_cv k1 rfl rfl rfl (Nat.le_of_ble_eq_true rfl) ⟨_, rfl, hD⟩ ?_
  iterate 5 refine mw_go rfl rfl ?_
  refine mw_sld rfl (nI_1 (5 * j)) (by omega) (by omega) ?_
  iterate 4 refine mw_go rfl rfl ?_
  refine mw_sld rfl (nI_p2 (5 * j)) (by omega) (by omega) ?_
  refine mw_cv k2 rfl rfl rfl (Nat.le_of_ble_eq_true rfl) ⟨_, rfl, J1.1.1⟩ ?_
  refine mw_go rfl rfl ?_
  refine mw_ifT rfl ?_
  exact K h2 (LI_next I1 J1.1 F2 J2 hr (by omega) (by omega))
theorem lw_fits (hL : eSL (mE X) ≤ 2560) (hj : 5 * j + 5 ≤ eSL (mE X)) (I : LI D m zb ub j h) (K : ∀ h', LI D m zb ub (j + 1) h' → lwW X D m j 250 h' Q) : lwW X D m j 206 h Q := by
  obtain ⟨ar, s, tp, oa, w, r, t, I, J, hr⟩ := I
  obtain ⟨aa, M, na, κ, W, B, KK, T⟩ := id I
  have hD : hpK h D = some (.inl 3) := W.1.1
  have k1 := D_fits_ok 5 T B W.1 (eSx (mE X) (5 * j + 1))
  obtain ⟨h2, k2, F2, J2⟩ := M_fits_ok 1 T B KK (eSx (mE X) (5 * j + 1)) J
  iterate 5 refine mw_go rfl rfl ?_
  refine mw_sld rfl (nI_1 (5 * j)) (by omega) (by omega) ?_
  refine mw_cv k1 rfl rfl rfl (Nat.le_of_ble_eq_true rfl) ⟨_, rfl, hD⟩ ?_
  iterate 5 refine mw_go rfl rfl ?_
  refine mw_sld rfl (nI_1 (5 * j)) (by omega) (by omega) ?_
  refine mw_cv k2 rfl rfl rfl (Nat.le_of_ble_eq_true rfl) ⟨_, rfl, J.1.1⟩ ?_
  refine mw_go rfl rfl ?_
  refine mw_ifT rfl ?_
  exact K h2 (LI_next I J.1 F2 J2 hr (by omega) (by omega))
theorem lw_node (hL : eSL (mE X) ≤ 2560) (hj : 5 * j + 5 ≤ eSL (mE X)) (I : LI D m zb ub j h) (K : ∀ h', LI D m zb ub (j + 1) h' → lwW X D m j 250 h' Q) : lwW X D m j 223 h Q := by
  obtain ⟨ar, s, tp, oa, w, r, t, I, J, hr⟩ := I
  obtain ⟨aa, M, na, κ, W, B, KK, T⟩ := id I
  have hD : hpK h D = some (.inl 3) := W.1.1
  have k1 := D_node_ok 6 T B W.1 (eSx (mE X) (5 * j + 1)) (eSx (mE X) (5 * j + 2))
  obtain ⟨h2, k2, F2, J2⟩ := M_node_ok 6 T (eSx (mE X) (5 * j + 1)) (eSx (mE X) (5 * j + 2)) J
  iterate 5 refine mw_go rfl rfl ?_
  refine mw_sld rfl (nI_1 (5 * j)) (by omega) (by omega) ?_
  iterate 4 refine mw_go rfl rfl ?_
  refine mw_sld rfl (nI_p2 (5 * j)) (by omega) (by omega) ?_
  refine mw_cv k1 rfl rfl rfl (Nat.le_of_ble_eq_true rfl) ⟨_, rfl, hD⟩ ?_
  iterate 5 refine mw_go rfl rfl ?_
  refine mw_sld rfl (nI_1 (5 * j)) (by omega) (by omega) ?_
  iterate 4 refine mw_go rfl rfl ?_
  refine mw_sld rfl (nI_p2 (5 * j)) (by omega) (by omega) ?_
  refine mw_cv k2 rfl rfl rfl (Nat.le_of_ble_eq_true rfl) ⟨_, rfl, J.1.1⟩ ?_
  refine mw_go rfl rfl ?_
  refine mw_ifT rfl ?_
  exact K h2 (LI_next I J.1 F2 J2 hr (by omega) (by omega))
theorem LI_up (I : LI D m zb ub j h) : LI D m zb ub (j + 1) h := by
  obtain ⟨ar, s, tp, oa, w, r, t, I, J, hr⟩ := I
  exact ⟨ar, s, tp, oa, w, r, t, dP_mono I (by omega) (by omega), J, hr⟩
theorem law_loop (hL : eSL (mE X) ≤ 2560) (hz : zb ≤ eB (mE X) + 1000) (hu : ub ≤ 100000) : ∀ (n j : Nat) (h : mx_H), eSL (mE X) < 5 * (j + n) + 5 → j ≤ 512 → LI D m zb ub j h → lwW X D m j 10 h (fun r h' => r = some (.inl 1) ∧ hpZ h' - eB (mE X) ≤ 600000 ∧ hpU h' ≤ 7302250) := by
  intro n
  induction n with
  | zero =>
    intro j h hn hj I
    obtain ⟨ar, s, tp, oa, w, r, t, I, J, hr⟩ := I
    obtain ⟨aa, M, na, κ, W, B, KK, T⟩ := I
    have hM : M ≤ 250 := W.1.2.2.2.2.1.2.2.2.2.2.1
    have hZ := W.2.2.2.1
    have hU := W.2.2.2.2.1
    iterate 2 refine mw_go rfl rfl ?_
    refine mw_sln rfl ?_
    iterate 3 refine mw_go rfl rfl ?_
    refine mw_ifT ((L_lt hL (by omega)).mpr (by omega)) ?_
    refine mw_go rfl rfl ?_
    exact mw_r3 rfl (Or.inr rfl) ⟨rfl, by omega, by omega⟩
  | succ n ih =>
    intro j h hn hj I
    by_cases hx : eSL (mE X) < 5 * j + 5
    · obtain ⟨ar, s, tp, oa, w, r, t, I, J, hr⟩ := I
      obtain ⟨aa, M, na, κ, W, B, KK, T⟩ := I
      have hM : M ≤ 250 := W.1.2.2.2.2.1.2.2.2.2.2.1
      have hZ := W.2.2.2.1
      have hU := W.2.2.2.2.1
      iterate 2 refine mw_go rfl rfl ?_
      refine mw_sln rfl ?_
      iterate 3 refine mw_go rfl rfl ?_
      refine mw_ifT ((L_lt hL (by omega)).mpr (by omega)) ?_
      refine mw_go rfl rfl ?_
      exact mw_r3 rfl (Or.inr rfl) ⟨rfl, by omega, by omega⟩
    · have hx : 5 * j + 5 ≤ eSL (mE X) := by omega
      have K : ∀ h', LI D m zb ub (j + 1) h' → lwW X D m j 250 h' (fun r h' => r = some (.inl 1) ∧ hpZ h' - eB (mE X) ≤ 600000 ∧ hpU h' ≤ 7302250) := by
        intro h' I'
        iterate 2 refine mw_go rfl rfl ?_
        show mx_W _ _ (10, [some (.inr (.inr (some (eSb (mE X))))), some (.inr (.inr (some D))), some (.inr (.inr (some m))), some (.inl (nI (5 * j) + 5))], [], h') _
        rw [nI_p5]
        exact ih (j + 1) h' (by omega) (by omega) I'
      iterate 2 refine mw_go rfl rfl ?_
      refine mw_sln rfl ?_
      iterate 3 refine mw_go rfl rfl ?_
      refine mw_ifF (fun q => absurd ((L_lt hL (by omega)).mp q) (by omega)) ?_
      iterate 2 refine mw_go rfl rfl ?_
      refine mw_sld rfl rfl (by omega) (by omega) ?_
      iterate 3 refine mw_go rfl rfl ?_
      refine mw_sw (lw_clear I K) ?_
      refine mw_sw (lw_put hL hx I K) ?_
      refine mw_sw (lw_add hL hx I K) ?_
      refine mw_sw (lw_goal hL hx I K) ?_
      refine mw_sw (lw_take hL hx I K) ?_
      refine mw_sw (lw_kind hL hx I K) ?_
      refine mw_sw (lw_switches hL hx I K) ?_
      refine mw_sw (lw_arms hL hx I K) ?_
      refine mw_sw (lw_fits hL hx I K) ?_
      refine mw_sw (lw_node hL hx I K) ?_
      exact K h (LI_up I)
end
theorem law_ok : ∀ X : mx_X0, eSL (mE X) ≤ 2560 → eSb (mE X) < eB (mE X) → lw_Run X := by
  intro X hL hb
  unfold lw_Run
  obtain ⟨B, hB⟩ : ∃ B, B = eB (mE X) := ⟨_, rfl⟩
  have ok0 : hOk (hnw (lw_h0 (eB (mE X))) (.inl 3) 5) := by
    intro b hb
    have hb : eB (mE X) + 1 ≤ b := hb
    rw [hpK_nw, if_neg (show ¬ b = hpZ (lw_h0 (eB (mE X))) from fun (e : b = eB (mE X)) => by omega)]
    rfl
  have kD : hpK (hnw (lw_h0 (eB (mE X))) (.inl 3) 5) (eB (mE X)) = some (.inl 3) := by rw [hpK_nw]; exact if_pos rfl
  obtain ⟨ar, s, tp, oa, h1, k1, I1⟩ := D_init_ok 5 ok0 kD
  have ok1 : hOk h1 := by obtain ⟨aa, M, na, κ, W, -⟩ := id I1; exact W.1.2.2.2.2.2.1
  refine mw_go rfl rfl ?_
  refine mw_go rfl rfl ?_
  refine mw_cn k1 rfl rfl rfl (Nat.le_of_ble_eq_true rfl) ⟨_, rfl⟩ ?_
  refine mw_go rfl rfl ?_
  refine mw_go rfl rfl ?_
  refine mw_go rfl rfl ?_
  have km2 : hpK (hnw h1 (.inl 4) 29) (hpZ h1) = some (.inl 4) := by rw [hpK_nw, if_pos rfl]
  have ok2 : hOk (hnw h1 (.inl 4) 29) := by
    intro b hb
    have hb : hpZ h1 + 1 ≤ b := hb
    rw [hpK_nw, if_neg (by omega)]
    exact ok1 b (by omega)
  obtain ⟨h3, k3, Z3, U3, ok3, F3, J3⟩ := M_init_ok 5 km2 rfl ok2
  refine mw_cn k3 rfl rfl rfl (Nat.le_of_ble_eq_true rfl) ⟨_, rfl⟩ ?_
  iterate 3 refine mw_go rfl rfl ?_
  have I3 := dP_out (a := 22) (b := 14179) (h' := h3) I1 (fun c hc _ => by
    have hlt : c < hpZ h1 := by
      by_cases z : c < hpZ h1
      · exact z
      · exact absurd (ok1 c (by omega)) hc
    obtain ⟨e1, e2⟩ := F3 c hlt
    refine ⟨by rw [e1, hpK_nw, if_neg (by omega)], fun k => ⟨?_, ?_, ?_⟩⟩
    · rw [(e2 k).1, hpI_nw, if_neg (by omega)]
    · rw [(e2 k).2.1, hpL_nw, if_neg (by omega)]
    · rw [(e2 k).2.2, hpR_nw, if_neg (by omega)]) ok3 (by rw [Z3]; omega) (by
      rw [U3]
      show hpU h1 + 29 + 14150 ≤ hpU h1 + 14179
      omega)
  have hZ0 : hpZ (hnw (lw_h0 (eB (mE X))) (.inl 3) 5) = eB (mE X) + 1 := rfl
  have hU0 : hpU (hnw (lw_h0 (eB (mE X))) (.inl 3) 5) = 0 + 5 := rfl
  rw [hZ0, hU0] at I3
  exact law_loop (zb := eB (mE X) + 28) (ub := 14713) hL (by omega) (by omega) 513 0 h3 (by omega) (by omega) ⟨ar, s, tp, oa, 0, 0, t0, I3, J3, by omega⟩
