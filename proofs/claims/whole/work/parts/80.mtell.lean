/-! The reference's methods that tell: isNode, isParent, kind, fits, switches, arms, node; put. -/
/-- only cells of the reference were written, none made -/
def mF (m : Nat) (h h' : mx_H) : Prop := (∀ c, hpK h' c = hpK h c) ∧ (∀ c k, hpR h' c k = hpR h c k) ∧ hpZ h' = hpZ h ∧ hpU h' = hpU h ∧ ∀ c k, (c < m ∨ m + 21 < c) → hpI h' c k = hpI h c k ∧ hpL h' c k = hpL h c k
/-- the reference holds the tree t, and has w, r WAITING -/
def mJ (m : Nat) (t : tr) (w : Int64) (r : Nat) (h : mx_H) : Prop := mS m h ∧ mT m t h ∧ (∀ c, c < tN t → hpI h (m + 11) c = 0) ∧ hpL h m 12 = w ∧ hpI h m 13 = nI r
section
variable {m : Nat} {t : tr} {w : Int64} {r : Nat} {h h' h'' : mx_H}
theorem mF_rf : mF m h h := ⟨fun _ => rfl, fun _ _ => rfl, rfl, rfl, fun _ _ _ => ⟨rfl, rfl⟩⟩
theorem mF_tr (A : mF m h h') (B : mF m h' h'') : mF m h h'' := ⟨fun c => (B.1 c).trans (A.1 c), fun c k => (B.2.1 c k).trans (A.2.1 c k), B.2.2.1.trans A.2.2.1, B.2.2.2.1.trans A.2.2.2.1, fun c k hc => ⟨(B.2.2.2.2 c k hc).1.trans (A.2.2.2.2 c k hc).1, (B.2.2.2.2 c k hc).2.trans (A.2.2.2.2 c k hc).2⟩⟩
theorem mF_wI (j k : Nat) (x : Int32) (hj : j ≤ 21) : mF m h (hwI h (m + j) k x) := ⟨fun _ => rfl, fun _ _ => rfl, rfl, rfl, fun c i hc => ⟨by rw [hpI_wI, if_neg (by omega)], rfl⟩⟩
theorem mF_wm (k : Nat) (x : Int32) : mF m h (hwI h m k x) := ⟨fun _ => rfl, fun _ _ => rfl, rfl, rfl, fun c i hc => ⟨by rw [hpI_wI, if_neg (by omega)], rfl⟩⟩
theorem mF_wL (j k : Nat) (x : Int64) (hj : j ≤ 21) : mF m h (hwL h (m + j) k x) := ⟨fun _ => rfl, fun _ _ => rfl, rfl, rfl, fun c i hc => ⟨rfl, by rw [hpL_wL, if_neg (by omega)]⟩⟩
theorem mF_wLm (k : Nat) (x : Int64) : mF m h (hwL h m k x) := ⟨fun _ => rfl, fun _ _ => rfl, rfl, rfl, fun c i hc => ⟨rfl, by rw [hpL_wL, if_neg (by omega)]⟩⟩
theorem ev.F {f pa : Nat} (E : ev m f pa h h') : mF m h h' := ⟨E.1.1, E.1.2.1, E.1.2.2.1, E.1.2.2.2, E.2.1⟩
theorem mJ_ev {f pa : Nat} (I : mJ m t w r h) (E : ev m f pa h h') (s : sr m h h') : mJ m t w r h' := ⟨E.S I.1, E.H I.2.1, fun c hc => (s c).trans (I.2.2.1 c hc), (E.2.2.2.2.1 12).trans I.2.2.2.1, (E.2.2.2.1 13 (by omega)).trans I.2.2.2.2⟩
theorem mJ_th (x : Int32) (I : mJ m t w r h) : mJ m t w r (hwI h m 0 x) := by
  obtain ⟨i1, i2, i3, i4, i5⟩ := I
  refine ⟨mS_cg i1 (fun _ => rfl) (fun _ _ => rfl), mT_cg i2 (by rw [hpI_wI, if_neg (by omega)]) (fun j k a b => ⟨by rw [hpI_wI, if_neg (by omega)], rfl⟩), fun c hc => ?_, i4, ?_⟩
  · rw [hpI_wI, if_neg (by omega)]; exact i3 c hc
  · rw [hpI_wI, if_neg (by omega)]; exact i5
theorem M_isNode_ok (d : Nat) (S : mS m h) (T : tOk t) (H : mT m t h) (x : Int32) : cl (d + 1) j_M_isNode [.inr (.inr (some m)), .inl x] h (some (.inl (bI (nd t x).isSome))) h := by
  refine cl_of (Nat.le_of_ble_eq_true rfl) ?_
  show mx_W _ (mx_nth cd_M_isNode) (0, [some (.inr (.inr (some m))), some (.inl x)], [], h) _
  have hN := T.2.1
  have no : nd t x = none → mx_W (mx_Call mx_prog d) (mx_nth cd_M_isNode) (8, [some (.inr (.inr (some m))), some (.inl x)], [], h) (fun r1 h1 => r1 = some (.inl (bI (nd t x).isSome)) ∧ h1 = h) := by
    intro e
    refine mw_go rfl rfl ?_
    exact mw_r3 rfl (Or.inl rfl) ⟨by rw [e]; rfl, rfl⟩
  iterate 2 refine mw_go rfl rfl ?_
  rcases nd_cs t x with ⟨e, hx | ⟨j, hj, rfl, hle⟩⟩ | ⟨i, hi, hi2, rfl, e⟩
  · refine mw_ifT hx ?_
    exact no e
  · refine mw_ifF (nI_pos hj) ?_
    iterate 2 refine mw_go rfl rfl ?_
    refine mv_gI rfl rfl S.1 H.1 ?_
    refine mw_go rfl rfl ?_
    refine mw_ifT ((nI_leI (by omega) (by omega)).mpr hle) ?_
    exact no e
  · refine mw_ifF (nI_pos hi2) ?_
    iterate 2 refine mw_go rfl rfl ?_
    refine mv_gI rfl rfl S.1 H.1 ?_
    refine mw_go rfl rfl ?_
    refine mw_ifF (fun q => absurd ((nI_leI (by omega) (by omega)).mp q) (by omega)) ?_
    iterate 2 refine mw_go rfl rfl ?_
    exact mw_r3 rfl (Or.inr rfl) ⟨by rw [e]; rfl, rfl⟩
theorem M_isParent_ok (d : Nat) (S : mS m h) (T : tOk t) (H : mT m t h) (x : Int32) : cl (d + 2) j_M_isParent [.inr (.inr (some m)), .inl x] h (some (.inl (bI (par t x).isSome))) h := by
  refine cl_of (Nat.le_of_ble_eq_true rfl) ?_
  show mx_W _ (mx_nth cd_M_isParent) (0, [some (.inr (.inr (some m))), some (.inl x)], [], h) _
  have hN := T.2.1
  have no : par t x = none → mx_W (mx_Call mx_prog (d + 1)) (mx_nth cd_M_isParent) (20, [some (.inr (.inr (some m))), some (.inl x)], [], h) (fun r1 h1 => r1 = some (.inl (bI (par t x).isSome)) ∧ h1 = h) := by
    intro e
    refine mw_go rfl rfl ?_
    exact mw_r3 rfl (Or.inl rfl) ⟨by rw [e]; rfl, rfl⟩
  have no2 : par t x = none → mx_W (mx_Call mx_prog (d + 1)) (mx_nth cd_M_isParent) (48, [some (.inr (.inr (some m))), some (.inl x)], [], h) (fun r1 h1 => r1 = some (.inl (bI (par t x).isSome)) ∧ h1 = h) := by
    intro e
    refine mw_go rfl rfl ?_
    exact mw_r3 rfl (Or.inl rfl) ⟨by rw [e]; rfl, rfl⟩
  refine mw_go rfl rfl ?_
  refine mv_gI rfl rfl S.1 H.1 ?_
  iterate 2 refine mw_go rfl rfl ?_
  refine mw_ifP (e_lit (b := 250) rfl (by omega) (by omega)) (fun h250 => no ?_) (fun h250 => ?_)
  · unfold par
    cases nd t x with
    | none => rfl
    | some p => exact if_neg (by omega)
  iterate 2 refine mw_go rfl rfl ?_
  refine mw_cv (M_isNode_ok d S T H x) rfl rfl rfl (Nat.le_of_ble_eq_true rfl) ⟨_, rfl, S.1⟩ ?_
  refine mw_go rfl rfl ?_
  rcases nd_cs t x with ⟨e, -⟩ | ⟨p, hp, hp2, rfl, e⟩
  · rw [e]
    refine mw_ifT rfl ?_
    exact no (by unfold par; rw [e])
  rw [e]
  refine mw_ifF (show ¬ bI true = 0 by decide) ?_
  have eP : par t (nI p) = if tN t < 250 ∧ trm t p = true then some p else none := by unfold par; rw [e]
  have Ap := H.2 p hp
  have Tp := T.at hp
  have hlen := len_ok T hp
  refine mw_go rfl rfl ?_
  refine mv_gR rfl rfl S.1 (S.r 2 rfl) ?_
  refine mw_go rfl rfl ?_
  refine mv_ial rfl rfl (S.a 2 rfl) rfl (show p < 250 by omega) (by decide) Ap.S ?_
  iterate 2 refine mw_go rfl rfl ?_
  refine mw_ifP (nI_ltI (a := 3) (by omega) (by omega)) (fun h4 => no ?_) (fun h4 => ?_)
  · rw [eP, if_neg]
    rintro ⟨-, q⟩
    have := (trm_spec q).2.1
    omega
  refine mw_go rfl rfl ?_
  refine mv_gR rfl rfl S.1 (S.r 3 rfl) ?_
  refine mw_go rfl rfl ?_
  refine mv_ial rfl rfl (S.a 3 rfl) rfl (show p < 250 by omega) (by decide) Ap.D ?_
  iterate 2 refine mw_go rfl rfl ?_
  refine mw_ifP (e_lit (b := 20) rfl (by omega) (by omega)) (fun h20 => no ?_) (fun h20 => ?_)
  · rw [eP, if_neg]
    rintro ⟨-, q⟩
    have := (trm_spec q).1
    omega
  have hD : decide (tD t p < 20) = true := decide_eq_true (by omega)
  have test3 : (tS t p = 2 → ¬ (tC t p).length = 1) → mx_W (mx_Call mx_prog (d + 1)) (mx_nth cd_M_isParent) (34, [some (.inr (.inr (some m))), some (.inl (nI p))], [], h) (fun r1 h1 => r1 = some (.inl (bI (par t (nI p)).isSome)) ∧ h1 = h) := by
    intro g2
    refine mw_go rfl rfl ?_
    refine mv_gR rfl rfl S.1 (S.r 2 rfl) ?_
    refine mw_go rfl rfl ?_
    refine mv_ial rfl rfl (S.a 2 rfl) rfl (show p < 250 by omega) (by decide) Ap.S ?_
    iterate 2 refine mw_go rfl rfl ?_
    have yes : (tS t p = 3 → ¬ (tC t p).length = 3) → mx_W (mx_Call mx_prog (d + 1)) (mx_nth cd_M_isParent) (46, [some (.inr (.inr (some m))), some (.inl (nI p))], [], h) (fun r1 h1 => r1 = some (.inl (bI (par t (nI p)).isSome)) ∧ h1 = h) := by
      intro g3
      iterate 2 refine mw_go rfl rfl ?_
      refine mw_r3 rfl (Or.inr rfl) ⟨?_, rfl⟩
      rw [eP, if_pos]
      · rfl
      · refine ⟨by omega, ?_⟩
        unfold trm
        rw [hD]
        have h2 := Tp.2.2.2.2.2.1
        have h3 := Tp.2.2.2.2.2.2.1
        rcases (show tS t p = 0 ∨ tS t p = 1 ∨ tS t p = 2 ∨ tS t p = 3 by omega) with q | q | q | q
        · rw [q]; rfl
        · rw [q]; rfl
        · have := g2 q; have := h2 q
          rw [q, decide_eq_true (show (tC t p).length < 1 by omega)]; rfl
        · have := g3 q; have := h3 q
          rw [q, decide_eq_true (show (tC t p).length < 3 by omega)]; rfl
    refine mw_ifP (e_lit (b := 3) rfl (by omega) (by omega)) (fun q3 => ?_) (fun q3 => yes (fun z => absurd z q3))
    refine mw_go rfl rfl ?_
    refine mv_gR rfl rfl S.1 (S.r 4 rfl) ?_
    refine mw_go rfl rfl ?_
    refine mv_ial rfl rfl (S.a 4 rfl) rfl (show p < 250 by omega) (by decide) Ap.c ?_
    iterate 2 refine mw_go rfl rfl ?_
    refine mw_ifP (e_lit (b := 3) rfl (by omega) (by omega)) (fun c3 => no2 ?_) (fun c3 => yes (fun _ => c3))
    rw [eP, if_neg]
    rintro ⟨-, q⟩
    have := (trm_spec q).2.2.2 q3
    omega
  refine mw_go rfl rfl ?_
  refine mv_gR rfl rfl S.1 (S.r 2 rfl) ?_
  refine mw_go rfl rfl ?_
  refine mv_ial rfl rfl (S.a 2 rfl) rfl (show p < 250 by omega) (by decide) Ap.S ?_
  iterate 2 refine mw_go rfl rfl ?_
  refine mw_ifP (e_lit (b := 2) rfl (by omega) (by omega)) (fun q2 => ?_) (fun q2 => test3 (fun z => absurd z q2))
  refine mw_go rfl rfl ?_
  refine mv_gR rfl rfl S.1 (S.r 4 rfl) ?_
  refine mw_go rfl rfl ?_
  refine mv_ial rfl rfl (S.a 4 rfl) rfl (show p < 250 by omega) (by decide) Ap.c ?_
  iterate 2 refine mw_go rfl rfl ?_
  refine mw_ifP (e_lit (b := 1) rfl (by omega) (by omega)) (fun c1 => no2 ?_) (fun c1 => test3 (fun _ => c1))
  rw [eP, if_neg]
  rintro ⟨-, q⟩
  have := (trm_spec q).2.2.1 q2
  omega
theorem M_put_ok (d : Nat) (hr : r ≤ 7) (x : Int32) (I : mJ m t w r h) : ∃ h', cl (d + 1) j_M_put [.inr (.inr (some m)), .inl x] h (some (.inl (oPa r x))) h' ∧ mF m h h' ∧ mJ m t (oPw w r x) (oPr r x) h' := by
  have I0 := mJ_th 0 I
  have F0 : mF m h (hwI h m 0 0) := mF_wm 0 0
  have walk : mx_W (mx_Call mx_prog d) (mx_nth cd_M_put) (0, [some (.inr (.inr (some m))), some (.inl x)], [], h) (fun r1 h' => r1 = some (.inl (oPa r x)) ∧ mF m h h' ∧ mJ m t (oPw w r x) (oPr r x) h') := by
    iterate 2 refine mw_go rfl rfl ?_
    refine mw_pI rfl rfl I.1.1 ?_
    generalize hwI h m 0 0 = h0 at I0 F0 ⊢
    have S := I0.1
    have no : ¬ (r < 7 ∧ vr x = true) → mx_W (mx_Call mx_prog d) (mx_nth cd_M_put) (12, [some (.inr (.inr (some m))), some (.inl x)], [], h0) (fun r1 h' => r1 = some (.inl (oPa r x)) ∧ mF m h h' ∧ mJ m t (oPw w r x) (oPr r x) h') := by
      intro hn
      refine mw_go rfl rfl ?_
      refine mw_r3 rfl (Or.inl rfl) ⟨?_, F0, ?_⟩
      · unfold oPa; rw [decide_eq_false hn]; rfl
      · unfold oPw oPr; rw [if_neg hn, if_neg hn]; exact I0
    refine mw_go rfl rfl ?_
    refine mv_gI rfl rfl S.1 I0.2.2.2.2 ?_
    iterate 2 refine mw_go rfl rfl ?_
    refine mw_ifP (e_lit (b := 7) rfl (by omega) (by omega)) (fun h7 => no (fun q => by omega)) (fun h7 => ?_)
    iterate 2 refine mw_go rfl rfl ?_
    refine mw_if _ (fun hx => no (fun q => (of_decide_eq_true q.2).1 hx)) (fun h0' => ?_)
    iterate 3 refine mw_go rfl rfl ?_
    refine mw_if _ (fun h59 => ?_) (fun h59 => no (fun q => ?_))
    · obtain ⟨j, hj, rfl⟩ := nI_of2 (M := 59) (n := 59) rfl h0' h59
      have hv : vr (nI j) = true := decide_eq_true ⟨h0', (nI_ltI (b := 60) (by omega) (by omega)).mpr (by omega)⟩
      have hc : r < 7 ∧ vr (nI j) = true := ⟨by omega, hv⟩
      iterate 2 refine mw_go rfl rfl ?_
      refine mv_gL rfl rfl S.1 I0.2.2.2.1 ?_
      iterate 4 refine mw_go rfl rfl ?_
      refine mw_pL rfl rfl S.1 ?_
      iterate 2 refine mw_go rfl rfl ?_
      refine mv_gI (x := nI r) rfl rfl S.1 I0.2.2.2.2 ?_
      iterate 2 refine mw_go rfl rfl ?_
      refine mw_pI rfl rfl S.1 ?_
      rw [show nI r + 1 = nI (r + 1) from nI_1 r]
      refine mw_go rfl rfl ?_
      refine mw_r3 rfl (Or.inr rfl) ⟨?_, mF_tr F0 (mF_tr (mF_wLm _ _) (mF_wm _ _)), ?_⟩
      · unfold oPa; rw [decide_eq_true hc]; rfl
      · unfold oPw oPr
        rw [if_pos hc, if_pos hc, nI_clamp (by omega)]
        obtain ⟨i1, i2, i3, i4, i5⟩ := I0
        refine ⟨mS_cg i1 (fun _ => rfl) (fun _ _ => rfl), mT_cg i2 (by rw [hpI_wI, if_neg (by omega)]; rfl) (fun j k a b => ⟨by rw [hpI_wI, if_neg (by omega)]; rfl, by show hpL (hwL _ _ _ _) _ _ = _; rw [hpL_wL, if_neg (by omega)]⟩), fun c hc => ?_, ?_, ?_⟩
        · rw [hpI_wI, if_neg (by omega)]; exact i3 c hc
        · show hpL (hwL _ _ _ _) _ _ = _
          rw [hpL_wL, if_pos ⟨rfl, rfl⟩]; rfl
        · rw [hpI_wI, if_pos ⟨rfl, rfl⟩]
    · have h60 := (of_decide_eq_true q.2).2
      obtain ⟨j, hj, rfl⟩ := nI_of h0'
      have := (nI_ltI (b := 60) (by omega) (by omega)).mp h60
      exact h59 ((nI_leI (b := 59) (by omega) (by omega)).mpr (by omega))
  obtain ⟨r1, h', hcl, rfl, K'⟩ := mc_of (prog := mx_prog) (j := j_M_put) (as := [.inr (.inr (some m)), .inl x]) (Nat.le_of_ble_eq_true rfl) walk
  exact ⟨h', hcl, K'⟩
theorem M_kind_ok {κ : Nat → Nat} (d : Nat) (T : tOk t) (hκ : kB t κ) (hk : kOk t κ) (x : Int32) (I : mJ m t w r h) : ∃ h', cl (d + 7) j_M_kind [.inr (.inr (some m)), .inl x] h (some (.inl (kA t κ x))) h' ∧ mF m h h' ∧ mJ m t w r h' := by
  have I0 := mJ_th 0 I
  have F0 : mF m h (hwI h m 0 0) := mF_wm 0 0
  have walk : mx_W (mx_Call mx_prog (d + 6)) (mx_nth cd_M_kind) (0, [some (.inr (.inr (some m))), some (.inl x)], [], h) (fun r1 h' => r1 = some (.inl (kA t κ x)) ∧ mF m h h' ∧ mJ m t w r h') := by
    iterate 2 refine mw_go rfl rfl ?_
    refine mw_pI rfl rfl I.1.1 ?_
    generalize hwI h m 0 0 = h0 at I0 F0 ⊢
    have S := I0.1
    iterate 2 refine mw_go rfl rfl ?_
    refine mw_cv (M_isNode_ok (d + 5) S T I0.2.1 x) rfl rfl rfl (Nat.le_of_ble_eq_true rfl) ⟨_, rfl, S.1⟩ ?_
    refine mw_go rfl rfl ?_
    unfold kA
    rcases nd_cs t x with ⟨e, -⟩ | ⟨i, hi, hi2, rfl, e⟩
    · rw [e]
      refine mw_ifT rfl ?_
      refine mw_go rfl rfl ?_
      exact mw_r0 rfl ⟨rfl, F0, I0⟩
    · rw [e]
      refine mw_ifF (show ¬ bI true = 0 by decide) ?_
      iterate 2 refine mw_go rfl rfl ?_
      obtain ⟨h1, k1, E1, s1⟩ := M_worked_ok d S T I0.2.1 hκ hk I0.2.2.1 hi
      refine mw_cv k1 rfl rfl rfl (Nat.le_of_ble_eq_true rfl) ⟨_, rfl, S.1⟩ ?_
      refine mw_go rfl rfl ?_
      exact mw_r0 rfl ⟨rfl, mF_tr F0 E1.F, mJ_ev I0 E1 s1⟩
  obtain ⟨r1, h', hcl, rfl, K'⟩ := mc_of (prog := mx_prog) (j := j_M_kind) (as := [.inr (.inr (some m)), .inl x]) (Nat.le_of_ble_eq_true rfl) walk
  exact ⟨h', hcl, K'⟩
theorem M_fits_ok {κ : Nat → Nat} (d : Nat) (T : tOk t) (hκ : kB t κ) (hk : kOk t κ) (x : Int32) (I : mJ m t w r h) : ∃ h', cl (d + 7) j_M_fits [.inr (.inr (some m)), .inl x] h (some (.inl (fA κ x))) h' ∧ mF m h h' ∧ mJ m t w r h' := by
  have I0 := mJ_th 0 I
  have F0 : mF m h (hwI h m 0 0) := mF_wm 0 0
  have walk : mx_W (mx_Call mx_prog (d + 6)) (mx_nth cd_M_fits) (0, [some (.inr (.inr (some m))), some (.inl x), none], [], h) (fun r1 h' => r1 = some (.inl (fA κ x)) ∧ mF m h h' ∧ mJ m t w r h') := by
    iterate 2 refine mw_go rfl rfl ?_
    refine mw_pI rfl rfl I.1.1 ?_
    generalize hwI h m 0 0 = h0 at I0 F0 ⊢
    have S := I0.1
    have no : ¬ (¬ x < 0 ∧ x ≤ 3) → mx_W (mx_Call mx_prog (d + 6)) (mx_nth cd_M_fits) (8, [some (.inr (.inr (some m))), some (.inl x), none], [], h0) (fun r1 h' => r1 = some (.inl (fA κ x)) ∧ mF m h h' ∧ mJ m t w r h') := by
      intro hn
      refine mw_go rfl rfl ?_
      exact mw_r0 rfl ⟨by rw [fA, if_neg hn], F0, I0⟩
    iterate 2 refine mw_go rfl rfl ?_
    refine mw_if _ (fun hc => no (fun q => q.1 hc)) (fun h0' => ?_)
    iterate 3 refine mw_go rfl rfl ?_
    refine mw_if _ (fun h3 => ?_) (fun hc => no (fun q => hc q.2))
    obtain ⟨j, hj, rfl⟩ := nI_of2 (M := 3) (n := 3) rfl h0' h3
    have eA : fA κ (nI j) = nI (fiN (κ 0) j) := by rw [fA, if_pos ⟨h0', h3⟩, nI_clamp (by omega)]
    rw [eA]
    have hT := T.1
    have hb := (hκ 0 (by omega)).1
    iterate 2 refine mw_go rfl rfl ?_
    obtain ⟨h1, k1, E1, s1⟩ := M_worked_ok (n := 0) d S T I0.2.1 hκ hk I0.2.2.1 (by omega)
    refine mw_cv k1 rfl rfl rfl (Nat.le_of_ble_eq_true rfl) ⟨_, rfl, S.1⟩ ?_
    have F1 := mF_tr F0 E1.F
    have I1 := mJ_ev I0 E1 s1
    iterate 2 refine mw_go rfl rfl ?_
    refine mw_cv (M_canFail_ok (d + 5) h1 hb) rfl rfl rfl (Nat.le_of_ble_eq_true rfl) trivial ?_
    refine mw_go rfl rfl ?_
    have two : ¬ (kf (κ 0) = true ∧ kf j = false) → mx_W (mx_Call mx_prog (d + 6)) (mx_nth cd_M_fits) (22, [some (.inr (.inr (some m))), some (.inl (nI j)), some (.inl (nI (κ 0)))], [], h1) (fun r1 h' => r1 = some (.inl (nI (fiN (κ 0) j))) ∧ mF m h h' ∧ mJ m t w r h') := by
      intro hn
      refine mw_go rfl rfl ?_
      refine mw_cv (M_most_ok (d + 5) h1 hb) rfl rfl rfl (Nat.le_of_ble_eq_true rfl) trivial ?_
      iterate 2 refine mw_go rfl rfl ?_
      have hm := km_lt (κ 0)
      have hm2 := km_lt j
      refine mw_ifP (e_lit (b := 2) rfl (by omega) (by omega)) (fun h2 => ?_) (fun h2 => ?_)
      · refine mw_go rfl rfl ?_
        refine mw_cv (M_most_ok (d + 5) h1 (show j < 5 by omega)) rfl rfl rfl (Nat.le_of_ble_eq_true rfl) trivial ?_
        iterate 2 refine mw_go rfl rfl ?_
        refine mw_ifP (e_lit (b := 1) rfl (by omega) (by omega)) (fun h1 => ?_) (fun h1 => ?_)
        · iterate 2 refine mw_go rfl rfl ?_
          exact mw_r0 rfl ⟨by rw [fiN, if_neg hn, if_pos ⟨h2, h1⟩]; rfl, F1, I1⟩
        · iterate 1 refine mw_go rfl rfl ?_
          exact mw_r0 rfl ⟨by rw [fiN, if_neg hn, if_neg (fun q => h1 q.2)]; rfl, F1, I1⟩
      · iterate 1 refine mw_go rfl rfl ?_
        exact mw_r0 rfl ⟨by rw [fiN, if_neg hn, if_neg (fun q => h2 q.1)]; rfl, F1, I1⟩
    refine mw_ifP (e_bI _) (fun hf => two (fun q => by rw [hf] at q; exact absurd q.1 (by decide))) (fun hf => ?_)
    refine mw_go rfl rfl ?_
    refine mw_cv (M_canFail_ok (d + 5) h1 (show j < 5 by omega)) rfl rfl rfl (Nat.le_of_ble_eq_true rfl) trivial ?_
    refine mw_go rfl rfl ?_
    refine mw_ifP (e_bI _) (fun hj' => ?_) (fun hj' => two (fun q => hj' q.2))
    refine mw_go rfl rfl ?_
    have hf : kf (κ 0) = true := by cases hh : kf (κ 0) with
      | true => rfl
      | false => exact absurd hh hf
    exact mw_r0 rfl ⟨by rw [fiN, if_pos ⟨hf, hj'⟩]; rfl, F1, I1⟩
  obtain ⟨r1, h', hcl, rfl, K'⟩ := mc_of (prog := mx_prog) (j := j_M_fits) (as := [.inr (.inr (some m)), .inl x]) (Nat.le_of_ble_eq_true rfl) walk
  exact ⟨h', hcl, K'⟩
theorem M_switches_ok (d : Nat) (T : tOk t) (x : Int32) (I : mJ m t w r h) : ∃ h', cl (d + 4) j_M_switches [.inr (.inr (some m)), .inl x] h (some (.inl (sA' t x))) h' ∧ mF m h h' ∧ mJ m t w r h' ∧ ∀ i, nd t x = some i → tS t i = 1 → PA m h' 0 (tC t i) := by
  have I0 := mJ_th 0 I
  have F0 : mF m h (hwI h m 0 0) := mF_wm 0 0
  have hN := T.2.1
  have walk : mx_W (mx_Call mx_prog (d + 3)) (mx_nth cd_M_switches) (0, [some (.inr (.inr (some m))), some (.inl x)], [], h) (fun r1 h' => r1 = some (.inl (sA' t x)) ∧ mF m h h' ∧ mJ m t w r h' ∧ ∀ i, nd t x = some i → tS t i = 1 → PA m h' 0 (tC t i)) := by
    iterate 2 refine mw_go rfl rfl ?_
    refine mw_pI rfl rfl I.1.1 ?_
    generalize hwI h m 0 0 = h0 at I0 F0 ⊢
    have S := I0.1
    iterate 2 refine mw_go rfl rfl ?_
    refine mw_cv (M_isNode_ok (d + 2) S T I0.2.1 x) rfl rfl rfl (Nat.le_of_ble_eq_true rfl) ⟨_, rfl, S.1⟩ ?_
    refine mw_go rfl rfl ?_
    unfold sA'
    rcases nd_cs t x with ⟨e, -⟩ | ⟨i, hi, hi2, rfl, e⟩
    · rw [e]
      refine mw_ifT rfl ?_
      refine mw_go rfl rfl ?_
      exact mw_r0 rfl ⟨rfl, F0, I0, fun i z => by cases z⟩
    · rw [e]
      have Ai := I0.2.1.2 i hi
      have Ti := T.at hi
      have hlen := nodup_len (tN t) (tC t i) Ti.2.2.2.1 (fun x hx => (Ti.2.2.1 x hx).2.1)
      refine mw_ifF (show ¬ bI true = 0 by decide) ?_
      refine mw_go rfl rfl ?_
      refine mv_gR rfl rfl S.1 (S.r 2 rfl) ?_
      refine mw_go rfl rfl ?_
      refine mv_ial rfl rfl (S.a 2 rfl) rfl (show i < 250 by omega) (by decide) Ai.S ?_
      iterate 2 refine mw_go rfl rfl ?_
      dsimp only
      refine mw_ifP (e_lit (b := 1) rfl (by omega) (by omega)) (fun h1 => ?_) (fun h1 => ?_)
      · rw [if_pos h1]
        iterate 2 refine mw_go rfl rfl ?_
        refine mw_pI rfl rfl S.1 ?_
        have E1 : ev m 0 0 h0 (hwI h0 m 26 0) := ev_wm _ (by omega)
        have s1 : sr m h0 (hwI h0 m 26 0) := fun c => by simp [hpI_wI]
        have a1 : hpI (hwI h0 m 26 0) m 26 = nI 0 := by simp [hpI_wI]; rfl
        generalize hwI h0 m 26 0 = h1' at E1 s1 a1 ⊢
        have S1 := E1.S S
        have H1 := E1.H I0.2.1
        iterate 2 refine mw_go rfl rfl ?_
        obtain ⟨h2, k2, L2, P2, B2⟩ := M_listed_ok (d + 2) S1 T H1 hi a1 (by omega)
        refine mw_cv k2 rfl rfl rfl (Nat.le_of_ble_eq_true rfl) ⟨_, rfl, S1.1⟩ ?_
        have S2 := L2.1.S S1
        have H2 := L2.1.H H1
        have E2 : ev m 0 0 h1' h2 := ev_mono L2.1 (by omega) (by omega)
        iterate 4 refine mw_go rfl rfl ?_
        refine mv_gR rfl rfl S2.1 (S2.r 4 rfl) ?_
        refine mw_go rfl rfl ?_
        refine mv_ial rfl rfl (S2.a 4 rfl) rfl (show i < 250 by omega) (by decide) (H2.2 i hi).c ?_
        refine mw_go rfl rfl ?_
        refine mw_cv (M_switchOf_ok d S2 T H2 (fun p hp => (Ti.2.2.1 p hp).2.1) P2 (by omega) 0) rfl rfl rfl (Nat.le_of_ble_eq_true rfl) ⟨_, rfl, S2.1⟩ ?_
        refine mw_r0 rfl ⟨rfl, mF_tr F0 (mF_tr E1.F E2.F), mJ_ev (mJ_ev I0 E1 s1) E2 L2.2.1, fun j z _ => ?_⟩
        cases z
        exact P2
      · rw [if_neg h1]
        refine mw_go rfl rfl ?_
        refine mw_r0 rfl ⟨rfl, F0, I0, fun j z q => ?_⟩
        cases z
        exact absurd q h1
  obtain ⟨r1, h', hcl, rfl, K'⟩ := mc_of (prog := mx_prog) (j := j_M_switches) (as := [.inr (.inr (some m)), .inl x]) (Nat.le_of_ble_eq_true rfl) walk
  exact ⟨h', hcl, K'⟩
theorem sw_n {a b c d e f : Nat} {y : Int32} (hy : y < 0) : sw_at [(0, a), (1, b), (2, c), (3, d), (4, e)] f y = f := by
  have h : ∀ j : Nat, j < 5 → ¬ y = nI j := fun j hj z => by rw [z] at hy; exact nI_pos (by omega) hy
  unfold sw_at
  rw [if_neg (show ¬ y = 0 from h 0 (by omega))]
  unfold sw_at
  rw [if_neg (show ¬ y = 1 from h 1 (by omega))]
  unfold sw_at
  rw [if_neg (show ¬ y = 2 from h 2 (by omega))]
  unfold sw_at
  rw [if_neg (show ¬ y = 3 from h 3 (by omega))]
  unfold sw_at
  rw [if_neg (show ¬ y = 4 from h 4 (by omega))]
  rfl
theorem M_node_loop {C : mx_C} {Q : Option mx_V → mx_H → Prop} (S : mS m h) (T : tOk t) (n kk : Nat) (hkk : kk + 5 < 2 ^ 31) : ∀ (l : List Nat) (r : Int32) (j i : Nat), CM m h r l → (∀ c ∈ l, c < tN t) → i < l.length → j + i = kk → Q (some (.inl (iO l[i]?))) h →
    mx_W C (mx_nth cd_M_node) (56, [some (.inr (.inr (some m))), some (.inl (nI n)), some (.inl (nI (kk + 5))), some (.inl r), some (.inl (nI (5 + j)))], [], h) Q := by
  have hN := T.2.1
  intro l
  induction l with
  | nil => intro r j i _ _ hi; simp at hi
  | cons c l ih =>
    intro r j i hr hc hi hj hq
    obtain ⟨rfl, hch⟩ := hr
    have hcl := hc c List.mem_cons_self
    cases i with
    | zero =>
      iterate 3 refine mw_go rfl rfl ?_
      refine mw_ifT ((nI_leI (by omega) (by omega)).mpr (by omega)) ?_
      refine mw_go rfl rfl ?_
      exact mw_r0 rfl hq
    | succ i =>
      iterate 3 refine mw_go rfl rfl ?_
      refine mw_ifF (fun q => absurd ((nI_leI (by omega) (by omega)).mp q) (by omega)) ?_
      refine mw_go rfl rfl ?_
      refine mv_gR rfl rfl S.1 (S.r 7 rfl) ?_
      refine mw_go rfl rfl ?_
      refine mw_ial rfl rfl (S.a 7 rfl) rfl (show c < 250 by omega) (by decide) ?_
      iterate 3 refine mw_go rfl rfl ?_
      show mx_W _ _ (56, [some (.inr (.inr (some m))), some (.inl (nI n)), some (.inl (nI (kk + 5))), some (.inl (hpI h (m + 6) c)), some (.inl (nI (5 + j) + 1))], [], h) _
      rw [nI_1]
      rw [List.getElem?_cons_succ] at hq
      exact ih _ (j + 1) i hch (fun z hz => hc z (List.mem_cons_of_mem _ hz)) (by rw [List.length_cons] at hi; omega) (by omega) hq
theorem M_node_ok (d : Nat) (T : tOk t) (x y : Int32) (I : mJ m t w r h) : ∃ h', cl (d + 2) j_M_node [.inr (.inr (some m)), .inl x, .inl y] h (some (.inl (nA t x y))) h' ∧ mF m h h' ∧ mJ m t w r h' := by
  have I0 := mJ_th 0 I
  have F0 : mF m h (hwI h m 0 0) := mF_wm 0 0
  have hN := T.2.1
  have walk : mx_W (mx_Call mx_prog (d + 1)) (mx_nth cd_M_node) (0, [some (.inr (.inr (some m))), some (.inl x), some (.inl y), none, none], [], h) (fun r1 h' => r1 = some (.inl (nA t x y)) ∧ mF m h h' ∧ mJ m t w r h') := by
    iterate 2 refine mw_go rfl rfl ?_
    refine mw_pI rfl rfl I.1.1 ?_
    generalize hwI h m 0 0 = h0 at I0 F0 ⊢
    have S := I0.1
    iterate 2 refine mw_go rfl rfl ?_
    refine mw_cv (M_isNode_ok d S T I0.2.1 x) rfl rfl rfl (Nat.le_of_ble_eq_true rfl) ⟨_, rfl, S.1⟩ ?_
    refine mw_go rfl rfl ?_
    unfold nA
    rcases nd_cs t x with ⟨e, -⟩ | ⟨i, hi, hi2, rfl, e⟩
    · rw [e]
      refine mw_ifT rfl ?_
      refine mw_go rfl rfl ?_
      exact mw_r0 rfl ⟨rfl, F0, I0⟩
    · rw [e]
      have Ai := I0.2.1.2 i hi
      have Ti := T.at hi
      have hlen := nodup_len (tN t) (tC t i) Ti.2.2.2.1 (fun x hx => (Ti.2.2.1 x hx).2.1)
      refine mw_ifF (show ¬ bI true = 0 by decide) ?_
      show mx_W _ _ _ (fun r1 h' => r1 = some (.inl (wA t i y)) ∧ mF m h h' ∧ mJ m t w r h')
      refine mw_go rfl rfl ?_
      by_cases h0' : y < 0
      · refine mw_go rfl rfl ?_
        rw [sw_n h0']
        iterate 3 refine mw_go rfl rfl ?_
        refine mw_ifT ?_ ?_
        · have := Int32.lt_iff_toInt_lt.mp h0'
          exact Int32.lt_iff_toInt_lt.mpr (Int.lt_trans this (by decide))
        refine mw_go rfl rfl ?_
        exact mw_r0 rfl ⟨by rw [wA, if_pos h0'], F0, I0⟩
      · obtain ⟨j, hj, rfl⟩ := nI_of h0'
        have eW : wA t i (nI j) = wB t i j := by rw [wA, if_neg h0', nI_clamp hj]
        rw [eW]
        clear eW h0'
        match j, hj with
        | 0, _ =>
          iterate 2 refine mw_go rfl rfl ?_
          refine mv_gR rfl rfl S.1 (S.r 2 rfl) ?_
          refine mw_go rfl rfl ?_
          refine mv_ial rfl rfl (S.a 2 rfl) rfl (show i < 250 by omega) (by decide) Ai.S ?_
          exact mw_r0 rfl ⟨rfl, F0, I0⟩
        | 1, _ =>
          iterate 2 refine mw_go rfl rfl ?_
          refine mv_gR rfl rfl S.1 (S.r 4 rfl) ?_
          refine mw_go rfl rfl ?_
          refine mv_ial rfl rfl (S.a 4 rfl) rfl (show i < 250 by omega) (by decide) Ai.c ?_
          exact mw_r0 rfl ⟨rfl, F0, I0⟩
        | 2, _ =>
          iterate 2 refine mw_go rfl rfl ?_
          refine mv_gR rfl rfl S.1 (S.r 8 rfl) ?_
          refine mw_go rfl rfl ?_
          refine mv_ial rfl rfl (S.a 8 rfl) rfl (show i < 250 by omega) (by decide) Ai.V ?_
          exact mw_r0 rfl ⟨rfl, F0, I0⟩
        | 3, _ =>
          iterate 2 refine mw_go rfl rfl ?_
          refine mv_gR rfl rfl S.1 (S.r 9 rfl) ?_
          refine mw_go rfl rfl ?_
          refine mv_ial rfl rfl (S.a 9 rfl) rfl (show i < 250 by omega) (by decide) Ai.G ?_
          exact mw_r0 rfl ⟨rfl, F0, I0⟩
        | 4, _ =>
          iterate 2 refine mw_go rfl rfl ?_
          refine mv_gR rfl rfl S.1 (S.r 10 rfl) ?_
          refine mw_go rfl rfl ?_
          refine mv_ial rfl rfl (S.a 10 rfl) rfl (show i < 250 by omega) (by decide) Ai.A ?_
          exact mw_r0 rfl ⟨rfl, F0, I0⟩
        | k + 5, hj =>
          refine mw_go rfl rfl ?_
          rw [sw_5 k hj]
          iterate 3 refine mw_go rfl rfl ?_
          refine mw_ifF (fun q => absurd ((nI_ltI (b := 5) (by omega) (by omega)).mp q) (by omega)) ?_
          iterate 3 refine mw_go rfl rfl ?_
          rw [nI_5]
          refine mw_go rfl rfl ?_
          refine mv_gR rfl rfl S.1 (S.r 4 rfl) ?_
          refine mw_go rfl rfl ?_
          refine mv_ial rfl rfl (S.a 4 rfl) rfl (show i < 250 by omega) (by decide) Ai.c ?_
          refine mw_go rfl rfl ?_
          refine mw_ifP (nI_ltI (by omega) (by omega)) (fun hk => ?_) (fun hk => ?_)
          · refine mw_go rfl rfl ?_
            refine mv_gR rfl rfl S.1 (S.r 5 rfl) ?_
            refine mw_go rfl rfl ?_
            refine mw_ial rfl rfl (S.a 5 rfl) rfl (show i < 250 by omega) (by decide) ?_
            iterate 3 refine mw_go rfl rfl ?_
            exact M_node_loop S T i k hj (tC t i) _ 0 k Ai.C (fun c hc => (Ti.2.2.1 c hc).2.1) hk (by omega) ⟨rfl, F0, I0⟩
          · refine mw_go rfl rfl ?_
            refine mw_r0 rfl ⟨?_, F0, I0⟩
            have e : wB t i (k + 5) = -1 := by
              show iO (tC t i)[k]? = -1
              rw [List.getElem?_eq_none (by omega)]; rfl
            rw [e]
  obtain ⟨r1, h', hcl, rfl, K'⟩ := mc_of (prog := mx_prog) (j := j_M_node) (as := [.inr (.inr (some m)), .inl x, .inl y]) (Nat.le_of_ble_eq_true rfl) walk
  exact ⟨h', hcl, K'⟩
end
