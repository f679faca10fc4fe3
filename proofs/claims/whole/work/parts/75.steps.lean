/-! The reference's choice, tested, several, ask, one step each. -/
section
variable {m : Nat} {t : tr} {h h1 h2 : mx_H} {f : Nat}
theorem M_choice_arm {x : Nat} (d : Nat) (S : mS m h) (hf : f < 600) (h13 : hpI h (m + 13) f = 1) (h17 : hpI h (m + 17) f = nI x) (hx : x < 60) (k1 : cl (d + 4) j_M_armAnswer [.inr (.inr (some m)), .inl (nI f)] h none h1) (S1 : mS m h1) (h17' : hpI h1 (m + 17) f = nI x) (k2 : cl (d + 4) j_M_armNext [.inr (.inr (some m)), .inl (nI f)] h1 none h2) : cl (d + 5) j_M_choice [.inr (.inr (some m)), .inl (nI f)] h none h2 := by
  refine cl_of (Nat.le_of_ble_eq_true rfl) ?_
  show mx_W _ (mx_nth cd_M_choice) (0, [some (.inr (.inr (some m))), some (.inl (nI f))], [], h) _
  refine mw_go rfl rfl ?_
  refine mv_gR rfl rfl S.1 (S.r 16 rfl) ?_
  refine mw_go rfl rfl ?_
  refine mv_ial rfl rfl (S.a 16 rfl) rfl hf (by decide) h13 ?_
  refine mw_go rfl rfl ?_
  refine mw_ifF (by decide) ?_
  refine mw_go rfl rfl ?_
  refine mv_gR rfl rfl S.1 (S.r 20 rfl) ?_
  refine mw_go rfl rfl ?_
  refine mv_ial rfl rfl (S.a 20 rfl) rfl hf (by decide) h17 ?_
  iterate 2 refine mw_go rfl rfl ?_
  refine mw_ifF (nI_m1 (by omega)) ?_
  iterate 2 refine mw_go rfl rfl ?_
  refine mw_cn k1 rfl rfl rfl (Nat.le_of_ble_eq_true rfl) ⟨_, rfl, S.1⟩ ?_
  refine mw_go rfl rfl ?_
  refine mv_gR rfl rfl S1.1 (S1.r 20 rfl) ?_
  refine mw_go rfl rfl ?_
  refine mv_ial rfl rfl (S1.a 20 rfl) rfl hf (by decide) h17' ?_
  iterate 2 refine mw_go rfl rfl ?_
  refine mw_ifF (nI_m1 (by omega)) ?_
  iterate 2 refine mw_go rfl rfl ?_
  refine mw_cn k2 rfl rfl rfl (Nat.le_of_ble_eq_true rfl) ⟨_, rfl, S1.1⟩ ?_
  exact mw_r4 rfl ⟨rfl, rfl⟩
theorem M_choice_plain (d : Nat) (S : mS m h) (hf : f < 600) (h13 : hpI h (m + 13) f = 1) (h17 : hpI h (m + 17) f = -1) (k1 : cl (d + 4) j_M_plainAnswer [.inr (.inr (some m)), .inl (nI f)] h none h1) (S1 : mS m h1) (h17' : hpI h1 (m + 17) f = -1) (k2 : cl (d + 4) j_M_plainNext [.inr (.inr (some m)), .inl (nI f)] h1 none h2) : cl (d + 5) j_M_choice [.inr (.inr (some m)), .inl (nI f)] h none h2 := by
  refine cl_of (Nat.le_of_ble_eq_true rfl) ?_
  show mx_W _ (mx_nth cd_M_choice) (0, [some (.inr (.inr (some m))), some (.inl (nI f))], [], h) _
  refine mw_go rfl rfl ?_
  refine mv_gR rfl rfl S.1 (S.r 16 rfl) ?_
  refine mw_go rfl rfl ?_
  refine mv_ial rfl rfl (S.a 16 rfl) rfl hf (by decide) h13 ?_
  refine mw_go rfl rfl ?_
  refine mw_ifF (by decide) ?_
  refine mw_go rfl rfl ?_
  refine mv_gR rfl rfl S.1 (S.r 20 rfl) ?_
  refine mw_go rfl rfl ?_
  refine mv_ial rfl rfl (S.a 20 rfl) rfl hf (by decide) h17 ?_
  iterate 2 refine mw_go rfl rfl ?_
  refine mw_ifT rfl ?_
  iterate 2 refine mw_go rfl rfl ?_
  refine mw_cn k1 rfl rfl rfl (Nat.le_of_ble_eq_true rfl) ⟨_, rfl, S.1⟩ ?_
  refine mw_go rfl rfl ?_
  refine mw_go rfl rfl ?_
  refine mv_gR rfl rfl S1.1 (S1.r 20 rfl) ?_
  refine mw_go rfl rfl ?_
  refine mv_ial rfl rfl (S1.a 20 rfl) rfl hf (by decide) h17' ?_
  iterate 2 refine mw_go rfl rfl ?_
  refine mw_ifT rfl ?_
  iterate 2 refine mw_go rfl rfl ?_
  refine mw_cn k2 rfl rfl rfl (Nat.le_of_ble_eq_true rfl) ⟨_, rfl, S1.1⟩ ?_
  refine mw_go rfl rfl ?_
  exact mw_r4 rfl ⟨rfl, rfl⟩
theorem M_choice_empty {a : Int32} {w : Int64} (d : Nat) (S : mS m h) (hf : f < 600) (hF : hpI h m 24 = nI (f + 1)) (P : pF m h f (-1) a (nI 0) w) : ∃ h', cl (d + 5) j_M_choice [.inr (.inr (some m)), .inl (nI f)] h none h' ∧ ev m f 6000 h h' ∧ sr m h h' ∧ hpI h' m 24 = nI f ∧ hpI h' m 26 = hpI h m 26 ∧ hpI h' m 27 = nI 4 := by
  obtain ⟨p1, p2, p3, p4, p5, p6⟩ := P
  have E1 : ev m f 6000 h (hwI h (m + 13) f 1) := ev_wI _ (by omega)
  have S1 := E1.S S
  obtain ⟨h', k', E', s', a', b', c'⟩ := M_pop_ok (f := f) (d + 3) S1 (by rw [hpI_wI, if_neg (by omega)]; exact hF) (nI 4)
  refine ⟨h', ?_, ev_tr E1 (ev_mono E' (by omega) (by omega)), fun c => ?_, a', ?_, c'⟩
  · refine cl_of (Nat.le_of_ble_eq_true rfl) ?_
    show mx_W _ (mx_nth cd_M_choice) (0, [some (.inr (.inr (some m))), some (.inl (nI f))], [], h) _
    refine mw_go rfl rfl ?_
    refine mv_gR rfl rfl S.1 (S.r 16 rfl) ?_
    refine mw_go rfl rfl ?_
    refine mv_ial rfl rfl (S.a 16 rfl) rfl hf (by decide) p2 ?_
    refine mw_go rfl rfl ?_
    refine mw_ifT rfl ?_
    refine mw_go rfl rfl ?_
    refine mv_gR rfl rfl S.1 (S.r 16 rfl) ?_
    iterate 2 refine mw_go rfl rfl ?_
    refine mw_ias rfl rfl (S.a 16 rfl) rfl hf (by decide) ?_
    refine mw_go rfl rfl ?_
    refine mv_gR rfl rfl S.1 (S.r 18 rfl) ?_
    refine mw_go rfl rfl ?_
    refine mv_ial (x := nI 0) rfl rfl (S.a 18 rfl) rfl hf (by decide) (by rw [hpI_wI, if_neg (by omega)]; exact p4) ?_
    refine mw_go rfl rfl ?_
    refine mw_ifT rfl ?_
    iterate 2 refine mw_go rfl rfl ?_
    refine mw_cn k' rfl rfl rfl (Nat.le_of_ble_eq_true rfl) ⟨_, rfl, S.1⟩ ?_
    exact mw_r4 rfl ⟨rfl, rfl⟩
  · rw [s', hpI_wI, if_neg (by omega)]
  · rw [b', hpI_wI, if_neg (by omega)]
theorem M_choice_0 {a : Nat} {w : Int64} {ps : List Nat} (d : Nat) (S : mS m h) (T : tOk t) (H : mT m t h) (hf : f < 600) (P : pF m h f (-1) (nI a) (nI ps.length) w) (hne : ps ≠ []) (hps : ∀ p ∈ ps, p < tN t) (hP : PA m h a ps) (ha : a + ps.length ≤ 6000) (hs : fsw t w ps = none) :
    ∃ h1, ev m f 6000 h h1 ∧ sr m h h1 ∧ rS m h h1 ∧ cF m h1 f a ps.length w (-1) 0 0 0 ∧ ∀ h2, cl (d + 4) j_M_plainNext [.inr (.inr (some m)), .inl (nI f)] h1 none h2 → cl (d + 5) j_M_choice [.inr (.inr (some m)), .inl (nI f)] h none h2 := by
  obtain ⟨p1, p2, p3, p4, p5, p6⟩ := P
  refine ⟨hwI (hwI (hwI (hwI (hwI h (m + 13) f 1) (m + 17) f (-1)) (m + 18) f (nI 0)) (m + 20) f (nI 0)) (m + 19) f (nI 0), ?_, ?_, ?_, ?_, ?_⟩
  · exact ev_tr (ev_tr (ev_tr (ev_tr (ev_wI _ (by omega)) (ev_wI _ (by omega))) (ev_wI _ (by omega))) (ev_wI _ (by omega))) (ev_wI _ (by omega))
  · intro c; simp [hpI_wI]
  · refine ⟨?_, ?_, ?_⟩ <;> simp [hpI_wI]
  · refine ⟨?_, ?_, ?_, ?_, p5, ?_, ?_, ?_, ?_⟩ <;> simp [hpI_wI, p1, p3, p4]
  · intro h2 k2
    refine cl_of (Nat.le_of_ble_eq_true rfl) ?_
    show mx_W _ (mx_nth cd_M_choice) (0, [some (.inr (.inr (some m))), some (.inl (nI f))], [], h) _
    have hl : 0 < ps.length := List.length_pos_iff.mpr hne
    refine mw_go rfl rfl ?_
    refine mv_gR rfl rfl S.1 (S.r 16 rfl) ?_
    refine mw_go rfl rfl ?_
    refine mv_ial rfl rfl (S.a 16 rfl) rfl hf (by decide) p2 ?_
    refine mw_go rfl rfl ?_
    refine mw_ifT rfl ?_
    refine mw_go rfl rfl ?_
    refine mv_gR rfl rfl S.1 (S.r 16 rfl) ?_
    iterate 2 refine mw_go rfl rfl ?_
    refine mw_ias rfl rfl (S.a 16 rfl) rfl hf (by decide) ?_
    refine mw_go rfl rfl ?_
    refine mv_gR rfl rfl S.1 (S.r 18 rfl) ?_
    refine mw_go rfl rfl ?_
    refine mv_ial (x := nI ps.length) rfl rfl (S.a 18 rfl) rfl hf (by decide) (by rw [hpI_wI, if_neg (by omega)]; exact p4) ?_
    refine mw_go rfl rfl ?_
    refine mw_ifF (nI_ne0 (by omega) (by omega)) ?_
    refine mw_go rfl rfl ?_
    refine mv_gR rfl rfl S.1 (S.r 20 rfl) ?_
    iterate 3 refine mw_go rfl rfl ?_
    refine mv_gR rfl rfl S.1 (S.r 17 rfl) ?_
    refine mw_go rfl rfl ?_
    refine mv_ial (x := nI a) rfl rfl (S.a 17 rfl) rfl hf (by decide) (by rw [hpI_wI, if_neg (by omega)]; exact p3) ?_
    refine mw_go rfl rfl ?_
    refine mv_gR rfl rfl S.1 (S.r 18 rfl) ?_
    refine mw_go rfl rfl ?_
    refine mv_ial (x := nI ps.length) rfl rfl (S.a 18 rfl) rfl hf (by decide) (by rw [hpI_wI, if_neg (by omega)]; exact p4) ?_
    refine mw_go rfl rfl ?_
    refine mv_gR rfl rfl S.1 (S.r 19 rfl) ?_
    refine mw_go rfl rfl ?_
    refine mv_lal rfl rfl (S.a 19 rfl) rfl hf (by decide) (show hpL (hwI h (m + 13) f 1) (m + 16) f = w from p5) ?_
    have E1 : ev m f 6000 h (hwI h (m + 13) f 1) := ev_wI _ (by omega)
    have kS := M_switchOf_ok (d + 1) (E1.S S) T (E1.H H) hps (PA_ev hP E1 ha) ha w
    rw [hs] at kS
    refine mw_cv kS rfl rfl rfl (Nat.le_of_ble_eq_true rfl) ⟨_, rfl, S.1⟩ ?_
    refine mw_ias rfl rfl (S.a 20 rfl) rfl hf (by decide) ?_
    refine mw_go rfl rfl ?_
    refine mv_gR rfl rfl S.1 (S.r 20 rfl) ?_
    refine mw_go rfl rfl ?_
    refine mv_ial (x := -1) rfl rfl (S.a 20 rfl) rfl hf (by decide) (by rw [hpI_wI, if_pos ⟨rfl, rfl⟩]; rfl) ?_
    iterate 2 refine mw_go rfl rfl ?_
    refine mw_ifT rfl ?_
    refine mw_go rfl rfl ?_
    refine mv_gR rfl rfl S.1 (S.r 21 rfl) ?_
    iterate 2 refine mw_go rfl rfl ?_
    refine mw_ias rfl rfl (S.a 21 rfl) rfl hf (by decide) ?_
    refine mw_go rfl rfl ?_
    refine mv_gR rfl rfl S.1 (S.r 23 rfl) ?_
    iterate 2 refine mw_go rfl rfl ?_
    refine mw_ias rfl rfl (S.a 23 rfl) rfl hf (by decide) ?_
    refine mw_go rfl rfl ?_
    refine mv_gR rfl rfl S.1 (S.r 22 rfl) ?_
    iterate 2 refine mw_go rfl rfl ?_
    refine mw_ias rfl rfl (S.a 22 rfl) rfl hf (by decide) ?_
    refine mw_go rfl rfl ?_
    refine mw_go rfl rfl ?_
    refine mv_gR rfl rfl S.1 (S.r 20 rfl) ?_
    refine mw_go rfl rfl ?_
    refine mv_ial (x := -1) rfl rfl (S.a 20 rfl) rfl hf (by decide) (by rw [hpI_wI, if_neg (by omega), hpI_wI, if_neg (by omega), hpI_wI, if_neg (by omega), hpI_wI, if_pos ⟨rfl, rfl⟩]; rfl) ?_
    iterate 2 refine mw_go rfl rfl ?_
    refine mw_ifT rfl ?_
    iterate 2 refine mw_go rfl rfl ?_
    refine mw_cn (h1 := h2) k2 rfl rfl rfl (Nat.le_of_ble_eq_true rfl) ⟨_, rfl, S.1⟩ ?_
    refine mw_go rfl rfl ?_
    exact mw_r4 rfl ⟨rfl, rfl⟩
theorem M_choice_s {a x v : Nat} {w : Int64} {ps : List Nat} (d : Nat) (S : mS m h) (T : tOk t) (H : mT m t h) (hf : f < 600) (P : pF m h f (-1) (nI a) (nI ps.length) w) (hne : ps ≠ []) (hps : ∀ p ∈ ps, p < tN t) (hP : PA m h a ps) (ha : a + ps.length ≤ 6000) (hs : fsw t w ps = some (x, v)) (hd : ∀ p ∈ ps, ∀ q ∈ ps, ∀ c, tk t p x = some c → tk t q x = some c → p = q) (hnd : ps.Nodup) :
    ∃ h1, ev m f 6000 h h1 ∧ (∀ c, mkR t x ps c → hpI h1 (m + 11) c = hpI h (m + 11) c + 1) ∧ (∀ c, ¬ mkR t x ps c → hpI h1 (m + 11) c = hpI h (m + 11) c) ∧ rS m h h1 ∧ cF m h1 f a ps.length w (nI x) 0 0 0 ∧ ∀ h2, cl (d + 4) j_M_armNext [.inr (.inr (some m)), .inl (nI f)] h1 none h2 → cl (d + 5) j_M_choice [.inr (.inr (some m)), .inl (nI f)] h none h2 := by
  obtain ⟨p1, p2, p3, p4, p5, p6⟩ := P
  obtain ⟨f1, f2, f3, f4, f5, f6⟩ := fsw_spec T hps hs
  have E1 : ev m f 6000 h (hwI h (m + 13) f 1) := ev_wI _ (by omega)
  have E2 : ev m f 6000 h (hwI (hwI h (m + 13) f 1) (m + 17) f (nI x)) := ev_tr E1 (ev_wI _ (by omega))
  have F2 : cfr m (hwI (hwI h (m + 13) f 1) (m + 17) f (nI x)) f a ps.length x := by
    refine ⟨?_, ?_, ?_⟩ <;> simp [hpI_wI, p3, p4]
  obtain ⟨hb, kb, Eb, xb, yb, zb, mb, nb⟩ := M_mark_ok (d + 2) T hf (fun p hp => ⟨hps p hp, f4 p hp⟩) ha f2 hd hnd 1 (E2.S S) (E2.H H) F2 (PA_ev hP E2 ha)
  have eb := fun j (h1 : 12 ≤ j) (h2 : j ≤ 20) => Eb.2.2.2.2.2.1 j f h1 h2 hf
  have Sb := Eb.S (E2.S S)
  refine ⟨hwI (hwI (hwI hb (m + 18) f (nI 0)) (m + 20) f (nI 0)) (m + 19) f (nI 0), ?_, ?_, ?_, ?_, ?_, ?_⟩
  · exact ev_tr (ev_tr (ev_tr (ev_tr E2 (ev_mono Eb (by omega) (by omega))) (ev_wI _ (by omega))) (ev_wI _ (by omega))) (ev_wI _ (by omega))
  · intro c hc; simp [hpI_wI]; rw [mb c hc]; simp [hpI_wI]
  · intro c hc; simp [hpI_wI]; rw [nb c hc]; simp [hpI_wI]
  · refine ⟨?_, ?_, ?_⟩
    · simp [hpI_wI]; rw [xb]; simp [hpI_wI]
    · simp [hpI_wI]; rw [yb]; simp [hpI_wI]
    · simp [hpI_wI]; rw [zb]; simp [hpI_wI]
  · refine ⟨?_, ?_, ?_, ?_, ?_, ?_, ?_, ?_, ?_⟩
    · simp [hpI_wI]; rw [(eb 12 (by omega) (by omega)).1]; simp [hpI_wI, p1]
    · simp [hpI_wI]; rw [(eb 13 (by omega) (by omega)).1]; simp [hpI_wI]
    · simp [hpI_wI]; rw [(eb 14 (by omega) (by omega)).1]; simp [hpI_wI, p3]
    · simp [hpI_wI]; rw [(eb 15 (by omega) (by omega)).1]; simp [hpI_wI, p4]
    · exact (eb 16 (by omega) (by omega)).2.trans p5
    · simp [hpI_wI]; rw [(eb 17 (by omega) (by omega)).1]; simp [hpI_wI]
    · simp [hpI_wI]
    · simp [hpI_wI]
    · simp [hpI_wI]
  · intro h2 k2
    refine cl_of (Nat.le_of_ble_eq_true rfl) ?_
    show mx_W _ (mx_nth cd_M_choice) (0, [some (.inr (.inr (some m))), some (.inl (nI f))], [], h) _
    have hl : 0 < ps.length := List.length_pos_iff.mpr hne
    refine mw_go rfl rfl ?_
    refine mv_gR rfl rfl S.1 (S.r 16 rfl) ?_
    refine mw_go rfl rfl ?_
    refine mv_ial rfl rfl (S.a 16 rfl) rfl hf (by decide) p2 ?_
    refine mw_go rfl rfl ?_
    refine mw_ifT rfl ?_
    refine mw_go rfl rfl ?_
    refine mv_gR rfl rfl S.1 (S.r 16 rfl) ?_
    iterate 2 refine mw_go rfl rfl ?_
    refine mw_ias rfl rfl (S.a 16 rfl) rfl hf (by decide) ?_
    refine mw_go rfl rfl ?_
    refine mv_gR rfl rfl S.1 (S.r 18 rfl) ?_
    refine mw_go rfl rfl ?_
    refine mv_ial (x := nI ps.length) rfl rfl (S.a 18 rfl) rfl hf (by decide) (by rw [hpI_wI, if_neg (by omega)]; exact p4) ?_
    refine mw_go rfl rfl ?_
    refine mw_ifF (nI_ne0 (by omega) (by omega)) ?_
    refine mw_go rfl rfl ?_
    refine mv_gR rfl rfl S.1 (S.r 20 rfl) ?_
    iterate 3 refine mw_go rfl rfl ?_
    refine mv_gR rfl rfl S.1 (S.r 17 rfl) ?_
    refine mw_go rfl rfl ?_
    refine mv_ial (x := nI a) rfl rfl (S.a 17 rfl) rfl hf (by decide) (by rw [hpI_wI, if_neg (by omega)]; exact p3) ?_
    refine mw_go rfl rfl ?_
    refine mv_gR rfl rfl S.1 (S.r 18 rfl) ?_
    refine mw_go rfl rfl ?_
    refine mv_ial (x := nI ps.length) rfl rfl (S.a 18 rfl) rfl hf (by decide) (by rw [hpI_wI, if_neg (by omega)]; exact p4) ?_
    refine mw_go rfl rfl ?_
    refine mv_gR rfl rfl S.1 (S.r 19 rfl) ?_
    refine mw_go rfl rfl ?_
    refine mv_lal rfl rfl (S.a 19 rfl) rfl hf (by decide) (show hpL (hwI h (m + 13) f 1) (m + 16) f = w from p5) ?_
    have kS := M_switchOf_ok (d + 1) (E1.S S) T (E1.H H) hps (PA_ev hP E1 ha) ha w
    rw [hs] at kS
    refine mw_cv kS rfl rfl rfl (Nat.le_of_ble_eq_true rfl) ⟨_, rfl, S.1⟩ ?_
    show mx_W _ _ (36, _, .inl (nI x) :: _, _) _
    refine mw_ias rfl rfl (S.a 20 rfl) rfl hf (by decide) ?_
    refine mw_go rfl rfl ?_
    refine mv_gR rfl rfl S.1 (S.r 20 rfl) ?_
    refine mw_go rfl rfl ?_
    refine mv_ial (x := nI x) rfl rfl (S.a 20 rfl) rfl hf (by decide) (by rw [hpI_wI, if_pos ⟨rfl, rfl⟩]) ?_
    iterate 2 refine mw_go rfl rfl ?_
    refine mw_ifF (nI_m1 (by omega)) ?_
    iterate 3 refine mw_go rfl rfl ?_
    refine mw_cn kb rfl rfl rfl (Nat.le_of_ble_eq_true rfl) ⟨_, rfl, S.1⟩ ?_
    refine mw_go rfl rfl ?_
    refine mv_gR rfl rfl Sb.1 (Sb.r 21 rfl) ?_
    iterate 2 refine mw_go rfl rfl ?_
    refine mw_ias rfl rfl (Sb.a 21 rfl) rfl hf (by decide) ?_
    refine mw_go rfl rfl ?_
    refine mv_gR rfl rfl Sb.1 (Sb.r 23 rfl) ?_
    iterate 2 refine mw_go rfl rfl ?_
    refine mw_ias rfl rfl (Sb.a 23 rfl) rfl hf (by decide) ?_
    refine mw_go rfl rfl ?_
    refine mv_gR rfl rfl Sb.1 (Sb.r 22 rfl) ?_
    iterate 2 refine mw_go rfl rfl ?_
    refine mw_ias rfl rfl (Sb.a 22 rfl) rfl hf (by decide) ?_
    refine mw_go rfl rfl ?_
    refine mw_go rfl rfl ?_
    refine mv_gR rfl rfl Sb.1 (Sb.r 20 rfl) ?_
    refine mw_go rfl rfl ?_
    refine mv_ial (x := nI x) rfl rfl (Sb.a 20 rfl) rfl hf (by decide) (by rw [hpI_wI, if_neg (by omega), hpI_wI, if_neg (by omega), hpI_wI, if_neg (by omega), (eb 17 (by omega) (by omega)).1, hpI_wI, if_pos ⟨rfl, rfl⟩]) ?_
    iterate 2 refine mw_go rfl rfl ?_
    refine mw_ifF (nI_m1 (by omega)) ?_
    iterate 2 refine mw_go rfl rfl ?_
    refine mw_cn (h1 := h2) k2 rfl rfl rfl (Nat.le_of_ble_eq_true rfl) ⟨_, rfl, Sb.1⟩ ?_
    exact mw_r4 rfl ⟨rfl, rfl⟩
end
