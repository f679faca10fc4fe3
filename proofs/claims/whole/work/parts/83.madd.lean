/-! The reference's add, goal, take. -/
section
variable {m : Nat} {t : tr} {w : Int64} {r : Nat} {h : mx_H}
theorem par_cs (t : tr) (x : Int32) : par t x = none ∨ ∃ p, par t x = some p ∧ x = nI p ∧ p < tN t ∧ tN t < 250 := by
  cases e : par t x with
  | none => exact Or.inl rfl
  | some p =>
    right
    obtain ⟨p1, p2, p3⟩ := par_spec e
    refine ⟨p, rfl, ?_, p1, p2⟩
    unfold par at e
    rcases nd_cs t x with ⟨e1, -⟩ | ⟨i, hi, hi2, hx, e1⟩
    · rw [e1] at e; cases e
    · rw [e1] at e
      dsimp only at e
      by_cases hc : tN t < 250 ∧ trm t i = true
      · rw [if_pos hc] at e; cases e; exact hx
      · rw [if_neg hc] at e; cases e
theorem M_add_ok (d : Nat) (T : tOk t) (x y : Int32) (I : mJ m t w r h) : ∃ h', cl (d + 3) j_M_add [.inr (.inr (some m)), .inl x, .inl y] h (some (.inl (oA t x y).2)) h' ∧ mF m h h' ∧ mJ m (oA t x y).1 0 0 h' := by
  have I0 := mJ_th 0 I
  have F0 : mF m h (hwI h m 0 0) := mF_wm 0 0
  have walk : mx_W (mx_Call mx_prog (d + 2)) (mx_nth cd_M_add) (0, [some (.inr (.inr (some m))), some (.inl x), some (.inl y)], [], h) (fun r1 h' => r1 = some (.inl (oA t x y).2) ∧ mF m h h' ∧ mJ m (oA t x y).1 0 0 h') := by
    iterate 2 refine mw_go rfl rfl ?_
    refine mw_pI rfl rfl I.1.1 ?_
    generalize hwI h m 0 0 = h0 at I0 F0 ⊢
    refine mw_go rfl rfl ?_
    refine mw_cn (M_emptyRow_ok (d + 1) I0.1) rfl rfl rfl (Nat.le_of_ble_eq_true rfl) ⟨_, rfl, I0.1.1⟩ ?_
    obtain ⟨F1, I1⟩ := mJ_er I0
    have F1 := mF_tr F0 F1
    generalize hwI (hwL h0 m 12 0) m 13 0 = h1 at I1 F1 ⊢
    have S := I1.1
    have no : oA t x y = (t, -1) → mx_W (mx_Call mx_prog (d + 2)) (mx_nth cd_M_add) (19, [some (.inr (.inr (some m))), some (.inl x), some (.inl y)], [], h1) (fun r1 h' => r1 = some (.inl (oA t x y).2) ∧ mF m h h' ∧ mJ m (oA t x y).1 0 0 h') := by
      intro e
      rw [e]
      refine mw_go rfl rfl ?_
      exact mw_r0 rfl ⟨rfl, F1, I1⟩
    iterate 2 refine mw_go rfl rfl ?_
    refine mw_cv (M_isParent_ok d S T I1.2.1 x) rfl rfl rfl (Nat.le_of_ble_eq_true rfl) ⟨_, rfl, S.1⟩ ?_
    refine mw_go rfl rfl ?_
    rcases par_cs t x with e | ⟨p, e, rfl, hp, hN⟩
    · have eO : oA t x y = (t, -1) := by unfold oA; rw [e]
      rw [e]
      refine mw_ifT rfl ?_
      exact no eO
    · have eO : oA t (nI p) y = if ¬ y < 0 ∧ y ≤ 3 then (tAd t p y.toNatClampNeg 0 0 0 0, nI (tN t)) else (t, -1) := by unfold oA; rw [e]
      rw [e]
      refine mw_ifF (show ¬ bI true = 0 by decide) ?_
      iterate 2 refine mw_go rfl rfl ?_
      refine mw_if _ (fun hc => no (by rw [eO, if_neg (fun q => q.1 hc)])) (fun h0' => ?_)
      iterate 3 refine mw_go rfl rfl ?_
      refine mw_if _ (fun hc => no (by rw [eO, if_neg (fun q => Int32.not_le.mpr hc q.2)])) (fun h3 => ?_)
      have h3 := Int32.not_lt.mp h3
      obtain ⟨j, hj, rfl⟩ := nI_of2 (M := 3) (n := 3) rfl h0' h3
      rw [if_pos ⟨h0', h3⟩, nI_clamp (by omega)] at eO
      rw [eO]
      iterate 3 refine mw_go rfl rfl ?_
      obtain ⟨h2, k2, N2⟩ := M_made_ok (s := j) (d + 1) S T I1.2.1 hN hp I1.2.2.2.1
      refine mw_cv k2 rfl rfl rfl (Nat.le_of_ble_eq_true rfl) ⟨_, rfl, S.1⟩ ?_
      refine mw_go rfl rfl ?_
      refine mw_r0 rfl ⟨rfl, mF_tr F1 N2.1, ?_⟩
      have e5 : (j == 5) = false := beq_eq_false_iff_ne.mpr (by omega)
      have e3 : decide (3 < j) = false := decide_eq_false (by omega)
      obtain ⟨n1, n2, n3, n4, n5, n6, n7, n8, n9, n10, n11, n12, n13, n14, n15, n16⟩ := id N2
      exact mN_J (v := 0) (g := 0) (a := 0) I1 N2 mF_rf (fun _ => ⟨rfl, rfl⟩) (fun _ _ _ _ _ => rfl) (fun _ _ => rfl) (by rw [e3]; exact n13) (by rw [e5]; exact n14) (by rw [e5]; exact n15)
  obtain ⟨r1, h', hcl, rfl, K'⟩ := mc_of (prog := mx_prog) (j := j_M_add) (as := [.inr (.inr (some m)), .inl x, .inl y]) (Nat.le_of_ble_eq_true rfl) walk
  exact ⟨h', hcl, K'⟩
theorem M_goal_ok (d : Nat) (T : tOk t) (x y : Int32) (I : mJ m t w r h) : ∃ h', cl (d + 3) j_M_goal [.inr (.inr (some m)), .inl x, .inl y] h (some (.inl (oG t x y w).2)) h' ∧ mF m h h' ∧ mJ m (oG t x y w).1 0 0 h' := by
  have I0 := mJ_th 0 I
  have F0 : mF m h (hwI h m 0 0) := mF_wm 0 0
  have walk : mx_W (mx_Call mx_prog (d + 2)) (mx_nth cd_M_goal) (0, [some (.inr (.inr (some m))), some (.inl x), some (.inl y), none], [], h) (fun r1 h' => r1 = some (.inl (oG t x y w).2) ∧ mF m h h' ∧ mJ m (oG t x y w).1 0 0 h') := by
    iterate 2 refine mw_go rfl rfl ?_
    refine mw_pI rfl rfl I.1.1 ?_
    generalize hwI h m 0 0 = h0 at I0 F0 ⊢
    have S := I0.1
    have fin : ∀ (v : Int32) (t' : tr) (w' : Int64) (r' : Nat) (h1 : mx_H), mF m h h1 → mJ m t' w' r' h1 → oG t x y w = (t', v) → mx_W (mx_Call mx_prog (d + 2)) (mx_nth cd_M_goal) (27, [some (.inr (.inr (some m))), some (.inl x), some (.inl y), some (.inl v)], [], h1) (fun r1 h' => r1 = some (.inl (oG t x y w).2) ∧ mF m h h' ∧ mJ m (oG t x y w).1 0 0 h') := by
      intro v t' w' r' h1 F1 I1 e
      rw [e]
      refine mw_go rfl rfl ?_
      refine mw_cn (M_emptyRow_ok (d + 1) I1.1) rfl rfl rfl (Nat.le_of_ble_eq_true rfl) ⟨_, rfl, I1.1.1⟩ ?_
      obtain ⟨F2, I2⟩ := mJ_er I1
      refine mw_go rfl rfl ?_
      exact mw_r0 rfl ⟨rfl, mF_tr F1 F2, I2⟩
    have no : oG t x y w = (t, -1) → mx_W (mx_Call mx_prog (d + 2)) (mx_nth cd_M_goal) (17, [some (.inr (.inr (some m))), some (.inl x), some (.inl y), none], [], h0) (fun r1 h' => r1 = some (.inl (oG t x y w).2) ∧ mF m h h' ∧ mJ m (oG t x y w).1 0 0 h') := by
      intro e
      iterate 5 refine mw_go rfl rfl ?_
      refine mw_ifT rfl ?_
      exact fin (-1) t w r h0 F0 I0 e
    iterate 2 refine mw_go rfl rfl ?_
    refine mw_cv (M_isParent_ok d S T I0.2.1 x) rfl rfl rfl (Nat.le_of_ble_eq_true rfl) ⟨_, rfl, S.1⟩ ?_
    refine mw_go rfl rfl ?_
    rcases par_cs t x with e | ⟨p, e, rfl, hp, hN⟩
    · have eO : oG t x y w = (t, -1) := by unfold oG; rw [e]
      rw [e]
      refine mw_ifT rfl ?_
      exact no eO
    · have eO : oG t (nI p) y w = if ¬ y < 0 ∧ y ≤ 4 then (tAd t p 4 y.toNatClampNeg 0 0 w, nI (tN t)) else (t, -1) := by unfold oG; rw [e]
      rw [e]
      refine mw_ifF (show ¬ bI true = 0 by decide) ?_
      iterate 2 refine mw_go rfl rfl ?_
      refine mw_if _ (fun hc => no (by rw [eO, if_neg (fun q => q.1 hc)])) (fun h0' => ?_)
      iterate 3 refine mw_go rfl rfl ?_
      refine mw_if _ (fun hc => no (by rw [eO, if_neg (fun q => Int32.not_le.mpr hc q.2)])) (fun h3 => ?_)
      have h3 := Int32.not_lt.mp h3
      obtain ⟨j, hj, rfl⟩ := nI_of2 (M := 4) (n := 4) rfl h0' h3
      rw [if_pos ⟨h0', h3⟩, nI_clamp (by omega)] at eO
      iterate 3 refine mw_go rfl rfl ?_
      obtain ⟨h2, k2, N2⟩ := M_made_ok (s := 4) (d + 1) S T I0.2.1 hN hp I0.2.2.2.1
      refine mw_cv k2 rfl rfl rfl (Nat.le_of_ble_eq_true rfl) ⟨_, rfl, S.1⟩ ?_
      have S2 : mS m h2 := mS_cg S N2.1.1 N2.1.2.1
      iterate 5 refine mw_go rfl rfl ?_
      refine mw_ifF (nI_m1 (by omega)) ?_
      refine mw_go rfl rfl ?_
      refine mv_gR rfl rfl S2.1 (S2.r 8 rfl) ?_
      iterate 2 refine mw_go rfl rfl ?_
      refine mw_ias rfl rfl (S2.a 8 rfl) rfl hN (by decide) ?_
      obtain ⟨n1, n2, n3, n4, n5, n6, n7, n8, n9, n10, n11, n12, n13, n14, n15, n16⟩ := id N2
      refine fin (nI (tN t)) _ w r _ (mF_tr F0 (mF_tr N2.1 (mF_wI 7 _ _ (by omega)))) (mN_J (v := j) (g := 0) (a := 0) I0 N2 (mF_wI 7 _ _ (by omega)) (fun k => ⟨by rw [hpI_wI, if_neg (by omega)], rfl⟩) (fun j k a b c => by rw [hpI_wI, if_neg (by omega)]) (fun _ _ => rfl) ?_ ?_ ?_) eO
      · rw [hpI_wI, if_pos ⟨rfl, rfl⟩]; rfl
      · rw [hpI_wI, if_neg (by omega)]; exact n14
      · rw [hpI_wI, if_neg (by omega)]; exact n15
  obtain ⟨r1, h', hcl, rfl, K'⟩ := mc_of (prog := mx_prog) (j := j_M_goal) (as := [.inr (.inr (some m)), .inl x, .inl y]) (Nat.le_of_ble_eq_true rfl) walk
  exact ⟨h', hcl, K'⟩
theorem M_take_ok (d : Nat) (T : tOk t) (x v g a : Int32) (I : mJ m t w r h) : ∃ h', cl (d + 3) j_M_take [.inr (.inr (some m)), .inl x, .inl v, .inl g, .inl a] h (some (.inl (oT t x v g a w).2)) h' ∧ mF m h h' ∧ mJ m (oT t x v g a w).1 0 0 h' := by
  have I0 := mJ_th 0 I
  have F0 : mF m h (hwI h m 0 0) := mF_wm 0 0
  have walk : mx_W (mx_Call mx_prog (d + 2)) (mx_nth cd_M_take) (0, [some (.inr (.inr (some m))), some (.inl x), some (.inl v), some (.inl g), some (.inl a), none, none], [], h) (fun r1 h' => r1 = some (.inl (oT t x v g a w).2) ∧ mF m h h' ∧ mJ m (oT t x v g a w).1 0 0 h') := by
    iterate 2 refine mw_go rfl rfl ?_
    refine mw_pI rfl rfl I.1.1 ?_
    generalize hwI h m 0 0 = h0 at I0 F0 ⊢
    have S := I0.1
    have fin : ∀ (u : Int32) (z : Option mx_V) (t' : tr) (w' : Int64) (r' : Nat) (h1 : mx_H), mF m h h1 → mJ m t' w' r' h1 → oT t x v g a w = (t', u) → mx_W (mx_Call mx_prog (d + 2)) (mx_nth cd_M_take) (57, [some (.inr (.inr (some m))), some (.inl x), some (.inl v), some (.inl g), some (.inl a), z, some (.inl u)], [], h1) (fun r1 h' => r1 = some (.inl (oT t x v g a w).2) ∧ mF m h h' ∧ mJ m (oT t x v g a w).1 0 0 h') := by
      intro u z t' w' r' h1 F1 I1 e
      rw [e]
      refine mw_go rfl rfl ?_
      refine mw_cn (M_emptyRow_ok (d + 1) I1.1) rfl rfl rfl (Nat.le_of_ble_eq_true rfl) ⟨_, rfl, I1.1.1⟩ ?_
      obtain ⟨F2, I2⟩ := mJ_er I1
      refine mw_go rfl rfl ?_
      exact mw_r0 rfl ⟨rfl, mF_tr F1 F2, I2⟩
    have no : oT t x v g a w = (t, -1) → mx_W (mx_Call mx_prog (d + 2)) (mx_nth cd_M_take) (29, [some (.inr (.inr (some m))), some (.inl x), some (.inl v), some (.inl g), some (.inl a), none, none], [], h0) (fun r1 h' => r1 = some (.inl (oT t x v g a w).2) ∧ mF m h h' ∧ mJ m (oT t x v g a w).1 0 0 h') := by
      intro e
      iterate 4 refine mw_go rfl rfl ?_
      refine mw_ifT rfl ?_
      iterate 4 refine mw_go rfl rfl ?_
      refine mw_ifT rfl ?_
      exact fin (-1) _ t w r h0 F0 I0 e
    iterate 2 refine mw_go rfl rfl ?_
    refine mw_cv (M_isParent_ok d S T I0.2.1 x) rfl rfl rfl (Nat.le_of_ble_eq_true rfl) ⟨_, rfl, S.1⟩ ?_
    refine mw_go rfl rfl ?_
    rcases par_cs t x with e | ⟨p, e, rfl, hp, hN⟩
    · have eO : oT t x v g a w = (t, -1) := by unfold oT; rw [e]
      rw [e]
      refine mw_ifT rfl ?_
      exact no eO
    · have eO : oT t (nI p) v g a w = if vr v = true ∧ vc g a = true then (tAd t p 5 v.toNatClampNeg g.toNatClampNeg a.toNatClampNeg w, nI (tN t)) else (t, -1) := by unfold oT; rw [e]
      have bad1 : ¬ (¬ v < 0 ∧ v < 60) → oT t (nI p) v g a w = (t, -1) := fun q => by rw [eO, if_neg (fun z => q (of_decide_eq_true z.1))]
      have bad2 : ¬ (¬ a < 0 ∧ a ≤ 100 ∧ ¬ g < 0 ∧ g < 100 ∧ (a = 0 ∨ g < a)) → oT t (nI p) v g a w = (t, -1) := fun q => by rw [eO, if_neg (fun z => q (of_decide_eq_true z.2))]
      rw [e]
      refine mw_ifF (show ¬ bI true = 0 by decide) ?_
      iterate 2 refine mw_go rfl rfl ?_
      refine mw_if _ (fun hc => no (bad1 (fun q => q.1 hc))) (fun v1 => ?_)
      iterate 3 refine mw_go rfl rfl ?_
      refine mw_if _ (fun hc => no (bad1 (fun q => Int32.not_le.mpr q.2 hc))) (fun v2 => ?_)
      iterate 2 refine mw_go rfl rfl ?_
      refine mw_if _ (fun hc => no (bad2 (fun q => q.1 hc))) (fun a1 => ?_)
      iterate 3 refine mw_go rfl rfl ?_
      refine mw_if _ (fun hc => no (bad2 (fun q => Int32.not_le.mpr hc q.2.1))) (fun a2 => ?_)
      iterate 2 refine mw_go rfl rfl ?_
      refine mw_if _ (fun hc => no (bad2 (fun q => q.2.2.1 hc))) (fun g1 => ?_)
      iterate 3 refine mw_go rfl rfl ?_
      refine mw_if _ (fun hc => no (bad2 (fun q => Int32.not_le.mpr q.2.2.2.1 hc))) (fun g2 => ?_)
      have v2 := Int32.not_le.mp v2
      have a2 := Int32.not_lt.mp a2
      have g2 := Int32.not_le.mp g2
      have yes : (a = 0 ∨ g < a) → mx_W (mx_Call mx_prog (d + 2)) (mx_nth cd_M_take) (27, [some (.inr (.inr (some m))), some (.inl (nI p)), some (.inl v), some (.inl g), some (.inl a), none, none], [], h0) (fun r1 h' => r1 = some (.inl (oT t (nI p) v g a w).2) ∧ mF m h h' ∧ mJ m (oT t (nI p) v g a w).1 0 0 h') := by
        intro hag
        have hvr : vr v = true := decide_eq_true ⟨v1, v2⟩
        have hvc : vc g a = true := decide_eq_true ⟨a1, a2, g1, g2, hag⟩
        rw [if_pos ⟨hvr, hvc⟩] at eO
        obtain ⟨jv, hjv, rfl⟩ := nI_of v1
        obtain ⟨jg, hjg, rfl⟩ := nI_of g1
        obtain ⟨ja, hja, rfl⟩ := nI_of a1
        rw [nI_clamp hjv, nI_clamp hjg, nI_clamp hja] at eO
        iterate 4 refine mw_go rfl rfl ?_
        refine mw_go rfl rfl ?_
        refine mw_ifF (by decide) ?_
        iterate 3 refine mw_go rfl rfl ?_
        obtain ⟨h2, k2, N2⟩ := M_made_ok (s := 5) (d + 1) S T I0.2.1 hN hp I0.2.2.2.1
        refine mw_cv k2 rfl rfl rfl (Nat.le_of_ble_eq_true rfl) ⟨_, rfl, S.1⟩ ?_
        have S2 : mS m h2 := mS_cg S N2.1.1 N2.1.2.1
        iterate 4 refine mw_go rfl rfl ?_
        refine mw_ifF (by decide) ?_
        refine mw_go rfl rfl ?_
        refine mv_gR rfl rfl S2.1 (S2.r 8 rfl) ?_
        iterate 2 refine mw_go rfl rfl ?_
        refine mw_ias rfl rfl (S2.a 8 rfl) rfl hN (by decide) ?_
        refine mw_go rfl rfl ?_
        refine mv_gR rfl rfl S2.1 (S2.r 9 rfl) ?_
        iterate 2 refine mw_go rfl rfl ?_
        refine mw_ias rfl rfl (S2.a 9 rfl) rfl hN (by decide) ?_
        refine mw_go rfl rfl ?_
        refine mv_gR rfl rfl S2.1 (S2.r 10 rfl) ?_
        iterate 2 refine mw_go rfl rfl ?_
        refine mw_ias rfl rfl (S2.a 10 rfl) rfl hN (by decide) ?_
        have F3 : mF m h2 (hwI (hwI (hwI h2 (m + 7) (tN t) (nI jv)) (m + 8) (tN t) (nI jg)) (m + 9) (tN t) (nI ja)) := mF_tr (mF_tr (mF_wI 7 _ _ (by omega)) (mF_wI 8 _ _ (by omega))) (mF_wI 9 _ _ (by omega))
        refine fin (nI (tN t)) _ _ w r _ (mF_tr F0 (mF_tr N2.1 F3)) (mN_J (v := jv) (g := jg) (a := ja) I0 N2 F3 (fun k => ⟨by rw [hpI_wI, if_neg (by omega), hpI_wI, if_neg (by omega), hpI_wI, if_neg (by omega)], rfl⟩) (fun j k a b c => by rw [hpI_wI, if_neg (by omega), hpI_wI, if_neg (by omega), hpI_wI, if_neg (by omega)]) (fun _ _ => rfl) ?_ ?_ ?_) eO
        · rw [hpI_wI, if_neg (by omega), hpI_wI, if_neg (by omega), hpI_wI, if_pos ⟨rfl, rfl⟩]; rfl
        · rw [hpI_wI, if_neg (by omega), hpI_wI, if_pos ⟨rfl, rfl⟩]; rfl
        · rw [hpI_wI, if_pos ⟨rfl, rfl⟩]; rfl
      iterate 2 refine mw_go rfl rfl ?_
      refine mw_if _ (fun hc => yes (Or.inl hc)) (fun hc => ?_)
      iterate 3 refine mw_go rfl rfl ?_
      refine mw_if _ (fun hge => no (bad2 (fun q => ?_))) (fun hge => yes (Or.inr (Int32.not_le.mp hge)))
      rcases q.2.2.2.2 with q | q
      · exact hc q
      · exact Int32.not_le.mpr q hge
  obtain ⟨r1, h', hcl, rfl, K'⟩ := mc_of (prog := mx_prog) (j := j_M_take) (as := [.inr (.inr (some m)), .inl x, .inl v, .inl g, .inl a]) (Nat.le_of_ble_eq_true rfl) walk
  exact ⟨h', hcl, K'⟩
end
