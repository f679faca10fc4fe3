/-! CountDesk: startOver, clear, its constructor. -/
def t0 : tr := (1, fun _ => (0, 0, [], 0, 0, 0, 0, 0))
theorem t0_ok : tOk t0 := by
  refine ⟨Nat.le_refl _, by decide, fun i hi => ?_⟩
  have hi : i < 1 := hi
  obtain rfl : i = 0 := by omega
  exact ⟨by decide, by decide, fun c hc => (by cases hc), List.nodup_nil, fun _ => rfl, fun _ => by decide, fun _ => by decide, fun q => absurd q (by decide), fun q => absurd q (by decide), fun q => by omega⟩
theorem t0_k : kB t0 (fun _ => 0) ∧ kOk t0 (fun _ => 0) := ⟨fun i _ => ⟨show 0 < 5 by decide, fun q => absurd (show (0 : Nat) = 4 from q) (by decide)⟩, fun i _ => rfl⟩
def dB (D ar s tp oa z u : Nat) (G : mx_H) (h : mx_H) (aa : Nat → Nat) (M : Nat) : Prop :=
  hpK h D = some (.inl 3) ∧ hpR h D 0 = some ar ∧ hpR h D 1 = some s ∧ hpK h ar = some (.inr (2, 250)) ∧ sP h s tp oa aa M ∧ hOk h ∧ hpZ h ≤ z + M ∧ hpU h ≤ u + 11 * M ∧ cFr G h
theorem nRoot (h : mx_H) : nAt (fun _ => hpZ h) t0 (fun _ => 0) (hNi (hnw h (.inl 1) 15) (hpZ h) 0 0) 0 := by
  unfold nAt
  refine ⟨?_, ?_, ?_, ?_, ?_, ?_, ?_, ?_, ?_, ?_, ?_, ?_, ?_⟩ <;> simp [t0, Chn, hNi, hpK_wI, hpK_wL, hpI_wI, hpI_wL, hpL_wI, hpL_wL, hpR_wI, hpR_wL, hpK_nw, hpI_nw, hpL_nw, hpR_nw, oI, nI_0] <;> rfl
section
variable {D ar s tp oa z u : Nat} {G : mx_H} {h : mx_H} {aa : Nat → Nat} {M : Nat}
theorem D_startOver_ok (d : Nat) (W : dB D ar s tp oa z u G h aa M) : ∃ h', cl (d + 2) j_D_startOver [.inr (.inr (some D))] h none h' ∧ dP D ar s tp oa (z + 1) (u + 15) G 0 0 t0 h' := by
  have walk : mx_W (mx_Call mx_prog (d + 1)) (mx_nth cd_D_startOver) (0, [some (.inr (.inr (some D)))], [], h) (fun r1 h' => r1 = none ∧ dP D ar s tp oa (z + 1) (u + 15) G 0 0 t0 h') := by
    obtain ⟨w1, w2, w3, w4, w5, w6, w7, w8, w9⟩ := W
    refine mw_go rfl rfl ?_
    refine mv_gR rfl rfl w1 w2 ?_
    iterate 5 refine mw_go rfl rfl ?_
    have F0 := frN_nw h
    refine mw_cn (N_init_ok d (hnw h (.inl 1) 15) (a := hpZ h) F0.2.2.2 0 0) rfl rfl rfl (Nat.le_of_ble_eq_true rfl) ⟨_, rfl⟩ ?_
    have F1 := frN_ni F0 0 0
    have N1 := nRoot h
    have E := frN_ex F1 w6
    have ok2 := frN_ok F1 w6
    have nD : D ≠ hpZ h := fun e => by rw [e, w6 _ (Nat.le_refl _)] at w1; cases w1
    have na' : ar ≠ hpZ h := fun e => by rw [e, w6 _ (Nat.le_refl _)] at w4; cases w4
    have nDa : D ≠ ar := fun e => by rw [e, w4] at w1; cases w1
    generalize hNi (hnw h (.inl 1) 15) (hpZ h) 0 0 = h2 at F1 N1 E ok2 ⊢
    have eD := E D (by rw [w1]; simp)
    have ea := E ar (by rw [w4]; simp)
    refine mw_aas (v := 0) rfl rfl (ea.1.trans w4) rfl (by decide) (by decide) (fun b hb => by cases hb; exact F1.2.2.2) ?_
    iterate 2 refine mw_go rfl rfl ?_
    have k3 : hpK (hwR h2 ar 0 (some (hpZ h))) D = some (.inl 3) := eD.1.trans w1
    refine mw_pI rfl rfl k3 ?_
    refine mw_go rfl rfl ?_
    refine mw_cv (D_empty_ok d (hwI (hwR h2 ar 0 (some (hpZ h))) D 2 1) k3) rfl rfl rfl (Nat.le_of_ble_eq_true rfl) ⟨_, rfl, k3⟩ ?_
    refine mw_go rfl rfl ?_
    refine mw_r4 rfl ⟨rfl, ?_⟩
    have P2 := sP_ex w5 E
    have W4 : dW D ar s tp oa (z + 1) (u + 15) G (hpL (hwI (hwR h2 ar 0 (some (hpZ h))) D 2 1) D 3) (hpI (hwI (hwR h2 ar 0 (some (hpZ h))) D 2 1) D 4) (hwI (hwR h2 ar 0 (some (hpZ h))) D 2 1) aa M (fun _ => hpZ h) t0 (fun _ => 0) := by
      obtain ⟨p1, p2, p3, p4, p5, p6, p7, p8, p9⟩ := P2
      have nsa : s ≠ ar := fun e => by rw [e, ea.1, w4] at p1; cases p1
      have noa : oa ≠ ar := fun e => by rw [e, ea.1, w4] at p5; cases p5
      refine ⟨⟨k3, ?_, ?_, ea.1.trans w4, ⟨p1, ?_, ?_, p4, p5, p6, fun k hk => ?_, p8, fun k a b => ?_⟩, ok2, ?_, fun i hi => ?_, fun i hi => ?_⟩, rfl, rfl, ?_, ?_, cFr_tr w9 (cFr_tr (hEx_cFr E) (cFr_tr (cFr_wR (ea.1.trans w4) (mK_a2 _)) (cFr_wI (h := hwR h2 ar 0 (some (hpZ h))) k3 mK_n3)))⟩
      · rw [hpR_wI, hpR_wR, if_neg (fun q => nDa q.1)]; exact (eD.2 0).2.2.trans w2
      · rw [hpR_wI, hpR_wR, if_neg (fun q => nDa q.1)]; exact (eD.2 1).2.2.trans w3
      · rw [hpR_wI, hpR_wR, if_neg (fun q => nsa q.1)]; exact p2
      · rw [hpR_wI, hpR_wR, if_neg (fun q => nsa q.1)]; exact p3
      · obtain ⟨q1, q2, q3⟩ := p7 k hk
        exact ⟨by rw [hpR_wI, hpR_wR, if_neg (fun q => noa q.1)]; exact q1, q2, q3⟩
      · rw [hpR_wI, hpR_wR, if_neg (fun q => noa q.1)]; exact p9 k a b
      · rw [hpI_wI, if_pos ⟨rfl, rfl⟩]; rfl
      · have hi : i < 1 := hi
        rw [hpR_wI, hpR_wR, if_pos ⟨rfl, by omega⟩]
      · have hi : i < 1 := hi
        obtain rfl : i = 0 := by omega
        have nZD : ¬ hpZ h = D := fun e => nD e.symm
        have nZa : ¬ hpZ h = ar := fun e => na' e.symm
        have hI : ∀ k, hpI (hwI (hwR h2 ar 0 (some (hpZ h))) D 2 1) (hpZ h) k = hpI h2 (hpZ h) k := fun k => by rw [hpI_wI, if_neg (fun q => nZD q.1)]; rfl
        have hR : ∀ k, hpR (hwI (hwR h2 ar 0 (some (hpZ h))) D 2 1) (hpZ h) k = hpR h2 (hpZ h) k := fun k => by rw [hpR_wI, hpR_wR, if_neg (fun q => nZa q.1)]
        obtain ⟨b1, b2, b3, b4, b5, b6, b7, b8, b9, b10, b11, b12, b13⟩ := N1
        exact ⟨b1, by rw [hI]; exact b2, b3, by rw [hI]; exact b4, by rw [hI]; exact b5, by rw [hI]; exact b6, by rw [hI]; exact b7, by rw [hI]; exact b8, by rw [hI]; exact b9, by rw [hI]; exact b10, by rw [hR]; exact b11, by rw [hR]; exact b12, by rw [hR]; exact b13⟩
      · show hpZ h2 ≤ _
        rw [F1.1]; omega
      · show hpU h2 ≤ _
        rw [F1.2.1]; omega
    exact ⟨aa, M, _, _, dW_wt t0_ok W4 0 0, t0_k.1, t0_k.2, t0_ok⟩
  obtain ⟨r1, h', hcl, rfl, K'⟩ := mc_of (prog := mx_prog) (j := j_D_startOver) (as := [.inr (.inr (some D))]) (Nat.le_of_ble_eq_true rfl) walk
  exact ⟨h', hcl, K'⟩
theorem D_clear_ok (d : Nat) {w : Int64} {r : Int32} {t : tr} (I : dP D ar s tp oa z u G w r t h) : ∃ h', cl (d + 3) j_D_clear [.inr (.inr (some D))] h none h' ∧ dP D ar s tp oa (z + 1) (u + 15) G 0 0 t0 h' := by
  obtain ⟨aa, M, na, κ, ⟨⟨w1, w2, w3, w4, w5, w6, w7, w8, w9⟩, w10, w11, w12, w13, w14⟩, B, K, T⟩ := I
  obtain ⟨h', c, I'⟩ := D_startOver_ok d (D := D) (ar := ar) (s := s) (tp := tp) (oa := oa) (z := z) (u := u) (G := G) (h := h) (aa := aa) (M := M) ⟨w1, w2, w3, w4, w5, w6, w12, w13, w14⟩
  refine ⟨h', ?_, I'⟩
  refine cl_of (Nat.le_of_ble_eq_true rfl) ?_
  show mx_W _ (mx_nth cd_D_clear) (0, [some (.inr (.inr (some D)))], [], h) _
  refine mw_go rfl rfl ?_
  refine mw_cn c rfl rfl rfl (Nat.le_of_ble_eq_true rfl) ⟨_, rfl, w1⟩ ?_
  exact mw_r4 rfl ⟨rfl, rfl⟩
theorem S_init_ok (d : Nat) (hok : hOk h) (hs : hpK h s = some (.inl 2)) : ∃ h', cl (d + 2) j_S_init [.inr (.inr (some s))] h none h' ∧ sP h' s (hpZ h) (hpZ h + 1) (fun _ => 0) 0 ∧ hOk h' ∧ hpZ h' = hpZ h + 2 ∧ hpU h' = hpU h + 261 ∧ ∀ c, hpK h c ≠ none → c ≠ s → hpK h' c = hpK h c ∧ ∀ k, hpI h' c k = hpI h c k ∧ hpL h' c k = hpL h c k ∧ hpR h' c k = hpR h c k := by
  have ns : s ≠ hpZ h := fun e => by rw [e, hok _ (Nat.le_refl _)] at hs; cases hs
  have ns1 : s ≠ hpZ h + 1 := fun e => by rw [e, hok _ (by omega)] at hs; cases hs
  obtain ⟨h3, e3⟩ : ∃ h3, h3 = hwR (hnw (hwR (hnw h (.inl 0) 11) s 0 (some (hpZ h))) (.inr (3, 250)) 250) s 1 (some (hpZ h + 1)) := ⟨_, rfl⟩
  refine ⟨h3, ?_, ?_⟩
  · refine cl_of (Nat.le_of_ble_eq_true rfl) ?_
    show mx_W _ (mx_nth cd_S_init) (0, [some (.inr (.inr (some s)))], [], h) _
    iterate 5 refine mw_go rfl rfl ?_
    refine mw_cn (A_init_ok d (hnw h (.inl 0) 11) (hpZ h)) rfl rfl rfl (Nat.le_of_ble_eq_true rfl) ⟨_, rfl⟩ ?_
    refine mw_pR rfl rfl (show hpK (hnw h (.inl 0) 11) s = some (.inl 2) by rw [hpK_nw, if_neg ns]; exact hs) ?_
    iterate 2 refine mw_go rfl rfl ?_
    refine mw_nar (v := 250) rfl rfl (by decide) ?_
    refine mw_pR rfl rfl ?_ ?_
    · rw [hpK_nw, if_neg (show ¬ s = hpZ (hwR (hnw h (.inl 0) 11) s 0 (some (hpZ h))) from ns1), hpK_wR, hpK_nw, if_neg ns]; exact hs
    · exact mw_r4 rfl ⟨rfl, e3.symm⟩
  · have K3 : ∀ c, hpK h3 c = if c = hpZ h + 1 then some (.inr (3, 250)) else if c = hpZ h then some (.inl 0) else hpK h c := fun c => by rw [e3]; rfl
    have I3 : ∀ c k, hpI h3 c k = if c = hpZ h + 1 then 0 else if c = hpZ h then 0 else hpI h c k := fun c k => by rw [e3]; rfl
    have L3 : ∀ c k, hpL h3 c k = if c = hpZ h + 1 then 0 else if c = hpZ h then 0 else hpL h c k := fun c k => by rw [e3]; rfl
    have R3 : ∀ c k, hpR h3 c k = if c = s ∧ k = 1 then some (hpZ h + 1) else if c = hpZ h + 1 then none else if c = s ∧ k = 0 then some (hpZ h) else if c = hpZ h then none else hpR h c k := fun c k => by rw [e3]; rfl
    have Z3 : hpZ h3 = hpZ h + 2 ∧ hpU h3 = hpU h + 261 := by rw [e3]; exact ⟨rfl, rfl⟩
    clear e3
    refine ⟨⟨?_, ?_, ?_, ?_, ?_, by omega, fun k hk => by omega, fun k l hk => by omega, fun k _ _ => ?_⟩, fun b hb => ?_, Z3.1, Z3.2, fun c hc hcs => ?_⟩
    · rw [K3, if_neg ns1, if_neg ns]; exact hs
    · rw [R3, if_neg (fun q => absurd q.2 (by decide)), if_neg ns1, if_pos ⟨rfl, rfl⟩]
    · rw [R3, if_pos ⟨rfl, rfl⟩]
    · rw [K3, if_neg (by omega), if_pos rfl]
    · rw [K3, if_pos rfl]
    · rw [R3, if_neg (fun q => ns1 q.1.symm), if_pos rfl]
    · rw [Z3.1] at hb
      rw [K3, if_neg (by omega), if_neg (by omega)]; exact hok b (by omega)
    · have n1 : c ≠ hpZ h := fun e => hc (by rw [e]; exact hok _ (Nat.le_refl _))
      have n2 : c ≠ hpZ h + 1 := fun e => hc (by rw [e]; exact hok _ (by omega))
      refine ⟨by rw [K3, if_neg n2, if_neg n1], fun k => ⟨by rw [I3, if_neg n2, if_neg n1], by rw [L3, if_neg n2, if_neg n1], by rw [R3, if_neg (fun q => hcs q.1), if_neg n2, if_neg (fun q => hcs q.1), if_neg n1]⟩⟩
theorem D_init_ok (d : Nat) (hok : hOk h) (hD : hpK h D = some (.inl 3)) : ∃ ar s tp oa h', cl (d + 3) j_D_init [.inr (.inr (some D))] h none h' ∧ dP D ar s tp oa (hpZ h + 5) (hpU h + 529) h 0 0 t0 h' := by
  have nD : D < hpZ h := by
    rcases Nat.lt_or_ge D (hpZ h) with h1 | h1
    · exact h1
    · rw [hok D h1] at hD; cases hD
  obtain ⟨h1, e1⟩ : ∃ h1, h1 = hnw (hwR (hnw h (.inr (2, 250)) 250) D 0 (some (hpZ h))) (.inl 2) 3 := ⟨_, rfl⟩
  have K1 : ∀ c, hpK h1 c = if c = hpZ h + 1 then some (.inl 2) else if c = hpZ h then some (.inr (2, 250)) else hpK h c := fun c => by rw [e1]; rfl
  have I1 : ∀ c k, hpI h1 c k = if c = hpZ h + 1 then 0 else if c = hpZ h then 0 else hpI h c k := fun c k => by rw [e1]; rfl
  have L1 : ∀ c k, hpL h1 c k = if c = hpZ h + 1 then 0 else if c = hpZ h then 0 else hpL h c k := fun c k => by rw [e1]; rfl
  have R1 : ∀ c k, hpR h1 c k = if c = hpZ h + 1 then none else if c = D ∧ k = 0 then some (hpZ h) else if c = hpZ h then none else hpR h c k := fun c k => by rw [e1]; rfl
  have Z1 : hpZ h1 = hpZ h + 2 ∧ hpU h1 = hpU h + 253 := by rw [e1]; exact ⟨rfl, rfl⟩
  have ok1 : hOk h1 := by
    intro b hb
    rw [Z1.1] at hb
    rw [K1, if_neg (by omega), if_neg (by omega)]; exact hok b (by omega)
  obtain ⟨h2, c2, P2, ok2, Z2, U2, E2⟩ := S_init_ok (d := d) (s := hpZ h + 1) ok1 (by rw [K1, if_pos rfl])
  have kD1 : hpK h1 D = some (.inl 3) := by rw [K1, if_neg (by omega), if_neg (by omega)]; exact hD
  have ka1 : hpK h1 (hpZ h) = some (.inr (2, 250)) := by rw [K1, if_neg (by omega), if_pos rfl]
  obtain ⟨eD1, eD2⟩ := E2 D (by rw [kD1]; simp) (by omega)
  obtain ⟨ea1, ea2⟩ := E2 (hpZ h) (by rw [ka1]; simp) (by omega)
  have kD2 := eD1.trans kD1
  obtain ⟨h3, e3⟩ : ∃ h3, h3 = hwR h2 D 1 (some (hpZ h + 1)) := ⟨_, rfl⟩
  have C1 : cFr h h1 := by
    rw [e1]
    refine cFr_tr (cFr_tr (cFr_nw hok _ _) (cFr_wR (h := hnw h (.inr (2, 250)) 250) (q := .inl 3) (a := D) ?_ mK_n3)) (cFr_nw ?_ _ _)
    · rw [hpK_nw, if_neg (by omega)]; exact hD
    · intro b hb
      have hb : hpZ h + 1 ≤ b := hb
      rw [hpK_wR, hpK_nw, if_neg (by omega)]; exact hok b (by omega)
  have C2 : cFr h1 h2 := by
    intro c hc
    have hne := mK_ne hc
    exact E2 c hne.1 (fun e => hne.2.2.2.1 (by rw [e, K1, if_pos rfl]))
  have W3 : dB D (hpZ h) (hpZ h + 1) (hpZ h1) (hpZ h1 + 1) (hpZ h + 4) (hpU h + 514) h h3 (fun _ => 0) 0 := by
    obtain ⟨p1, p2, p3, p4, p5, p6, p7, p8, p9⟩ := P2
    have nDs : hpZ h + 1 ≠ D := by omega
    have nDo : hpZ h1 + 1 ≠ D := by omega
    rw [e3]
    refine ⟨kD2, ?_, ?_, ea1.trans ka1, ⟨p1, ?_, ?_, p4, p5, p6, fun k hk => by omega, fun k l hk => by omega, fun k a b => ?_⟩, ok2, ?_, ?_, cFr_tr (cFr_tr C1 C2) (cFr_wR kD2 mK_n3)⟩
    · rw [hpR_wR, if_neg (fun q => absurd q.2 (by decide)), (eD2 0).2.2, R1, if_neg (by omega), if_pos ⟨rfl, rfl⟩]
    · rw [hpR_wR, if_pos ⟨rfl, rfl⟩]
    · rw [hpR_wR, if_neg (fun q => nDs q.1)]; exact p2
    · rw [hpR_wR, if_neg (fun q => nDs q.1)]; exact p3
    · rw [hpR_wR, if_neg (fun q => nDo q.1)]; exact p9 k a b
    · show hpZ h2 ≤ _
      rw [Z2, Z1.1]; omega
    · show hpU h2 ≤ _
      rw [U2, Z1.2]; omega
  obtain ⟨h', c4, I4⟩ := D_startOver_ok d W3
  refine ⟨_, _, _, _, h', ?_, I4⟩
  refine cl_of (Nat.le_of_ble_eq_true rfl) ?_
  show mx_W _ (mx_nth cd_D_init) (0, [some (.inr (.inr (some D)))], [], h) _
  iterate 4 refine mw_go rfl rfl ?_
  refine mw_nar (v := 250) rfl rfl (by decide) ?_
  refine mw_pR rfl rfl (show hpK (hnw h (.inr (2, 250)) 250) D = some (.inl 3) by rw [hpK_nw, if_neg (by omega)]; exact hD) ?_
  iterate 3 refine mw_go rfl rfl ?_
  show mx_W _ _ (9, _, [.inr (.inr (some (hpZ h + 1))), .inr (.inr (some (hpZ h + 1))), .inr (.inr (some D))], hnw (hwR (hnw h (.inr (2, 250)) 250) D 0 (some (hpZ h))) (.inl 2) 3) _
  rw [← e1]
  refine mw_cn c2 rfl rfl rfl (Nat.le_of_ble_eq_true rfl) ⟨_, rfl⟩ ?_
  refine mw_pR rfl rfl kD2 ?_
  rw [← e3]
  refine mw_go rfl rfl ?_
  refine mw_cn c4 rfl rfl rfl (Nat.le_of_ble_eq_true rfl) ⟨_, rfl, W3.1⟩ ?_
  exact mw_r4 rfl ⟨rfl, rfl⟩
end
