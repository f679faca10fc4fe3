/-! CountDesk: put, add, goal, take. -/
/-- after a call of the class: the tree t, what WAITS, in the room z, u -/
def dP (D ar s tp oa z u : Nat) (G : mx_H) (w : Int64) (r : Int32) (t : tr) (h : mx_H) : Prop := ∃ aa M na κ, dW D ar s tp oa z u G w r h aa M na t κ ∧ kB t κ ∧ kOk t κ ∧ tOk t
def oPw (w : Int64) (r : Nat) (x : Int32) : Int64 := if r < 7 ∧ vr x = true then w ||| bL x.toNatClampNeg else w
def oPr (r : Nat) (x : Int32) : Nat := if r < 7 ∧ vr x = true then r + 1 else r
def oPa (r : Nat) (x : Int32) : Int32 := bI (decide (r < 7 ∧ vr x = true))
theorem nFr_new (h : mx_H) {s' : Nat} (v g a : Nat) (m : Int64) (h5 : ¬ s' = 5) : nFr (hNi (hnw h (.inl 1) 15) (hpZ h) (nI s') m) (hpZ h) s' v g a m 0 0 := by
  have e : (s' == 5) = false := beq_eq_false_iff_ne.mpr h5
  unfold nFr
  rw [e]
  refine ⟨?_, ?_, ?_, ?_, ?_, ?_, ?_, ?_, ?_, ?_, ?_, ?_⟩ <;> simp [hNi, hpK_wI, hpK_wL, hpI_wI, hpI_wL, hpL_wI, hpL_wL, hpR_wI, hpR_wL, hpK_nw, hpI_nw, hpL_nw, hpR_nw, oI, nI_0]
theorem nFr_goal (h : mx_H) (v g a : Nat) (m : Int64) (k0 : Nat) : nFr (hwI (hNi (hnw h (.inl 1) 15) (hpZ h) (nI 4) m) (hpZ h) 4 (nI k0)) (hpZ h) 4 v g a m k0 0 := by
  unfold nFr
  refine ⟨?_, ?_, ?_, ?_, ?_, ?_, ?_, ?_, ?_, ?_, ?_, ?_⟩ <;> simp [hNi, hpK_wI, hpK_wL, hpI_wI, hpI_wL, hpL_wI, hpL_wL, hpR_wI, hpR_wL, hpK_nw, hpI_nw, hpL_nw, hpR_nw, oI, nI_0]
theorem nFr_take (h : mx_H) (v g a : Nat) (m : Int64) (k0 : Nat) : nFr (hwI (hwI (hwI (hwI (hNi (hnw h (.inl 1) 15) (hpZ h) (nI 5) m) (hpZ h) 4 (nI k0)) (hpZ h) 5 (nI v)) (hpZ h) 6 (nI g)) (hpZ h) 7 (nI a)) (hpZ h) 5 v g a m k0 0 := by
  unfold nFr
  refine ⟨?_, ?_, ?_, ?_, ?_, ?_, ?_, ?_, ?_, ?_, ?_, ?_⟩ <;> simp [hNi, hpK_wI, hpK_wL, hpI_wI, hpI_wL, hpL_wI, hpL_wL, hpR_wI, hpR_wL, hpK_nw, hpI_nw, hpL_nw, hpR_nw, oI, nI_0]
section
variable {D ar s tp oa z u : Nat} {G : mx_H} {w : Int64} {r : Int32} {h : mx_H} {t : tr}
theorem D_put_ok (d : Nat) {rn : Nat} (hrn : rn ≤ 7) (x : Int32) (I : dP D ar s tp oa z u G w (nI rn) t h) : ∃ h', cl (d + 2) j_D_put [.inr (.inr (some D)), .inl x] h (some (.inl (oPa rn x))) h' ∧ dP D ar s tp oa z u G (oPw w rn x) (nI (oPr rn x)) t h' := by
  obtain ⟨aa, M, na, κ, W, B, K, T⟩ := I
  have w1 := W.1.1
  have w10 := W.2.1
  have w11 := W.2.2.1
  have walk : mx_W (mx_Call mx_prog (d + 1)) (mx_nth cd_D_put) (0, [some (.inr (.inr (some D))), some (.inl x)], [], h) (fun r1 h' => r1 = some (.inl (oPa rn x)) ∧ dP D ar s tp oa z u G (oPw w rn x) (nI (oPr rn x)) t h') := by
    have no : ¬ (rn < 7 ∧ vr x = true) → mx_W (mx_Call mx_prog (d + 1)) (mx_nth cd_D_put) (7, [some (.inr (.inr (some D))), some (.inl x)], [], h) (fun r1 h' => r1 = some (.inl (oPa rn x)) ∧ dP D ar s tp oa z u G (oPw w rn x) (nI (oPr rn x)) t h') := by
      intro hn
      refine mw_go rfl rfl ?_
      refine mw_r3 rfl (Or.inl rfl) ⟨by rw [oPa, decide_eq_false hn]; rfl, ?_⟩
      rw [oPw, oPr, if_neg hn, if_neg hn]
      exact ⟨aa, M, na, κ, W, B, K, T⟩
    refine mw_go rfl rfl ?_
    refine mv_gI rfl rfl w1 w11 ?_
    iterate 2 refine mw_go rfl rfl ?_
    refine mw_ifP (nI_leI (a := 7) (by omega) (by omega)) (fun hc => no (fun q => by omega)) (fun hc => ?_)
    refine mw_go rfl rfl ?_
    refine mw_cv (D_isVariable_ok d h x) rfl rfl rfl (Nat.le_of_ble_eq_true rfl) trivial ?_
    refine mw_go rfl rfl ?_
    refine mw_ifP (e_bI _) (fun hv => no (fun q => by rw [hv] at q; exact absurd q.2 (by decide))) (fun hv => ?_)
    have hv : vr x = true := by cases hh : vr x with
      | true => rfl
      | false => exact absurd hh hv
    obtain ⟨j, hj, rfl⟩ := vr_spec hv
    iterate 2 refine mw_go rfl rfl ?_
    refine mv_gL rfl rfl w1 w10 ?_
    refine mw_go rfl rfl ?_
    refine mw_cv (N_bit_ok d h j) rfl rfl rfl (Nat.le_of_ble_eq_true rfl) trivial ?_
    refine mw_go rfl rfl ?_
    refine mw_pL rfl rfl w1 ?_
    iterate 2 refine mw_go rfl rfl ?_
    refine mv_gI rfl rfl w1 w11 ?_
    iterate 2 refine mw_go rfl rfl ?_
    refine mw_pI rfl rfl w1 ?_
    refine mw_go rfl rfl ?_
    have hy : rn < 7 ∧ vr (nI j) = true := ⟨by omega, hv⟩
    refine mw_r3 rfl (Or.inr rfl) ⟨by rw [oPa, decide_eq_true hy]; rfl, ?_⟩
    rw [oPw, oPr, if_pos hy, if_pos hy, nI_clamp (by omega)]
    show dP D ar s tp oa z u G (w ||| bL j) (nI (rn + 1)) t (hwI (hwL h D 3 (w ||| bL j)) D 4 (nI rn + 1))
    rw [nI_1]
    exact ⟨aa, M, na, κ, dW_wt T W _ _, B, K, T⟩
  obtain ⟨r1, h', hcl, rfl, K'⟩ := mc_of (prog := mx_prog) (j := j_D_put) (as := [.inr (.inr (some D)), .inl x]) (Nat.le_of_ble_eq_true rfl) walk
  exact ⟨h', hcl, K'⟩
theorem D_add_ok (d : Nat) (x y : Int32) (I : dP D ar s tp oa z u G w r t h) : ∃ h', cl (d + 7) j_D_add [.inr (.inr (some D)), .inl x, .inl y] h (some (.inl (oA t x y).2)) h' ∧ dP D ar s tp oa (z + 1) (u + 15) G 0 0 (oA t x y).1 h' := by
  obtain ⟨aa, M, na, κ, W, B, K, T⟩ := I
  have w1 := W.1.1
  have walk : mx_W (mx_Call mx_prog (d + 6)) (mx_nth cd_D_add) (0, [some (.inr (.inr (some D))), some (.inl x), some (.inl y), none], [], h) (fun r1 h' => r1 = some (.inl (oA t x y).2) ∧ dP D ar s tp oa (z + 1) (u + 15) G 0 0 (oA t x y).1 h') := by
    refine mw_go rfl rfl ?_
    refine mw_cv (D_empty_ok (d + 5) h w1) rfl rfl rfl (Nat.le_of_ble_eq_true rfl) ⟨_, rfl, w1⟩ ?_
    have W1 := dW_wt T W 0 0
    generalize hwI (hwL h D 3 0) D 4 0 = h1 at W1 ⊢
    have x1 := W1.1.1
    iterate 3 refine mw_go rfl rfl ?_
    refine mw_cv (D_open_ok (d + 4) T W1.1 x) rfl rfl rfl (Nat.le_of_ble_eq_true rfl) ⟨_, rfl, x1⟩ ?_
    iterate 3 refine mw_go rfl rfl ?_
    have no : ∀ q, oA t x y = (t, -1) → mx_W (mx_Call mx_prog (d + 6)) (mx_nth cd_D_add) (14, [some (.inr (.inr (some D))), some (.inl x), some (.inl y), q], [], h1) (fun r1 h' => r1 = some (.inl (oA t x y).2) ∧ dP D ar s tp oa (z + 1) (u + 15) G 0 0 (oA t x y).1 h') := by
      intro q e
      refine mw_go rfl rfl ?_
      rw [e]
      exact mw_r0 rfl ⟨rfl, aa, M, na, κ, dW_mono W1 (by omega) (by omega), B, K, T⟩
    cases hp : par t x with
    | none =>
      refine mw_ifT rfl ?_
      exact no _ (by unfold oA; rw [hp])
    | some p =>
      obtain ⟨p1, p2, p3⟩ := par_spec hp
      refine mw_ifF (by simp) ?_
      iterate 2 refine mw_go rfl rfl ?_
      refine mw_if _ (fun hc => no _ (by unfold oA; rw [hp]; exact if_neg (fun q => q.1 hc))) (fun h0 => ?_)
      iterate 3 refine mw_go rfl rfl ?_
      refine mw_if _ (fun h3 => ?_) (fun hc => no _ (by unfold oA; rw [hp]; exact if_neg (fun q => hc q.2)))
      obtain ⟨j, hj, rfl⟩ := nI_of2 (M := 3) (n := 3) rfl h0 h3
      have e : oA t x (nI j) = (tAd t p j 0 0 0 0, nI (tN t)) := by unfold oA; rw [hp]; dsimp only; rw [if_pos ⟨h0, h3⟩, nI_clamp (by omega)]
      rw [e]
      iterate 6 refine mw_go rfl rfl ?_
      have F0 := frN_nw h1
      refine mw_cn (N_init_ok (d + 5) (hnw h1 (.inl 1) 15) (a := hpZ h1) F0.2.2.2 (nI j) 0) rfl rfl rfl (Nat.le_of_ble_eq_true rfl) ⟨_, rfl⟩ ?_
      have F1 := frN_ni F0 (nI j) 0
      have N1 := nFr_new h1 (s' := j) 0 0 0 0 (by omega)
      obtain ⟨W2, hne⟩ := dW_fr T W1 F1
      generalize hNi (hnw h1 (.inl 1) 15) (hpZ h1) (nI j) 0 = h2 at W2 N1 ⊢
      obtain ⟨h', aa', M', na', κ', c3, W3, B3, K3⟩ := D_hang_ok d T W2 B K p1 p2 p3 (by omega) (fun e => by omega) (fun e => by omega) (by omega) N1 hne
      refine mw_cv c3 rfl rfl rfl (Nat.le_of_ble_eq_true rfl) ⟨_, rfl, W2.1.1⟩ ?_
      exact mw_r0 rfl ⟨rfl, aa', M', na', κ', W3, B3, K3, tOk_ad T p2 p1 p3 (by omega) (fun e => by omega) (fun e => by omega)⟩
  obtain ⟨r1, h', hcl, rfl, K'⟩ := mc_of (prog := mx_prog) (j := j_D_add) (as := [.inr (.inr (some D)), .inl x, .inl y]) (Nat.le_of_ble_eq_true rfl) walk
  exact ⟨h', hcl, K'⟩
theorem D_goal_ok (d : Nat) (x y : Int32) (I : dP D ar s tp oa z u G w r t h) : ∃ h', cl (d + 7) j_D_goal [.inr (.inr (some D)), .inl x, .inl y] h (some (.inl (oG t x y w).2)) h' ∧ dP D ar s tp oa (z + 1) (u + 15) G 0 0 (oG t x y w).1 h' := by
  obtain ⟨aa, M, na, κ, W, B, K, T⟩ := I
  have w1 := W.1.1
  have walk : mx_W (mx_Call mx_prog (d + 6)) (mx_nth cd_D_goal) (0, [some (.inr (.inr (some D))), some (.inl x), some (.inl y), none, none, none, none], [], h) (fun r1 h' => r1 = some (.inl (oG t x y w).2) ∧ dP D ar s tp oa (z + 1) (u + 15) G 0 0 (oG t x y w).1 h') := by
    refine mw_go rfl rfl ?_
    refine mw_cv (D_empty_ok (d + 5) h w1) rfl rfl rfl (Nat.le_of_ble_eq_true rfl) ⟨_, rfl, w1⟩ ?_
    rw [W.2.1]
    have W1 := dW_wt T W 0 0
    generalize hwI (hwL h D 3 0) D 4 0 = h1 at W1 ⊢
    have x1 := W1.1.1
    iterate 3 refine mw_go rfl rfl ?_
    refine mw_cv (D_open_ok (d + 4) T W1.1 x) rfl rfl rfl (Nat.le_of_ble_eq_true rfl) ⟨_, rfl, x1⟩ ?_
    iterate 3 refine mw_go rfl rfl ?_
    have no : ∀ q, oG t x y w = (t, -1) → mx_W (mx_Call mx_prog (d + 6)) (mx_nth cd_D_goal) (14, [some (.inr (.inr (some D))), some (.inl x), some (.inl y), some (.inr (.inl w)), none, q, none], [], h1) (fun r1 h' => r1 = some (.inl (oG t x y w).2) ∧ dP D ar s tp oa (z + 1) (u + 15) G 0 0 (oG t x y w).1 h') := by
      intro q e
      refine mw_go rfl rfl ?_
      rw [e]
      exact mw_r0 rfl ⟨rfl, aa, M, na, κ, dW_mono W1 (by omega) (by omega), B, K, T⟩
    cases hp : par t x with
    | none =>
      refine mw_ifT rfl ?_
      exact no _ (by unfold oG; rw [hp])
    | some p =>
      obtain ⟨p1, p2, p3⟩ := par_spec hp
      refine mw_ifF (by simp) ?_
      iterate 2 refine mw_go rfl rfl ?_
      refine mw_if _ (fun hc => no _ (by unfold oG; rw [hp]; exact if_neg (fun q => q.1 hc))) (fun h0 => ?_)
      iterate 3 refine mw_go rfl rfl ?_
      refine mw_if _ (fun h3 => ?_) (fun hc => no _ (by unfold oG; rw [hp]; exact if_neg (fun q => hc q.2)))
      obtain ⟨j, hj, rfl⟩ := nI_of2 (M := 4) (n := 4) rfl h0 h3
      have e : oG t x (nI j) w = (tAd t p 4 j 0 0 w, nI (tN t)) := by unfold oG; rw [hp]; dsimp only; rw [if_pos ⟨h0, h3⟩, nI_clamp (by omega)]
      rw [e]
      iterate 4 refine mw_go rfl rfl ?_
      have F0 := frN_nw h1
      refine mw_cn (N_init_ok (d + 5) (hnw h1 (.inl 1) 15) (a := hpZ h1) F0.2.2.2 4 w) rfl rfl rfl (Nat.le_of_ble_eq_true rfl) ⟨_, rfl⟩ ?_
      iterate 3 refine mw_go rfl rfl ?_
      refine mw_pI rfl rfl (show hpK (hNi (hnw h1 (.inl 1) 15) (hpZ h1) 4 w) (hpZ h1) = some (.inl 1) from F0.2.2.2) ?_
      have F1 := frN_wI (frN_ni F0 4 w) 4 (nI j)
      have N1 : nFr (hwI (hNi (hnw h1 (.inl 1) 15) (hpZ h1) 4 w) (hpZ h1) 4 (nI j)) (hpZ h1) 4 j 0 0 w j 0 := nFr_goal h1 j 0 0 w j
      obtain ⟨W2, hne⟩ := dW_fr T W1 F1
      generalize hwI (hNi (hnw h1 (.inl 1) 15) (hpZ h1) 4 w) (hpZ h1) 4 (nI j) = h2 at W2 N1 ⊢
      iterate 3 refine mw_go rfl rfl ?_
      obtain ⟨h', aa', M', na', κ', c3, W3, B3, K3⟩ := D_hang_ok d T W2 B K p1 p2 p3 (by omega) (fun e => ⟨by omega, rfl⟩) (fun e => by omega) (by omega) N1 hne
      refine mw_cv c3 rfl rfl rfl (Nat.le_of_ble_eq_true rfl) ⟨_, rfl, W2.1.1⟩ ?_
      exact mw_r0 rfl ⟨rfl, aa', M', na', κ', W3, B3, K3, tOk_ad T p2 p1 p3 (by omega) (fun e => by omega) (fun e => by omega)⟩
  obtain ⟨r1, h', hcl, rfl, K'⟩ := mc_of (prog := mx_prog) (j := j_D_goal) (as := [.inr (.inr (some D)), .inl x, .inl y]) (Nat.le_of_ble_eq_true rfl) walk
  exact ⟨h', hcl, K'⟩
theorem D_take_ok (d : Nat) (x y g a : Int32) (I : dP D ar s tp oa z u G w r t h) : ∃ h', cl (d + 7) j_D_take [.inr (.inr (some D)), .inl x, .inl y, .inl g, .inl a] h (some (.inl (oT t x y g a w).2)) h' ∧ dP D ar s tp oa (z + 1) (u + 15) G 0 0 (oT t x y g a w).1 h' := by
  obtain ⟨aa, M, na, κ, W, B, K, T⟩ := I
  have w1 := W.1.1
  have walk : mx_W (mx_Call mx_prog (d + 6)) (mx_nth cd_D_take) (0, [some (.inr (.inr (some D))), some (.inl x), some (.inl y), some (.inl g), some (.inl a), none, none, none, none], [], h) (fun r1 h' => r1 = some (.inl (oT t x y g a w).2) ∧ dP D ar s tp oa (z + 1) (u + 15) G 0 0 (oT t x y g a w).1 h') := by
    refine mw_go rfl rfl ?_
    refine mw_cv (D_empty_ok (d + 5) h w1) rfl rfl rfl (Nat.le_of_ble_eq_true rfl) ⟨_, rfl, w1⟩ ?_
    rw [W.2.1]
    have W1 := dW_wt T W 0 0
    generalize hwI (hwL h D 3 0) D 4 0 = h1 at W1 ⊢
    have x1 := W1.1.1
    iterate 3 refine mw_go rfl rfl ?_
    refine mw_cv (D_open_ok (d + 4) T W1.1 x) rfl rfl rfl (Nat.le_of_ble_eq_true rfl) ⟨_, rfl, x1⟩ ?_
    iterate 3 refine mw_go rfl rfl ?_
    have no : ∀ q, oT t x y g a w = (t, -1) → mx_W (mx_Call mx_prog (d + 6)) (mx_nth cd_D_take) (16, [some (.inr (.inr (some D))), some (.inl x), some (.inl y), some (.inl g), some (.inl a), some (.inr (.inl w)), none, q, none], [], h1) (fun r1 h' => r1 = some (.inl (oT t x y g a w).2) ∧ dP D ar s tp oa (z + 1) (u + 15) G 0 0 (oT t x y g a w).1 h') := by
      intro q e
      refine mw_go rfl rfl ?_
      rw [e]
      exact mw_r0 rfl ⟨rfl, aa, M, na, κ, dW_mono W1 (by omega) (by omega), B, K, T⟩
    cases hp : par t x with
    | none =>
      refine mw_ifT rfl ?_
      exact no _ (by unfold oT; rw [hp])
    | some p =>
      obtain ⟨p1, p2, p3⟩ := par_spec hp
      refine mw_ifF (by simp) ?_
      refine mw_go rfl rfl ?_
      refine mw_cv (D_isVariable_ok (d + 5) h1 y) rfl rfl rfl (Nat.le_of_ble_eq_true rfl) trivial ?_
      refine mw_go rfl rfl ?_
      refine mw_ifP (e_bI _) (fun hv => no _ (by unfold oT; rw [hp]; exact if_neg (fun q => by rw [hv] at q; exact absurd q.1 (by decide)))) (fun hv => ?_)
      iterate 2 refine mw_go rfl rfl ?_
      refine mw_cv (D_isConstructor_ok (d + 5) h1 g a) rfl rfl rfl (Nat.le_of_ble_eq_true rfl) trivial ?_
      refine mw_go rfl rfl ?_
      refine mw_ifP (e_bI _) (fun hc => no _ (by unfold oT; rw [hp]; exact if_neg (fun q => by rw [hc] at q; exact absurd q.2 (by decide)))) (fun hc => ?_)
      have hv : vr y = true := by cases hh : vr y with
        | true => rfl
        | false => exact absurd hh hv
      have hc : vc g a = true := by cases hh : vc g a with
        | true => rfl
        | false => exact absurd hh hc
      obtain ⟨v, hv60, rfl⟩ := vr_spec hv
      obtain ⟨g', a', hg, ha, rfl, rfl⟩ := vc_spec hc
      have e : oT t x (nI v) (nI g') (nI a') w = (tAd t p 5 v g' a' w, nI (tN t)) := by unfold oT; rw [hp]; dsimp only; rw [if_pos ⟨hv, hc⟩, nI_clamp (by omega), nI_clamp (by omega), nI_clamp (by omega)]
      rw [e]
      iterate 4 refine mw_go rfl rfl ?_
      have F0 := frN_nw h1
      refine mw_cn (N_init_ok (d + 5) (hnw h1 (.inl 1) 15) (a := hpZ h1) F0.2.2.2 5 w) rfl rfl rfl (Nat.le_of_ble_eq_true rfl) ⟨_, rfl⟩ ?_
      have k5 : hpK (hNi (hnw h1 (.inl 1) 15) (hpZ h1) 5 w) (hpZ h1) = some (.inl 1) := F0.2.2.2
      iterate 5 refine mw_go rfl rfl ?_
      have fin : ∀ k0, k0 = (if a' = 1 then 0 else 1) → mx_W (mx_Call mx_prog (d + 6)) (mx_nth cd_D_take) (31, [some (.inr (.inr (some D))), some (.inl x), some (.inl (nI v)), some (.inl (nI g')), some (.inl (nI a')), some (.inr (.inl w)), none, some (.inr (.inr (some (na p)))), some (.inr (.inr (some (hpZ h1))))], [.inl (nI k0), .inr (.inr (some (hpZ h1)))], hNi (hnw h1 (.inl 1) 15) (hpZ h1) 5 w) (fun r1 h' => r1 = some (.inl (tAd t p 5 v g' a' w, nI (tN t)).2) ∧ dP D ar s tp oa (z + 1) (u + 15) G 0 0 (tAd t p 5 v g' a' w, nI (tN t)).1 h') := by
        intro k0 hk0
        refine mw_pI rfl rfl k5 ?_
        iterate 2 refine mw_go rfl rfl ?_
        refine mw_pI rfl rfl k5 ?_
        iterate 2 refine mw_go rfl rfl ?_
        refine mw_pI rfl rfl k5 ?_
        iterate 2 refine mw_go rfl rfl ?_
        refine mw_pI rfl rfl k5 ?_
        have F1 := frN_wI (frN_wI (frN_wI (frN_wI (frN_ni F0 5 w) 4 (nI k0)) 5 (nI v)) 6 (nI g')) 7 (nI a')
        have N1 : nFr (hwI (hwI (hwI (hwI (hNi (hnw h1 (.inl 1) 15) (hpZ h1) 5 w) (hpZ h1) 4 (nI k0)) (hpZ h1) 5 (nI v)) (hpZ h1) 6 (nI g')) (hpZ h1) 7 (nI a')) (hpZ h1) 5 v g' a' w k0 0 := nFr_take h1 v g' a' w k0
        obtain ⟨W2, hne⟩ := dW_fr T W1 F1
        generalize hwI (hwI (hwI (hwI (hNi (hnw h1 (.inl 1) 15) (hpZ h1) 5 w) (hpZ h1) 4 (nI k0)) (hpZ h1) 5 (nI v)) (hpZ h1) 6 (nI g')) (hpZ h1) 7 (nI a') = h2 at W2 N1 ⊢
        iterate 3 refine mw_go rfl rfl ?_
        obtain ⟨h', aa', M', na', κ', c3, W3, B3, K3⟩ := D_hang_ok d T W2 B K p1 p2 p3 (by omega) (fun e => by omega) (fun e => ⟨⟨hv60, hg, ha⟩, hk0⟩) (by rw [hk0]; split <;> omega) N1 hne
        refine mw_cv c3 rfl rfl rfl (Nat.le_of_ble_eq_true rfl) ⟨_, rfl, W2.1.1⟩ ?_
        exact mw_r0 rfl ⟨rfl, aa', M', na', κ', W3, B3, K3, tOk_ad T p2 p1 p3 (by omega) (fun e => by omega) (fun e => ⟨hv60, hg, ha⟩)⟩
      refine mw_ifP (e_lit (b := 1) rfl (by omega) (by omega)) (fun h1 => ?_) (fun h1 => ?_)
      · iterate 2 refine mw_go rfl rfl ?_
        exact fin 0 (by rw [if_pos h1])
      · iterate 1 refine mw_go rfl rfl ?_
        exact fin 1 (by rw [if_neg h1])
  obtain ⟨r1, h', hcl, rfl, K'⟩ := mc_of (prog := mx_prog) (j := j_D_take) (as := [.inr (.inr (some D)), .inl x, .inl y, .inl g, .inl a]) (Nat.le_of_ble_eq_true rfl) walk
  exact ⟨h', hcl, K'⟩
end
