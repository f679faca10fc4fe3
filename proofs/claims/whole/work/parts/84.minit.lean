/-! The reference's constructor; what class and reference leave of each other. -/
/-- its arrays up to the field kk are made, o of them, u slots -/
def iS (m kk o u : Nat) (h0 h : mx_H) : Prop := hpK h m = some (.inl 4) ∧ hpZ h = m + 1 + o ∧ hpU h = hpU h0 + u ∧ hOk h ∧ (∀ c, c < m → hpK h c = hpK h0 c ∧ ∀ k, hpI h c k = hpI h0 c k ∧ hpL h c k = hpL h0 c k ∧ hpR h c k = hpR h0 c k) ∧ ∀ k o' ty len, mOf k = some (o', ty, len) → k ≤ kk → hpR h m k = some (m + o') ∧ hpK h (m + o') = some (.inr (ty, len)) ∧ m + o' < hpZ h
theorem iS_st {m kk o u k ty len : Nat} {h0 h : mx_H} (I : iS m kk o u h0 h) (e : mOf k = some (o + 1, ty, len)) (hk : kk < k) (gap : ∀ j, kk < j → j < k → mOf j = none) : iS m k (o + 1) (u + len) h0 (hwR (hnw h (.inr (ty, len)) len) m k (some (hpZ h))) := by
  obtain ⟨i1, i2, i3, i4, i5, i6⟩ := I
  have hm : m ≠ hpZ h := by omega
  refine ⟨?_, ?_, ?_, ?_, fun c hc => ?_, fun j o' ty' len' ej hj => ?_⟩
  · rw [hpK_wR, hpK_nw, if_neg hm]; exact i1
  · show hpZ h + 1 = _
    rw [i2]; omega
  · show hpU h + len = _
    rw [i3]; omega
  · intro b hb
    have hb : hpZ h + 1 ≤ b := hb
    rw [hpK_wR, hpK_nw, if_neg (by omega)]; exact i4 b (by omega)
  · obtain ⟨c1, c2⟩ := i5 c hc
    have hz : c ≠ hpZ h := by omega
    refine ⟨by rw [hpK_wR, hpK_nw, if_neg hz]; exact c1, fun j => ⟨?_, ?_, ?_⟩⟩
    · show hpI (hnw h (.inr (ty, len)) len) c j = _
      rw [hpI_nw, if_neg hz]; exact (c2 j).1
    · show hpL (hnw h (.inr (ty, len)) len) c j = _
      rw [hpL_nw, if_neg hz]; exact (c2 j).2.1
    · rw [hpR_wR, if_neg (by omega), hpR_nw, if_neg hz]; exact (c2 j).2.2
  · have hZ : hpZ (hwR (hnw h (.inr (ty, len)) len) m k (some (hpZ h))) = hpZ h + 1 := rfl
    rw [hZ]
    by_cases ek : j = k
    · subst ek
      rw [e] at ej
      cases ej
      refine ⟨?_, ?_, by omega⟩
      · rw [hpR_wR, if_pos ⟨rfl, rfl⟩, i2]; congr 1; omega
      · rw [hpK_wR, hpK_nw, if_pos (by omega)]
    · have hj' : j ≤ kk := by
        by_cases z : j ≤ kk
        · exact z
        · rw [gap j (by omega) (by omega)] at ej; cases ej
      obtain ⟨a1, a2, a3⟩ := i6 j o' ty' len' ej hj'
      refine ⟨?_, ?_, by omega⟩
      · rw [hpR_wR, if_neg (fun q => ek q.2), hpR_nw, if_neg hm]; exact a1
      · rw [hpK_wR, hpK_nw, if_neg (by omega)]; exact a2
theorem gap1 {k : Nat} : ∀ j, k < j → j < k + 1 → mOf j = none := fun j a b => by omega
section
variable {C : mx_C} {Q : Option mx_V → mx_H → Prop} {code : Nat → mx_I} {m : Nat} {ls : mx_L}
/-- one array of the constructor -/
theorem mw_mk {i kk o u k ty len : Nat} {v : Int32} {h0 h : mx_H} (I : iS m kk o u h0 h) (e : mOf k = some (o + 1, ty, len)) (hk : kk < k) (gap : ∀ j, kk < j → j < k → mOf j = none) (hl : len ≤ 60000000) (c0 : code i = .inl (x_ald (i + 1) 0)) (c1 : code (i + 1) = .inl (x_ic (i + 2) v)) (hv : v = nI len) (c2 : code (i + 2) = .inl (x_nar (i + 3) ty)) (c3 : code (i + 3) = .inl (x_pR (i + 4) 4 k))
    (K : ∀ h', iS m k (o + 1) (u + len) h0 h' → mx_W C code (i + 4, [some (.inr (.inr (some m)))], [], h') Q) : mx_W C code (i, [some (.inr (.inr (some m)))], [], h) Q := by
  refine mw_go c0 rfl ?_
  refine mw_go c1 rfl ?_
  refine mw_nar c2 hv hl ?_
  refine mw_pR c3 rfl (by rw [hpK_nw, if_neg (by have := I.2.1; omega)]; exact I.1) ?_
  exact K _ (iS_st I e hk gap)
end
theorem M_init_ok {m : Nat} {h : mx_H} (d : Nat) (hm : hpK h m = some (.inl 4)) (hz : hpZ h = m + 1) (hok : hOk h) : ∃ h', cl (d + 3) j_M_init [.inr (.inr (some m))] h none h' ∧ hpZ h' = m + 22 ∧ hpU h' = hpU h + 14150 ∧ hOk h' ∧ (∀ c, c < m → hpK h' c = hpK h c ∧ ∀ k, hpI h' c k = hpI h c k ∧ hpL h' c k = hpL h c k ∧ hpR h' c k = hpR h c k) ∧ mJ m t0 0 0 h' := by
  have walk : mx_W (mx_Call mx_prog (d + 2)) (mx_nth cd_M_init) (0, [some (.inr (.inr (some m)))], [], h) (fun r1 h' => r1 = none ∧ hpZ h' = m + 22 ∧ hpU h' = hpU h + 14150 ∧ hOk h' ∧ (∀ c, c < m → hpK h' c = hpK h c ∧ ∀ k, hpI h' c k = hpI h c k ∧ hpL h' c k = hpL h c k ∧ hpR h' c k = hpR h c k) ∧ mJ m t0 0 0 h') := by
    have I0 : iS m 1 0 0 h h := ⟨hm, by omega, rfl, hok, fun c _ => ⟨rfl, fun _ => ⟨rfl, rfl, rfl⟩⟩, fun k o' ty len e hk => by
      match k, hk, e with
      | 0, _, e => cases e
      | 1, _, e => cases e⟩
    iterate 2 refine mw_go rfl rfl ?_
    refine mw_mk (i := 2) (k := 2) I0 rfl (by omega) gap1 (by omega) rfl rfl (v := 250) rfl rfl rfl (fun h1 I1 => ?_)
    refine mw_mk (i := 6) (k := 3) I1 rfl (by omega) gap1 (by omega) rfl rfl (v := 250) rfl rfl rfl (fun h2 I2 => ?_)
    refine mw_mk (i := 10) (k := 4) I2 rfl (by omega) gap1 (by omega) rfl rfl (v := 250) rfl rfl rfl (fun h3 I3 => ?_)
    refine mw_mk (i := 14) (k := 5) I3 rfl (by omega) gap1 (by omega) rfl rfl (v := 250) rfl rfl rfl (fun h4 I4 => ?_)
    refine mw_mk (i := 18) (k := 6) I4 rfl (by omega) gap1 (by omega) rfl rfl (v := 250) rfl rfl rfl (fun h5 I5 => ?_)
    refine mw_mk (i := 22) (k := 7) I5 rfl (by omega) gap1 (by omega) rfl rfl (v := 250) rfl rfl rfl (fun h6 I6 => ?_)
    refine mw_mk (i := 26) (k := 8) I6 rfl (by omega) gap1 (by omega) rfl rfl (v := 250) rfl rfl rfl (fun h7 I7 => ?_)
    refine mw_mk (i := 30) (k := 9) I7 rfl (by omega) gap1 (by omega) rfl rfl (v := 250) rfl rfl rfl (fun h8 I8 => ?_)
    refine mw_mk (i := 34) (k := 10) I8 rfl (by omega) gap1 (by omega) rfl rfl (v := 250) rfl rfl rfl (fun h9 I9 => ?_)
    refine mw_mk (i := 38) (k := 11) I9 rfl (by omega) gap1 (by omega) rfl rfl (v := 250) rfl rfl rfl (fun h10 I10 => ?_)
    refine mw_mk (i := 42) (k := 14) I10 rfl (by omega) (fun j a b => ?_) (by omega) rfl rfl (v := 250) rfl rfl rfl (fun h11 I11 => ?_)
    · rcases (show j = 12 ∨ j = 13 by omega) with rfl | rfl <;> rfl
    refine mw_mk (i := 46) (k := 15) I11 rfl (by omega) gap1 (by omega) rfl rfl (v := 600) rfl rfl rfl (fun h12 I12 => ?_)
    refine mw_mk (i := 50) (k := 16) I12 rfl (by omega) gap1 (by omega) rfl rfl (v := 600) rfl rfl rfl (fun h13 I13 => ?_)
    refine mw_mk (i := 54) (k := 17) I13 rfl (by omega) gap1 (by omega) rfl rfl (v := 600) rfl rfl rfl (fun h14 I14 => ?_)
    refine mw_mk (i := 58) (k := 18) I14 rfl (by omega) gap1 (by omega) rfl rfl (v := 600) rfl rfl rfl (fun h15 I15 => ?_)
    refine mw_mk (i := 62) (k := 19) I15 rfl (by omega) gap1 (by omega) rfl rfl (v := 600) rfl rfl rfl (fun h16 I16 => ?_)
    refine mw_mk (i := 66) (k := 20) I16 rfl (by omega) gap1 (by omega) rfl rfl (v := 600) rfl rfl rfl (fun h17 I17 => ?_)
    refine mw_mk (i := 70) (k := 21) I17 rfl (by omega) gap1 (by omega) rfl rfl (v := 600) rfl rfl rfl (fun h18 I18 => ?_)
    refine mw_mk (i := 74) (k := 22) I18 rfl (by omega) gap1 (by omega) rfl rfl (v := 600) rfl rfl rfl (fun h19 I19 => ?_)
    refine mw_mk (i := 78) (k := 23) I19 rfl (by omega) gap1 (by omega) rfl rfl (v := 600) rfl rfl rfl (fun h20 I20 => ?_)
    refine mw_mk (i := 82) (k := 25) I20 rfl (by omega) (fun j a b => ?_) (by omega) rfl rfl (v := 6000) rfl rfl rfl (fun h21 I21 => ?_)
    · obtain rfl : j = 24 := by omega
      rfl
    obtain ⟨j1, j2, j3, j4, j5, j6⟩ := I21
    have S : mS m h21 := ⟨j1, fun k o ty len e => by
      have hk : k ≤ 25 := by
        by_cases z : k ≤ 25
        · exact z
        · exfalso
          obtain ⟨q, rfl⟩ : ∃ q, k = q + 26 := ⟨k - 26, by omega⟩
          cases e
      obtain ⟨a1, a2, -⟩ := j6 k o ty len e hk
      exact ⟨a1, a2⟩⟩
    refine mw_go rfl rfl ?_
    obtain ⟨h', k', F', J'⟩ := M_begin_ok d S
    refine mw_cn k' rfl rfl rfl (Nat.le_of_ble_eq_true rfl) ⟨_, rfl, S.1⟩ ?_
    refine mw_r4 rfl ⟨rfl, ?_, ?_, fun b hb => ?_, fun c hc => ?_, J'⟩
    · rw [F'.2.2.1, j2]
    · rw [F'.2.2.2.1, j3]
    · rw [F'.1]; rw [F'.2.2.1] at hb; exact j4 b hb
    · obtain ⟨c1, c2⟩ := j5 c hc
      refine ⟨(F'.1 c).trans c1, fun k => ⟨(F'.2.2.2.2 c k (Or.inl hc)).1.trans (c2 k).1, (F'.2.2.2.2 c k (Or.inl hc)).2.trans (c2 k).2.1, (F'.2.1 c k).trans (c2 k).2.2⟩⟩
  obtain ⟨r1, h', hcl, rfl, K'⟩ := mc_of (prog := mx_prog) (j := j_M_init) (as := [.inr (.inr (some m))]) (Nat.le_of_ble_eq_true rfl) walk
  exact ⟨h', hcl, K'⟩
section
variable {D ar s tp oa z u : Nat} {G : mx_H} {w : Int64} {r : Int32} {t : tr} {h h' : mx_H} {m : Nat}
/-- the class's cells stand, whatever the reference did to its own -/
theorem dP_out {a b : Nat} (I : dP D ar s tp oa z u G w r t h) (same : ∀ c, hpK h c ≠ none → ¬ mK (hpK h c) → hpK h' c = hpK h c ∧ ∀ k, hpI h' c k = hpI h c k ∧ hpL h' c k = hpL h c k ∧ hpR h' c k = hpR h c k) (ok : hOk h') (hz : hpZ h' ≤ hpZ h + a) (hu : hpU h' ≤ hpU h + b) : dP D ar s tp oa (z + a) (u + b) h' w r t h' := by
  obtain ⟨aa, M, na, κ, ⟨⟨w1, w2, w3, w4, w5, w6, w7, w8, w9⟩, w10, w11, w12, w13, w14⟩, B, K, T⟩ := I
  have out : ∀ c q, hpK h c = some q → ¬ mK (some q) → hpK h' c = hpK h c ∧ ∀ k, hpI h' c k = hpI h c k ∧ hpL h' c k = hpL h c k ∧ hpR h' c k = hpR h c k := fun c q e hm => same c (by rw [e]; simp) (by rw [e]; exact hm)
  obtain ⟨p1, p2, p3, p4, p5, p6, p7, p8, p9⟩ := w5
  have oD := out D _ w1 mK_n3
  have oar := out ar _ w4 (mK_a2 250)
  have os := out s _ p1 mK_n2
  have otp := out tp _ p4 mK_n0
  have ooa := out oa _ p5 (mK_a3 250)
  refine ⟨aa, M, na, κ, ⟨⟨oD.1.trans w1, (oD.2 0).2.2.trans w2, (oD.2 1).2.2.trans w3, oar.1.trans w4, ⟨os.1.trans p1, (os.2 0).2.2.trans p2, (os.2 1).2.2.trans p3, otp.1.trans p4, ooa.1.trans p5, p6, fun k hk => ?_, p8, fun k k1 k2 => (ooa.2 k).2.2.trans (p9 k k1 k2)⟩, ok, (oD.2 2).1.trans w7, fun i hi => (oar.2 i).2.2.trans (w8 i hi), ?_⟩, (oD.2 3).2.1.trans w10, (oD.2 4).1.trans w11, by omega, by omega, cFr_rf h'⟩, B, K, T⟩
  · obtain ⟨q1, q2, q3⟩ := p7 k hk
    exact ⟨(ooa.2 k).2.2.trans q1, (out _ _ q2 mK_n0).1.trans q2, q3⟩
  · refine nAll_congr w9 (fun i hi => ?_) T
    have o := out _ _ (w9 i hi).K mK_n1
    exact ⟨o.1, fun k => (o.2 k).1, (o.2 1).2.1, fun k _ => (o.2 k).2.2⟩
theorem mS_mK (S : mS m h) {c : Nat} (h1 : m ≤ c) (h2 : c ≤ m + 21) : mK (hpK h c) := by
  have ar : ∀ (k : Nat) {o ty len : Nat}, mOf k = some (o, ty, len) → (ty = 0 ∨ ty = 1) → c = m + o → mK (hpK h c) := by
    intro k o ty len e hty hc
    rw [hc, S.a k e]
    rcases hty with rfl | rfl
    · exact Or.inr ⟨len, Or.inl rfl⟩
    · exact Or.inr ⟨len, Or.inr rfl⟩
  obtain ⟨j, hj⟩ : ∃ j, c = m + j := ⟨c - m, by omega⟩
  have hj2 : j ≤ 21 := by omega
  match j, hj2, hj with
  | 0, _, hj => rw [hj]; exact Or.inl S.1
  | 1, _, hj => exact ar 2 rfl (Or.inl rfl) hj
  | 2, _, hj => exact ar 3 rfl (Or.inl rfl) hj
  | 3, _, hj => exact ar 4 rfl (Or.inl rfl) hj
  | 4, _, hj => exact ar 5 rfl (Or.inl rfl) hj
  | 5, _, hj => exact ar 6 rfl (Or.inl rfl) hj
  | 6, _, hj => exact ar 7 rfl (Or.inl rfl) hj
  | 7, _, hj => exact ar 8 rfl (Or.inl rfl) hj
  | 8, _, hj => exact ar 9 rfl (Or.inl rfl) hj
  | 9, _, hj => exact ar 10 rfl (Or.inl rfl) hj
  | 10, _, hj => exact ar 11 rfl (Or.inr rfl) hj
  | 11, _, hj => exact ar 14 rfl (Or.inl rfl) hj
  | 12, _, hj => exact ar 15 rfl (Or.inl rfl) hj
  | 13, _, hj => exact ar 16 rfl (Or.inl rfl) hj
  | 14, _, hj => exact ar 17 rfl (Or.inl rfl) hj
  | 15, _, hj => exact ar 18 rfl (Or.inl rfl) hj
  | 16, _, hj => exact ar 19 rfl (Or.inr rfl) hj
  | 17, _, hj => exact ar 20 rfl (Or.inl rfl) hj
  | 18, _, hj => exact ar 21 rfl (Or.inl rfl) hj
  | 19, _, hj => exact ar 22 rfl (Or.inl rfl) hj
  | 20, _, hj => exact ar 23 rfl (Or.inl rfl) hj
  | 21, _, hj => exact ar 25 rfl (Or.inl rfl) hj
  | q + 22, hq, _ => exact absurd hq (by omega)
theorem dP_mF (I : dP D ar s tp oa z u G w r t h) (S : mS m h) (F : mF m h h') : dP D ar s tp oa z u h' w r t h' := by
  have ok : hOk h := by obtain ⟨aa, M, na, κ, W, -⟩ := I; exact W.1.2.2.2.2.2.1
  refine dP_out (a := 0) (b := 0) I (fun c _ hm => ?_) (fun b hb => ?_) (by rw [F.2.2.1]; omega) (by rw [F.2.2.2.1]; omega)
  · have hc : c < m ∨ m + 21 < c := by
      by_cases h1 : c < m
      · exact Or.inl h1
      · by_cases h2 : m + 21 < c
        · exact Or.inr h2
        · exact absurd (mS_mK S (by omega) (by omega)) hm
    exact ⟨F.1 c, fun k => ⟨(F.2.2.2.2 c k hc).1, (F.2.2.2.2 c k hc).2, F.2.1 c k⟩⟩
  · rw [F.1]; rw [F.2.2.1] at hb; exact ok b hb
theorem dP_cFr (I : dP D ar s tp oa z u G w r t h) : cFr G h := by obtain ⟨aa, M, na, κ, W, -⟩ := I; exact W.2.2.2.2.2
theorem dP_T (I : dP D ar s tp oa z u G w r t h) : tOk t := by obtain ⟨aa, M, na, κ, -, -, -, T⟩ := I; exact T
theorem dP_mono {z2 u2 : Nat} (I : dP D ar s tp oa z u G w r t h) (hz : z ≤ z2) (hu : u ≤ u2) : dP D ar s tp oa z2 u2 G w r t h := by
  obtain ⟨aa, M, na, κ, W, B, K, T⟩ := I
  exact ⟨aa, M, na, κ, dW_mono W hz hu, B, K, T⟩
/-- the reference's cells stand, whatever the class did to its own -/
theorem mJ_cFr {w : Int64} {r : Nat} (I : mJ m t w r h) (F : cFr h h') : mJ m t w r h' := by
  obtain ⟨i1, i2, i3, i4, i5⟩ := I
  have o : ∀ j, j ≤ 21 → hpK h' (m + j) = hpK h (m + j) ∧ ∀ k, hpI h' (m + j) k = hpI h (m + j) k ∧ hpL h' (m + j) k = hpL h (m + j) k ∧ hpR h' (m + j) k = hpR h (m + j) k := fun j hj => F (m + j) (mS_mK i1 (by omega) (by omega))
  have o0 := o 0 (by omega)
  rw [Nat.add_zero] at o0
  refine ⟨⟨o0.1.trans i1.1, fun k o' ty len e => ⟨(o0.2 k).2.2.trans (i1.r k e), ?_⟩⟩, mT_cg i2 (o0.2 1).1 (fun j k a b => ⟨((o j (by omega)).2 k).1, ((o j (by omega)).2 k).2.1⟩), fun c hc => ((o 11 (by omega)).2 c).1.trans (i3 c hc), (o0.2 12).2.1.trans i4, (o0.2 13).1.trans i5⟩
  have hm : mK (hpK h (m + o')) := by
    rw [i1.a k e]
    match k, e with
    | 2, e => cases e; exact Or.inr ⟨_, Or.inl rfl⟩
    | 3, e => cases e; exact Or.inr ⟨_, Or.inl rfl⟩
    | 4, e => cases e; exact Or.inr ⟨_, Or.inl rfl⟩
    | 5, e => cases e; exact Or.inr ⟨_, Or.inl rfl⟩
    | 6, e => cases e; exact Or.inr ⟨_, Or.inl rfl⟩
    | 7, e => cases e; exact Or.inr ⟨_, Or.inl rfl⟩
    | 8, e => cases e; exact Or.inr ⟨_, Or.inl rfl⟩
    | 9, e => cases e; exact Or.inr ⟨_, Or.inl rfl⟩
    | 10, e => cases e; exact Or.inr ⟨_, Or.inl rfl⟩
    | 11, e => cases e; exact Or.inr ⟨_, Or.inr rfl⟩
    | 14, e => cases e; exact Or.inr ⟨_, Or.inl rfl⟩
    | 15, e => cases e; exact Or.inr ⟨_, Or.inl rfl⟩
    | 16, e => cases e; exact Or.inr ⟨_, Or.inl rfl⟩
    | 17, e => cases e; exact Or.inr ⟨_, Or.inl rfl⟩
    | 18, e => cases e; exact Or.inr ⟨_, Or.inl rfl⟩
    | 19, e => cases e; exact Or.inr ⟨_, Or.inr rfl⟩
    | 20, e => cases e; exact Or.inr ⟨_, Or.inl rfl⟩
    | 21, e => cases e; exact Or.inr ⟨_, Or.inl rfl⟩
    | 22, e => cases e; exact Or.inr ⟨_, Or.inl rfl⟩
    | 23, e => cases e; exact Or.inr ⟨_, Or.inl rfl⟩
    | 25, e => cases e; exact Or.inr ⟨_, Or.inl rfl⟩
    | 0, e => cases e
    | 1, e => cases e
    | 12, e => cases e
    | 13, e => cases e
    | 24, e => cases e
    | k + 26, e => cases e
  exact (F _ hm).1.trans (i1.a k e)
end
