/-! The class at work: what its cells hold; hang. -/
def ku (κ : Nat → Nat) (i k : Nat) : Nat → Nat := fun j => if j = i then k else κ j
def kB (t : tr) (κ : Nat → Nat) : Prop := ∀ i, i < tN t → κ i < 5 ∧ (tS t i = 4 → κ i = tV t i)
def kOk (t : tr) (κ : Nat → Nat) : Prop := ∀ i, i < tN t → κ i = stp t κ i
theorem knot_lt (l : List Nat) : knot l < 5 := by
  unfold knot
  cases l with
  | nil => decide
  | cons a r => dsimp only; split <;> (try split) <;> omega
theorem ktst_lt {l : List Nat} (h : ∀ x ∈ l, x < 5) : ktst l < 5 := by
  match l, h with
  | [], _ => decide
  | [_], _ => show (4 : Nat) < 5; decide
  | [_, _], _ => show (4 : Nat) < 5; decide
  | a :: b :: c :: r, h => exact kte_lt ⟨a, h a (by simp)⟩ ⟨b, h b (by simp)⟩ ⟨c, h c (by simp)⟩
section
variable {t : tr} {κ : Nat → Nat}
theorem stp_lt (T : tOk t) (hκ : kB t κ) {i : Nat} (hi : i < tN t) : stp t κ i < 5 := by
  have Ti := T.at hi
  have hc : ∀ c ∈ tC t i, κ c < 5 := fun c hc => (hκ c (Ti.2.2.1 c hc).2.1).1
  unfold stp
  split
  · exact krow_lt hc
  · split
    · exact kc_lt _ _ _ _
    · split
      · exact knot_lt _
      · split
        · refine ktst_lt (fun x hx => ?_)
          obtain ⟨c, h1, h2⟩ := List.mem_map.mp hx
          rw [← h2]; exact hc c h1
        · split
          · rename_i h4; exact Ti.2.2.2.2.2.2.2.1 h4
          · split <;> omega
theorem stp_upd {i j k : Nat} (h : ∀ c ∈ tC t j, c ≠ i ∧ ∀ e ∈ tC t c, e ≠ i) : stp t (ku κ i k) j = stp t κ j := by
  refine stp_cg ⟨rfl, rfl, rfl, rfl⟩ (fun p hp => ?_)
  obtain ⟨h1, h2⟩ := h p hp
  exact ⟨⟨rfl, rfl, rfl, rfl, rfl⟩, if_neg h1, rfl, fun e he => ⟨⟨rfl, rfl, rfl, rfl, rfl⟩, if_neg (h2 e he)⟩⟩
theorem stp_leaf {i : Nat} (κ κ' : Nat → Nat) (h : 3 < tS t i) : stp t κ i = stp t κ' i := by
  unfold stp
  have n0 : ¬ tS t i = 0 := by omega
  have n1 : ¬ tS t i = 1 := by omega
  have n2 : ¬ tS t i = 2 := by omega
  have n3 : ¬ tS t i = 3 := by omega
  rw [if_neg n0, if_neg n1, if_neg n2, if_neg n3, if_neg n0, if_neg n1, if_neg n2, if_neg n3]
/-- one NODE's KIND is right: those not above it stay right -/
theorem kOk_step (T : tOk t) {i j k : Nat} (hi : i < tN t) (hj : j < tN t) (hk : k = stp t κ i) (hE : ∀ j, j < tN t → ¬ Sub t j i → κ j = stp t κ j) (hs : ¬ Sub t j (tP t i) ∨ i = 0) : ku κ i k j = stp t (ku κ i k) j := by
  by_cases e : j = i
  · subst e
    rw [stp_upd (fun c hc => ?_), ← hk]
    · exact if_pos rfl
    · obtain ⟨c1, c2, -⟩ := (T.at hj).2.2.1 c hc
      refine ⟨by omega, fun e he => ?_⟩
      have := ((T.at c2).2.2.1 e he).1
      omega
  · have hn : ¬ Sub t j i := by
      intro hs'
      rcases hs with h | h
      · exact h (Sub_up T hj hs' (fun q => e q.symm))
      · have := (Sub_le T hj hs').1; omega
    rw [stp_upd (fun c hc => ?_), ← hE j hj hn]
    · exact if_neg e
    · refine ⟨fun q => hn (by rw [← q]; exact Sub_ch hc (Sub_rf c)), fun e he q => hn (by rw [← q]; exact Sub_ch hc (Sub_ch he (Sub_rf e)))⟩
end
/-- the class's cells: CountDesk D, its NODES' array ar, its Splitter s with top tp and array oa; M ARMS made, the tree t at the cells na, with the KINDS κ -/
def dI (D ar s tp oa : Nat) (h : mx_H) (aa : Nat → Nat) (M : Nat) (na : Nat → Nat) (t : tr) (κ : Nat → Nat) : Prop :=
  hpK h D = some (.inl 3) ∧ hpR h D 0 = some ar ∧ hpR h D 1 = some s ∧ hpK h ar = some (.inr (2, 250)) ∧ sP h s tp oa aa M ∧ hOk h ∧ hpI h D 2 = nI (tN t) ∧ (∀ i, i < tN t → hpR h ar i = some (na i)) ∧ nAll na t κ h
/-- and what it has WAITING (w, r), the room that it took, and that G's cells of the reference stand -/
def dW (D ar s tp oa z u : Nat) (G : mx_H) (w : Int64) (r : Int32) (h : mx_H) (aa : Nat → Nat) (M : Nat) (na : Nat → Nat) (t : tr) (κ : Nat → Nat) : Prop :=
  dI D ar s tp oa h aa M na t κ ∧ hpL h D 3 = w ∧ hpI h D 4 = r ∧ hpZ h ≤ z + M ∧ hpU h ≤ u + 11 * M ∧ cFr G h
section
variable {D ar s tp oa z u : Nat} {G : mx_H} {w : Int64} {r : Int32} {h : mx_H} {aa : Nat → Nat} {M : Nat} {na : Nat → Nat} {t : tr} {κ : Nat → Nat}
theorem dW_kFr {ps0 : List Nat} {h' : mx_H} {aa' : Nat → Nat} {M' : Nat} (W : dW D ar s tp oa z u G w r h aa M na t κ) (F : kFr na t κ s tp oa ps0 h aa M h' aa' M') (hps : ∀ p ∈ ps0, p < tN t) : dW D ar s tp oa z u G w r h' aa' M' na t κ := by
  obtain ⟨⟨w1, w2, w3, w4, w5, w6, w7, w8, w9⟩, w10, w11, w12, w13, w14⟩ := W
  obtain ⟨f1, f2, f3, f4, f5, f6, f7⟩ := F
  obtain ⟨p1, p2, p3, p4, p5, p6, p7, p8, p9⟩ := id w5
  have out : ∀ c q, hpK h c = some q → q ≠ .inl 0 → q ≠ .inl 1 → q ≠ .inl 2 → (∀ n, q ≠ .inr (3, n)) → hpK h' c = hpK h c ∧ ∀ k, hpI h' c k = hpI h c k ∧ hpL h' c k = hpL h c k ∧ hpR h' c k = hpR h c k := by
    intro c q hc n0 n1 n2 n3
    obtain ⟨g1, g2⟩ := f7 c (by rw [hc]; simp)
    refine ⟨g1, fun k => g2 k ?_ ?_ ?_ ?_ ?_⟩
    · intro e; rw [e, p4] at hc; exact n0 (Option.some.inj hc).symm
    · intro j hj e; rw [e, (p7 j hj).2.1] at hc; exact n0 (Option.some.inj hc).symm
    · rintro ⟨e, -⟩; rw [e, p1] at hc; exact n2 (Option.some.inj hc).symm
    · intro e; rw [e, p5] at hc; exact n3 _ (Option.some.inj hc).symm
    · rintro ⟨-, p, hp, e⟩; rw [e, (w9 p (hps p hp)).K] at hc; exact n1 (Option.some.inj hc).symm
  obtain ⟨d1, d2⟩ := out D _ w1 (by simp) (by simp) (by simp) (by simp)
  obtain ⟨a1, a2⟩ := out ar _ w4 (by simp) (by simp) (by simp) (by simp)
  refine ⟨⟨d1.trans w1, (d2 0).2.2.trans w2, (d2 1).2.2.trans w3, a1.trans w4, f1, f2, (d2 2).1.trans w7, fun i hi => (a2 i).2.2.trans (w8 i hi), f4⟩, (d2 3).2.1.trans w10, (d2 4).1.trans w11, by omega, by omega, cFr_tr w14 (fun c hc => ?_)⟩
  have hne := mK_ne hc
  cases hq : hpK h c with
  | none => exact absurd hq hne.1
  | some q =>
    rw [hq] at hne
    rw [← hq]
    exact out c q hq (fun e => hne.2.1 (by rw [e])) (fun e => hne.2.2.1 (by rw [e])) (fun e => hne.2.2.2.1 (by rw [e])) (fun n e => hne.2.2.2.2.2.2 n (by rw [e]))
theorem dW_set (T : tOk t) (W : dW D ar s tp oa z u G w r h aa M na t κ) {i : Nat} (hi : i < tN t) (k : Nat) : dW D ar s tp oa z u G w r (hwI h (na i) 4 (nI k)) aa M na t (ku κ i k) := by
  obtain ⟨⟨w1, w2, w3, w4, w5, w6, w7, w8, w9⟩, w10, w11, w12, w13, w14⟩ := W
  have Hi := w9 i hi
  have inj := nAll_inj T w9
  have hD : D ≠ na i := fun e => by rw [e, Hi.K] at w1; cases w1
  obtain ⟨p1, p2, p3, p4, p5, p6, p7, p8, p9⟩ := w5
  refine ⟨⟨w1, w2, w3, w4, ⟨p1, p2, p3, p4, p5, p6, p7, p8, p9⟩, w6, by rw [hpI_wI, if_neg (fun q => hD q.1)]; exact w7, w8, fun j hj => ?_⟩, w10, by rw [hpI_wI, if_neg (fun q => hD q.1)]; exact w11, w12, w13, cFr_tr w14 (cFr_wI Hi.K mK_n1)⟩
  have Hj := w9 j hj
  have hI : ∀ k', k' ≠ 4 → hpI (hwI h (na i) 4 (nI k)) (na j) k' = hpI h (na j) k' := fun k' hk => by rw [hpI_wI, if_neg (fun q => hk q.2)]
  refine ⟨Hj.K, by rw [hI 0 (by decide)]; exact Hj.S, Hj.M, by rw [hI 2 (by decide)]; exact Hj.N, by rw [hI 3 (by decide)]; exact Hj.D, ?_, by rw [hI 5 (by decide)]; exact Hj.V, by rw [hI 6 (by decide)]; exact Hj.G, by rw [hI 7 (by decide)]; exact Hj.A, by rw [hI 8 (by decide)]; exact Hj.c, Hj.P, Chn_congr (h := h) (fun _ _ => rfl) Hj.C, Hj.l⟩
  rw [hpI_wI]
  unfold ku
  by_cases e : j = i
  · subst e; rw [if_pos ⟨rfl, rfl⟩, if_pos rfl]
  · rw [if_neg (fun q => e (inj _ _ hj hi q.1)), if_neg e]; exact Hj.k
theorem D_hang_loop {d nf : Nat} {Q : Option mx_V → mx_H → Prop} (T : tOk t) (hnf : nf < tN t) (ab : Option mx_V) (hQ : ∀ h' aa' M' κ', dW D ar s tp oa z u G w r h' aa' M' na t κ' → kB t κ' → kOk t κ' → Q (some (.inl (nI nf))) h') : ∀ (i : Nat), i < tN t → ∀ (h : mx_H) (aa : Nat → Nat) (M : Nat) (κ : Nat → Nat), dW D ar s tp oa z u G w r h aa M na t κ → kB t κ → (∀ j, j < tN t → 3 < tS t j → κ j = stp t κ j) → (∀ j, j < tN t → ¬ Sub t j i → κ j = stp t κ j) →
    mx_W (mx_Call mx_prog (d + 5)) (mx_nth cd_D_hang) (29, [some (.inr (.inr (some D))), ab, some (.inr (.inr (some (na nf)))), some (.inr (.inr (some (na i))))], [], h) Q := by
  intro i
  induction i using Nat.strongRecOn with
  | ind i ih =>
    intro hi h aa M κ W B hL hE
    have Ti := T.at hi
    iterate 2 refine mw_go rfl rfl ?_
    refine mw_ifF (by simp) ?_
    iterate 2 refine mw_go rfl rfl ?_
    refine mv_gI rfl rfl (W.1.2.2.2.2.2.2.2.2 i hi).K (W.1.2.2.2.2.2.2.2.2 i hi).S ?_
    iterate 2 refine mw_go rfl rfl ?_
    have fin : ∀ (h1 : mx_H) (aa1 : Nat → Nat) (M1 : Nat), dW D ar s tp oa z u G w r h1 aa1 M1 na t κ → mx_W (mx_Call mx_prog (d + 5)) (mx_nth cd_D_hang) (43, [some (.inr (.inr (some D))), ab, some (.inr (.inr (some (na nf)))), some (.inr (.inr (some (na i))))], [.inl (nI (stp t κ i)), .inr (.inr (some (na i)))], h1) Q := by
      intro h1 aa1 M1 W1
      have H1 := W1.1.2.2.2.2.2.2.2.2
      refine mw_pI rfl rfl (H1 i hi).K ?_
      have W2 := dW_set T W1 hi (stp t κ i)
      have B2 : kB t (ku κ i (stp t κ i)) := by
        intro j hj
        unfold ku
        by_cases e : j = i
        · subst e
          rw [if_pos rfl]
          exact ⟨stp_lt T B hj, fun h4 => by unfold stp; rw [if_neg (by omega), if_neg (by omega), if_neg (by omega), if_neg (by omega), if_pos h4]⟩
        · rw [if_neg e]; exact B j hj
      generalize hwI h1 (na i) 4 (nI (stp t κ i)) = h2 at W2 ⊢
      have H2 := W2.1.2.2.2.2.2.2.2.2
      refine mw_go rfl rfl ?_
      refine mv_gR rfl rfl (H2 i hi).K (H2 i hi).P ?_
      by_cases e0 : i = 0
      · rw [if_pos e0]
        iterate 2 refine mw_go rfl rfl ?_
        iterate 2 refine mw_go rfl rfl ?_
        refine mw_ifT rfl ?_
        refine mw_go rfl rfl ?_
        refine mv_gI rfl rfl (H2 nf hnf).K (H2 nf hnf).N ?_
        refine mw_r0 rfl ?_
        exact hQ _ _ _ _ W2 B2 (fun j hj => kOk_step T hi hj rfl hE (Or.inr e0))
      · rw [if_neg e0]
        have hlt := Ti.2.2.2.2.2.2.2.2.2 (by omega)
        iterate 2 refine mw_go rfl rfl ?_
        refine ih (tP t i) hlt (by omega) h2 aa1 M1 _ W2 B2 (fun j hj h3 => ?_) (fun j hj hs => kOk_step T hi hj rfl hE (Or.inl hs))
        rw [stp_leaf (ku κ i (stp t κ i)) κ h3]
        unfold ku
        by_cases e : j = i
        · rw [if_pos e, e]
        · rw [if_neg e]; exact hL j hj h3
    refine mw_ifP (e_lit (b := 1) rfl (by omega) (by omega)) (fun h1 => ?_) (fun h1 => ?_)
    · refine mw_go rfl rfl ?_
      refine mv_gR rfl rfl W.1.1 W.1.2.2.1 ?_
      refine mw_go rfl rfl ?_
      obtain ⟨h1', aa1, M1, c1, F1⟩ := S_kindOf_ok d T B (nAll_inj T W.1.2.2.2.2.2.2.2.2) hi W.1.2.2.2.2.1 W.1.2.2.2.2.2.1 W.1.2.2.2.2.2.2.2.2
      refine mw_cv c1 rfl rfl rfl (Nat.le_of_ble_eq_true rfl) ⟨_, rfl, W.1.2.2.2.2.1.1⟩ ?_
      refine mw_go rfl rfl ?_
      have e : kc t κ 0 (tC t i) = stp t κ i := by unfold stp; rw [if_neg (by omega), if_pos h1]
      rw [e]
      exact fin h1' aa1 M1 (dW_kFr W F1 (fun p hp => (Ti.2.2.1 p hp).2.1))
    · refine mw_go rfl rfl ?_
      refine mw_cv (N_kindFromParts_ok (d + 2) T W.1.2.2.2.2.2.2.2.2 B hi) rfl rfl rfl (Nat.le_of_ble_eq_true rfl) ⟨_, rfl, (W.1.2.2.2.2.2.2.2.2 i hi).K⟩ ?_
      have e : (if tS t i = 0 then krow t κ (fun _ => false) (tC t i) else if tS t i = 2 then knot ((tC t i).map κ) else if tS t i = 3 then ktst ((tC t i).map κ) else κ i) = stp t κ i := by
        by_cases h3 : 3 < tS t i
        · rw [if_neg (by omega), if_neg (by omega), if_neg (by omega)]; exact hL i hi h3
        · unfold stp
          by_cases q0 : tS t i = 0
          · rw [if_pos q0, if_pos q0]
          · rw [if_neg q0, if_neg q0, if_neg h1]
            by_cases q2 : tS t i = 2
            · rw [if_pos q2, if_pos q2]
            · rw [if_neg q2, if_neg q2, if_pos (by omega), if_pos (by omega)]
      rw [e]
      exact fin h aa M W
end
