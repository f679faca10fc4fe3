/-! What enlist and open do to ARMS, chains and NODES. -/
/-- an opened ARM: whose, TAG, known variables, PARTS (a chain by 'beside'), nothing found or heard yet -/
def aF (na : Nat → Nat) (h : mx_H) (b : Nat) (fr : Option Nat) (tg : Int32) (w : Int64) (ps : List Nat) : Prop :=
  hpK h b = some (.inl 0) ∧ hpR h b 0 = fr ∧ hpI h b 1 = tg ∧ hpL h b 2 = w ∧ hpI h b 5 = nI ps.length ∧ hpI h b 6 = -1 ∧ hpI h b 7 = -1 ∧ hpI h b 8 = 0 ∧ hpI h b 9 = 0 ∧ hpI h b 10 = 0 ∧ Chn na h 13 (hpR h b 3) ps ∧ hpR h b 4 = ps.getLast?.map na
theorem aF_open {na : Nat → Nat} (h : mx_H) {a : Nat} (hka : hpK h a = some (.inl 0)) (fr : Option Nat) (tg : Int32) (w : Int64) : aF na (hOp h a fr tg w) a fr tg w [] := by
  refine ⟨hka, ?_, ?_, ?_, ?_, ?_, ?_, ?_, ?_, ?_, ?_, ?_⟩ <;> simp [hOp, hpI_wI, hpI_wR, hpI_wL, hpL_wI, hpL_wR, hpL_wL, hpR_wI, hpR_wR, hpR_wL, Chn]
  · rfl
theorem hOp_K (h : mx_H) (a : Nat) (fr : Option Nat) (tg : Int32) (w : Int64) (b : Nat) : hpK (hOp h a fr tg w) b = hpK h b := rfl
theorem hOp_Z (h : mx_H) (a : Nat) (fr : Option Nat) (tg : Int32) (w : Int64) : hpZ (hOp h a fr tg w) = hpZ h ∧ hpU (hOp h a fr tg w) = hpU h := ⟨rfl, rfl⟩
theorem hOp_ne (h : mx_H) {a b : Nat} (fr : Option Nat) (tg : Int32) (w : Int64) (hb : b ≠ a) (k : Nat) : hpI (hOp h a fr tg w) b k = hpI h b k ∧ hpL (hOp h a fr tg w) b k = hpL h b k ∧ hpR (hOp h a fr tg w) b k = hpR h b k := by
  refine ⟨?_, ?_, ?_⟩ <;> simp [hOp, hpI_wI, hpI_wR, hpI_wL, hpL_wI, hpL_wR, hpL_wL, hpR_wI, hpR_wR, hpR_wL, hb]
theorem hEn_K (h : mx_H) (a pa b : Nat) : hpK (hEn h a pa) b = hpK h b := by
  unfold hEn; cases hpR h a 4 <;> rfl
theorem hEn_Z (h : mx_H) (a pa : Nat) : hpZ (hEn h a pa) = hpZ h ∧ hpU (hEn h a pa) = hpU h := by
  unfold hEn; cases hpR h a 4 <;> exact ⟨rfl, rfl⟩
theorem hEn_L (h : mx_H) (a pa b k : Nat) : hpL (hEn h a pa) b k = hpL h b k := by
  unfold hEn; cases hpR h a 4 <;> rfl
theorem hEn_I (h : mx_H) (a pa b k : Nat) (hb : b ≠ a ∨ k ≠ 5) : hpI (hEn h a pa) b k = hpI h b k := by
  unfold hEn
  cases hpR h a 4 <;> (simp only [hpI_wI, hpI_wR]; rw [if_neg (by rintro ⟨e1, e2⟩; rcases hb with h | h; exact h e1; exact h e2)])
theorem hEn_I5 (h : mx_H) (a pa : Nat) : hpI (hEn h a pa) a 5 = hpI h a 5 + 1 := by
  unfold hEn
  cases hpR h a 4 <;> simp [hpI_wI]
theorem hEn_R (h : mx_H) (a pa b k : Nat) (hb : b ≠ a) (hk : k ≠ 13) : hpR (hEn h a pa) b k = hpR h b k := by
  unfold hEn
  cases hpR h a 4 <;> simp [hpR_wI, hpR_wR, hb, hk]
theorem hEn_Ra (h : mx_H) {a pa : Nat} (k : Nat) (hk : k ≠ 3) (hk4 : k ≠ 4) (hap : a ≠ pa) (hl : ∀ q, hpR h a 4 = some q → a ≠ q) : hpR (hEn h a pa) a k = hpR h a k := by
  unfold hEn
  cases hc : hpR h a 4 with
  | none => simp [hpR_wI, hpR_wR, hk, hk4, hap]
  | some q => simp [hpR_wI, hpR_wR, hk4, hap, hl q hc]
theorem hEn_13 (h : mx_H) (a pa b : Nat) (hb : b ≠ a) : hpR (hEn h a pa) b 13 = if hpR h a 4 = some b then some pa else if b = pa then none else hpR h b 13 := by
  unfold hEn
  cases hc : hpR h a 4 with
  | none => simp [hpR_wI, hpR_wR, hb]
  | some q =>
    by_cases e : b = q
    · subst e; simp [hpR_wI, hpR_wR, hb]
    · have e' : ¬ q = b := fun z => e z.symm
      simp [hpR_wI, hpR_wR, hb, e, e']
theorem hEn_4 (h : mx_H) (a pa : Nat) : hpR (hEn h a pa) a 4 = some pa := by
  unfold hEn
  cases hpR h a 4 <;> simp [hpR_wI, hpR_wR]
theorem hEn_3 (h : mx_H) {a pa : Nat} (hap : a ≠ pa) (hl : ∀ q, hpR h a 4 = some q → a ≠ q) : hpR (hEn h a pa) a 3 = if hpR h a 4 = none then some pa else hpR h a 3 := by
  unfold hEn
  cases hc : hpR h a 4 with
  | none => simp [hpR_wI, hpR_wR]
  | some q => simp [hpR_wI, hpR_wR, hap]
section
variable {na : Nat → Nat} {h : mx_H} {a : Nat} {fr : Option Nat} {tg : Int32} {w : Int64} {ps : List Nat}
theorem last_ne {p : Nat} (hi : ∀ q ∈ ps, na q ≠ a) (h4 : hpR h a 4 = ps.getLast?.map na) : ∀ q, hpR h a 4 = some q → a ≠ q := by
  intro q hq e
  rw [h4] at hq
  cases hl : ps.getLast? with
  | none => rw [hl] at hq; cases hq
  | some z =>
    rw [hl] at hq
    cases hq
    exact hi z (List.mem_of_getLast? hl) e.symm
/-- a PART is enlisted in its ARM -/
theorem aF_enlist {p : Nat} (A : aF na h a fr tg w ps) (hap : a ≠ na p) (hps : ∀ q ∈ ps, na q ≠ a) (hinj : ∀ q ∈ ps, na q = na p → q = p) (hinj2 : ∀ q ∈ ps, ∀ z ∈ ps, na q = na z → q = z) (hp : p ∉ ps) (hn : ps.Nodup) : aF na (hEn h a (na p)) a fr tg w (ps ++ [p]) := by
  obtain ⟨a1, a2, a3, a4, a5, a6, a7, a8, a9, a10, a11, a12⟩ := A
  have hl := last_ne (p := p) hps a12
  refine ⟨by rw [hEn_K]; exact a1, by rw [hEn_Ra h 0 (by decide) (by decide) hap hl]; exact a2, by rw [hEn_I _ _ _ _ _ (Or.inr (by decide))]; exact a3, by rw [hEn_L]; exact a4, ?_, by rw [hEn_I _ _ _ _ _ (Or.inr (by decide))]; exact a6, by rw [hEn_I _ _ _ _ _ (Or.inr (by decide))]; exact a7, by rw [hEn_I _ _ _ _ _ (Or.inr (by decide))]; exact a8, by rw [hEn_I _ _ _ _ _ (Or.inr (by decide))]; exact a9, by rw [hEn_I _ _ _ _ _ (Or.inr (by decide))]; exact a10, ?_, ?_⟩
  · rw [hEn_I5, a5, nI_1, List.length_append]; rfl
  · rw [hEn_3 h hap hl]
    have hpp : hpR (hEn h a (na p)) (na p) 13 = none := by
      rw [hEn_13 _ _ _ _ (Ne.symm hap), if_neg, if_pos rfl]
      intro e
      rw [a12] at e
      cases hz : ps.getLast? with
      | none => rw [hz] at e; cases e
      | some z =>
        rw [hz] at e
        have hm := List.mem_of_getLast? hz
        have := hinj z hm (Option.some.inj e)
        exact hp (this ▸ hm)
    cases hz : ps.getLast? with
    | none =>
      rw [a12, hz]
      have : ps = [] := List.getLast?_eq_none_iff.mp hz
      subst this
      show Chn na _ 13 (some (na p)) [p]
      exact ⟨rfl, hpp⟩
    | some z =>
      have hm := List.mem_of_getLast? hz
      rw [a12, hz, if_neg (by simp)]
      refine Chn_snoc a11 hz hn (fun c hc hne => ?_) ?_ hpp
      · rw [hEn_13 _ _ _ _ (hps c hc), a12, hz, if_neg, if_neg]
        · intro e
          exact hp ((hinj c hc e) ▸ hc)
        · intro e
          exact hne (hinj2 c hc z hm (Option.some.inj e).symm)
      · rw [hEn_13 _ _ _ _ (hps z hm), a12, hz, if_pos (show Option.map na (some z) = some (na z) from rfl)]
  · rw [hEn_4, List.getLast?_append]; rfl
/-- another ARM stays -/
theorem aF_other {b : Nat} {fr' : Option Nat} {tg' : Int32} {w' : Int64} {qs : List Nat} {p : Nat} (B : aF na h b fr' tg' w' qs) (hba : b ≠ a) (h4 : hpR h a 4 = ps.getLast?.map na) (hqa : ∀ q ∈ qs, na q ≠ a) (hqp : ∀ q ∈ qs, na q ≠ na p) (hqs : ∀ q ∈ qs, ∀ z ∈ ps, na q ≠ na z) (hbn : b ≠ na p) (hbz : ∀ z ∈ ps, b ≠ na z) : aF na (hEn h a (na p)) b fr' tg' w' qs := by
  obtain ⟨a1, a2, a3, a4, a5, a6, a7, a8, a9, a10, a11, a12⟩ := B
  refine ⟨by rw [hEn_K]; exact a1, by rw [hEn_R _ _ _ _ _ hba (by decide)]; exact a2, by rw [hEn_I _ _ _ _ _ (Or.inl hba)]; exact a3, by rw [hEn_L]; exact a4, by rw [hEn_I _ _ _ _ _ (Or.inl hba)]; exact a5, by rw [hEn_I _ _ _ _ _ (Or.inl hba)]; exact a6, by rw [hEn_I _ _ _ _ _ (Or.inl hba)]; exact a7, by rw [hEn_I _ _ _ _ _ (Or.inl hba)]; exact a8, by rw [hEn_I _ _ _ _ _ (Or.inl hba)]; exact a9, by rw [hEn_I _ _ _ _ _ (Or.inl hba)]; exact a10, ?_, by rw [hEn_R _ _ _ _ _ hba (by decide)]; exact a12⟩
  rw [hEn_R _ _ _ _ _ hba (by decide)]
  refine Chn_congr (fun c hc => ?_) a11
  rw [hEn_13 _ _ _ _ (hqa c hc), if_neg, if_neg (hqp c hc)]
  intro e
  rw [h4] at e
  cases hz : ps.getLast? with
  | none => rw [hz] at e; cases e
  | some z =>
    rw [hz] at e
    exact hqs c hc z (List.mem_of_getLast? hz) (Option.some.inj e).symm
/-- a chain of other NODES stays -/
theorem Chn_enlist {qs : List Nat} {r : Option Nat} {p : Nat} (B : Chn na h 13 r qs) (h4 : hpR h a 4 = ps.getLast?.map na) (hqa : ∀ q ∈ qs, na q ≠ a) (hqp : ∀ q ∈ qs, na q ≠ na p) (hqs : ∀ q ∈ qs, ∀ z ∈ ps, na q ≠ na z) : Chn na (hEn h a (na p)) 13 r qs := by
  refine Chn_congr (fun c hc => ?_) B
  rw [hEn_13 _ _ _ _ (hqa c hc), if_neg, if_neg (hqp c hc)]
  intro e
  rw [h4] at e
  cases hz : ps.getLast? with
  | none => rw [hz] at e; cases e
  | some z =>
    rw [hz] at e
    exact hqs c hc z (List.mem_of_getLast? hz) (Option.some.inj e).symm
theorem nAll_congr {t : tr} {κ : Nat → Nat} {h h' : mx_H} (H : nAll na t κ h) (hc : ∀ i, i < tN t → hpK h' (na i) = hpK h (na i) ∧ (∀ k, hpI h' (na i) k = hpI h (na i) k) ∧ hpL h' (na i) 1 = hpL h (na i) 1 ∧ ∀ k, k ≠ 13 → hpR h' (na i) k = hpR h (na i) k) (T : tOk t) : nAll na t κ h' := by
  intro i hi
  obtain ⟨b1, b2, b3, b4, b5, b6, b7, b8, b9, b10, b11, b12, b13⟩ := H i hi
  obtain ⟨c1, c2, c3, c4⟩ := hc i hi
  refine ⟨by rw [c1]; exact b1, by rw [c2]; exact b2, by rw [c3]; exact b3, by rw [c2]; exact b4, by rw [c2]; exact b5, by rw [c2]; exact b6, by rw [c2]; exact b7, by rw [c2]; exact b8, by rw [c2]; exact b9, by rw [c2]; exact b10, by rw [c4 9 (by decide)]; exact b11, ?_, by rw [c4 11 (by decide)]; exact b13⟩
  rw [c4 10 (by decide)]
  exact Chn_congr (fun c hcc => (hc c ((T.at hi).2.2.1 c hcc).2.1).2.2.2 12 (by decide)) b12
end
