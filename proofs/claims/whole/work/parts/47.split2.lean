/-! Splitter: split's loop, and split. -/
/-- behind some turns of split's loop: G the groups made so far, from the ARM m on; h0, aa0, M0: what was there at its start -/
def spI (na : Nat → Nat) (t : tr) (κ : Nat → Nat) (s tp oa a m : Nat) (w' : Int64) (ps : List Nat) (h0 : mx_H) (aa0 : Nat → Nat) (M0 : Nat) (h : mx_H) (aa : Nat → Nat) (M : Nat) (G : List (Nat × List Nat)) : Prop :=
  sP h s tp oa aa M ∧ hOk h ∧ hpI h s 2 = nI (m + G.length) ∧ m + G.length ≤ M ∧ M0 ≤ M ∧ (∀ k, k < M0 → aa k = aa0 k) ∧ nAll na t κ h ∧ (∀ k e, G[k]? = some e → aF na h (aa (m + k)) (some a) (nI e.1) w' e.2) ∧ hpZ h = hpZ h0 + (M - M0) ∧ hpU h = hpU h0 + 11 * (M - M0) ∧ (∀ j, M0 ≤ j → j < M → hpK h0 (aa j) = none) ∧
  (∀ c, hpK h0 c ≠ none → hpK h c = hpK h0 c ∧ ∀ k, ¬ (∃ j, m ≤ j ∧ j < M0 ∧ c = aa0 j) → ¬ (c = s ∧ k = 2) → c ≠ oa → ¬ (k = 13 ∧ ∃ p ∈ ps, c = na p) → hpI h c k = hpI h0 c k ∧ hpL h c k = hpL h0 c k ∧ hpR h c k = hpR h0 c k)
section
variable {na : Nat → Nat} {t : tr} {κ : Nat → Nat} {s tp oa a m x : Nat} {w' : Int64} {ps : List Nat} {h0 : mx_H} {aa0 : Nat → Nat} {M0 : Nat}
/-- a PART is enlisted in the ARM m + k -/
theorem spI_enlist (T : tOk t) (hinj : ∀ i j, i < tN t → j < tN t → na i = na j → i = j) (hps : ∀ p ∈ ps, p < tN t) (ha0 : ∀ j, m ≤ j → j < M0 → a ≠ aa0 j)
    {h : mx_H} {aa : Nat → Nat} {M : Nat} {G : List (Nat × List Nat)} {l : List Nat} {p k g : Nat} {qs : List Nat} (I : spI na t κ s tp oa a m w' ps h0 aa0 M0 h aa M G) (hk : G[k]? = some (g, qs)) (D : gD G l ps) (hp : p ∈ ps) (hpq : ∀ e ∈ G, p ∉ e.2) :
    spI na t κ s tp oa a m w' ps h0 aa0 M0 (hEn h (aa (m + k)) (na p)) aa M (G.set k (g, qs ++ [p])) ∧ ∀ r l', Chn na h 13 r l' → (∀ q ∈ l', q ∈ ps ∧ q ≠ p ∧ ∀ e ∈ G, q ∉ e.2) → Chn na (hEn h (aa (m + k)) (na p)) 13 r l' := by
  obtain ⟨P, i2, i3, i4, i5, i6, H, i8, i9, i10, i12, i11⟩ := I
  obtain ⟨p1, p2, p3, p4, p5, p6, p7, p8, p9⟩ := id P
  obtain ⟨d1, d2, d3, d4, d5⟩ := D
  have hkl : k < G.length := (List.getElem?_eq_some_iff.mp hk).1
  have hmem : (g, qs) ∈ G := List.mem_of_getElem? hk
  have A := i8 k _ hk
  have hKb := A.1
  have hpN := hps p hp
  have nodeNe : ∀ q, q < tN t → na q ≠ aa (m + k) := fun q hq e => by have := (H q hq).K; rw [e, hKb] at this; cases this
  have qN : ∀ e ∈ G, ∀ q ∈ e.2, q < tN t := fun e he q hq => hps q (d1 e he q hq).1
  have hsb : s ≠ aa (m + k) := fun e => by rw [e, hKb] at p1; cases p1
  have hob : oa ≠ aa (m + k) := fun e => by rw [e, hKb] at p5; cases p5
  have A' : aF na (hEn h (aa (m + k)) (na p)) (aa (m + k)) (some a) (nI g) w' (qs ++ [p]) :=
    aF_enlist A (fun e => nodeNe p hpN e.symm) (fun q hq => nodeNe q (qN _ hmem q hq)) (fun q hq e => hinj q p (qN _ hmem q hq) hpN e) (fun q hq z hz e => hinj q z (qN _ hmem q hq) (qN _ hmem z hz) e) (hpq _ hmem) (d4 _ hmem).1
  have h4 : hpR h (aa (m + k)) 4 = qs.getLast?.map na := A.2.2.2.2.2.2.2.2.2.2.2
  have last13 : ∀ c, hpR h (aa (m + k)) 4 = some c → ∃ z ∈ qs, c = na z := by
    intro c hc
    rw [h4] at hc
    cases hz : qs.getLast? with
    | none => rw [hz] at hc; cases hc
    | some z => rw [hz] at hc; cases hc; exact ⟨z, List.mem_of_getLast? hz, rfl⟩
  refine ⟨⟨?_, ?_, ?_, by rw [List.length_set]; exact i4, i5, i6, ?_, ?_, by rw [(hEn_Z _ _ _).1]; exact i9, by rw [(hEn_Z _ _ _).2]; exact i10, i12, ?_⟩, ?_⟩
  · refine ⟨by rw [hEn_K]; exact p1, by rw [hEn_R _ _ _ _ _ hsb (by decide)]; exact p2, by rw [hEn_R _ _ _ _ _ hsb (by decide)]; exact p3, by rw [hEn_K]; exact p4, by rw [hEn_K]; exact p5, p6, fun j hj => ⟨?_, by rw [hEn_K]; exact (p7 j hj).2.1, (p7 j hj).2.2⟩, p8, fun j h1 h2 => ?_⟩
    · by_cases e13 : j = 13
      · rw [e13, hEn_13 _ _ _ _ hob, if_neg, if_neg]
        · rw [← e13]; exact (p7 j hj).1
        · intro e; have := (H p hpN).K; rw [← e, p5] at this; cases this
        · intro e; obtain ⟨z, hz, e⟩ := last13 _ e; have := (H z (qN _ hmem z hz)).K; rw [← e, p5] at this; cases this
      · rw [hEn_R _ _ _ _ _ hob e13]; exact (p7 j hj).1
    · by_cases e13 : j = 13
      · rw [e13, hEn_13 _ _ _ _ hob, if_neg, if_neg]
        · rw [← e13]; exact p9 j h1 h2
        · intro e; have := (H p hpN).K; rw [← e, p5] at this; cases this
        · intro e; obtain ⟨z, hz, e⟩ := last13 _ e; have := (H z (qN _ hmem z hz)).K; rw [← e, p5] at this; cases this
      · rw [hEn_R _ _ _ _ _ hob e13]; exact p9 j h1 h2
  · intro c hc
    rw [(hEn_Z _ _ _).1] at hc
    rw [hEn_K]; exact i2 c hc
  · rw [hEn_I _ _ _ _ _ (Or.inl hsb), List.length_set]; exact i3
  · exact nAll_congr H (fun q hq => ⟨hEn_K _ _ _ _, fun j => hEn_I _ _ _ _ _ (Or.inl (nodeNe q hq)), hEn_L _ _ _ _ _, fun j hj => hEn_R _ _ _ _ _ (nodeNe q hq) hj⟩) T
  · intro j e he
    rw [List.getElem?_set] at he
    by_cases ej : k = j
    · rw [if_pos ej, if_pos (by omega)] at he
      cases he
      rw [← ej]; exact A'
    · rw [if_neg ej] at he
      have hjl : j < G.length := (List.getElem?_eq_some_iff.mp he).1
      have hem := List.mem_of_getElem? he
      have B := i8 j e he
      refine aF_other B (fun e' => ej ?_) h4 (fun q hq => nodeNe q (qN _ hem q hq)) (fun q hq e' => ?_) (fun q hq z hz e' => ?_) (fun e' => ?_) (fun z hz e' => ?_)
      · have := p8 (m + j) (m + k) (by omega) (by omega) e'; omega
      · have := hinj q p (qN _ hem q hq) hpN e'
        exact hpq e hem (this ▸ hq)
      · have := hinj q z (qN _ hem q hq) (qN _ hmem z hz) e'
        exact d5 j k e (g, qs) he hk (fun z => ej z.symm) q hq (this ▸ hz)
      · have := (H p hpN).K; rw [← e', B.1] at this; cases this
      · have := (H z (qN _ hmem z hz)).K; rw [← e', B.1] at this; cases this
  · intro c hc
    obtain ⟨f1, f2⟩ := i11 c hc
    refine ⟨by rw [hEn_K]; exact f1, fun j n1 n2 n3 n4 => ?_⟩
    have hcb : c ≠ aa (m + k) := by
      intro e
      by_cases hlt : m + k < M0
      · exact n1 ⟨m + k, by omega, hlt, by rw [e]; exact i6 _ hlt⟩
      · exact hc (by rw [e]; exact i12 _ (by omega) (by omega))
    obtain ⟨g1, g2, g3⟩ := f2 j n1 n2 n3 n4
    refine ⟨by rw [hEn_I _ _ _ _ _ (Or.inl hcb)]; exact g1, by rw [hEn_L]; exact g2, ?_⟩
    by_cases e13 : j = 13
    · subst e13
      rw [hEn_13 _ _ _ _ hcb, if_neg, if_neg]
      · exact g3
      · intro e; exact n4 ⟨rfl, p, hp, e⟩
      · intro e; obtain ⟨z, hz, e⟩ := last13 _ e; exact n4 ⟨rfl, z, (d1 _ hmem z hz).1, e⟩
    · rw [hEn_R _ _ _ _ _ hcb e13]; exact g3
  · intro r l' hch hl'
    refine Chn_enlist hch h4 (fun q hq => nodeNe q (hps q (hl' q hq).1)) (fun q hq e => ?_) (fun q hq z hz e => ?_)
    · exact (hl' q hq).2.1 (hinj q p (hps q (hl' q hq).1) hpN e)
    · have := hinj q z (hps q (hl' q hq).1) (qN _ hmem z hz) e
      exact (hl' q hq).2.2 _ hmem (this ▸ hz)
theorem tkg_lt (T : tOk t) {p : Nat} (hp : p < tN t) : tkg t p x < 100 := by
  unfold tkg
  cases hc : tk t p x with
  | none => simp
  | some c =>
    obtain ⟨-, g2, g3, -⟩ := tk_spec T hp hc
    exact ((T.at g2).2.2.2.2.2.2.2.2.1 g3).2.1
/-- a new ARM is opened -/
theorem spI_new {h h' : mx_H} {aa aa' : Nat → Nat} {M M' : Nat} {G : List (Nat × List Nat)} {l : List Nat} {g : Nat} (T : tOk t) (hps : ∀ p ∈ ps, p < tN t) (D : gD G l ps) (I : spI na t κ s tp oa a m w' ps h0 aa0 M0 h aa M G) (N : anw na h h' s tp oa aa aa' M M' (m + G.length) a (nI g) w') : spI na t κ s tp oa a m w' ps h0 aa0 M0 h' aa' M' (G ++ [(g, [])]) ∧ ∀ r l', Chn na h 13 r l' → (∀ q ∈ l', q < tN t) → Chn na h' 13 r l' := by
  obtain ⟨P, i2, i3, i4, i5, i6, H, i8, i9, i10, i12, i11⟩ := I
  obtain ⟨n1, n2, n3, n4, n5, n6, n7, n8, n9, n10, n12, n11⟩ := N
  obtain ⟨p1, p2, p3, p4, p5, p6, p7, p8, p9⟩ := id P
  have hz := n7.1
  have hsz : ∀ q, q < tN t → na q ≠ aa' (m + G.length) := by
    intro q hq e
    have h1 := (n11 (na q) (by rw [(H q hq).K]; simp)).1
    rw [(H q hq).K, e, hz] at h1
    cases h1
  have nodeS : ∀ q, q < tN t → na q ≠ s := fun q hq e => by have := (H q hq).K; rw [e, p1] at this; cases this
  have nodeO : ∀ q, q < tN t → na q ≠ oa := fun q hq e => by have := (H q hq).K; rw [e, p5] at this; cases this
  have nodeR : ∀ q, q < tN t → hpK h' (na q) = hpK h (na q) ∧ ∀ k, hpI h' (na q) k = hpI h (na q) k ∧ hpL h' (na q) k = hpL h (na q) k ∧ hpR h' (na q) k = hpR h (na q) k := by
    intro q hq
    obtain ⟨f1, f2⟩ := n11 (na q) (by rw [(H q hq).K]; simp)
    exact ⟨f1, fun k => f2 k (hsz q hq) (fun z => nodeS q hq z.1) (nodeO q hq)⟩
  refine ⟨⟨n1, n2, by rw [List.length_append]; exact n6, by rw [List.length_append]; exact n3, by omega, fun k hk => by rw [n5 k (by omega)]; exact i6 k hk, ?_, ?_, by omega, by omega, ?_, ?_⟩, ?_⟩
  · exact nAll_congr H (fun q hq => ⟨(nodeR q hq).1, fun k => ((nodeR q hq).2 k).1, ((nodeR q hq).2 1).2.1, fun k _ => ((nodeR q hq).2 k).2.2⟩) T
  · intro k e he
    by_cases hk : k < G.length
    · rw [List.getElem?_append_left hk] at he
      have B := i8 k e he
      rw [n5 (m + k) (by omega)]
      obtain ⟨f1, f2⟩ := n11 (aa (m + k)) (by rw [B.1]; simp)
      have hne : aa (m + k) ≠ aa' (m + G.length) := by
        by_cases hlt : m + G.length < M
        · rw [n5 _ hlt]
          intro e
          have := p8 _ _ (by omega) hlt e
          omega
        · intro e
          have := n10 (by omega)
          rw [← e, B.1] at this
          cases this
      have hne2 : aa (m + k) ≠ s := fun e => by have := B.1; rw [e, p1] at this; cases this
      have hne3 : aa (m + k) ≠ oa := fun e => by have := B.1; rw [e, p5] at this; cases this
      exact aF_congr B f1 (fun j => f2 j hne (fun z => hne2 z.1) hne3) (fun q hq => ((nodeR q (hps q (D.1 e (List.mem_of_getElem? he) q hq).1)).2 13).2.2)
    · rw [List.getElem?_append_right (by omega)] at he
      have hz' : k - G.length < 1 := (List.getElem?_eq_some_iff.mp he).1
      rw [show k - G.length = 0 by omega] at he
      cases he
      rw [show k = G.length by omega]
      exact n7
  · intro j hj1 hj2
    by_cases hlt : j < M
    · rw [n5 j hlt]; exact i12 j hj1 hlt
    · have hj : j = m + G.length := by omega
      rw [hj]
      have := n10 (by omega)
      cases hc : hpK h0 (aa' (m + G.length)) with
      | none => rfl
      | some z =>
        have h1 := (i11 (aa' (m + G.length)) (by rw [hc]; simp)).1
        rw [this, hc] at h1
        cases h1
  · intro c hc
    obtain ⟨f1, f2⟩ := i11 c hc
    obtain ⟨g1, g2⟩ := n11 c (by rw [f1]; exact hc)
    refine ⟨by rw [g1]; exact f1, fun k q1 q2 q3 q4 => ?_⟩
    have hne : c ≠ aa' (m + G.length) := by
      intro e
      by_cases hlt : m + G.length < M
      · rw [n5 _ hlt] at e
        by_cases hlt2 : m + G.length < M0
        · exact q1 ⟨m + G.length, by omega, hlt2, by rw [e]; exact i6 _ hlt2⟩
        · exact hc (by rw [e]; exact i12 _ (by omega) hlt)
      · have := n10 (by omega)
        rw [← e, f1] at this
        exact hc this
    obtain ⟨a1, a2, a3⟩ := f2 k q1 q2 q3 q4
    obtain ⟨b1, b2, b3⟩ := g2 k hne q2 q3
    exact ⟨b1.trans a1, b2.trans a2, b3.trans a3⟩
  · intro r l' hch hl'
    exact Chn_congr (fun q hq => ((nodeR q (hl' q hq)).2 13).2.2) hch
end
