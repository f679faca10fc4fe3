/-! Splitter: kindOf, its first loop: all ARMS are split. -/
def adr (tp : Nat) (aa : Nat → Nat) (j : Nat) : Nat := match j with
  | 0 => tp
  | j + 1 => aa j
def rfr (tp : Nat) (aa : Nat → Nat) (j : Nat) (e : rc) : Option Nat := if j = 0 then none else some (adr tp aa (rF e))
def rtg (j : Nat) (e : rc) : Int32 := if j = 0 then -1 else nI (rG e)
/-- an ARM that is a SWITCH, of which some of the ARMS have been heard -/
def aS (h : mx_H) (b : Nat) (fr : Option Nat) (w : Int64) (x v n : Nat) (cf : Bool) (mo : Nat) : Prop :=
  hpK h b = some (.inl 0) ∧ hpR h b 0 = fr ∧ hpL h b 2 = w ∧ hpI h b 6 = nI x ∧ hpI h b 7 = nI v ∧ hpI h b 8 = nI n ∧ hpI h b 9 = bI cf ∧ hpI h b 10 = nI mo
theorem aS_congr {h h' : mx_H} {b : Nat} {fr : Option Nat} {w : Int64} {x v n : Nat} {cf : Bool} {mo : Nat} (A : aS h b fr w x v n cf mo) (hK : hpK h' b = hpK h b) (hr : ∀ k, hpI h' b k = hpI h b k ∧ hpL h' b k = hpL h b k ∧ hpR h' b k = hpR h b k) : aS h' b fr w x v n cf mo := by
  obtain ⟨a1, a2, a3, a4, a5, a6, a7, a8⟩ := A
  exact ⟨by rw [hK]; exact a1, by rw [(hr 0).2.2]; exact a2, by rw [(hr 2).2.1]; exact a3, by rw [(hr 6).1]; exact a4, by rw [(hr 7).1]; exact a5, by rw [(hr 8).1]; exact a6, by rw [(hr 9).1]; exact a7, by rw [(hr 10).1]; exact a8⟩
/-- the ARM at the place j, i of them split -/
def aR (na : Nat → Nat) (t : tr) (h : mx_H) (tp : Nat) (aa : Nat → Nat) (i j : Nat) (e : rc) : Prop := match fsw t (rW e) (rP e) with
  | none => aF na h (adr tp aa j) (rfr tp aa j e) (rtg j e) (rW e) (rP e)
  | some (x, v) => if j < i then aS h (adr tp aa j) (rfr tp aa j e) (rW e) x v (rch t j e).length false 0 else aF na h (adr tp aa j) (rfr tp aa j e) (rtg j e) (rW e) (rP e)
def kI (na : Nat → Nat) (t : tr) (κ : Nat → Nat) (s tp oa : Nat) (ps0 : List Nat) (h0 : mx_H) (aa0 : Nat → Nat) (M0 : Nat) (h : mx_H) (aa : Nat → Nat) (M : Nat) (L : List rc) (i : Nat) : Prop :=
  (sP h s tp oa aa M ∧ hOk h ∧ hpI h s 2 = nI (L.length - 1) ∧ 1 ≤ L.length ∧ L.length - 1 ≤ M ∧ M0 ≤ M ∧ (∀ k, k < M0 → aa k = aa0 k) ∧ nAll na t κ h ∧ (∀ p ∈ ps0, hpL h (na p) 14 = thm t p)) ∧
  (∀ j e, L[j]? = some e → aR na t h tp aa i j e) ∧
  (∀ j e, L[j]? = some e → (∀ p ∈ rP e, p ∈ ps0) ∧ (rP e).Nodup ∧ (0 < j → rF e < j)) ∧
  (∀ j k ej ek, L[j]? = some ej → L[k]? = some ek → j ≠ k → (i ≤ j ∨ fsw t (rW ej) (rP ej) = none) → (i ≤ k ∨ fsw t (rW ek) (rP ek) = none) → ∀ q ∈ rP ej, q ∉ rP ek) ∧
  ((∀ j e, L[j]? = some e → j < i → (L.drop 1).filter (fun c => rF c == j) = rch t j e) ∧ (∀ j, i ≤ j → (L.drop 1).filter (fun c => rF c == j) = [])) ∧
  (L.length - 1) + ((L.drop i).map (fun e => sA t (rW e) (rP e))).sum ≤ 250 ∧
  (hpZ h = hpZ h0 + (M - M0) ∧ hpU h = hpU h0 + 11 * (M - M0) ∧ (∀ j, M0 ≤ j → j < M → hpK h0 (aa j) = none)) ∧
  (∀ c, hpK h0 c ≠ none → hpK h c = hpK h0 c ∧ ∀ k, c ≠ tp → (∀ j, j < M0 → c ≠ aa0 j) → ¬ (c = s ∧ k = 2) → c ≠ oa → ¬ ((k = 13 ∨ k = 14) ∧ ∃ p ∈ ps0, c = na p) → hpI h c k = hpI h0 c k ∧ hpL h c k = hpL h0 c k ∧ hpR h c k = hpR h0 c k)
section
variable {na : Nat → Nat} {t : tr} {κ : Nat → Nat} {s tp oa : Nat} {ps0 : List Nat} {h0 : mx_H} {aa0 : Nat → Nat} {M0 : Nat}
theorem drop_cons {L : List rc} {i : Nat} {e : rc} (h : L[i]? = some e) : L.drop i = e :: L.drop (i + 1) := by
  have hl := (List.getElem?_eq_some_iff.mp h)
  obtain ⟨h1, h2⟩ := hl
  rw [List.drop_eq_getElem_cons h1, h2]
theorem rch_len {j x v : Nat} {e : rc} (hf : fsw t (rW e) (rP e) = some (x, v)) : (rch t j e).length = (grp t x (rP e)).length := by
  unfold rch; rw [hf]; simp
theorem rch_fa {j : Nat} {e c : rc} (hc : c ∈ rch t j e) : rF c = j := by
  unfold rch at hc
  split at hc
  · cases hc
  · obtain ⟨q, -, rfl⟩ := List.mem_map.mp hc; rfl
theorem kI_adr {h : mx_H} {aa : Nat → Nat} {M : Nat} (P : sP h s tp oa aa M) {j k : Nat} (hj : j ≤ M) (hk : k ≤ M) (e : adr tp aa j = adr tp aa k) : j = k := by
  obtain ⟨p1, p2, p3, p4, p5, p6, p7, p8, p9⟩ := P
  cases j with
  | zero =>
    cases k with
    | zero => rfl
    | succ k => exact absurd e.symm (p7 k (by omega)).2.2
  | succ j =>
    cases k with
    | zero => exact absurd e (p7 j (by omega)).2.2
    | succ k => have := p8 j k (by omega) (by omega) e; omega
theorem kI_adrK {h : mx_H} {aa : Nat → Nat} {M : Nat} (P : sP h s tp oa aa M) {j : Nat} (hj : j ≤ M) : hpK h (adr tp aa j) = some (.inl 0) := by
  obtain ⟨p1, p2, p3, p4, p5, p6, p7, p8, p9⟩ := P
  cases j with
  | zero => exact p4
  | succ j => exact (p7 j (by omega)).2.1
theorem aR_fr {h : mx_H} {aa : Nat → Nat} {i j : Nat} {e : rc} (h1 : i ≤ j ∨ fsw t (rW e) (rP e) = none) (A : aR na t h tp aa i j e) : aF na h (adr tp aa j) (rfr tp aa j e) (rtg j e) (rW e) (rP e) := by
  unfold aR at A
  cases hf : fsw t (rW e) (rP e) with
  | none => rw [hf] at A; exact A
  | some q =>
    obtain ⟨x, v⟩ := q
    rw [hf] at A
    dsimp only at A
    rcases h1 with h1 | h1
    · rw [if_neg (by omega)] at A; exact A
    · rw [hf] at h1; cases h1
/-- one ARM is split: no SWITCH -/
theorem kI_none {h : mx_H} {aa : Nat → Nat} {M i : Nat} {L : List rc} {e : rc} (I : kI na t κ s tp oa ps0 h0 aa0 M0 h aa M L i) (he : L[i]? = some e) (hf : fsw t (rW e) (rP e) = none) : kI na t κ s tp oa ps0 h0 aa0 M0 h aa M (L ++ rch t i e) (i + 1) := by
  have hr : rch t i e = [] := by unfold rch; rw [hf]
  rw [hr, List.append_nil]
  obtain ⟨k1, k2, k3, k4, ⟨k5, k6⟩, k7, k8, k9⟩ := I
  refine ⟨k1, ?_, k3, ?_, ⟨?_, fun j hj => k6 j (by omega)⟩, ?_, k8, k9⟩
  · intro j ej hj
    have A := k2 j ej hj
    by_cases hji : j = i
    · subst hji
      cases he.symm.trans hj
      unfold aR
      rw [hf]
      exact aR_fr (Or.inr hf) A
    · unfold aR at A ⊢
      cases hfj : fsw t (rW ej) (rP ej) with
      | none => rw [hfj] at A; exact A
      | some q =>
        obtain ⟨x, v⟩ := q
        rw [hfj] at A
        dsimp only at A ⊢
        by_cases hlt : j < i
        · rw [if_pos hlt] at A; rw [if_pos (by omega)]; exact A
        · rw [if_neg hlt] at A; rw [if_neg (by omega)]; exact A
  · intro j k ej ek hj hk hjk a1 a2
    refine k4 j k ej ek hj hk hjk ?_ ?_
    · rcases a1 with a | a
      · exact Or.inl (by omega)
      · exact Or.inr a
    · rcases a2 with a | a
      · exact Or.inl (by omega)
      · exact Or.inr a
  · intro j ej hj hlt
    by_cases hji : j = i
    · subst hji
      cases he.symm.trans hj
      rw [hr]; exact k6 j (Nat.le_refl _)
    · exact k5 j ej hj (by omega)
  · rw [drop_cons he] at k7
    simp only [List.map_cons, List.sum_cons] at k7
    omega
/-- one ARM is split: a SWITCH -/
theorem kI_some {h h2 : mx_H} {aa aa' : Nat → Nat} {M M' i x v : Nat} {L : List rc} {e : rc} (T : tOk t) (hps0 : ∀ p ∈ ps0, p < tN t) (hinj : ∀ i j, i < tN t → j < tN t → na i = na j → i = j) (I : kI na t κ s tp oa ps0 h0 aa0 M0 h aa M L i) (he : L[i]? = some e) (hf : fsw t (rW e) (rP e) = some (x, v))
    (S : spI na t κ s tp oa (adr tp aa i) (L.length - 1) (rW e ||| bL x) (rP e) (fsH h (adr tp aa i) (some (x, v))) aa M h2 aa' M' (grp t x (rP e))) (D : gD (grp t x (rP e)) [] (rP e)) :
    kI na t κ s tp oa ps0 h0 aa0 M0 (hwI h2 (adr tp aa i) 8 (nI (grp t x (rP e)).length)) aa' M' (L ++ rch t i e) (i + 1) := by
  obtain ⟨⟨P, i2, i3, i4, i5, i6, i7, H, i9⟩, k2, k3, k4, ⟨k5, k6⟩, k7, ⟨k8a, k8b, k8c⟩, k9⟩ := I
  obtain ⟨P', j2, j3, j4, j5, j6, H', j8, j9, j10, j12, j11⟩ := S
  have hil : i < L.length := (List.getElem?_eq_some_iff.mp he).1
  obtain ⟨q1, q2, q3, q4, q5, q6, q7, q8, q9⟩ := id P
  have A := aR_fr (Or.inl (Nat.le_refl i)) (k2 i e he)
  obtain ⟨a, ea⟩ : ∃ a, a = adr tp aa i := ⟨_, rfl⟩
  rw [← ea] at A j8 j9 j10 j11 j12 ⊢
  have ka := A.1
  have hlen := rch_len (j := i) hf
  have has : a ≠ s := fun e => by rw [e, q1] at ka; cases ka
  have hao : a ≠ oa := fun e => by rw [e, q5] at ka; cases ka
  have han : ∀ q, q < tN t → na q ≠ a := fun q hq e => by have := (H q hq).K; rw [e, ka] at this; cases this
  obtain ⟨h1, eh1⟩ : ∃ h1, h1 = fsH h a (some (x, v)) := ⟨_, rfl⟩
  rw [← eh1] at j9 j10 j11 j12
  have K1 : ∀ b, hpK h1 b = hpK h b := fun b => by rw [eh1]; exact fsH_K _ b
  have L1 : ∀ b k, hpL h1 b k = hpL h b k := fun b k => by rw [eh1]; exact fsH_L _ b k
  have R1 : ∀ b k, hpR h1 b k = hpR h b k := fun b k => by rw [eh1]; exact fsH_R _ b k
  have I1 : ∀ b k, b ≠ a → hpI h1 b k = hpI h b k := fun b k hb => by rw [eh1]; exact fsH_ne _ hb k
  have I1a : ∀ k, hpI h1 a k = if k = 7 then nI v else if k = 6 then nI x else hpI h a k := fun k => by
    rw [eh1]
    show hpI (hwI (hwI h a 6 (nI x)) a 7 (nI v)) a k = _
    rw [hpI_wI, hpI_wI]
    simp
  have Z1 : hpZ h1 = hpZ h ∧ hpU h1 = hpU h := by rw [eh1]; exact fsH_Z _
  clear eh1
  obtain ⟨h3, eh3⟩ : ∃ h3, h3 = hwI h2 a 8 (nI (grp t x (rP e)).length) := ⟨_, rfl⟩
  rw [← eh3]
  have K3 : ∀ b, hpK h3 b = hpK h2 b := fun b => by rw [eh3]; rfl
  have L3 : ∀ b k, hpL h3 b k = hpL h2 b k := fun b k => by rw [eh3]; rfl
  have R3 : ∀ b k, hpR h3 b k = hpR h2 b k := fun b k => by rw [eh3]; rfl
  have I3 : ∀ b k, ¬ (b = a ∧ k = 8) → hpI h3 b k = hpI h2 b k := fun b k hb => by rw [eh3, hpI_wI, if_neg hb]
  have I3a : hpI h3 a 8 = nI (grp t x (rP e)).length := by rw [eh3, hpI_wI, if_pos ⟨rfl, rfl⟩]
  have Z3 : hpZ h3 = hpZ h2 ∧ hpU h3 = hpU h2 := by rw [eh3]; exact ⟨rfl, rfl⟩
  clear eh3
  have hM' : M ≤ M' := j5
  have agr : ∀ j, j ≤ M → adr tp aa' j = adr tp aa j := fun j hj => by
    cases j with
    | zero => rfl
    | succ j => exact j6 j (by omega)
  -- an old cell other than a's
  have old : ∀ c, hpK h c ≠ none → ¬ (∃ j, L.length - 1 ≤ j ∧ j < M ∧ c = aa j) → c ≠ oa → ∀ k, ¬ (c = a) → ¬ (c = s ∧ k = 2) → ¬ (k = 13 ∧ ∃ p ∈ rP e, c = na p) → hpI h3 c k = hpI h c k ∧ hpL h3 c k = hpL h c k ∧ hpR h3 c k = hpR h c k := by
    intro c hc n1 n2 k n3 n4 n5
    obtain ⟨g1, g2, g3⟩ := (j11 c (by rw [K1]; exact hc)).2 k n1 n4 n2 n5
    exact ⟨by rw [I3 c k (fun z => n3 z.1), g1, I1 c k n3], by rw [L3, g2, L1], by rw [R3, g3, R1]⟩
  have armOld : ∀ j, j < L.length → j ≠ i → ∀ k, hpI h3 (adr tp aa j) k = hpI h (adr tp aa j) k ∧ hpL h3 (adr tp aa j) k = hpL h (adr tp aa j) k ∧ hpR h3 (adr tp aa j) k = hpR h (adr tp aa j) k := by
    intro j hj hji k
    have kj := kI_adrK P (j := j) (by omega)
    refine old _ (by rw [kj]; simp) ?_ (fun e => by rw [e, q5] at kj; cases kj) k ?_ (fun z => by rw [z.1, q1] at kj; cases kj) ?_
    · rintro ⟨z, z1, z2, z3⟩
      have := kI_adr P (j := j) (k := z + 1) (by omega) (by omega) z3
      omega
    · intro e
      rw [ea] at e
      exact hji (kI_adr P (by omega) (by omega) e)
    · rintro ⟨-, p, hp, e⟩
      have := (H p (hps0 p ((k3 i _ he).1 p hp))).K
      rw [← e, kj] at this; cases this
  have armOldK : ∀ j, j < L.length → hpK h3 (adr tp aa j) = hpK h (adr tp aa j) := by
    intro j hj
    have kj := kI_adrK P (j := j) (by omega)
    rw [K3, (j11 _ (by rw [K1, kj]; simp)).1, K1]
  have aOld : ∀ k, hpI h2 a k = hpI h1 a k ∧ hpL h2 a k = hpL h1 a k ∧ hpR h2 a k = hpR h1 a k := by
    intro k
    refine (j11 a (by rw [K1, ka]; simp)).2 k ?_ (fun z => has z.1) hao ?_
    · rintro ⟨z, z1, z2, z3⟩
      rw [ea] at z3
      have := kI_adr P (j := i) (k := z + 1) (by omega) (by omega) z3
      omega
    · rintro ⟨-, p, hp, e⟩
      exact han p (hps0 p ((k3 i _ he).1 p hp)) e.symm
  have rfrE : ∀ j ej, L[j]? = some ej → rfr tp aa' j ej = rfr tp aa j ej := by
    intro j ej hj
    unfold rfr
    by_cases h00 : j = 0
    · rw [if_pos h00, if_pos h00]
    · rw [if_neg h00, if_neg h00]
      have h1 := (k3 j ej hj).2.2 (by omega)
      have h2 := (List.getElem?_eq_some_iff.mp hj).1
      rw [agr _ (by omega)]
  have P3 : sP h3 s tp oa aa' M' := by
    obtain ⟨r1, r2, r3, r4, r5, r6, r7, r8, r9⟩ := P'
    exact ⟨by rw [K3]; exact r1, by rw [R3]; exact r2, by rw [R3]; exact r3, by rw [K3]; exact r4, by rw [K3]; exact r5, r6, fun k hk => ⟨by rw [R3]; exact (r7 k hk).1, by rw [K3]; exact (r7 k hk).2.1, (r7 k hk).2.2⟩, r8, fun k z1 z2 => by rw [R3]; exact r9 k z1 z2⟩
  have nodeNe : ∀ q, q < tN t → na q ≠ oa := fun q hq e => by have := (H q hq).K; rw [e, q5] at this; cases this
  have nodeNs : ∀ q, q < tN t → na q ≠ s := fun q hq e => by have := (H q hq).K; rw [e, q1] at this; cases this
  have nodeAa : ∀ q, q < tN t → ¬ (∃ j, L.length - 1 ≤ j ∧ j < M ∧ na q = aa j) := by
    rintro q hq ⟨j, -, z2, z3⟩
    have := (H q hq).K
    rw [z3, (q7 j z2).2.1] at this; cases this
  have nodeOld : ∀ q, q < tN t → ∀ k, ¬ (k = 13 ∧ q ∈ rP e) → hpI h3 (na q) k = hpI h (na q) k ∧ hpL h3 (na q) k = hpL h (na q) k ∧ hpR h3 (na q) k = hpR h (na q) k := by
    intro q hq k hk
    refine old _ (by rw [(H q hq).K]; simp) (nodeAa q hq) (nodeNe q hq) k (han q hq) (fun z => nodeNs q hq z.1) ?_
    rintro ⟨z1, p, hp, e'⟩
    have hpN := hps0 p ((k3 i _ he).1 p hp)
    exact hk ⟨z1, (hinj q p hq hpN e') ▸ hp⟩
  have hgl : (L ++ rch t i e).length - 1 = L.length - 1 + (grp t x (rP e)).length := by rw [List.length_append, hlen]; omega
  refine ⟨⟨P3, fun c hc => by rw [K3]; rw [Z3.1] at hc; exact j2 c hc, ?_, by rw [List.length_append]; omega, by rw [hgl]; exact j4, by omega, fun k hk => by rw [j6 k (by omega)]; exact i7 k hk, ?_, ?_⟩, ?_, ?_, ?_, ⟨?_, ?_⟩, ?_, ⟨?_, ?_, ?_⟩, ?_⟩
  · rw [hgl, I3 s 2 (fun z => has z.1.symm)]; exact j3
  · exact nAll_congr H' (fun q hq => ⟨K3 _, fun k => I3 _ k (fun z => han q hq z.1), L3 _ _, fun k _ => R3 _ _⟩) T
  · intro p hp
    have hpN := hps0 p hp
    rw [(nodeOld p hpN 14 (fun z => by omega)).2.1]
    exact i9 p hp
  · -- the ARMS
    intro j ej hj
    by_cases hjl : j < L.length
    · rw [List.getElem?_append_left hjl] at hj
      have hag := agr j (by omega)
      by_cases hji : j = i
      · subst hji
        cases he.symm.trans hj
        unfold aR
        rw [hf]
        dsimp only
        rw [if_pos (by omega), hag, rfrE j e he, ← ea, hlen]
        obtain ⟨b1, b2, b3, b4, b5, b6, b7, b8, b9, b10, b11, b12⟩ := A
        refine ⟨?_, ?_, ?_, ?_, ?_, I3a, ?_, ?_⟩
        · rw [K3, (j11 a (by rw [K1, ka]; simp)).1, K1]; exact ka
        · rw [R3, (aOld 0).2.2, R1]; exact b2
        · rw [L3, (aOld 2).2.1, L1]; exact b4
        · rw [I3 a 6 (fun z => by omega), (aOld 6).1, I1a]; simp
        · rw [I3 a 7 (fun z => by omega), (aOld 7).1, I1a]; simp
        · rw [I3 a 9 (fun z => by omega), (aOld 9).1, I1a]; simp; exact b9
        · rw [I3 a 10 (fun z => by omega), (aOld 10).1, I1a]; simp; exact b10
      · have B := k2 j ej hj
        have rd := armOld j hjl hji
        have rk := armOldK j hjl
        have chain : (i ≤ j ∨ fsw t (rW ej) (rP ej) = none) → ∀ q ∈ rP ej, hpR h3 (na q) 13 = hpR h (na q) 13 := by
          intro act q hq
          have hqN := hps0 q ((k3 j ej hj).1 q hq)
          exact (nodeOld q hqN 13 (fun z => k4 j i ej e hj he hji act (Or.inl (Nat.le_refl _)) q hq z.2)).2.2
        unfold aR at B ⊢
        cases hfj : fsw t (rW ej) (rP ej) with
        | none =>
          rw [hfj] at B
          dsimp only at B ⊢
          rw [hag, rfrE j ej hj]
          exact aF_congr B rk rd (chain (Or.inr hfj))
        | some q =>
          obtain ⟨x', v'⟩ := q
          rw [hfj] at B
          dsimp only at B ⊢
          rw [hag, rfrE j ej hj]
          by_cases hlt : j < i
          · rw [if_pos hlt] at B
            rw [if_pos (by omega)]
            exact aS_congr B rk rd
          · rw [if_neg hlt] at B
            rw [if_neg (by omega)]
            exact aF_congr B rk rd (chain (Or.inl (by omega)))
    · rw [List.getElem?_append_right (by omega)] at hj
      unfold rch at hj
      rw [hf] at hj
      dsimp only at hj
      rw [List.getElem?_map] at hj
      cases hg : (grp t x (rP e))[j - L.length]? with
      | none => rw [hg] at hj; cases hj
      | some ge =>
        rw [hg] at hj
        simp only [Option.map_some, Option.some.injEq] at hj
        subst hj
        have B := j8 _ ge hg
        have hgm := List.mem_of_getElem? hg
        have hadr : adr tp aa' j = aa' (L.length - 1 + (j - L.length)) := by
          cases j with
          | zero => omega
          | succ j => show aa' j = _; congr 1; omega
        have hres : aF na h3 (adr tp aa' j) (rfr tp aa' j (i, ge.1, rW e ||| bL x, ge.2)) (rtg j (i, ge.1, rW e ||| bL x, ge.2)) (rW e ||| bL x) ge.2 := by
          rw [rfr, if_neg (by omega), rtg, if_neg (by omega)]
          show aF na h3 (adr tp aa' j) (some (adr tp aa' i)) (nI ge.1) _ _
          rw [agr i (by omega), ← ea, hadr]
          have hne : aa' (L.length - 1 + (j - L.length)) ≠ a := by
            intro e'
            rw [← hadr, ea, ← agr i (by omega)] at e'
            have := kI_adr P3 (j := j) (k := i) (by have := (List.getElem?_eq_some_iff.mp hg).1; omega) (by omega) e'
            omega
          exact aF_congr B (K3 _) (fun k => ⟨I3 _ k (fun z => hne z.1), L3 _ _, R3 _ _⟩) (fun q hq => R3 _ _)
        unfold aR
        cases hfj : fsw t (rW (i, ge.1, rW e ||| bL x, ge.2)) (rP (i, ge.1, rW e ||| bL x, ge.2)) with
        | none => exact hres
        | some q => dsimp only; rw [if_neg (by omega)]; exact hres
  · intro j ej hj
    by_cases hjl : j < L.length
    · rw [List.getElem?_append_left hjl] at hj
      exact k3 j ej hj
    · rw [List.getElem?_append_right (by omega)] at hj
      have hm := List.mem_of_getElem? hj
      have hfa := rch_fa hm
      unfold rch at hm
      rw [hf] at hm
      obtain ⟨ge, hg, rfl⟩ := List.mem_map.mp hm
      refine ⟨fun p hp => (k3 i e he).1 p (D.1 ge hg p hp).1, (D.2.2.2.1 ge hg).1, fun _ => by rw [hfa]; omega⟩
  · -- they lie apart
    have act' : ∀ (j : Nat) (ej : rc), (i + 1 ≤ j ∨ fsw t (rW ej) (rP ej) = none) → (i ≤ j ∨ fsw t (rW ej) (rP ej) = none) := fun j ej h => h.elim (fun z => Or.inl (by omega)) Or.inr
    have sub : ∀ c ∈ rch t i e, ∀ q ∈ rP c, q ∈ rP e := by
      intro c hc q hq
      unfold rch at hc
      rw [hf] at hc
      obtain ⟨ge, hg, rfl⟩ := List.mem_map.mp hc
      exact (D.1 ge hg q hq).1
    intro j k ej ek hj hk hjk a1 a2 q hq hq2
    by_cases hjl : j < L.length
    · rw [List.getElem?_append_left hjl] at hj
      have hji : j ≠ i := by
        intro e'
        subst e'
        cases he.symm.trans hj
        rcases a1 with z | z
        · omega
        · rw [hf] at z; cases z
      by_cases hkl : k < L.length
      · rw [List.getElem?_append_left hkl] at hk
        exact k4 j k ej ek hj hk hjk (act' j ej a1) (act' k ek a2) q hq hq2
      · rw [List.getElem?_append_right (by omega)] at hk
        exact k4 j i ej e hj he hji (act' j ej a1) (Or.inl (Nat.le_refl _)) q hq (sub ek (List.mem_of_getElem? hk) q hq2)
    · rw [List.getElem?_append_right (by omega)] at hj
      by_cases hkl : k < L.length
      · rw [List.getElem?_append_left hkl] at hk
        have hki : k ≠ i := by
          intro e'
          subst e'
          cases he.symm.trans hk
          rcases a2 with z | z
          · omega
          · rw [hf] at z; cases z
        exact k4 k i ek e hk he hki (act' k ek a2) (Or.inl (Nat.le_refl _)) q hq2 (sub ej (List.mem_of_getElem? hj) q hq)
      · rw [List.getElem?_append_right (by omega)] at hk
        unfold rch at hj hk
        rw [hf] at hj hk
        dsimp only at hj hk
        rw [List.getElem?_map] at hj hk
        cases g1 : (grp t x (rP e))[j - L.length]? with
        | none => rw [g1] at hj; cases hj
        | some ge1 =>
          cases g2 : (grp t x (rP e))[k - L.length]? with
          | none => rw [g2] at hk; cases hk
          | some ge2 =>
            rw [g1] at hj; rw [g2] at hk
            simp only [Option.map_some, Option.some.injEq] at hj hk
            subst hj; subst hk
            exact D.2.2.2.2 _ _ ge1 ge2 g1 g2 (by omega) q hq hq2
  · intro j ej hj hlt
    have hjl : j < L.length := by omega
    rw [List.getElem?_append_left hjl] at hj
    rw [List.drop_append_of_le_length (by omega), List.filter_append]
    by_cases hji : j = i
    · subst hji
      cases he.symm.trans hj
      rw [k6 j (Nat.le_refl _), List.nil_append]
      exact List.filter_eq_self.mpr (fun c hc => by rw [rch_fa hc]; simp)
    · rw [k5 j ej hj (by omega)]
      have : (rch t i e).filter (fun c => rF c == j) = [] := List.filter_eq_nil_iff.mpr (fun c hc => by rw [rch_fa hc]; simp; omega)
      rw [this, List.append_nil]
  · intro j hj
    rw [List.drop_append_of_le_length (by omega), List.filter_append, k6 j (by omega)]
    have : (rch t i e).filter (fun c => rF c == j) = [] := List.filter_eq_nil_iff.mpr (fun c hc => by rw [rch_fa hc]; simp; omega)
    rw [this]; rfl
  · rw [hgl, List.drop_append_of_le_length (by omega), List.map_append, List.sum_append]
    rw [drop_cons he] at k7
    simp only [List.map_cons, List.sum_cons] at k7
    have := rch_pot T i e (fun p hp => hps0 p ((k3 i e he).1 p hp))
    rw [hlen] at this
    omega
  · rw [Z3.1, j9, Z1.1, k8a]; omega
  · rw [Z3.2, j10, Z1.2, k8b]; omega
  · intro j z1 z2
    by_cases hlt : j < M
    · rw [j6 j hlt]; exact k8c j z1 hlt
    · have h1 := j12 j (by omega) z2
      rw [K1] at h1
      cases hc : hpK h0 (aa' j) with
      | none => rfl
      | some z =>
        have := (k9 (aa' j) (by rw [hc]; simp)).1
        rw [h1, hc] at this; cases this
  · intro c hc
    obtain ⟨f1, f2⟩ := k9 c hc
    have hch : hpK h c ≠ none := by rw [f1]; exact hc
    refine ⟨by rw [K3, (j11 c (by rw [K1]; exact hch)).1, K1]; exact f1, fun k n1 n2 n3 n4 n5 => ?_⟩
    have notArm : ∀ j, j ≤ M → c ≠ adr tp aa j := by
      intro j hj e'
      cases j with
      | zero => exact n1 e'
      | succ j =>
        by_cases hlt : j < M0
        · exact n2 j hlt (by rw [e']; exact i7 j hlt)
        · exact hc (by rw [e']; exact k8c j (by omega) (by omega))
    obtain ⟨g1, g2, g3⟩ := f2 k n1 n2 n3 n4 n5
    obtain ⟨o1, o2, o3⟩ := old c hch (fun ⟨z, z1, z2, z3⟩ => notArm (z + 1) (by omega) z3) n4 k (fun e' => notArm i (by omega) (by rw [e', ea])) n3 (fun ⟨z1, p, hp, e'⟩ => n5 ⟨Or.inl z1, p, (k3 i e he).1 p hp, e'⟩)
    exact ⟨o1.trans g1, o2.trans g2, o3.trans g3⟩
end
