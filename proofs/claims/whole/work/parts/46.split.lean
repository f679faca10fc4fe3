/-! Splitter: split. -/
theorem ofS_at {tg : Nat → Int32} {g : Int32} : ∀ {n i k : Nat}, k < n → tg (i + k) = g → (∀ j, j < k → tg (i + j) ≠ g) → ofS tg g i n = some (i + k) := by
  intro n
  induction n with
  | zero => intro i k h; omega
  | succ n ih =>
    intro i k hk h1 h2
    rw [ofS]
    cases k with
    | zero => rw [if_pos (by simpa using h1)]; rfl
    | succ k =>
      rw [if_neg (by have := h2 0 (by omega); simpa using this), ih (k := k) (by omega) (by rw [show i + 1 + k = i + (k + 1) by omega]; exact h1) (fun j hj => by rw [show i + 1 + j = i + (j + 1) by omega]; exact h2 (j + 1) (by omega))]
      congr 1; omega
theorem ofS_no {tg : Nat → Int32} {g : Int32} : ∀ {n i : Nat}, (∀ j, j < n → tg (i + j) ≠ g) → ofS tg g i n = none := by
  intro n
  induction n with
  | zero => intro i _; rfl
  | succ n ih =>
    intro i h
    rw [ofS, if_neg (by have := h 0 (by omega); simpa using this)]
    exact ih (fun j hj => by rw [show i + 1 + j = i + (j + 1) by omega]; exact h (j + 1) (by omega))
theorem gIn_cases (g p : Nat) : ∀ (G : List (Nat × List Nat)), (∃ k l, G[k]? = some (g, l) ∧ (∀ j e, j < k → G[j]? = some e → e.1 ≠ g) ∧ gIn G g p = G.set k (g, l ++ [p])) ∨ ((∀ e ∈ G, e.1 ≠ g) ∧ gIn G g p = G ++ [(g, [p])]) := by
  intro G
  induction G with
  | nil => right; exact ⟨fun e h => (by cases h), rfl⟩
  | cons a r ih =>
    obtain ⟨g', l⟩ := a
    by_cases e : g' = g
    · left
      subst e
      exact ⟨0, l, rfl, fun j _ hj => by omega, by rw [gIn, if_pos rfl]; rfl⟩
    · rcases ih with ⟨k, l', h1, h2, h3⟩ | ⟨h1, h2⟩
      · left
        refine ⟨k + 1, l', by simpa using h1, ?_, by rw [gIn, if_neg e, h3]; rfl⟩
        intro j e' hj hje
        cases j with
        | zero => simp at hje; subst hje; exact e
        | succ j => exact h2 j e' (by omega) (by simpa using hje)
      · right
        refine ⟨?_, by rw [gIn, if_neg e, h2]; rfl⟩
        intro e' he'
        rcases List.mem_cons.mp he' with h | h
        · rw [h]; exact e
        · exact h1 e' h
theorem gIn_len (G : List (Nat × List Nat)) (g p : Nat) : G.length ≤ (gIn G g p).length := by
  rcases gIn_cases g p G with ⟨k, l, -, -, h⟩ | ⟨-, h⟩ <;> rw [h] <;> simp
theorem grL_len {t : tr} {x : Nat} : ∀ (l : List Nat) (G : List (Nat × List Nat)), G.length ≤ (grL t x G l).length := by
  intro l
  induction l with
  | nil => intro G; exact Nat.le_refl _
  | cons p r ih => intro G; rw [grL]; exact Nat.le_trans (gIn_len G _ p) (ih _)
section
variable {na : Nat → Nat} {h : mx_H}
theorem aF_congr {h' : mx_H} {b : Nat} {fr : Option Nat} {tg : Int32} {w : Int64} {ps : List Nat} (B : aF na h b fr tg w ps) (hK : hpK h' b = hpK h b) (hr : ∀ k, hpI h' b k = hpI h b k ∧ hpL h' b k = hpL h b k ∧ hpR h' b k = hpR h b k) (hq : ∀ q ∈ ps, hpR h' (na q) 13 = hpR h (na q) 13) : aF na h' b fr tg w ps := by
  obtain ⟨a1, a2, a3, a4, a5, a6, a7, a8, a9, a10, a11, a12⟩ := B
  refine ⟨by rw [hK]; exact a1, by rw [(hr 0).2.2]; exact a2, by rw [(hr 1).1]; exact a3, by rw [(hr 2).2.1]; exact a4, by rw [(hr 5).1]; exact a5, by rw [(hr 6).1]; exact a6, by rw [(hr 7).1]; exact a7, by rw [(hr 8).1]; exact a8, by rw [(hr 9).1]; exact a9, by rw [(hr 10).1]; exact a10, ?_, by rw [(hr 4).2.2]; exact a12⟩
  rw [(hr 3).2.2]
  exact Chn_congr hq a11
end
/-- PARTS lie apart -/
def gD (G : List (Nat × List Nat)) (l ps : List Nat) : Prop := (∀ e ∈ G, ∀ q ∈ e.2, q ∈ ps ∧ q ∉ l) ∧ (∀ q ∈ l, q ∈ ps) ∧ l.Nodup ∧ (∀ e ∈ G, e.2.Nodup ∧ e.1 < 100) ∧ ∀ (i j : Nat) (ei ej : Nat × List Nat), G[i]? = some ei → G[j]? = some ej → i ≠ j → ∀ q ∈ ei.2, q ∉ ej.2
theorem gD_step {G : List (Nat × List Nat)} {p g : Nat} {l ps : List Nat} (D : gD G (p :: l) ps) (hg : g < 100) : gD (gIn G g p) l ps := by
  obtain ⟨d1, d2, d3, d4, d5⟩ := D
  obtain ⟨n1, n2⟩ := List.nodup_cons.mp d3
  have hp := d2 p List.mem_cons_self
  rcases gIn_cases g p G with ⟨k, m, h1, h2, h3⟩ | ⟨h1, h2⟩
  · have hkl : k < G.length := (List.getElem?_eq_some_iff.mp h1).1
    have hm : (g, m) ∈ G := List.mem_of_getElem? h1
    rw [h3]
    have mem : ∀ e ∈ G.set k (g, m ++ [p]), e ∈ G ∨ e = (g, m ++ [p]) := fun e he => List.mem_or_eq_of_mem_set he
    refine ⟨?_, fun q hq => d2 q (List.mem_cons_of_mem _ hq), n2, ?_, ?_⟩
    · intro e he q hq
      rcases mem e he with h | h
      · have := d1 e h q hq
        exact ⟨this.1, fun z => this.2 (List.mem_cons_of_mem _ z)⟩
      · subst h
        rcases List.mem_append.mp hq with z | z
        · have := d1 _ hm q z
          exact ⟨this.1, fun z => this.2 (List.mem_cons_of_mem _ z)⟩
        · rw [List.mem_singleton.mp z]; exact ⟨hp, n1⟩
    · intro e he
      rcases mem e he with h | h
      · exact d4 e h
      · subst h
        refine ⟨?_, hg⟩
        rw [List.nodup_append]
        refine ⟨(d4 _ hm).1, by simp, fun a ha b hb => ?_⟩
        rw [List.mem_singleton.mp hb]
        intro e
        subst e
        exact (d1 _ hm a ha).2 List.mem_cons_self
    · intro i j ei ej hi hj hij q hq hq2
      rw [List.getElem?_set] at hi hj
      by_cases e1 : k = i
      · rw [if_pos e1, if_pos (by omega)] at hi
        by_cases e2 : k = j
        · omega
        · rw [if_neg e2] at hj
          cases hi
          rcases List.mem_append.mp hq with z | z
          · exact d5 k j (g, m) ej h1 hj e2 q z hq2
          · rw [List.mem_singleton.mp z] at hq2
            exact (d1 ej (List.mem_of_getElem? hj) p hq2).2 List.mem_cons_self
      · rw [if_neg e1] at hi
        by_cases e2 : k = j
        · rw [if_pos e2, if_pos (by omega)] at hj
          cases hj
          rcases List.mem_append.mp hq2 with z | z
          · exact d5 k i (g, m) ei h1 hi e1 q z hq
          · rw [List.mem_singleton.mp z] at hq
            exact (d1 ei (List.mem_of_getElem? hi) p hq).2 List.mem_cons_self
        · rw [if_neg e2] at hj
          exact d5 i j ei ej hi hj hij q hq hq2
  · rw [h2]
    refine ⟨?_, fun q hq => d2 q (List.mem_cons_of_mem _ hq), n2, ?_, ?_⟩
    · intro e he q hq
      rcases List.mem_append.mp he with h | h
      · have := d1 e h q hq
        exact ⟨this.1, fun z => this.2 (List.mem_cons_of_mem _ z)⟩
      · rw [List.mem_singleton.mp h] at hq
        rw [List.mem_singleton.mp hq]; exact ⟨hp, n1⟩
    · intro e he
      rcases List.mem_append.mp he with h | h
      · exact d4 e h
      · rw [List.mem_singleton.mp h]; exact ⟨by simp, hg⟩
    · intro i j ei ej hi hj hij q hq hq2
      by_cases e1 : i < G.length
      · rw [List.getElem?_append_left e1] at hi
        by_cases e2 : j < G.length
        · rw [List.getElem?_append_left e2] at hj
          exact d5 i j ei ej hi hj hij q hq hq2
        · rw [List.getElem?_append_right (by omega)] at hj
          have hz : j - G.length < 1 := (List.getElem?_eq_some_iff.mp hj).1
          rw [show j - G.length = 0 by omega] at hj
          cases hj
          rw [List.mem_singleton.mp hq2] at hq
          exact (d1 ei (List.mem_of_getElem? hi) p hq).2 List.mem_cons_self
      · rw [List.getElem?_append_right (by omega)] at hi
        have hz : i - G.length < 1 := (List.getElem?_eq_some_iff.mp hi).1
        rw [show i - G.length = 0 by omega] at hi
        cases hi
        by_cases e2 : j < G.length
        · rw [List.getElem?_append_left e2] at hj
          rw [List.mem_singleton.mp hq] at hq2
          exact (d1 ej (List.mem_of_getElem? hj) p hq2).2 List.mem_cons_self
        · rw [List.getElem?_append_right (by omega)] at hj
          have hz' : j - G.length < 1 := (List.getElem?_eq_some_iff.mp hj).1
          omega
