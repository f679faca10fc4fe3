/-! ARMS of ARMS in one row: pure part. A record: whose ARM (place in the row; 0: the whole), TAG, known variables, PARTS. -/
abbrev rc : Type := Nat × Nat × Int64 × List Nat
abbrev rF (e : rc) : Nat := e.1
abbrev rG (e : rc) : Nat := e.2.1
abbrev rW (e : rc) : Int64 := e.2.2.1
abbrev rP (e : rc) : List Nat := e.2.2.2
/-- the ARMS of the record at the place j -/
def rch (t : tr) (j : Nat) (e : rc) : List rc := match fsw t (rW e) (rP e) with
  | none => []
  | some (x, _) => (grp t x (rP e)).map (fun q => (j, q.1, rW e ||| bL x, q.2))
/-- how many further variables are TAKEN by p -/
def av (t : tr) (w : Int64) (p : Nat) : Nat := ((List.range 60).filter (fun x => !tb w x && (tk t p x).isSome)).length
def sA (t : tr) (w : Int64) (ps : List Nat) : Nat := (ps.map (av t w)).sum
def sG (f : Nat → Nat) (G : List (Nat × List Nat)) : Nat := (G.map (fun e => (e.2.map f).sum)).sum
theorem gIn_sum (f : Nat → Nat) (g p : Nat) : ∀ (G : List (Nat × List Nat)), sG f (gIn G g p) = sG f G + f p := by
  intro G
  induction G with
  | nil => simp [gIn, sG]
  | cons a r ih =>
    obtain ⟨g', l⟩ := a
    rw [gIn]
    split
    · simp [sG]; omega
    · simp only [sG, List.map_cons, List.sum_cons] at ih ⊢
      omega
theorem grL_sum {t : tr} {x : Nat} (f : Nat → Nat) : ∀ (l : List Nat) (G : List (Nat × List Nat)), sG f (grL t x G l) = sG f G + (l.map f).sum := by
  intro l
  induction l with
  | nil => intro G; simp [grL]
  | cons p r ih => intro G; rw [grL, ih, gIn_sum]; simp; omega
theorem gIn_ne {G : List (Nat × List Nat)} {g p : Nat} (h : ∀ e ∈ G, e.2 ≠ []) : ∀ e ∈ gIn G g p, e.2 ≠ [] := by
  rcases gIn_cases g p G with ⟨k, l, h1, -, h3⟩ | ⟨-, h3⟩ <;> rw [h3] <;> intro e he
  · rcases List.mem_or_eq_of_mem_set he with z | z
    · exact h e z
    · rw [z]; simp
  · rcases List.mem_append.mp he with z | z
    · exact h e z
    · rw [List.mem_singleton.mp z]; simp
theorem grL_ne {t : tr} {x : Nat} : ∀ (l : List Nat) (G : List (Nat × List Nat)), (∀ e ∈ G, e.2 ≠ []) → ∀ e ∈ grL t x G l, e.2 ≠ [] := by
  intro l
  induction l with
  | nil => intro G h; exact h
  | cons p r ih => intro G h; rw [grL]; exact ih _ (gIn_ne h)
theorem len_sG {G : List (Nat × List Nat)} (h : ∀ e ∈ G, e.2 ≠ []) : G.length ≤ sG (fun _ => 1) G := by
  induction G with
  | nil => simp [sG]
  | cons a r ih =>
    have h1 := ih (fun e he => h e (List.mem_cons_of_mem _ he))
    have h2 := h a List.mem_cons_self
    simp only [sG, List.map_cons, List.sum_cons, List.length_cons] at h1 ⊢
    have h3 : 1 ≤ (a.2.map (fun _ => 1)).sum := by
      cases hc : a.2 with
      | nil => exact absurd hc h2
      | cons b c => simp
    omega
theorem av_up {t : tr} {w : Int64} {p x : Nat} (hx : x < 60) (hw : tb w x = false) (hp : (tk t p x).isSome = true) : av t (w ||| bL x) p + 1 = av t w p := by
  unfold av
  have := cnt_up (p := fun y => !tb (w ||| bL x) y && (tk t p y).isSome) (q := fun y => !tb w y && (tk t p y).isSome) (x := x) (l := List.range 60) List.nodup_range (List.mem_range.mpr hx) (by rw [tb_or w x (by omega)]; simp) (fun y => by
    rw [tb_or w y (by omega)]
    by_cases e : x = y
    · subst e; rw [hw, hp]; simp
    · simp [e])
  exact this.symm
theorem map_sum_add {f g : Nat → Nat} : ∀ {l : List Nat}, (∀ p ∈ l, f p + 1 = g p) → (l.map f).sum + l.length = (l.map g).sum := by
  intro l
  induction l with
  | nil => intro _; rfl
  | cons a r ih =>
    intro h
    have h1 := ih (fun p hp => h p (List.mem_cons_of_mem _ hp))
    have h2 := h a List.mem_cons_self
    simp only [List.map_cons, List.sum_cons, List.length_cons]
    omega
theorem sum_one : ∀ (l : List Nat), (l.map (fun _ => 1)).sum = l.length := by
  intro l
  induction l with
  | nil => rfl
  | cons a r ih => simp [ih]; omega
/-- ARMS use up what is TAKEN -/
theorem rch_pot {t : tr} (T : tOk t) (j : Nat) (e : rc) (hps : ∀ p ∈ rP e, p < tN t) : (rch t j e).length + ((rch t j e).map (fun c => sA t (rW c) (rP c))).sum ≤ sA t (rW e) (rP e) := by
  unfold rch
  cases hf : fsw t (rW e) (rP e) with
  | none => simp
  | some q =>
    obtain ⟨x, v⟩ := q
    obtain ⟨s1, s2, s3, s4, -⟩ := fsw_spec T hps hf
    dsimp only
    rw [List.length_map, List.map_map]
    have e1 : ((grp t x (rP e)).map ((fun c => sA t (rW c) (rP c)) ∘ fun q => ((j, q.1, rW e ||| bL x, q.2) : rc))).sum = sG (av t (rW e ||| bL x)) (grp t x (rP e)) := rfl
    rw [e1, grp, grL_sum]
    have e2 := len_sG (grL_ne (t := t) (x := x) (rP e) [] (fun e he => by cases he))
    rw [grL_sum, sum_one] at e2
    have e3 := map_sum_add (f := av t (rW e ||| bL x)) (g := av t (rW e)) (l := rP e) (fun p hp => av_up s2 s3 (s4 p hp))
    have z1 : sG (fun _ => 1) [] = 0 := rfl
    have z2 : sG (av t (rW e ||| bL x)) [] = 0 := rfl
    unfold sA
    omega
/-- pigeons -/
theorem nodup_len : ∀ (n : Nat) (l : List Nat), l.Nodup → (∀ x ∈ l, x < n) → l.length ≤ n := by
  intro n
  induction n with
  | zero => intro l _ h; cases l with
    | nil => simp
    | cons a r => exact absurd (h a List.mem_cons_self) (by omega)
  | succ n ih =>
    intro l hn h
    have h1 := ih (l.filter (fun x => decide (x ≠ n))) (hn.filter _) (fun x hx => by
      obtain ⟨a, b⟩ := List.mem_filter.mp hx
      have := h x a
      have := of_decide_eq_true b
      omega)
    have h2 : l.length ≤ (l.filter (fun x => decide (x ≠ n))).length + 1 := by
      clear h1 ih h
      induction l with
      | nil => simp
      | cons a r ih =>
        obtain ⟨n1, n2⟩ := List.nodup_cons.mp hn
        by_cases e : a = n
        · rw [List.filter_cons_of_neg (by simp [e])]
          have : r.filter (fun x => decide (x ≠ n)) = r := List.filter_eq_self.mpr (fun x hx => decide_eq_true (fun e' => n1 (by rw [e, ← e']; exact hx)))
          rw [this]; simp
        · rw [List.filter_cons_of_pos (by simp [e])]
          have := ih n2
          simp only [List.length_cons]
          omega
    omega
theorem nodup_sub : ∀ (l m : List Nat), l.Nodup → (∀ x ∈ l, x ∈ m) → l.length ≤ m.length := by
  intro l m hl
  induction m generalizing l with
  | nil => intro h; cases l with
    | nil => simp
    | cons a r => exact absurd (h a List.mem_cons_self) (by simp)
  | cons b m ih =>
    intro h
    have h1 := ih (l.filter (fun x => decide (x ≠ b))) (hl.filter _) (fun x hx => by
      obtain ⟨a, c⟩ := List.mem_filter.mp hx
      rcases List.mem_cons.mp (h x a) with z | z
      · exact absurd z (of_decide_eq_true c)
      · exact z)
    have h2 : l.length ≤ (l.filter (fun x => decide (x ≠ b))).length + 1 := by
      clear h1 ih h
      induction l with
      | nil => simp
      | cons a r ih =>
        obtain ⟨n1, n2⟩ := List.nodup_cons.mp hl
        by_cases e : a = b
        · rw [List.filter_cons_of_neg (by simp [e])]
          have : r.filter (fun x => decide (x ≠ b)) = r := List.filter_eq_self.mpr (fun x hx => decide_eq_true (fun e' => n1 (by rw [e, ← e']; exact hx)))
          rw [this]; simp
        · rw [List.filter_cons_of_pos (by simp [e])]
          have := ih n2
          simp only [List.length_cons]
          omega
    simp only [List.length_cons]
    omega
theorem nodup_mapon {f : Nat → Nat} : ∀ {l : List Nat}, l.Nodup → (∀ x ∈ l, ∀ y ∈ l, f x = f y → x = y) → (l.map f).Nodup := by
  intro l
  induction l with
  | nil => intro _ _; exact List.nodup_nil
  | cons a r ih =>
    intro hn h
    obtain ⟨n1, n2⟩ := List.nodup_cons.mp hn
    rw [List.map_cons, List.nodup_cons]
    refine ⟨fun hm => ?_, ih n2 (fun x hx y hy => h x (List.mem_cons_of_mem _ hx) y (List.mem_cons_of_mem _ hy))⟩
    obtain ⟨y, hy, e⟩ := List.mem_map.mp hm
    have := h y (List.mem_cons_of_mem _ hy) a List.mem_cons_self e
    exact n1 (this ▸ hy)
theorem nodup_flat {f : Nat → List Nat} : ∀ {l : List Nat}, l.Nodup → (∀ p ∈ l, (f p).Nodup) → (∀ p ∈ l, ∀ q ∈ l, p ≠ q → ∀ z ∈ f p, z ∉ f q) → (l.flatMap f).Nodup := by
  intro l
  induction l with
  | nil => intro _ _ _; exact List.nodup_nil
  | cons a r ih =>
    intro hn h1 h2
    obtain ⟨n1, n2⟩ := List.nodup_cons.mp hn
    rw [List.flatMap_cons, List.nodup_append]
    refine ⟨h1 a List.mem_cons_self, ih n2 (fun p hp => h1 p (List.mem_cons_of_mem _ hp)) (fun p hp q hq => h2 p (List.mem_cons_of_mem _ hp) q (List.mem_cons_of_mem _ hq)), fun x hx y hy e => ?_⟩
    obtain ⟨q, hq, hyq⟩ := List.mem_flatMap.mp hy
    exact h2 a List.mem_cons_self q (List.mem_cons_of_mem _ hq) (fun e' => n1 (e' ▸ hq)) x hx (e ▸ hyq)
/-- the TAKES by which p can be TAKEN -/
def tkN (t : tr) (p : Nat) : List Nat := if tS t p = 5 then [p] else if tS t p = 0 then tC t p else []
theorem tk_in {t : tr} {p x c : Nat} (h : tk t p x = some c) : c ∈ tkN t p ∧ tV t c = x := by
  unfold tk at h
  unfold tkN
  by_cases h0 : tS t p = 0
  · rw [if_pos h0] at h
    obtain ⟨-, h2, h3, h4⟩ := tkl_spec h
    rw [if_neg (by omega), if_pos h0]
    exact ⟨h2, h4⟩
  · rw [if_neg h0] at h
    by_cases h5 : tS t p = 5 ∧ tV t p = x
    · rw [if_pos h5] at h
      cases h
      rw [if_pos h5.1]
      exact ⟨List.mem_singleton.mpr rfl, h5.2⟩
    · rw [if_neg h5] at h; cases h
theorem av_le {t : tr} {w : Int64} {p : Nat} : av t w p ≤ (tkN t p).length := by
  unfold av
  have key : ∀ (l : List Nat), l.Nodup → (∀ x ∈ l, (tk t p x).isSome = true) → l.length ≤ (tkN t p).length := by
    intro l hl hs
    have h1 : (l.map (fun x => (tk t p x).getD 0)).Nodup := by
      refine nodup_mapon hl ?_
      intro x hx y hy e
      obtain ⟨c, hc⟩ := Option.isSome_iff_exists.mp (hs x hx)
      obtain ⟨c', hc'⟩ := Option.isSome_iff_exists.mp (hs y hy)
      rw [hc, hc'] at e
      simp at e
      rw [← (tk_in hc).2, ← (tk_in hc').2, e]
    have h2 := nodup_sub _ (tkN t p) h1 (fun z hz => by
      obtain ⟨x, hx, rfl⟩ := List.mem_map.mp hz
      obtain ⟨c, hc⟩ := Option.isSome_iff_exists.mp (hs x hx)
      rw [hc]
      exact (tk_in hc).1)
    rw [List.length_map] at h2
    exact h2
  refine key _ (List.nodup_range.filter _) (fun x hx => ?_)
  have := (List.mem_filter.mp hx).2
  rw [Bool.and_eq_true] at this
  exact this.2
theorem sA_le {t : tr} {w : Int64} : ∀ (ps : List Nat), sA t w ps ≤ (ps.flatMap (tkN t)).length := by
  intro ps
  induction ps with
  | nil => simp [sA]
  | cons p r ih =>
    have := av_le (t := t) (w := w) (p := p)
    simp only [sA, List.map_cons, List.sum_cons, List.flatMap_cons, List.length_append] at ih ⊢
    omega
theorem sA_250 {t : tr} (T : tOk t) {w : Int64} {i : Nat} (hi : i < tN t) : sA t w (tC t i) ≤ 250 := by
  have Ti := T.at hi
  refine Nat.le_trans (sA_le _) (Nat.le_trans (nodup_len (tN t) _ (nodup_flat Ti.2.2.2.1 ?_ ?_) ?_) T.2.1)
  · intro p hp
    have hpN := (Ti.2.2.1 p hp).2.1
    unfold tkN
    split
    · simp
    · split
      · exact (T.at hpN).2.2.2.1
      · exact List.nodup_nil
  · intro p hp q hq hne z hz hz2
    have hp' := Ti.2.2.1 p hp
    have hq' := Ti.2.2.1 q hq
    have cases' : ∀ a, a < tN t → z ∈ tkN t a → z = a ∨ (z ∈ tC t a ∧ tP t z = a) := by
      intro a ha hz
      unfold tkN at hz
      split at hz
      · exact Or.inl (List.mem_singleton.mp hz)
      · split at hz
        · exact Or.inr ⟨hz, ((T.at ha).2.2.1 z hz).2.2⟩
        · cases hz
    rcases cases' p hp'.2.1 hz with e1 | ⟨-, e1⟩ <;> rcases cases' q hq'.2.1 hz2 with e2 | ⟨-, e2⟩
    · exact hne (e1.symm.trans e2)
    · rw [e1, hp'.2.2] at e2; omega
    · rw [e2, hq'.2.2] at e1; omega
    · exact hne (e1.symm.trans e2)
  · intro z hz
    obtain ⟨p, hp, hzp⟩ := List.mem_flatMap.mp hz
    have hpN := (Ti.2.2.1 p hp).2.1
    unfold tkN at hzp
    split at hzp
    · rw [List.mem_singleton.mp hzp]; exact hpN
    · split at hzp
      · exact ((T.at hpN).2.2.1 z hzp).2.1
      · cases hzp
