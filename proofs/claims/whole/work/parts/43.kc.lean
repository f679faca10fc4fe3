/-! The KIND of a CHOICE of some PARTS, w the variables that don't count any more: the document's words as a function; groups of PARTS with one TAG. -/
def gIn (G : List (Nat × List Nat)) (g p : Nat) : List (Nat × List Nat) := match G with
  | [] => [(g, [p])]
  | (g', l) :: r => if g' = g then (g', l ++ [p]) :: r else (g', l) :: gIn r g p
def grL (t : tr) (x : Nat) (G : List (Nat × List Nat)) (ps : List Nat) : List (Nat × List Nat) := match ps with
  | [] => G
  | p :: r => grL t x (gIn G (tkg t p x) p) r
/-- the ARMS of a SWITCH on x: TAG and PARTS, by the first PART of each -/
def grp (t : tr) (x : Nat) (ps : List Nat) : List (Nat × List Nat) := grL t x [] ps
/-- how many of the 60 variables are in w -/
def bc (w : Int64) : Nat := ((List.range 60).filter (fun x => tb w x)).length
theorem bc_le (w : Int64) : bc w ≤ 60 := by
  unfold bc
  have := List.length_filter_le (fun x => tb w x) (List.range 60)
  rw [List.length_range] at this
  exact this
theorem cnt_up {p q : Nat → Bool} {x : Nat} : ∀ {l : List Nat}, l.Nodup → x ∈ l → p x = false → (∀ y, q y = (p y || decide (x = y))) → (l.filter q).length = (l.filter p).length + 1 := by
  intro l
  induction l with
  | nil => intro _ h; simp at h
  | cons a r ih =>
    intro hn hx hp hq
    obtain ⟨h1, h2⟩ := List.nodup_cons.mp hn
    by_cases e : x = a
    · subst e
      have hqx : q x = true := by rw [hq]; simp
      rw [List.filter_cons_of_pos hqx, List.filter_cons_of_neg (by rw [hp]; decide), List.length_cons]
      congr 2
      apply List.filter_congr
      intro y hy
      rw [hq]
      have : x ≠ y := fun e => h1 (e ▸ hy)
      simp [this]
    · have hx' : x ∈ r := by rcases List.mem_cons.mp hx with h | h; exact absurd h e; exact h
      have := ih h2 hx' hp hq
      have hqa : q a = p a := by rw [hq]; simp [e]
      cases hpa : p a with
      | true => rw [List.filter_cons_of_pos (by rw [hqa]; exact hpa), List.filter_cons_of_pos hpa, List.length_cons, List.length_cons, this]
      | false => rw [List.filter_cons_of_neg (by rw [hqa, hpa]; decide), List.filter_cons_of_neg (by rw [hpa]; decide), this]
theorem bc_up {w : Int64} {x : Nat} (hx : x < 60) (hw : tb w x = false) : bc (w ||| bL x) = bc w + 1 := by
  unfold bc
  exact cnt_up List.nodup_range (List.mem_range.mpr hx) hw (fun y => tb_or w y (by omega))
theorem bc_0 : bc 0 = 0 := by decide +kernel
def kmx (l : List Nat) : Nat := match l with
  | [] => 0
  | a :: r => if kmx r < km a then km a else kmx r
theorem kmx_lt (l : List Nat) : kmx l < 3 := by
  induction l with
  | nil => simp [kmx]
  | cons a r ih =>
    rw [kmx]
    have := km_lt a
    split <;> omega
/-- of a SWITCH: its ALL, the KINDS of its ARMS -/
def ksw (al : Nat) (ks : List Nat) : Nat := kof (decide (al = 0) || ks.any kf || decide (ks.length < al)) (kmx ks)
def kcF (t : tr) (κ : Nat → Nat) (f : Nat) (w : Int64) (ps : List Nat) : Nat := match f with
  | 0 => 0
  | f + 1 => match fsw t w ps with
    | none => plL t κ (tb w) true 0 ps
    | some (x, v) => ksw v ((grp t x ps).map (fun q => kcF t κ f (w ||| bL x) q.2))
/-- the KIND of a CHOICE of the PARTS ps -/
def kc (t : tr) (κ : Nat → Nat) (w : Int64) (ps : List Nat) : Nat := kcF t κ (61 - bc w) w ps
theorem fsF_lt {t : tr} {w : Int64} {ps : List Nat} {x v : Nat} (h : fsw t w ps = some (x, v)) : x < 60 ∧ tb w x = false := by
  unfold fsw at h
  split at h
  · cases h
  · obtain ⟨-, h2, h3⟩ := fsF_spec h
    unfold fsx at h3
    split at h3
    · rename_i hc
      exact ⟨by omega, hc.1⟩
    · cases h3
theorem kc_eq (t : tr) (κ : Nat → Nat) (w : Int64) (ps : List Nat) : kc t κ w ps = match fsw t w ps with
    | none => plL t κ (tb w) true 0 ps
    | some (x, v) => ksw v ((grp t x ps).map (fun q => kc t κ (w ||| bL x) q.2)) := by
  unfold kc
  have hb := bc_le w
  rw [show 61 - bc w = (60 - bc w) + 1 by omega, kcF]
  cases hs : fsw t w ps with
  | none => rfl
  | some q =>
    obtain ⟨x, v⟩ := q
    obtain ⟨h1, h2⟩ := fsF_lt hs
    dsimp only
    rw [bc_up h1 h2, show 61 - (bc w + 1) = 60 - bc w by omega]
theorem plL_lt {t : tr} {κ : Nat → Nat} {X : Nat → Bool} : ∀ {ps : List Nat} {cf : Bool} {mo : Nat}, mo < 3 → plL t κ X cf mo ps < 5 := by
  intro ps
  induction ps with
  | nil => intro cf mo h; exact kof_lt' cf h
  | cons p r ih => intro cf mo h; rw [plL]; exact ih kcap_add
theorem kc_lt (t : tr) (κ : Nat → Nat) (w : Int64) (ps : List Nat) : kc t κ w ps < 5 := by
  rw [kc_eq]
  cases fsw t w ps with
  | none => exact plL_lt (by decide)
  | some q => exact kof_lt' _ (kmx_lt _)
-- groups
theorem gIn_mem {G : List (Nat × List Nat)} {g p : Nat} {q : Nat} : (∃ e ∈ gIn G g p, q ∈ e.2) ↔ (q = p ∨ ∃ e ∈ G, q ∈ e.2) := by
  induction G with
  | nil => simp [gIn]
  | cons e r ih =>
    obtain ⟨g', l⟩ := e
    rw [gIn]
    by_cases h : g' = g
    · rw [if_pos h]
      simp only [List.mem_cons, exists_eq_or_imp, List.mem_append, List.mem_singleton, List.not_mem_nil, or_false]
      constructor
      · rintro ((h | h) | h)
        · exact Or.inr (Or.inl h)
        · exact Or.inl h
        · exact Or.inr (Or.inr h)
      · rintro (h | h | h)
        · exact Or.inl (Or.inr h)
        · exact Or.inl (Or.inl h)
        · exact Or.inr h
    · rw [if_neg h]
      simp only [List.mem_cons, exists_eq_or_imp]
      rw [ih]
      constructor
      · rintro (h | h | h)
        · exact Or.inr (Or.inl h)
        · exact Or.inl h
        · exact Or.inr (Or.inr h)
      · rintro (h | h | h)
        · exact Or.inr (Or.inl h)
        · exact Or.inl h
        · exact Or.inr (Or.inr h)
theorem grL_mem {t : tr} {x q : Nat} : ∀ {ps : List Nat} {G : List (Nat × List Nat)}, (∃ e ∈ grL t x G ps, q ∈ e.2) ↔ (q ∈ ps ∨ ∃ e ∈ G, q ∈ e.2) := by
  intro ps
  induction ps with
  | nil => intro G; simp [grL]
  | cons p r ih =>
    intro G
    rw [grL, ih, gIn_mem, List.mem_cons]
    constructor
    · rintro (h | h | h)
      · exact Or.inl (Or.inr h)
      · exact Or.inl (Or.inl h)
      · exact Or.inr h
    · rintro ((h | h) | h)
      · exact Or.inr (Or.inl h)
      · exact Or.inl h
      · exact Or.inr (Or.inr h)
theorem grp_mem {t : tr} {x : Nat} {ps : List Nat} {e : Nat × List Nat} (he : e ∈ grp t x ps) {q : Nat} (hq : q ∈ e.2) : q ∈ ps := by
  rcases grL_mem.mp ⟨e, he, hq⟩ with h | ⟨e', h, -⟩
  · exact h
  · cases h
