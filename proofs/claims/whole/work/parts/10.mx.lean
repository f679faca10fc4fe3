/-! An abstract machine over which the methods are run: values, a heap of typed fields, locals by place, an operand stack; each instruction a function. Its runs are carried over to the machine of the Statement once and for all (21), so that all later rows speak of these functions alone. -/
abbrev mx_V : Type := Int32 ⊕ (Int64 ⊕ Option Nat)
def mx_v (v : mx_V) : Value := match v with
  | .inl x => .int x
  | .inr (.inl x) => .long x
  | .inr (.inr r) => va_rf r
def mx_cat (v : mx_V) : Nat := match v with
  | .inr (.inl _) => 2
  | _ => 1
theorem mx_cat_eq (v : mx_V) : (mx_v v).category = mx_cat v := by
  rcases v with x | x | (_ | a) <;> rfl
abbrev mx_K : Type := Nat ⊕ (Nat × Nat)
abbrev mx_H : Type := (Nat → Option mx_K) × (Nat → Nat → Int32) × (Nat → Nat → Int64) × (Nat → Nat → Option Nat) × Nat × Nat
def hpK (h : mx_H) (a : Nat) : Option mx_K := h.1 a
def hpI (h : mx_H) (a k : Nat) : Int32 := h.2.1 a k
def hpL (h : mx_H) (a k : Nat) : Int64 := h.2.2.1 a k
def hpR (h : mx_H) (a k : Nat) : Option Nat := h.2.2.2.1 a k
def hpZ (h : mx_H) : Nat := h.2.2.2.2.1
def hpU (h : mx_H) : Nat := h.2.2.2.2.2
def hwI (h : mx_H) (a k : Nat) (x : Int32) : mx_H := (h.1, fun b j => if b = a ∧ j = k then x else h.2.1 b j, h.2.2.1, h.2.2.2.1, h.2.2.2.2.1, h.2.2.2.2.2)
def hwL (h : mx_H) (a k : Nat) (x : Int64) : mx_H := (h.1, h.2.1, fun b j => if b = a ∧ j = k then x else h.2.2.1 b j, h.2.2.2.1, h.2.2.2.2.1, h.2.2.2.2.2)
def hwR (h : mx_H) (a k : Nat) (x : Option Nat) : mx_H := (h.1, h.2.1, h.2.2.1, fun b j => if b = a ∧ j = k then x else h.2.2.2.1 b j, h.2.2.2.2.1, h.2.2.2.2.2)
/-- a new cell of a kind, of so many slots, all default -/
def hnw (h : mx_H) (t : mx_K) (n : Nat) : mx_H := (fun a => if a = h.2.2.2.2.1 then some t else h.1 a, fun a k => if a = h.2.2.2.2.1 then 0 else h.2.1 a k, fun a k => if a = h.2.2.2.2.1 then 0 else h.2.2.1 a k, fun a k => if a = h.2.2.2.2.1 then none else h.2.2.2.1 a k, h.2.2.2.2.1 + 1, h.2.2.2.2.2 + n)
/-- what a field (a place of an array) of a type holds: 1 long, 2 a reference, else an int -/
def hpV (h : mx_H) (a : Nat) (ty : Nat) (k : Nat) : Value := match ty with
  | 1 => .long (hpL h a k)
  | 2 => va_rf (hpR h a k)
  | _ => .int (hpI h a k)
section
variable (h : mx_H) (a k b j : Nat) (x : Int32) (y : Int64) (r : Option Nat) (t : mx_K) (n : Nat)
theorem hpK_wI : hpK (hwI h a k x) b = hpK h b := rfl
theorem hpL_wI : hpL (hwI h a k x) b j = hpL h b j := rfl
theorem hpR_wI : hpR (hwI h a k x) b j = hpR h b j := rfl
theorem hpZ_wI : hpZ (hwI h a k x) = hpZ h := rfl
theorem hpU_wI : hpU (hwI h a k x) = hpU h := rfl
theorem hpI_wI : hpI (hwI h a k x) b j = if b = a ∧ j = k then x else hpI h b j := rfl
theorem hpK_wL : hpK (hwL h a k y) b = hpK h b := rfl
theorem hpI_wL : hpI (hwL h a k y) b j = hpI h b j := rfl
theorem hpR_wL : hpR (hwL h a k y) b j = hpR h b j := rfl
theorem hpZ_wL : hpZ (hwL h a k y) = hpZ h := rfl
theorem hpU_wL : hpU (hwL h a k y) = hpU h := rfl
theorem hpL_wL : hpL (hwL h a k y) b j = if b = a ∧ j = k then y else hpL h b j := rfl
theorem hpK_wR : hpK (hwR h a k r) b = hpK h b := rfl
theorem hpI_wR : hpI (hwR h a k r) b j = hpI h b j := rfl
theorem hpL_wR : hpL (hwR h a k r) b j = hpL h b j := rfl
theorem hpZ_wR : hpZ (hwR h a k r) = hpZ h := rfl
theorem hpU_wR : hpU (hwR h a k r) = hpU h := rfl
theorem hpR_wR : hpR (hwR h a k r) b j = if b = a ∧ j = k then r else hpR h b j := rfl
theorem hpK_nw : hpK (hnw h t n) b = if b = hpZ h then some t else hpK h b := rfl
theorem hpI_nw : hpI (hnw h t n) b j = if b = hpZ h then 0 else hpI h b j := rfl
theorem hpL_nw : hpL (hnw h t n) b j = if b = hpZ h then 0 else hpL h b j := rfl
theorem hpR_nw : hpR (hnw h t n) b j = if b = hpZ h then none else hpR h b j := rfl
theorem hpZ_nw : hpZ (hnw h t n) = hpZ h + 1 := rfl
theorem hpU_nw : hpU (hnw h t n) = hpU h + n := rfl
end
/-- locals by place -/
abbrev mx_L : Type := List (Option mx_V)
def ml_get (i : Nat) (ls : mx_L) : Option mx_V := match ls, i with
  | [], _ => none
  | q :: _, 0 => q
  | _ :: t, i + 1 => ml_get i t
def ml_clr (ls : mx_L) : mx_L := match ls with
  | [] => []
  | _ :: t => none :: t
def ml_drop (q : Option mx_V) : Option mx_V := match q with
  | some (.inr (.inl _)) => none
  | q => q
def ml_set (i : Nat) (v : mx_V) (ls : mx_L) : mx_L := match ls, i with
  | [], _ => []
  | _ :: t, 0 => some v :: (if mx_cat v = 2 then ml_clr t else t)
  | q :: t, 1 => ml_drop q :: ml_set 0 v t
  | q :: t, i + 2 => q :: ml_set (i + 1) v t
/-- the locals as the kit lists them -/
def ml_as (k : Nat) (ls : mx_L) : List (Nat × Value) := match ls with
  | [] => []
  | none :: t => ml_as (k + 1) t
  | some v :: t => (k, mx_v v) :: ml_as (k + 1) t
theorem ml_as_mem {q : Nat × Value} : ∀ {ls : mx_L} {k : Nat}, q ∈ ml_as k ls ↔ ∃ (i : Nat) (v : mx_V), q = (k + i, mx_v v) ∧ ls[i]? = some (some v) := by
  intro ls
  induction ls with
  | nil => intro k; simp [ml_as]
  | cons x t ih =>
    intro k
    have step : (∃ (i : Nat) (v : mx_V), q = (k + i, mx_v v) ∧ (x :: t)[i]? = some (some v)) ↔ (∃ v, x = some v ∧ q = (k, mx_v v)) ∨ ∃ (i : Nat) (v : mx_V), q = (k + 1 + i, mx_v v) ∧ t[i]? = some (some v) := by
      constructor
      · rintro ⟨i, v, h1, h2⟩
        cases i with
        | zero => left; exact ⟨v, by simpa using h2, by simpa using h1⟩
        | succ i => right; exact ⟨i, v, by rw [h1]; congr 1; omega, by simpa using h2⟩
      · rintro (⟨v, rfl, rfl⟩ | ⟨i, v, h1, h2⟩)
        · exact ⟨0, v, by simp, by simp⟩
        · exact ⟨i + 1, v, by rw [h1]; congr 1; omega, by simpa using h2⟩
    rw [step]
    cases x with
    | none => simp only [ml_as]; rw [ih]; simp
    | some v =>
      simp only [ml_as, List.mem_cons]
      rw [ih]
      simp
theorem ml_get_eq : ∀ {ls : mx_L} {i : Nat} {v : mx_V}, ml_get i ls = some v → ls[i]? = some (some v) := by
  intro ls
  induction ls with
  | nil => intro i v h; simp [ml_get] at h
  | cons q t ih =>
    intro i v h
    cases i with
    | zero => simp [ml_get] at h; simp [h]
    | succ i => simp [ml_get] at h; simpa using ih h
theorem ml_clr_at : ∀ {ls : mx_L} {j : Nat} {w : mx_V}, (ml_clr ls)[j]? = some (some w) → ls[j]? = some (some w) ∧ j ≠ 0 := by
  intro ls j w h
  cases ls with
  | nil => simp [ml_clr] at h
  | cons q t =>
    cases j with
    | zero => simp [ml_clr] at h
    | succ j => exact ⟨by simpa [ml_clr] using h, by omega⟩
theorem ml_drop_at {q : Option mx_V} {w : mx_V} (h : ml_drop q = some w) : q = some w ∧ mx_cat w = 1 := by
  rcases q with _ | x | x | x <;> simp [ml_drop] at h <;> subst h <;> exact ⟨rfl, rfl⟩
theorem ml_set_at {v : mx_V} : ∀ {ls : mx_L} {i j : Nat} {w : mx_V}, (ml_set i v ls)[j]? = some (some w) →
    (j = i ∧ w = v) ∨ (ls[j]? = some (some w) ∧ j ≠ i ∧ ¬ (j + 1 = i ∧ mx_cat w = 2) ∧ ¬ (mx_cat v = 2 ∧ j = i + 1)) := by
  intro ls
  induction ls with
  | nil => intro i j w h; cases i <;> simp [ml_set] at h
  | cons q t ih =>
    intro i j w h
    match i with
    | 0 =>
      cases j with
      | zero => left; simp [ml_set] at h; exact ⟨rfl, h.symm⟩
      | succ j =>
        right
        simp only [ml_set, List.getElem?_cons_succ] at h
        by_cases hc : mx_cat v = 2
        · rw [if_pos hc] at h
          obtain ⟨h1, h2⟩ := ml_clr_at h
          exact ⟨by simpa using h1, by omega, by omega, by omega⟩
        · rw [if_neg hc] at h
          exact ⟨by simpa using h, by omega, by omega, by omega⟩
    | 1 =>
      cases j with
      | zero =>
        right
        simp only [ml_set, List.getElem?_cons_zero, Option.some.injEq] at h
        obtain ⟨h1, h2⟩ := ml_drop_at h
        exact ⟨by simp [h1], by omega, by omega, by omega⟩
      | succ j =>
        simp only [ml_set, List.getElem?_cons_succ] at h
        rcases ih h with ⟨h1, h2⟩ | ⟨h1, h2, h3, h4⟩
        · left; exact ⟨by omega, h2⟩
        · right; exact ⟨by simpa using h1, by omega, by omega, by omega⟩
    | i + 2 =>
      cases j with
      | zero =>
        right
        simp only [ml_set, List.getElem?_cons_zero, Option.some.injEq] at h
        exact ⟨by simp [h], by omega, by omega, by omega⟩
      | succ j =>
        simp only [ml_set, List.getElem?_cons_succ] at h
        rcases ih h with ⟨h1, h2⟩ | ⟨h1, h2, h3, h4⟩
        · left; exact ⟨by omega, h2⟩
        · right; exact ⟨by simpa using h1, by omega, by omega, by omega⟩
/-- locals held by a frame -/
def ml_has (arr : Array Slot) (nL : Nat) (ls : mx_L) : Prop := lv_has arr nL (ml_as 0 ls)
theorem ml_has_get {arr : Array Slot} {nL i : Nat} {ls : mx_L} {v : mx_V} (h : ml_has arr nL ls) (hg : ml_get i ls = some v) : arr[i]? = some (.val (mx_v v)) := by
  have := h.2.2 (0 + i, mx_v v) (ml_as_mem.mpr ⟨i, v, rfl, ml_get_eq hg⟩)
  simpa using this
theorem ml_has_lt {arr : Array Slot} {nL i : Nat} {ls : mx_L} {v : mx_V} (h : ml_has arr nL ls) (hg : ml_get i ls = some v) : i < nL := by
  have := lv_lt (ml_has_get h hg)
  rw [h.1] at this
  exact this
theorem ml_has_set1 {arr : Array Slot} {nL i : Nat} {ls : mx_L} {v : mx_V} (h : lv_has arr nL ((i, mx_v v) :: (ml_as 0 ls).filter (fun q => !(q.1 == i) && !(q.1 + 1 == i && q.2.category == 2)))) : ml_has arr nL (ml_set i v ls) := by
  refine ⟨h.1, h.2.1, fun q hq => h.2.2 q ?_⟩
  obtain ⟨j, w, rfl, hj⟩ := ml_as_mem.mp hq
  rcases ml_set_at hj with ⟨h1, h2⟩ | ⟨h1, h2, h3, h4⟩
  · subst h1; subst h2; simp
  · refine List.mem_cons_of_mem _ (List.mem_filter.mpr ⟨ml_as_mem.mpr ⟨j, w, rfl, h1⟩, ?_⟩)
    have e := mx_cat_eq w
    simp only [Nat.zero_add, Bool.and_eq_true, Bool.not_eq_true', beq_eq_false_iff_ne, Bool.and_eq_false_iff, ne_eq, beq_iff_eq, e]
    refine ⟨h2, ?_⟩
    by_cases hh : j + 1 = i
    · right; exact fun hc => h3 ⟨hh, hc⟩
    · left; exact hh
theorem ml_has_set2 {arr : Array Slot} {nL i : Nat} {ls : mx_L} {x : Int64} (h : lv_has arr nL ((i, .long x) :: (ml_as 0 ls).filter (fun q => !(q.1 == i) && (!(q.1 == i + 1) && !(q.1 + 1 == i && q.2.category == 2))))) : ml_has arr nL (ml_set i (.inr (.inl x)) ls) := by
  refine ⟨h.1, h.2.1, fun q hq => h.2.2 q ?_⟩
  obtain ⟨j, w, rfl, hj⟩ := ml_as_mem.mp hq
  rcases ml_set_at hj with ⟨h1, h2⟩ | ⟨h1, h2, h3, h4⟩
  · subst h1; subst h2; simp [mx_v]
  · refine List.mem_cons_of_mem _ (List.mem_filter.mpr ⟨ml_as_mem.mpr ⟨j, w, rfl, h1⟩, ?_⟩)
    have e := mx_cat_eq w
    simp only [Nat.zero_add, Bool.and_eq_true, Bool.not_eq_true', beq_eq_false_iff_ne, Bool.and_eq_false_iff, ne_eq, beq_iff_eq, e]
    refine ⟨h2, fun hh => h4 ⟨rfl, hh⟩, ?_⟩
    by_cases hh : j + 1 = i
    · right; exact fun hc => h3 ⟨hh, hc⟩
    · left; exact hh
