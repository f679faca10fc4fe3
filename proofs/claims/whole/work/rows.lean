section
/-! An abstract machine over which the methods are run: values, a heap of typed fields, locals by place, an operand stack; each instruction a function. Its runs are carried over to the machine of the Statement once and for all (21), so that all later rows speak of these functions alone. -/
abbrev mx_V : Type := Int32 ⊕ (Int64 ⊕ Option Nat)
def mx_v (v : mx_V) : Value := match v with
  | .inl x => .int x
  | .inr (.inl x) => .long x
  | .inr (.inr r) => va_rf r
def mx_cat (v : mx_V) : Nat := match v with
  | .inr (.inl _) => 2
  | _ => 1
theorem mx_cat_eq (v : mx_V) : (mx_v v).category = mx_cat v := by
  rcases v with x | x | (_ | a) <;> rfl
abbrev mx_K : Type := Nat ⊕ (Nat × Nat)
abbrev mx_H : Type := (Nat → Option mx_K) × (Nat → Nat → Int32) × (Nat → Nat → Int64) × (Nat → Nat → Option Nat) × Nat × Nat
def hpK (h : mx_H) (a : Nat) : Option mx_K := h.1 a
def hpI (h : mx_H) (a k : Nat) : Int32 := h.2.1 a k
def hpL (h : mx_H) (a k : Nat) : Int64 := h.2.2.1 a k
def hpR (h : mx_H) (a k : Nat) : Option Nat := h.2.2.2.1 a k
def hpZ (h : mx_H) : Nat := h.2.2.2.2.1
def hpU (h : mx_H) : Nat := h.2.2.2.2.2
def hwI (h : mx_H) (a k : Nat) (x : Int32) : mx_H := (h.1, fun b j => if b = a ∧ j = k then x else h.2.1 b j, h.2.2.1, h.2.2.2.1, h.2.2.2.2.1, h.2.2.2.2.2)
def hwL (h : mx_H) (a k : Nat) (x : Int64) : mx_H := (h.1, h.2.1, fun b j => if b = a ∧ j = k then x else h.2.2.1 b j, h.2.2.2.1, h.2.2.2.2.1, h.2.2.2.2.2)
def hwR (h : mx_H) (a k : Nat) (x : Option Nat) : mx_H := (h.1, h.2.1, h.2.2.1, fun b j => if b = a ∧ j = k then x else h.2.2.2.1 b j, h.2.2.2.2.1, h.2.2.2.2.2)
/-- a new cell of a kind, of so many slots, all default -/
def hnw (h : mx_H) (t : mx_K) (n : Nat) : mx_H := (fun a => if a = h.2.2.2.2.1 then some t else h.1 a, fun a k => if a = h.2.2.2.2.1 then 0 else h.2.1 a k, fun a k => if a = h.2.2.2.2.1 then 0 else h.2.2.1 a k, fun a k => if a = h.2.2.2.2.1 then none else h.2.2.2.1 a k, h.2.2.2.2.1 + 1, h.2.2.2.2.2 + n)
/-- what a field (a place of an array) of a type holds: 1 long, 2 a reference, else an int -/
def hpV (h : mx_H) (a : Nat) (ty : Nat) (k : Nat) : Value := match ty with
  | 1 => .long (hpL h a k)
  | 2 => va_rf (hpR h a k)
  | _ => .int (hpI h a k)
section
variable (h : mx_H) (a k b j : Nat) (x : Int32) (y : Int64) (r : Option Nat) (t : mx_K) (n : Nat)
theorem hpK_wI : hpK (hwI h a k x) b = hpK h b := rfl
theorem hpL_wI : hpL (hwI h a k x) b j = hpL h b j := rfl
theorem hpR_wI : hpR (hwI h a k x) b j = hpR h b j := rfl
theorem hpZ_wI : hpZ (hwI h a k x) = hpZ h := rfl
theorem hpU_wI : hpU (hwI h a k x) = hpU h := rfl
theorem hpI_wI : hpI (hwI h a k x) b j = if b = a ∧ j = k then x else hpI h b j := rfl
theorem hpK_wL : hpK (hwL h a k y) b = hpK h b := rfl
theorem hpI_wL : hpI (hwL h a k y) b j = hpI h b j := rfl
theorem hpR_wL : hpR (hwL h a k y) b j = hpR h b j := rfl
theorem hpZ_wL : hpZ (hwL h a k y) = hpZ h := rfl
theorem hpU_wL : hpU (hwL h a k y) = hpU h := rfl
theorem hpL_wL : hpL (hwL h a k y) b j = if b = a ∧ j = k then y else hpL h b j := rfl
theorem hpK_wR : hpK (hwR h a k r) b = hpK h b := rfl
theorem hpI_wR : hpI (hwR h a k r) b j = hpI h b j := rfl
theorem hpL_wR : hpL (hwR h a k r) b j = hpL h b j := rfl
theorem hpZ_wR : hpZ (hwR h a k r) = hpZ h := rfl
theorem hpU_wR : hpU (hwR h a k r) = hpU h := rfl
theorem hpR_wR : hpR (hwR h a k r) b j = if b = a ∧ j = k then r else hpR h b j := rfl
theorem hpK_nw : hpK (hnw h t n) b = if b = hpZ h then some t else hpK h b := rfl
theorem hpI_nw : hpI (hnw h t n) b j = if b = hpZ h then 0 else hpI h b j := rfl
theorem hpL_nw : hpL (hnw h t n) b j = if b = hpZ h then 0 else hpL h b j := rfl
theorem hpR_nw : hpR (hnw h t n) b j = if b = hpZ h then none else hpR h b j := rfl
theorem hpZ_nw : hpZ (hnw h t n) = hpZ h + 1 := rfl
theorem hpU_nw : hpU (hnw h t n) = hpU h + n := rfl
end
/-- locals by place -/
abbrev mx_L : Type := List (Option mx_V)
def ml_get (i : Nat) (ls : mx_L) : Option mx_V := match ls, i with
  | [], _ => none
  | q :: _, 0 => q
  | _ :: t, i + 1 => ml_get i t
def ml_clr (ls : mx_L) : mx_L := match ls with
  | [] => []
  | _ :: t => none :: t
def ml_drop (q : Option mx_V) : Option mx_V := match q with
  | some (.inr (.inl _)) => none
  | q => q
def ml_set (i : Nat) (v : mx_V) (ls : mx_L) : mx_L := match ls, i with
  | [], _ => []
  | _ :: t, 0 => some v :: (if mx_cat v = 2 then ml_clr t else t)
  | q :: t, 1 => ml_drop q :: ml_set 0 v t
  | q :: t, i + 2 => q :: ml_set (i + 1) v t
/-- the locals as the kit lists them -/
def ml_as (k : Nat) (ls : mx_L) : List (Nat × Value) := match ls with
  | [] => []
  | none :: t => ml_as (k + 1) t
  | some v :: t => (k, mx_v v) :: ml_as (k + 1) t
theorem ml_as_mem {q : Nat × Value} : ∀ {ls : mx_L} {k : Nat}, q ∈ ml_as k ls ↔ ∃ (i : Nat) (v : mx_V), q = (k + i, mx_v v) ∧ ls[i]? = some (some v) := by
  intro ls
  induction ls with
  | nil => intro k; simp [ml_as]
  | cons x t ih =>
    intro k
    have step : (∃ (i : Nat) (v : mx_V), q = (k + i, mx_v v) ∧ (x :: t)[i]? = some (some v)) ↔ (∃ v, x = some v ∧ q = (k, mx_v v)) ∨ ∃ (i : Nat) (v : mx_V), q = (k + 1 + i, mx_v v) ∧ t[i]? = some (some v) := by
      constructor
      · rintro ⟨i, v, h1, h2⟩
        cases i with
        | zero => left; exact ⟨v, by simpa using h2, by simpa using h1⟩
        | succ i => right; exact ⟨i, v, by rw [h1]; congr 1; omega, by simpa using h2⟩
      · rintro (⟨v, rfl, rfl⟩ | ⟨i, v, h1, h2⟩)
        · exact ⟨0, v, by simp, by simp⟩
        · exact ⟨i + 1, v, by rw [h1]; congr 1; omega, by simpa using h2⟩
    rw [step]
    cases x with
    | none => simp only [ml_as]; rw [ih]; simp
    | some v =>
      simp only [ml_as, List.mem_cons]
      rw [ih]
      simp
theorem ml_get_eq : ∀ {ls : mx_L} {i : Nat} {v : mx_V}, ml_get i ls = some v → ls[i]? = some (some v) := by
  intro ls
  induction ls with
  | nil => intro i v h; simp [ml_get] at h
  | cons q t ih =>
    intro i v h
    cases i with
    | zero => simp [ml_get] at h; simp [h]
    | succ i => simp [ml_get] at h; simpa using ih h
theorem ml_clr_at : ∀ {ls : mx_L} {j : Nat} {w : mx_V}, (ml_clr ls)[j]? = some (some w) → ls[j]? = some (some w) ∧ j ≠ 0 := by
  intro ls j w h
  cases ls with
  | nil => simp [ml_clr] at h
  | cons q t =>
    cases j with
    | zero => simp [ml_clr] at h
    | succ j => exact ⟨by simpa [ml_clr] using h, by omega⟩
theorem ml_drop_at {q : Option mx_V} {w : mx_V} (h : ml_drop q = some w) : q = some w ∧ mx_cat w = 1 := by
  rcases q with _ | x | x | x <;> simp [ml_drop] at h <;> subst h <;> exact ⟨rfl, rfl⟩
theorem ml_set_at {v : mx_V} : ∀ {ls : mx_L} {i j : Nat} {w : mx_V}, (ml_set i v ls)[j]? = some (some w) →
    (j = i ∧ w = v) ∨ (ls[j]? = some (some w) ∧ j ≠ i ∧ ¬ (j + 1 = i ∧ mx_cat w = 2) ∧ ¬ (mx_cat v = 2 ∧ j = i + 1)) := by
  intro ls
  induction ls with
  | nil => intro i j w h; cases i <;> simp [ml_set] at h
  | cons q t ih =>
    intro i j w h
    match i with
    | 0 =>
      cases j with
      | zero => left; simp [ml_set] at h; exact ⟨rfl, h.symm⟩
      | succ j =>
        right
        simp only [ml_set, List.getElem?_cons_succ] at h
        by_cases hc : mx_cat v = 2
        · rw [if_pos hc] at h
          obtain ⟨h1, h2⟩ := ml_clr_at h
          exact ⟨by simpa using h1, by omega, by omega, by omega⟩
        · rw [if_neg hc] at h
          exact ⟨by simpa using h, by omega, by omega, by omega⟩
    | 1 =>
      cases j with
      | zero =>
        right
        simp only [ml_set, List.getElem?_cons_zero, Option.some.injEq] at h
        obtain ⟨h1, h2⟩ := ml_drop_at h
        exact ⟨by simp [h1], by omega, by omega, by omega⟩
      | succ j =>
        simp only [ml_set, List.getElem?_cons_succ] at h
        rcases ih h with ⟨h1, h2⟩ | ⟨h1, h2, h3, h4⟩
        · left; exact ⟨by omega, h2⟩
        · right; exact ⟨by simpa using h1, by omega, by omega, by omega⟩
    | i + 2 =>
      cases j with
      | zero =>
        right
        simp only [ml_set, List.getElem?_cons_zero, Option.some.injEq] at h
        exact ⟨by simp [h], by omega, by omega, by omega⟩
      | succ j =>
        simp only [ml_set, List.getElem?_cons_succ] at h
        rcases ih h with ⟨h1, h2⟩ | ⟨h1, h2, h3, h4⟩
        · left; exact ⟨by omega, h2⟩
        · right; exact ⟨by simpa using h1, by omega, by omega, by omega⟩
/-- locals held by a frame -/
def ml_has (arr : Array Slot) (nL : Nat) (ls : mx_L) : Prop := lv_has arr nL (ml_as 0 ls)
theorem ml_has_get {arr : Array Slot} {nL i : Nat} {ls : mx_L} {v : mx_V} (h : ml_has arr nL ls) (hg : ml_get i ls = some v) : arr[i]? = some (.val (mx_v v)) := by
  have := h.2.2 (0 + i, mx_v v) (ml_as_mem.mpr ⟨i, v, rfl, ml_get_eq hg⟩)
  simpa using this
theorem ml_has_lt {arr : Array Slot} {nL i : Nat} {ls : mx_L} {v : mx_V} (h : ml_has arr nL ls) (hg : ml_get i ls = some v) : i < nL := by
  have := lv_lt (ml_has_get h hg)
  rw [h.1] at this
  exact this
theorem ml_has_set1 {arr : Array Slot} {nL i : Nat} {ls : mx_L} {v : mx_V} (h : lv_has arr nL ((i, mx_v v) :: (ml_as 0 ls).filter (fun q => !(q.1 == i) && !(q.1 + 1 == i && q.2.category == 2)))) : ml_has arr nL (ml_set i v ls) := by
  refine ⟨h.1, h.2.1, fun q hq => h.2.2 q ?_⟩
  obtain ⟨j, w, rfl, hj⟩ := ml_as_mem.mp hq
  rcases ml_set_at hj with ⟨h1, h2⟩ | ⟨h1, h2, h3, h4⟩
  · subst h1; subst h2; simp
  · refine List.mem_cons_of_mem _ (List.mem_filter.mpr ⟨ml_as_mem.mpr ⟨j, w, rfl, h1⟩, ?_⟩)
    have e := mx_cat_eq w
    simp only [Nat.zero_add, Bool.and_eq_true, Bool.not_eq_true', beq_eq_false_iff_ne, Bool.and_eq_false_iff, ne_eq, beq_iff_eq, e]
    refine ⟨h2, ?_⟩
    by_cases hh : j + 1 = i
    · right; exact fun hc => h3 ⟨hh, hc⟩
    · left; exact hh
theorem ml_has_set2 {arr : Array Slot} {nL i : Nat} {ls : mx_L} {x : Int64} (h : lv_has arr nL ((i, .long x) :: (ml_as 0 ls).filter (fun q => !(q.1 == i) && (!(q.1 == i + 1) && !(q.1 + 1 == i && q.2.category == 2))))) : ml_has arr nL (ml_set i (.inr (.inl x)) ls) := by
  refine ⟨h.1, h.2.1, fun q hq => h.2.2 q ?_⟩
  obtain ⟨j, w, rfl, hj⟩ := ml_as_mem.mp hq
  rcases ml_set_at hj with ⟨h1, h2⟩ | ⟨h1, h2, h3, h4⟩
  · subst h1; subst h2; simp [mx_v]
  · refine List.mem_cons_of_mem _ (List.mem_filter.mpr ⟨ml_as_mem.mpr ⟨j, w, rfl, h1⟩, ?_⟩)
    have e := mx_cat_eq w
    simp only [Nat.zero_add, Bool.and_eq_true, Bool.not_eq_true', beq_eq_false_iff_ne, Bool.and_eq_false_iff, ne_eq, beq_iff_eq, e]
    refine ⟨h2, fun hh => h4 ⟨rfl, hh⟩, ?_⟩
    by_cases hh : j + 1 = i
    · right; exact fun hc => h3 ⟨hh, hc⟩
    · left; exact hh
end
section
/-! The instructions as functions, runs of a method's code, and what is said of a run (mx_V: it comes to an end with Q). -/
abbrev mx_S : Type := Nat × mx_L × List mx_V × mx_H
/-- a plain instruction; a call (method, number of words taken off the stack, next place, kind: 0 static, 1 a constructor, 2 + ci on an object of class ci); a return (0 int, 1 long, 2 reference, 3 boolean, 4 void) -/
abbrev mx_I : Type := (mx_S → Option mx_S) ⊕ ((Nat × Nat × Nat × Nat) ⊕ Nat)
def mx_cats (st : List mx_V) : Nat := match st with
  | [] => 0
  | v :: t => mx_cat v + mx_cats t
theorem mx_cats_eq (st : List mx_V) : ((st.map mx_v).map fun v => v.category).sum = mx_cats st := by
  induction st with
  | nil => rfl
  | cons v t ih => simp only [List.map_cons, List.sum_cons, mx_cats, ih, mx_cat_eq]
def x_ic (n : Nat) (z : Int32) : mx_S → Option mx_S := fun q => match q with
  | (_, ls, st, h) => some (n, ls, .inl z :: st, h)
def x_lc (n : Nat) (z : Int64) : mx_S → Option mx_S := fun q => match q with
  | (_, ls, st, h) => some (n, ls, .inr (.inl z) :: st, h)
def x_nul (n : Nat) : mx_S → Option mx_S := fun q => match q with
  | (_, ls, st, h) => some (n, ls, .inr (.inr none) :: st, h)
def x_ild (n i : Nat) : mx_S → Option mx_S := fun q => match q with
  | (_, ls, st, h) => match ml_get i ls with
    | some (.inl x) => some (n, ls, .inl x :: st, h)
    | _ => none
def x_lld (n i : Nat) : mx_S → Option mx_S := fun q => match q with
  | (_, ls, st, h) => match ml_get i ls with
    | some (.inr (.inl x)) => some (n, ls, .inr (.inl x) :: st, h)
    | _ => none
def x_ald (n i : Nat) : mx_S → Option mx_S := fun q => match q with
  | (_, ls, st, h) => match ml_get i ls with
    | some (.inr (.inr x)) => some (n, ls, .inr (.inr x) :: st, h)
    | _ => none
def x_ist (n i : Nat) : mx_S → Option mx_S := fun q => match q with
  | (_, ls, .inl x :: st, h) => some (n, ml_set i (.inl x) ls, st, h)
  | _ => none
def x_lst (n i : Nat) : mx_S → Option mx_S := fun q => match q with
  | (_, ls, .inr (.inl x) :: st, h) => some (n, ml_set i (.inr (.inl x)) ls, st, h)
  | _ => none
def x_ast (n i : Nat) : mx_S → Option mx_S := fun q => match q with
  | (_, ls, .inr (.inr x) :: st, h) => some (n, ml_set i (.inr (.inr x)) ls, st, h)
  | _ => none
def x_inc (n i : Nat) (z : Int32) : mx_S → Option mx_S := fun q => match q with
  | (_, ls, st, h) => match ml_get i ls with
    | some (.inl x) => some (n, ml_set i (.inl (x + z)) ls, st, h)
    | _ => none
def x_iadd (n : Nat) : mx_S → Option mx_S := fun q => match q with
  | (_, ls, .inl y :: .inl x :: st, h) => some (n, ls, .inl (x + y) :: st, h)
  | _ => none
def x_isub (n : Nat) : mx_S → Option mx_S := fun q => match q with
  | (_, ls, .inl y :: .inl x :: st, h) => some (n, ls, .inl (x - y) :: st, h)
  | _ => none
def x_imul (n : Nat) : mx_S → Option mx_S := fun q => match q with
  | (_, ls, .inl y :: .inl x :: st, h) => some (n, ls, .inl (x * y) :: st, h)
  | _ => none
def x_iand (n : Nat) : mx_S → Option mx_S := fun q => match q with
  | (_, ls, .inl y :: .inl x :: st, h) => some (n, ls, .inl (x &&& y) :: st, h)
  | _ => none
def x_ior (n : Nat) : mx_S → Option mx_S := fun q => match q with
  | (_, ls, .inl y :: .inl x :: st, h) => some (n, ls, .inl (x ||| y) :: st, h)
  | _ => none
def x_ixor (n : Nat) : mx_S → Option mx_S := fun q => match q with
  | (_, ls, .inl y :: .inl x :: st, h) => some (n, ls, .inl (x ^^^ y) :: st, h)
  | _ => none
def x_ladd (n : Nat) : mx_S → Option mx_S := fun q => match q with
  | (_, ls, .inr (.inl y) :: .inr (.inl x) :: st, h) => some (n, ls, .inr (.inl (x + y)) :: st, h)
  | _ => none
def x_lsub (n : Nat) : mx_S → Option mx_S := fun q => match q with
  | (_, ls, .inr (.inl y) :: .inr (.inl x) :: st, h) => some (n, ls, .inr (.inl (x - y)) :: st, h)
  | _ => none
def x_land (n : Nat) : mx_S → Option mx_S := fun q => match q with
  | (_, ls, .inr (.inl y) :: .inr (.inl x) :: st, h) => some (n, ls, .inr (.inl (x &&& y)) :: st, h)
  | _ => none
def x_lor (n : Nat) : mx_S → Option mx_S := fun q => match q with
  | (_, ls, .inr (.inl y) :: .inr (.inl x) :: st, h) => some (n, ls, .inr (.inl (x ||| y)) :: st, h)
  | _ => none
def x_lxor (n : Nat) : mx_S → Option mx_S := fun q => match q with
  | (_, ls, .inr (.inl y) :: .inr (.inl x) :: st, h) => some (n, ls, .inr (.inl (x ^^^ y)) :: st, h)
  | _ => none
def x_lshl (n : Nat) : mx_S → Option mx_S := fun q => match q with
  | (_, ls, .inl y :: .inr (.inl x) :: st, h) => some (n, ls, .inr (.inl (x <<< (y.toInt64 &&& 63))) :: st, h)
  | _ => none
def x_lushr (n : Nat) : mx_S → Option mx_S := fun q => match q with
  | (_, ls, .inl y :: .inr (.inl x) :: st, h) => some (n, ls, .inr (.inl (x.toUInt64 >>> (y.toInt64.toUInt64 &&& Int64.toUInt64 63)).toInt64) :: st, h)
  | _ => none
def x_lcmp (n : Nat) : mx_S → Option mx_S := fun q => match q with
  | (_, ls, .inr (.inl y) :: .inr (.inl x) :: st, h) => some (n, ls, .inl (lg_cmp x y) :: st, h)
  | _ => none
def x_i2l (n : Nat) : mx_S → Option mx_S := fun q => match q with
  | (_, ls, .inl x :: st, h) => some (n, ls, .inr (.inl x.toInt64) :: st, h)
  | _ => none
def x_dup (n : Nat) : mx_S → Option mx_S := fun q => match q with
  | (_, ls, v :: st, h) => if mx_cat v = 1 then some (n, ls, v :: v :: st, h) else none
  | _ => none
def x_pop (n : Nat) : mx_S → Option mx_S := fun q => match q with
  | (_, ls, v :: st, h) => if mx_cat v = 1 then some (n, ls, st, h) else none
  | _ => none
def x_dupx1 (n : Nat) : mx_S → Option mx_S := fun q => match q with
  | (_, ls, v :: w :: st, h) => if mx_cat v = 1 ∧ mx_cat w = 1 then some (n, ls, v :: w :: v :: st, h) else none
  | _ => none
def x_dup2 (n : Nat) : mx_S → Option mx_S := fun q => match q with
  | (_, ls, v :: w :: st, h) => if mx_cat v = 1 ∧ mx_cat w = 1 then some (n, ls, v :: w :: v :: w :: st, h) else none
  | _ => none
/-- branches on an int: n falls through, t is the target; c: 0 eq, 1 ne, 2 lt, 3 ge, 4 gt, 5 le -/
def x_ifeq (n t : Nat) : mx_S → Option mx_S := fun q => match q with
  | (_, ls, .inl x :: st, h) => some (if x = 0 then t else n, ls, st, h)
  | _ => none
def x_ifne (n t : Nat) : mx_S → Option mx_S := fun q => match q with
  | (_, ls, .inl x :: st, h) => some (if x = 0 then n else t, ls, st, h)
  | _ => none
def x_iflt (n t : Nat) : mx_S → Option mx_S := fun q => match q with
  | (_, ls, .inl x :: st, h) => some (if x < 0 then t else n, ls, st, h)
  | _ => none
def x_ifge (n t : Nat) : mx_S → Option mx_S := fun q => match q with
  | (_, ls, .inl x :: st, h) => some (if 0 ≤ x then t else n, ls, st, h)
  | _ => none
def x_ifgt (n t : Nat) : mx_S → Option mx_S := fun q => match q with
  | (_, ls, .inl x :: st, h) => some (if 0 < x then t else n, ls, st, h)
  | _ => none
def x_ifle (n t : Nat) : mx_S → Option mx_S := fun q => match q with
  | (_, ls, .inl x :: st, h) => some (if x ≤ 0 then t else n, ls, st, h)
  | _ => none
def x_ceq (n t : Nat) : mx_S → Option mx_S := fun q => match q with
  | (_, ls, .inl y :: .inl x :: st, h) => some (if x = y then t else n, ls, st, h)
  | _ => none
def x_cne (n t : Nat) : mx_S → Option mx_S := fun q => match q with
  | (_, ls, .inl y :: .inl x :: st, h) => some (if x = y then n else t, ls, st, h)
  | _ => none
def x_clt (n t : Nat) : mx_S → Option mx_S := fun q => match q with
  | (_, ls, .inl y :: .inl x :: st, h) => some (if x < y then t else n, ls, st, h)
  | _ => none
def x_cge (n t : Nat) : mx_S → Option mx_S := fun q => match q with
  | (_, ls, .inl y :: .inl x :: st, h) => some (if y ≤ x then t else n, ls, st, h)
  | _ => none
def x_cgt (n t : Nat) : mx_S → Option mx_S := fun q => match q with
  | (_, ls, .inl y :: .inl x :: st, h) => some (if y < x then t else n, ls, st, h)
  | _ => none
def x_cle (n t : Nat) : mx_S → Option mx_S := fun q => match q with
  | (_, ls, .inl y :: .inl x :: st, h) => some (if x ≤ y then t else n, ls, st, h)
  | _ => none
def x_aeq (n t : Nat) : mx_S → Option mx_S := fun q => match q with
  | (_, ls, .inr (.inr y) :: .inr (.inr x) :: st, h) => some (if x = y then t else n, ls, st, h)
  | _ => none
def x_ane (n t : Nat) : mx_S → Option mx_S := fun q => match q with
  | (_, ls, .inr (.inr y) :: .inr (.inr x) :: st, h) => some (if x = y then n else t, ls, st, h)
  | _ => none
def x_inul (n t : Nat) : mx_S → Option mx_S := fun q => match q with
  | (_, ls, .inr (.inr x) :: st, h) => some (if x = none then t else n, ls, st, h)
  | _ => none
def x_inn (n t : Nat) : mx_S → Option mx_S := fun q => match q with
  | (_, ls, .inr (.inr x) :: st, h) => some (if x = none then n else t, ls, st, h)
  | _ => none
def x_goto (t : Nat) : mx_S → Option mx_S := fun q => match q with
  | (_, ls, st, h) => some (t, ls, st, h)
def sw_at (ps : List (Int32 × Nat)) (d : Nat) (x : Int32) : Nat := match ps with
  | [] => d
  | (k, t) :: r => if x = k then t else sw_at r d x
def x_sw (ps : List (Int32 × Nat)) (d : Nat) : mx_S → Option mx_S := fun q => match q with
  | (_, ls, .inl x :: st, h) => some (sw_at ps d x, ls, st, h)
  | _ => none
/-- fields of an object of class ci -/
def x_gI (n c k : Nat) : mx_S → Option mx_S := fun q => match q with
  | (_, ls, .inr (.inr (some a)) :: st, h) => if hpK h a = some (.inl c) then some (n, ls, .inl (hpI h a k) :: st, h) else none
  | _ => none
def x_gL (n c k : Nat) : mx_S → Option mx_S := fun q => match q with
  | (_, ls, .inr (.inr (some a)) :: st, h) => if hpK h a = some (.inl c) then some (n, ls, .inr (.inl (hpL h a k)) :: st, h) else none
  | _ => none
def x_gR (n c k : Nat) : mx_S → Option mx_S := fun q => match q with
  | (_, ls, .inr (.inr (some a)) :: st, h) => if hpK h a = some (.inl c) then some (n, ls, .inr (.inr (hpR h a k)) :: st, h) else none
  | _ => none
def x_pI (n c k : Nat) : mx_S → Option mx_S := fun q => match q with
  | (_, ls, .inl x :: .inr (.inr (some a)) :: st, h) => if hpK h a = some (.inl c) then some (n, ls, st, hwI h a k x) else none
  | _ => none
def x_pZ (n c k : Nat) : mx_S → Option mx_S := fun q => match q with
  | (_, ls, .inl x :: .inr (.inr (some a)) :: st, h) => if hpK h a = some (.inl c) ∧ (x = 0 ∨ x = 1) then some (n, ls, st, hwI h a k x) else none
  | _ => none
def x_pL (n c k : Nat) : mx_S → Option mx_S := fun q => match q with
  | (_, ls, .inr (.inl x) :: .inr (.inr (some a)) :: st, h) => if hpK h a = some (.inl c) then some (n, ls, st, hwL h a k x) else none
  | _ => none
def x_pR (n c k : Nat) : mx_S → Option mx_S := fun q => match q with
  | (_, ls, .inr (.inr x) :: .inr (.inr (some a)) :: st, h) => if hpK h a = some (.inl c) then some (n, ls, st, hwR h a k x) else none
  | _ => none
def x_new (n c N : Nat) : mx_S → Option mx_S := fun q => match q with
  | (_, ls, st, h) => some (n, ls, .inr (.inr (some (hpZ h))) :: st, hnw h (.inl c) N)
/-- arrays of the type with the number t -/
def x_nar (n t : Nat) : mx_S → Option mx_S := fun q => match q with
  | (_, ls, .inl x :: st, h) => if ¬ x < 0 ∧ x.toNatClampNeg ≤ 60000000 then some (n, ls, .inr (.inr (some (hpZ h))) :: st, hnw h (.inr (t, x.toNatClampNeg)) x.toNatClampNeg) else none
  | _ => none
def x_ial (n t : Nat) : mx_S → Option mx_S := fun q => match q with
  | (_, ls, .inl j :: .inr (.inr (some a)) :: st, h) => match hpK h a with
    | some (.inr (u, len)) => if u = t ∧ ¬ (j < 0 ∨ len ≤ j.toNatClampNeg) then some (n, ls, .inl (hpI h a j.toNatClampNeg) :: st, h) else none
    | _ => none
  | _ => none
def x_aal (n t : Nat) : mx_S → Option mx_S := fun q => match q with
  | (_, ls, .inl j :: .inr (.inr (some a)) :: st, h) => match hpK h a with
    | some (.inr (u, len)) => if u = t ∧ ¬ (j < 0 ∨ len ≤ j.toNatClampNeg) then some (n, ls, .inr (.inr (hpR h a j.toNatClampNeg)) :: st, h) else none
    | _ => none
  | _ => none
def x_ias (n t : Nat) : mx_S → Option mx_S := fun q => match q with
  | (_, ls, .inl x :: .inl j :: .inr (.inr (some a)) :: st, h) => match hpK h a with
    | some (.inr (u, len)) => if u = t ∧ ¬ (j < 0 ∨ len ≤ j.toNatClampNeg) then some (n, ls, st, hwI h a j.toNatClampNeg x) else none
    | _ => none
  | _ => none
def mx_okr (h : mx_H) (c : Nat) (r : Option Nat) : Bool := match r with
  | none => true
  | some b => decide (hpK h b = some (.inl c))
/-- a reference stored into an array whose elements are of class ci: null, or an object of just this class -/
def x_aas (n t c : Nat) : mx_S → Option mx_S := fun q => match q with
  | (_, ls, .inr (.inr r) :: .inl j :: .inr (.inr (some a)) :: st, h) => match hpK h a with
    | some (.inr (u, len)) => if u = t ∧ ¬ (j < 0 ∨ len ≤ j.toNatClampNeg) ∧ mx_okr h c r = true then some (n, ls, st, hwR h a j.toNatClampNeg r) else none
    | _ => none
  | _ => none
def x_alen (n : Nat) : mx_S → Option mx_S := fun q => match q with
  | (_, ls, .inr (.inr (some a)) :: st, h) => match hpK h a with
    | some (.inr (_, len)) => some (n, ls, .inl (Int32.ofNat len) :: st, h)
    | _ => none
  | _ => none
/-- Object.<init> -/
def x_oin (n : Nat) : mx_S → Option mx_S := fun q => match q with
  | (_, ls, .inr (.inr (some _)) :: st, h) => if mx_cats st ≤ 8 then some (n, ls, st, h) else none
  | _ => none
def x_idiv (n : Nat) : mx_S → Option mx_S := fun q => match q with
  | (_, ls, .inl y :: .inl x :: st, h) => if y = 0 then none else some (n, ls, .inl (x / y) :: st, h)
  | _ => none
def x_irem (n : Nat) : mx_S → Option mx_S := fun q => match q with
  | (_, ls, .inl y :: .inl x :: st, h) => if y = 0 then none else some (n, ls, .inl (x - x / y * y) :: st, h)
  | _ => none
def x_lshr (n : Nat) : mx_S → Option mx_S := fun q => match q with
  | (_, ls, .inl y :: .inr (.inl x) :: st, h) => some (n, ls, .inr (.inl (x >>> (y.toInt64 &&& 63))) :: st, h)
  | _ => none
def x_pop2 (n : Nat) : mx_S → Option mx_S := fun q => match q with
  | (_, ls, .inr (.inl _) :: st, h) => some (n, ls, st, h)
  | _ => none
/-- Math.max -/
def x_max (n : Nat) : mx_S → Option mx_S := fun q => match q with
  | (_, ls, .inl y :: .inl x :: st, h) => if mx_cats st ≤ 8 then some (n, ls, .inl (if x < y then y else x) :: st, h) else none
  | _ => none
/-- the law's own script: L ints xs at the cell b -/
def x_sld (n b L : Nat) (xs : Nat → Int32) : mx_S → Option mx_S := fun q => match q with
  | (_, ls, .inl j :: .inr (.inr (some a)) :: st, h) => if a = b ∧ ¬ (j < 0 ∨ L ≤ j.toNatClampNeg) then some (n, ls, .inl (xs j.toNatClampNeg) :: st, h) else none
  | _ => none
def x_sln (n b L : Nat) : mx_S → Option mx_S := fun q => match q with
  | (_, ls, .inr (.inr (some a)) :: st, h) => if a = b then some (n, ls, .inl (Int32.ofNat L) :: st, h) else none
  | _ => none
def x_lal (n t : Nat) : mx_S → Option mx_S := fun q => match q with
  | (_, ls, .inl j :: .inr (.inr (some a)) :: st, h) => match hpK h a with
    | some (.inr (u, len)) => if u = t ∧ ¬ (j < 0 ∨ len ≤ j.toNatClampNeg) then some (n, ls, .inr (.inl (hpL h a j.toNatClampNeg)) :: st, h) else none
    | _ => none
  | _ => none
def x_las (n t : Nat) : mx_S → Option mx_S := fun q => match q with
  | (_, ls, .inr (.inl x) :: .inl j :: .inr (.inr (some a)) :: st, h) => match hpK h a with
    | some (.inr (u, len)) => if u = t ∧ ¬ (j < 0 ∨ len ≤ j.toNatClampNeg) then some (n, ls, st, hwL h a j.toNatClampNeg x) else none
    | _ => none
  | _ => none
def mx_ret (t : Nat) (st : List mx_V) (r : Option mx_V) : Prop := match t with
  | 0 => ∃ x : Int32, st = [.inl x] ∧ r = some (.inl x)
  | 1 => ∃ x : Int64, st = [.inr (.inl x)] ∧ r = some (.inr (.inl x))
  | 2 => ∃ x : Option Nat, st = [.inr (.inr x)] ∧ r = some (.inr (.inr x))
  | 3 => ∃ x : Int32, st = [.inl x] ∧ r = some (.inl x) ∧ (x = 0 ∨ x = 1)
  | _ => st = [] ∧ r = none
def mx_rcv (kind : Nat) (as : List mx_V) (h : mx_H) : Prop := match kind with
  | 0 => True
  | 1 => ∃ b, as.head? = some (.inr (.inr (some b)))
  | k + 2 => ∃ b, as.head? = some (.inr (.inr (some b))) ∧ hpK h b = some (.inl k)
abbrev mx_C : Type := Nat → List mx_V → mx_H → Option mx_V → mx_H → Prop
def mx_Run (C : mx_C) (code : Nat → mx_I) : Nat → mx_S → Option mx_V → mx_H → Prop
  | 0, _, _, _ => False
  | n + 1, q, r, h' => match code q.1 with
    | .inl f => ∃ q', f q = some q' ∧ mx_Run C code n q' r h'
    | .inr (.inl (j, k, nxt, kind)) => ∃ as rest r1 h1, q.2.2.1 = as.reverse ++ rest ∧ as.length = k ∧ mx_cats rest ≤ 8 ∧ mx_rcv kind as q.2.2.2 ∧ C j as q.2.2.2 r1 h1 ∧ mx_Run C code n (nxt, q.2.1, r1.toList ++ rest, h1) r h'
    | .inr (.inr t) => mx_ret t q.2.2.1 r ∧ h' = q.2.2.2
/-- the run comes to its end, with Q -/
def mx_W (C : mx_C) (code : Nat → mx_I) (q : mx_S) (Q : Option mx_V → mx_H → Prop) : Prop := ∃ n r h', mx_Run C code n q r h' ∧ Q r h'
section
variable {C : mx_C} {code : Nat → mx_I} {Q : Option mx_V → mx_H → Prop}
theorem mw_go {q q' : mx_S} {f : mx_S → Option mx_S} (hc : code q.1 = .inl f) (hf : f q = some q') (k : mx_W C code q' Q) : mx_W C code q Q := by
  obtain ⟨n, r, h', h1, h2⟩ := k
  refine ⟨n + 1, r, h', ?_, h2⟩
  simp only [mx_Run, hc]
  exact ⟨q', hf, h1⟩
theorem mw_call {i : Nat} {ls : mx_L} {st rest : List mx_V} {h h1 : mx_H} {j k nxt kind : Nat} {as : List mx_V} {r1 : Option mx_V} (hc : code i = .inr (.inl (j, k, nxt, kind))) (hst : st = as.reverse ++ rest) (hk : as.length = k) (hcat : mx_cats rest ≤ 8) (hr : mx_rcv kind as h) (hC : C j as h r1 h1) (kk : mx_W C code (nxt, ls, r1.toList ++ rest, h1) Q) : mx_W C code (i, ls, st, h) Q := by
  obtain ⟨n, r, h', e1, e2⟩ := kk
  refine ⟨n + 1, r, h', ?_, e2⟩
  simp only [mx_Run, hc]
  exact ⟨as, rest, r1, h1, hst, hk, hcat, hr, hC, e1⟩
theorem mw_ret {i : Nat} {ls : mx_L} {st : List mx_V} {h : mx_H} {t : Nat} {r : Option mx_V} (hc : code i = .inr (.inr t)) (hr : mx_ret t st r) (hq : Q r h) : mx_W C code (i, ls, st, h) Q := by
  refine ⟨1, r, h, ?_, hq⟩
  simp only [mx_Run, hc]
  exact ⟨hr, trivial⟩
theorem mw_if {c : Prop} (hd : Decidable c) {a b : Nat} {x : mx_L × List mx_V × mx_H} (h1 : c → mx_W C code (a, x) Q) (h2 : ¬ c → mx_W C code (b, x) Q) : mx_W C code (@ite _ c hd a b, x) Q := by
  by_cases hc : c
  · rw [if_pos hc]; exact h1 hc
  · rw [if_neg hc]; exact h2 hc
theorem mw_cons {q : mx_S} {Q' : Option mx_V → mx_H → Prop} (h : mx_W C code q Q') (hq : ∀ r h', Q' r h' → Q r h') : mx_W C code q Q := by
  obtain ⟨n, r, h', e1, e2⟩ := h
  exact ⟨n, r, h', e1, hq _ _ e2⟩
end
def ml_args (as : List mx_V) : mx_L := match as with
  | [] => []
  | v :: t => some v :: (if mx_cat v = 2 then none :: ml_args t else ml_args t)
def ml_pad (n : Nat) (ls : mx_L) : mx_L := match n, ls with
  | 0, _ => []
  | n + 1, [] => none :: ml_pad n []
  | n + 1, q :: t => q :: ml_pad n t
/-- calls of the methods of a program (places for locals, code), d frames deep -/
def mx_Call (prog : Nat → Nat × (Nat → mx_I)) : Nat → mx_C
  | 0 => fun _ _ _ _ _ => False
  | d + 1 => fun j as h r h' => mx_cats as ≤ (prog j).1 ∧ ∃ n, mx_Run (mx_Call prog d) (prog j).2 n (0, ml_pad (prog j).1 (ml_args as), [], h) r h'
theorem mc_of {prog : Nat → Nat × (Nat → mx_I)} {d j : Nat} {as : List mx_V} {h : mx_H} {Q : Option mx_V → mx_H → Prop} (hfit : mx_cats as ≤ (prog j).1) (hw : mx_W (mx_Call prog d) (prog j).2 (0, ml_pad (prog j).1 (ml_args as), [], h) Q) : ∃ r h', mx_Call prog (d + 1) j as h r h' ∧ Q r h' := by
  obtain ⟨n, r, h', h1, h2⟩ := hw
  exact ⟨r, h', ⟨hfit, n, h1⟩, h2⟩
theorem ml_pad_at {n : Nat} : ∀ {ls : mx_L} {i : Nat} {v : mx_V}, (ml_pad n ls)[i]? = some (some v) → ls[i]? = some (some v) := by
  induction n with
  | zero => intro ls i v h; simp [ml_pad] at h
  | succ n ih =>
    intro ls i v h
    cases ls with
    | nil =>
      cases i with
      | zero => simp [ml_pad] at h
      | succ i => simp only [ml_pad, List.getElem?_cons_succ] at h; have := ih h; simp at this
    | cons q t =>
      cases i with
      | zero => simpa [ml_pad] using h
      | succ i => simp only [ml_pad, List.getElem?_cons_succ] at h; simpa using ih h
theorem ml_args_in : ∀ {as : List mx_V} {k i : Nat} {v : mx_V}, (ml_args as)[i]? = some (some v) → (k + i, mx_v v) ∈ lv_args k (as.map mx_v) := by
  intro as
  induction as with
  | nil => intro k i v h; simp [ml_args] at h
  | cons w t ih =>
    intro k i v h
    simp only [List.map_cons, lv_args, mx_cat_eq]
    cases i with
    | zero => simp [ml_args] at h; subst h; simp
    | succ i =>
      simp only [ml_args, List.getElem?_cons_succ] at h
      by_cases hc : mx_cat w = 2
      · rw [if_pos hc] at h ⊢
        cases i with
        | zero => simp at h
        | succ i =>
          simp only [List.getElem?_cons_succ] at h
          have := ih (k := k + 2) h
          refine List.mem_cons_of_mem _ ?_
          rwa [show k + (i + 1 + 1) = k + 2 + i by omega]
      · rw [if_neg hc] at h ⊢
        have := ih (k := k + 1) h
        refine List.mem_cons_of_mem _ ?_
        rwa [show k + (i + 1) = k + 1 + i by omega]
theorem ml_entry {arr : Array Slot} {n k : Nat} {as : List mx_V} (h : lv_has arr n (lv_args 0 (as.map mx_v))) : ml_has arr n (ml_pad k (ml_args as)) := by
  refine ⟨h.1, h.2.1, fun q hq => h.2.2 q ?_⟩
  obtain ⟨i, v, rfl, hi⟩ := ml_as_mem.mp hq
  exact ml_args_in (ml_pad_at hi)
theorem mx_len (as : List mx_V) : (lg_sl (as.map mx_v)).length = mx_cats as := by
  induction as with
  | nil => rfl
  | cons v t ih =>
    rcases v with x | x | (_ | a) <;> simp_all [lg_sl, mx_cats, mx_cat, mx_v, va_rf, Value.category] <;> omega
end
section
/-! Each instruction of the abstract machine is one of the Statement's machine. -/
/-- D, array classes, base, the script (place, length, ints, cell); classes, their fields' types (1 long, 2 reference, 3 boolean, else int), array types, words of nest mates, classes of which there are arrays -/
abbrev mx_E : Type := (va_G × (Nat → ClassId) × Nat × Nat × Nat × (Nat → Int32) × Cell) × (List vw_C × (Nat → Nat → Nat) × List (FieldType × Nat) × List (String × Nat × MethodName × String) × List String)
abbrev eD (E : mx_E) : va_G := E.1.1
abbrev eA (E : mx_E) : Nat → ClassId := E.1.2.1
abbrev eB (E : mx_E) : Nat := E.1.2.2.1
abbrev eSb (E : mx_E) : Nat := E.1.2.2.2.1
abbrev eSL (E : mx_E) : Nat := E.1.2.2.2.2.1
abbrev eSx (E : mx_E) : Nat → Int32 := E.1.2.2.2.2.2.1
abbrev eSc (E : mx_E) : Cell := E.1.2.2.2.2.2.2
abbrev eC (E : mx_E) : List vw_C := E.2.1
abbrev eF (E : mx_E) : Nat → Nat → Nat := E.2.2.1
abbrev eT (E : mx_E) : List (FieldType × Nat) := E.2.2.2.1
abbrev eN (E : mx_E) : List (String × Nat × MethodName × String) := E.2.2.2.2.1
abbrev eO (E : mx_E) : List String := E.2.2.2.2.2
def mx_at (E : mx_E) (h : mx_H) (H : Heap) (a : Nat) (t : mx_K) : Prop := match t with
  | .inl ci => ∃ r : vw_C, (eC E)[ci]? = some r ∧ t_OB a ((eD E).1 ci) r.2.2 ((eD E).2 ci) H (fun k => hpV h a (eF E ci k) k)
  | .inr (t, n) => ∃ r : FieldType × Nat, (eT E)[t]? = some r ∧ H[a]? = some (arrV (eA E t) n (fun k => hpV h a r.2 k))
def mx_Rep (E : mx_E) (h : mx_H) (H : Heap) : Prop := H.size = hpZ h ∧ (eB E ≤ hpZ h ∧ eSb E < eB E ∧ H[eSb E]? = some (eSc E)) ∧ ∀ (a : Nat) (t : mx_K), hpK h a = some t → eB E ≤ a ∧ mx_at E h H a t
def mx_Kn (E : mx_E) (s : State) : Prop := (∀ (c : Nat) (q : vw_C), (eC E)[c]? = some q → u_Kn s q.1 q.2.1 q.2.2 ((eD E).1 c) ((eD E).2 c)) ∧ (∀ (t : Nat) (q : FieldType × Nat), (eT E)[t]? = some q → ArrOfT s (eA E t) q.1 ∧ va_RA s (eA E t) q.1) ∧ (∀ q ∈ eN E, va_Nw (.methodLinkNest q.1 q.2.1 q.2.2.1 q.2.2.2) s) ∧ (∀ C ∈ eO E, va_AO C s) ∧ s.isArrayOf (eSc E) .int ∧ (eSc E).vm ≠ .unknown ∧ (eSc E).slots.size = eSL E ∧ ∀ j : Nat, j < eSL E → (eSc E).slots[j]? = some (.int (eSx E j))
theorem mx_Kn.moved {E : mx_E} {s U : State} (hW : s.WarmedH U.vm) (h : mx_Kn E s) : mx_Kn E U :=
  ⟨fun c q hq => u_Kn_moved hW.alike (h.1 c q hq), fun t q hq => ⟨arrOfT_moved hW.alike (h.2.1 t q hq).1, (h.2.1 t q hq).2.moved hW.alike⟩, fun q hq => va_Nw.warmM hW (h.2.2.1 q hq), fun C hC => va_AO.moved hW.alike (h.2.2.2.1 C hC), State.isArrayOf_alike hW.alike h.2.2.2.2.1, h.2.2.2.2.2⟩
theorem mx_Kn.same {E : mx_E} {s U : State} (hv : s.vm = U.vm) (h : mx_Kn E s) : mx_Kn E U := by
  have ha : s.vm.Alike U.vm := by rw [hv]; exact Vm.Alike.refl _
  exact ⟨fun c q hq => u_Kn_moved ha (h.1 c q hq), fun t q hq => ⟨arrOfT_moved ha (h.2.1 t q hq).1, (h.2.1 t q hq).2.moved ha⟩, fun q hq => va_Nw.same rfl hv (h.2.2.1 q hq), fun C hC => va_AO.moved ha (h.2.2.2.1 C hC), State.isArrayOf_alike ha h.2.2.2.2.1, h.2.2.2.2.2⟩
abbrev mx_A (E : mx_E) : Nat → Prop := fun q => eB E ≤ q
theorem mx_at.lt {E : mx_E} {h : mx_H} {H : Heap} {a : Nat} {t : mx_K} (hh : mx_at E h H a t) : a < H.size := by
  rcases t with ci | ⟨t, n⟩
  · obtain ⟨r, -, cell, h2, -⟩ := hh
    exact (Array.getElem?_eq_some_iff.mp h2).1
  · obtain ⟨r, -, h2⟩ := hh
    exact (Array.getElem?_eq_some_iff.mp h2).1
/-- a cell that isn't written stays -/
theorem mx_at.kept {E : mx_E} {h h' : mx_H} {H H' : Heap} {a : Nat} {t : mx_K} (hh : mx_at E h H a t) (hH : H'[a]? = H[a]?) (hV : ∀ ty k, hpV h' a ty k = hpV h a ty k) : mx_at E h' H' a t := by
  rcases t with ci | ⟨t, n⟩
  · obtain ⟨r, h1, h2⟩ := hh
    exact ⟨r, h1, (h2.kept hH).to (fun k _ => (hV _ k).symm)⟩
  · obtain ⟨r, h1, h2⟩ := hh
    exact ⟨r, h1, by rw [hH, h2]; congr 2; funext k; exact (hV _ k).symm⟩
/-- one cell is written -/
theorem mx_Rep.put {E : mx_E} {h h' : mx_H} {H H' : Heap} {a : Nat} {t : mx_K} (hh : mx_Rep E h H) (hz : H'.size = H.size) (ho : ∀ q, q ≠ a → H'[q]? = H[q]?) (hZ : hpZ h' = hpZ h) (hK : ∀ b, hpK h' b = hpK h b) (hV : ∀ b ty k, b ≠ a → hpV h' b ty k = hpV h b ty k) (ha : hpK h a = some t) (hat : mx_at E h' H' a t) : mx_Rep E h' H' := by
  have hlt := (hh.2.2 a t ha).1
  refine ⟨by rw [hz, hZ]; exact hh.1, ⟨by rw [hZ]; exact hh.2.1.1, hh.2.1.2.1, by rw [ho _ (fun e => by have := hh.2.1.2.1; omega)]; exact hh.2.1.2.2⟩, fun b u hb => ?_⟩
  rw [hK] at hb
  refine ⟨(hh.2.2 b u hb).1, ?_⟩
  by_cases e : b = a
  · subst e
    cases ha.symm.trans hb
    exact hat
  · exact (hh.2.2 b u hb).2.kept (ho b e) (fun ty k => hV b ty k e)
/-- a cell is made -/
theorem mx_Rep.made {E : mx_E} {h : mx_H} {H H' : Heap} {t : mx_K} {n : Nat} (hh : mx_Rep E h H) (hz : H'.size = H.size + 1) (ho : ∀ q, q < H.size → H'[q]? = H[q]?) (hat : mx_at E (hnw h t n) H' (hpZ h) t) : mx_Rep E (hnw h t n) H' := by
  refine ⟨by rw [hz, hh.1]; rfl, ⟨Nat.le_succ_of_le hh.2.1.1, hh.2.1.2.1, by rw [ho _ (by have := hh.2.1; rw [hh.1]; omega)]; exact hh.2.1.2.2⟩, fun b u hb => ?_⟩
  rw [hpK_nw] at hb
  by_cases e : b = hpZ h
  · rw [if_pos e] at hb
    cases hb
    subst e
    exact ⟨hh.2.1.1, hat⟩
  · rw [if_neg e] at hb
    have h1 := hh.2.2 b u hb
    refine ⟨h1.1, h1.2.kept (ho b h1.2.lt) (fun ty k => ?_)⟩
    unfold hpV
    rw [hpI_nw, hpL_nw, hpR_nw, if_neg e, if_neg e, if_neg e]
def mx_Snd (E : mx_E) (cc : ByteArray) (nL : Nat) (own : String) (ini : Bool) (pcs : Nat → Nat) (Ts : List Cond) (i : Nat) (f : mx_S → Option mx_S) : Prop :=
  (∀ (ls : mx_L) (st : List mx_V) (h : mx_H) (q' : mx_S), f (i, ls, st, h) = some q' → hpZ h ≤ hpZ q'.2.2.2 ∧ hpU h ≤ hpU q'.2.2.2) ∧
  ∀ (p : Program) (l : Launch) (e : Env) (R : Room) (s : State) (m : MethodId) (args : Array Value) (below : List Frame) (meth : Method) (c : Code) (Q : State → Prop),
    p.tables.exec = Jvm.exec → c.code = cc → c.maxLocals = nL → s.vm.findClass own = some m.cls → (∀ w ∈ Ts, w.before args s = true) → mx_Kn E s → (ini = true → meth.name = "<init>") → (1 ≤ R.frames ∧ 21 ≤ R.locals) →
    ∀ (sz us : Nat) (ls : mx_L) (st : List mx_V) (h : mx_H) (q' : mx_S) (H : Heap) (locs : List Loc) (arr : Array Slot),
      f (i, ls, st, h) = some q' → sz ≤ hpZ h → us ≤ hpU h → mx_Rep E h H → ml_has arr nL ls → va_S (mx_A E) s.heap H locs →
      hpZ q'.2.2.2 - sz ≤ R.cells → hpU q'.2.2.2 - us ≤ R.slots →
        (∀ (H' : Heap) (locs' : List Loc) (arr' : Array Slot), mx_Rep E q'.2.2.2 H' → ml_has arr' nL q'.2.1 → va_S (mx_A E) s.heap H' locs' → W p l e R s m args below meth c H' locs' (hpZ q'.2.2.2 - sz) (hpU q'.2.2.2 - us) Q (F0 m (pcs q'.1) arr' (q'.2.2.1.map mx_v))) →
        W p l e R s m args below meth c H locs (hpZ h - sz) (hpU h - us) Q (F0 m (pcs i) arr (st.map mx_v))
/-- an instruction that leaves the heap alone -/
theorem sn_keep {E : mx_E} {cc : ByteArray} {nL : Nat} {own : String} {ini : Bool} {pcs : Nat → Nat} {Ts : List Cond} {i : Nat} {f : mx_S → Option mx_S}
    (H1 : ∀ (ls : mx_L) (st : List mx_V) (h : mx_H) (q' : mx_S), f (i, ls, st, h) = some q' → q'.2.2.2 = h)
    (H2 : ∀ (p : Program) (l : Launch) (e : Env) (R : Room) (s : State) (m : MethodId) (args : Array Value) (below : List Frame) (meth : Method) (c : Code) (Q : State → Prop) (H : Heap) (locs : List Loc) (cells slots : Nat) (arr : Array Slot) (ls : mx_L) (st : List mx_V) (h : mx_H) (q' : mx_S),
      p.tables.exec = Jvm.exec → c.code = cc → c.maxLocals = nL → s.vm.findClass own = some m.cls → (∀ w ∈ Ts, w.before args s = true) → (1 ≤ R.frames ∧ 21 ≤ R.locals) → ml_has arr nL ls → f (i, ls, st, h) = some q' →
      (∀ arr' : Array Slot, ml_has arr' nL q'.2.1 → W p l e R s m args below meth c H locs cells slots Q (F0 m (pcs q'.1) arr' (q'.2.2.1.map mx_v))) →
      W p l e R s m args below meth c H locs cells slots Q (F0 m (pcs i) arr (st.map mx_v))) : mx_Snd E cc nL own ini pcs Ts i f := by
  refine ⟨fun ls st h q' hf => by rw [H1 ls st h q' hf]; exact ⟨Nat.le_refl _, Nat.le_refl _⟩, ?_⟩
  intro p l e R s m args below meth c Q hx hb hml hown hts hKn hin hR sz us ls st h q' H locs arr hf hz hu hrep hl hS _ _ k
  have hh := H1 ls st h q' hf
  refine H2 p l e R s m args below meth c Q H locs _ _ arr ls st h q' hx hb hml hown hts hR hl hf (fun arr' hl' => ?_)
  have := k H locs arr' (by rw [hh]; exact hrep) hl' hS
  rw [hh] at this
  exact this
section
variable {E : mx_E} {cc : ByteArray} {nL : Nat} {own : String} {ini : Bool} {pcs : Nat → Nat} {Ts : List Cond} {i n : Nat}
theorem sn_ic1 {k : Int} {z : Int32} (hd : decode cc (pcs i) = .ok (.iconst k, 1)) (hn : pcs n = pcs i + 1) (hz : Int32.ofInt k = z) : mx_Snd E cc nL own ini pcs Ts i (x_ic n z) := by
  refine sn_keep ?_ ?_
  · intro ls st h q' hf
    simp only [x_ic] at hf
    cases hf; rfl
  · intro p l e R s m args below meth c Q H locs cells slots arr ls st h q' hx hb hml hown hts hR hl hf kk
    simp only [x_ic] at hf
    cases hf
    exact lv_iconst hx hb hd hz (by rw [← hn]; exact kk arr hl)
theorem sn_ic2 {k : Int} {z : Int32} (hd : decode cc (pcs i) = .ok (.bipush k, 2)) (hn : pcs n = pcs i + 2) (hz : (Int8.ofInt k).toInt32 = z) : mx_Snd E cc nL own ini pcs Ts i (x_ic n z) := by
  refine sn_keep ?_ ?_
  · intro ls st h q' hf
    simp only [x_ic] at hf
    cases hf; rfl
  · intro p l e R s m args below meth c Q H locs cells slots arr ls st h q' hx hb hml hown hts hR hl hf kk
    simp only [x_ic] at hf
    cases hf
    exact lv_bipush hx hb hd hz (by rw [← hn]; exact kk arr hl)
theorem sn_ic3 {k : Int} {z : Int32} (hd : decode cc (pcs i) = .ok (.sipush k, 3)) (hn : pcs n = pcs i + 3) (hz : (Int16.ofInt k).toInt32 = z) : mx_Snd E cc nL own ini pcs Ts i (x_ic n z) := by
  refine sn_keep ?_ ?_
  · intro ls st h q' hf
    simp only [x_ic] at hf
    cases hf; rfl
  · intro p l e R s m args below meth c Q H locs cells slots arr ls st h q' hx hb hml hown hts hR hl hf kk
    simp only [x_ic] at hf
    cases hf
    exact lv_sipush hx hb hd hz (by rw [← hn]; exact kk arr hl)
theorem sn_lc {k : Fin 2} {z : Int64} (hd : decode cc (pcs i) = .ok (.lconst k, 1)) (hn : pcs n = pcs i + 1) (hz : Int64.ofNat (k : Nat) = z) : mx_Snd E cc nL own ini pcs Ts i (x_lc n z) := by
  refine sn_keep ?_ ?_
  · intro ls st h q' hf
    simp only [x_lc] at hf
    cases hf; rfl
  · intro p l e R s m args below meth c Q H locs cells slots arr ls st h q' hx hb hml hown hts hR hl hf kk
    simp only [x_lc] at hf
    cases hf
    exact lv_lconst hx hb hd hz (by rw [← hn]; exact kk arr hl)
theorem sn_lc2 {k : Nat} {z : Int64} (hd : decode cc (pcs i) = .ok (.ldc2_w k, 3)) (hn : pcs n = pcs i + 3) (hw : Jvm.Cond.constantLong own k z ∈ Ts) : mx_Snd E cc nL own ini pcs Ts i (x_lc n z) := by
  refine sn_keep ?_ ?_
  · intro ls st h q' hf
    simp only [x_lc] at hf
    cases hf; rfl
  · intro p l e R s m args below meth c Q H locs cells slots arr ls st h q' hx hb hml hown hts hR hl hf kk
    simp only [x_lc] at hf
    cases hf
    exact lv_ldc2 hx hb hown (hts _ hw) hd (by rw [← hn]; exact kk arr hl)
theorem sn_nul (hd : decode cc (pcs i) = .ok (.aconst_null, 1)) (hn : pcs n = pcs i + 1) : mx_Snd E cc nL own ini pcs Ts i (x_nul n) := by
  refine sn_keep ?_ ?_
  · intro ls st h q' hf
    simp only [x_nul] at hf
    cases hf; rfl
  · intro p l e R s m args below meth c Q H locs cells slots arr ls st h q' hx hb hml hown hts hR hl hf k
    simp only [x_nul] at hf
    cases hf
    exact lv_null hx hb hd (by rw [← hn]; exact k arr hl)
theorem sn_ildn {k : Fin 4} {j : Nat} (hd : decode cc (pcs i) = .ok (.iload_n k, 1)) (hn : pcs n = pcs i + 1) (hk : (k : Nat) = j) : mx_Snd E cc nL own ini pcs Ts i (x_ild n j) := by
  refine sn_keep ?_ ?_
  · intro ls st h q' hf
    simp only [x_ild] at hf
    cases hg : ml_get j ls with
    | none => rw [hg] at hf; cases hf
    | some v =>
      rw [hg] at hf
      rcases v with x | x | x <;> simp only [reduceCtorEq] at hf
      cases hf
      rfl
  · intro p l e R s m args below meth c Q H locs cells slots arr ls st h q' hx hb hml hown hts hR hl hf kk
    simp only [x_ild] at hf
    cases hg : ml_get j ls with
    | none => rw [hg] at hf; cases hf
    | some v =>
      rw [hg] at hf
      rcases v with x | x | x <;> simp only [reduceCtorEq] at hf
      cases hf
      exact lv_iload_n hx hb hd hk (ml_has_get hl hg) (by rw [← hn]; exact kk arr hl)
theorem sn_ild {j : Nat} (hd : decode cc (pcs i) = .ok (.iload j, 2)) (hn : pcs n = pcs i + 2) : mx_Snd E cc nL own ini pcs Ts i (x_ild n j) := by
  refine sn_keep ?_ ?_
  · intro ls st h q' hf
    simp only [x_ild] at hf
    cases hg : ml_get j ls with
    | none => rw [hg] at hf; cases hf
    | some v =>
      rw [hg] at hf
      rcases v with x | x | x <;> simp only [reduceCtorEq] at hf
      cases hf
      rfl
  · intro p l e R s m args below meth c Q H locs cells slots arr ls st h q' hx hb hml hown hts hR hl hf kk
    simp only [x_ild] at hf
    cases hg : ml_get j ls with
    | none => rw [hg] at hf; cases hf
    | some v =>
      rw [hg] at hf
      rcases v with x | x | x <;> simp only [reduceCtorEq] at hf
      cases hf
      exact lv_iload hx hb hd (ml_has_get hl hg) (by rw [← hn]; exact kk arr hl)
theorem sn_lldn {k : Fin 4} {j : Nat} (hd : decode cc (pcs i) = .ok (.lload_n k, 1)) (hn : pcs n = pcs i + 1) (hk : (k : Nat) = j) : mx_Snd E cc nL own ini pcs Ts i (x_lld n j) := by
  refine sn_keep ?_ ?_
  · intro ls st h q' hf
    simp only [x_lld] at hf
    cases hg : ml_get j ls with
    | none => rw [hg] at hf; cases hf
    | some v =>
      rw [hg] at hf
      rcases v with x | x | x <;> simp only [reduceCtorEq] at hf
      cases hf
      rfl
  · intro p l e R s m args below meth c Q H locs cells slots arr ls st h q' hx hb hml hown hts hR hl hf kk
    simp only [x_lld] at hf
    cases hg : ml_get j ls with
    | none => rw [hg] at hf; cases hf
    | some v =>
      rw [hg] at hf
      rcases v with x | x | x <;> simp only [reduceCtorEq] at hf
      cases hf
      exact lv_lload_n hx hb hd hk (ml_has_get hl hg) (by rw [← hn]; exact kk arr hl)
theorem sn_lld {j : Nat} (hd : decode cc (pcs i) = .ok (.lload j, 2)) (hn : pcs n = pcs i + 2) : mx_Snd E cc nL own ini pcs Ts i (x_lld n j) := by
  refine sn_keep ?_ ?_
  · intro ls st h q' hf
    simp only [x_lld] at hf
    cases hg : ml_get j ls with
    | none => rw [hg] at hf; cases hf
    | some v =>
      rw [hg] at hf
      rcases v with x | x | x <;> simp only [reduceCtorEq] at hf
      cases hf
      rfl
  · intro p l e R s m args below meth c Q H locs cells slots arr ls st h q' hx hb hml hown hts hR hl hf kk
    simp only [x_lld] at hf
    cases hg : ml_get j ls with
    | none => rw [hg] at hf; cases hf
    | some v =>
      rw [hg] at hf
      rcases v with x | x | x <;> simp only [reduceCtorEq] at hf
      cases hf
      exact lv_lload hx hb hd (ml_has_get hl hg) (by rw [← hn]; exact kk arr hl)
theorem sn_aldn {k : Fin 4} {j : Nat} (hd : decode cc (pcs i) = .ok (.aload_n k, 1)) (hn : pcs n = pcs i + 1) (hk : (k : Nat) = j) : mx_Snd E cc nL own ini pcs Ts i (x_ald n j) := by
  refine sn_keep ?_ ?_
  · intro ls st h q' hf
    simp only [x_ald] at hf
    cases hg : ml_get j ls with
    | none => rw [hg] at hf; cases hf
    | some v =>
      rw [hg] at hf
      rcases v with x | x | x <;> simp only [reduceCtorEq] at hf
      cases hf
      rfl
  · intro p l e R s m args below meth c Q H locs cells slots arr ls st h q' hx hb hml hown hts hR hl hf kk
    simp only [x_ald] at hf
    cases hg : ml_get j ls with
    | none => rw [hg] at hf; cases hf
    | some v =>
      rw [hg] at hf
      rcases v with x | x | x <;> simp only [reduceCtorEq] at hf
      cases hf
      cases x with
      | none => exact lv_aload_nN hx hb hd hk (ml_has_get hl hg) (by rw [← hn]; exact kk arr hl)
      | some x => exact lv_aload_n hx hb hd hk (ml_has_get hl hg) (by rw [← hn]; exact kk arr hl)
theorem sn_ald {j : Nat} (hd : decode cc (pcs i) = .ok (.aload j, 2)) (hn : pcs n = pcs i + 2) : mx_Snd E cc nL own ini pcs Ts i (x_ald n j) := by
  refine sn_keep ?_ ?_
  · intro ls st h q' hf
    simp only [x_ald] at hf
    cases hg : ml_get j ls with
    | none => rw [hg] at hf; cases hf
    | some v =>
      rw [hg] at hf
      rcases v with x | x | x <;> simp only [reduceCtorEq] at hf
      cases hf
      rfl
  · intro p l e R s m args below meth c Q H locs cells slots arr ls st h q' hx hb hml hown hts hR hl hf kk
    simp only [x_ald] at hf
    cases hg : ml_get j ls with
    | none => rw [hg] at hf; cases hf
    | some v =>
      rw [hg] at hf
      rcases v with x | x | x <;> simp only [reduceCtorEq] at hf
      cases hf
      cases x with
      | none => exact lv_aloadN hx hb hd (ml_has_get hl hg) (by rw [← hn]; exact kk arr hl)
      | some x => exact lv_aload hx hb hd (ml_has_get hl hg) (by rw [← hn]; exact kk arr hl)
theorem sn_istn {k : Fin 4} {j : Nat} (hd : decode cc (pcs i) = .ok (.istore_n k, 1)) (hn : pcs n = pcs i + 1) (hk : (k : Nat) = j) (hj : j < nL) : mx_Snd E cc nL own ini pcs Ts i (x_ist n j) := by
  refine sn_keep ?_ ?_
  · intro ls st h q' hf
    rcases st with _ | ⟨x | x | x, st⟩ <;> simp only [x_ist, reduceCtorEq] at hf
    cases hf
    rfl
  · intro p l e R s m args below meth c Q H locs cells slots arr ls st h q' hx hb hml hown hts hR hl hf kk
    rcases st with _ | ⟨x | x | x, st⟩ <;> simp only [x_ist, reduceCtorEq] at hf
    cases hf
    exact lv_istore_n hx hb hd hk hl hj rfl (fun arr' hl' => by rw [← hn]; exact kk arr' (ml_has_set1 (v := .inl x) hl'))
theorem sn_ist {j : Nat} (hd : decode cc (pcs i) = .ok (.istore j, 2)) (hn : pcs n = pcs i + 2) (hj : j < nL) : mx_Snd E cc nL own ini pcs Ts i (x_ist n j) := by
  refine sn_keep ?_ ?_
  · intro ls st h q' hf
    rcases st with _ | ⟨x | x | x, st⟩ <;> simp only [x_ist, reduceCtorEq] at hf
    cases hf
    rfl
  · intro p l e R s m args below meth c Q H locs cells slots arr ls st h q' hx hb hml hown hts hR hl hf kk
    rcases st with _ | ⟨x | x | x, st⟩ <;> simp only [x_ist, reduceCtorEq] at hf
    cases hf
    exact lv_istore hx hb hd hl hj rfl (fun arr' hl' => by rw [← hn]; exact kk arr' (ml_has_set1 (v := .inl x) hl'))
theorem sn_lstn {k : Fin 4} {j : Nat} (hd : decode cc (pcs i) = .ok (.lstore_n k, 1)) (hn : pcs n = pcs i + 1) (hk : (k : Nat) = j) (hj : j + 1 < nL) : mx_Snd E cc nL own ini pcs Ts i (x_lst n j) := by
  refine sn_keep ?_ ?_
  · intro ls st h q' hf
    rcases st with _ | ⟨x | x | x, st⟩ <;> simp only [x_lst, reduceCtorEq] at hf
    cases hf
    rfl
  · intro p l e R s m args below meth c Q H locs cells slots arr ls st h q' hx hb hml hown hts hR hl hf kk
    rcases st with _ | ⟨x | x | x, st⟩ <;> simp only [x_lst, reduceCtorEq] at hf
    cases hf
    exact lv_lstore_n hx hb hd hk hl hj rfl (fun arr' hl' => by rw [← hn]; exact kk arr' (ml_has_set2 hl'))
theorem sn_lst {j : Nat} (hd : decode cc (pcs i) = .ok (.lstore j, 2)) (hn : pcs n = pcs i + 2) (hj : j + 1 < nL) : mx_Snd E cc nL own ini pcs Ts i (x_lst n j) := by
  refine sn_keep ?_ ?_
  · intro ls st h q' hf
    rcases st with _ | ⟨x | x | x, st⟩ <;> simp only [x_lst, reduceCtorEq] at hf
    cases hf
    rfl
  · intro p l e R s m args below meth c Q H locs cells slots arr ls st h q' hx hb hml hown hts hR hl hf kk
    rcases st with _ | ⟨x | x | x, st⟩ <;> simp only [x_lst, reduceCtorEq] at hf
    cases hf
    exact lv_lstore hx hb hd hl hj rfl (fun arr' hl' => by rw [← hn]; exact kk arr' (ml_has_set2 hl'))
theorem sn_astn {k : Fin 4} {j : Nat} (hd : decode cc (pcs i) = .ok (.astore_n k, 1)) (hn : pcs n = pcs i + 1) (hk : (k : Nat) = j) (hj : j < nL) : mx_Snd E cc nL own ini pcs Ts i (x_ast n j) := by
  refine sn_keep ?_ ?_
  · intro ls st h q' hf
    rcases st with _ | ⟨x | x | x, st⟩ <;> simp only [x_ast, reduceCtorEq] at hf
    cases hf
    rfl
  · intro p l e R s m args below meth c Q H locs cells slots arr ls st h q' hx hb hml hown hts hR hl hf kk
    rcases st with _ | ⟨x | x | x, st⟩ <;> simp only [x_ast, reduceCtorEq] at hf
    cases hf
    cases x with
    | none => exact lv_astore_nN hx hb hd hk hl hj rfl (fun arr' hl' => by rw [← hn]; exact kk arr' (ml_has_set1 (v := .inr (.inr none)) hl'))
    | some x => exact lv_astore_n hx hb hd hk hl hj rfl (fun arr' hl' => by rw [← hn]; exact kk arr' (ml_has_set1 (v := .inr (.inr (some x))) hl'))
theorem sn_ast {j : Nat} (hd : decode cc (pcs i) = .ok (.astore j, 2)) (hn : pcs n = pcs i + 2) (hj : j < nL) : mx_Snd E cc nL own ini pcs Ts i (x_ast n j) := by
  refine sn_keep ?_ ?_
  · intro ls st h q' hf
    rcases st with _ | ⟨x | x | x, st⟩ <;> simp only [x_ast, reduceCtorEq] at hf
    cases hf
    rfl
  · intro p l e R s m args below meth c Q H locs cells slots arr ls st h q' hx hb hml hown hts hR hl hf kk
    rcases st with _ | ⟨x | x | x, st⟩ <;> simp only [x_ast, reduceCtorEq] at hf
    cases hf
    cases x with
    | none => exact lv_astoreN hx hb hd hl hj rfl (fun arr' hl' => by rw [← hn]; exact kk arr' (ml_has_set1 (v := .inr (.inr none)) hl'))
    | some x => exact lv_astore hx hb hd hl hj rfl (fun arr' hl' => by rw [← hn]; exact kk arr' (ml_has_set1 (v := .inr (.inr (some x))) hl'))
theorem sn_inc {j : Nat} {k : Int} {z : Int32} (hd : decode cc (pcs i) = .ok (.iinc j k, 3)) (hn : pcs n = pcs i + 3) (hz : Int32.ofInt k = z) : mx_Snd E cc nL own ini pcs Ts i (x_inc n j z) := by
  refine sn_keep ?_ ?_
  · intro ls st h q' hf
    simp only [x_inc] at hf
    cases hg : ml_get j ls with
    | none => rw [hg] at hf; cases hf
    | some v =>
      rw [hg] at hf
      rcases v with x | x | x <;> simp only [reduceCtorEq] at hf
      cases hf
      rfl
  · intro p l e R s m args below meth c Q H locs cells slots arr ls st h q' hx hb hml hown hts hR hl hf kk
    simp only [x_inc] at hf
    cases hg : ml_get j ls with
    | none => rw [hg] at hf; cases hf
    | some v =>
      rw [hg] at hf
      rcases v with x | x | x <;> simp only [reduceCtorEq] at hf
      cases hf
      have hm : (j, Value.int x) ∈ ml_as 0 ls := ml_as_mem.mpr ⟨j, .inl x, by simp [mx_v], ml_get_eq hg⟩
      obtain ⟨k0, hk0⟩ := List.getElem?_of_mem hm
      subst hz
      exact lv_iinc hx hb hd hl hk0 rfl (ml_has_lt hl hg) rfl (fun arr' hl' => by rw [← hn]; exact kk arr' (ml_has_set1 (v := .inl (x + Int32.ofInt k)) hl'))
theorem sn_iadd (hd : decode cc (pcs i) = .ok (.iadd, 1)) (hn : pcs n = pcs i + 1) : mx_Snd E cc nL own ini pcs Ts i (x_iadd n) := by
  refine sn_keep ?_ ?_
  · intro ls st h q' hf
    rcases st with _ | ⟨y | y | y, _ | ⟨x | x | x, st⟩⟩ <;> simp only [x_iadd, reduceCtorEq] at hf
    cases hf; rfl
  · intro p l e R s m args below meth c Q H locs cells slots arr ls st h q' hx hb hml hown hts hR hl hf k
    rcases st with _ | ⟨y | y | y, _ | ⟨x | x | x, st⟩⟩ <;> simp only [x_iadd, reduceCtorEq] at hf
    cases hf
    exact lv_iadd hx hb hd (by rw [← hn]; exact k arr hl)
theorem sn_isub (hd : decode cc (pcs i) = .ok (.isub, 1)) (hn : pcs n = pcs i + 1) : mx_Snd E cc nL own ini pcs Ts i (x_isub n) := by
  refine sn_keep ?_ ?_
  · intro ls st h q' hf
    rcases st with _ | ⟨y | y | y, _ | ⟨x | x | x, st⟩⟩ <;> simp only [x_isub, reduceCtorEq] at hf
    cases hf; rfl
  · intro p l e R s m args below meth c Q H locs cells slots arr ls st h q' hx hb hml hown hts hR hl hf k
    rcases st with _ | ⟨y | y | y, _ | ⟨x | x | x, st⟩⟩ <;> simp only [x_isub, reduceCtorEq] at hf
    cases hf
    exact lv_isub hx hb hd (by rw [← hn]; exact k arr hl)
theorem sn_imul (hd : decode cc (pcs i) = .ok (.imul, 1)) (hn : pcs n = pcs i + 1) : mx_Snd E cc nL own ini pcs Ts i (x_imul n) := by
  refine sn_keep ?_ ?_
  · intro ls st h q' hf
    rcases st with _ | ⟨y | y | y, _ | ⟨x | x | x, st⟩⟩ <;> simp only [x_imul, reduceCtorEq] at hf
    cases hf; rfl
  · intro p l e R s m args below meth c Q H locs cells slots arr ls st h q' hx hb hml hown hts hR hl hf k
    rcases st with _ | ⟨y | y | y, _ | ⟨x | x | x, st⟩⟩ <;> simp only [x_imul, reduceCtorEq] at hf
    cases hf
    exact lv_imul hx hb hd (by rw [← hn]; exact k arr hl)
theorem sn_iand (hd : decode cc (pcs i) = .ok (.iand, 1)) (hn : pcs n = pcs i + 1) : mx_Snd E cc nL own ini pcs Ts i (x_iand n) := by
  refine sn_keep ?_ ?_
  · intro ls st h q' hf
    rcases st with _ | ⟨y | y | y, _ | ⟨x | x | x, st⟩⟩ <;> simp only [x_iand, reduceCtorEq] at hf
    cases hf; rfl
  · intro p l e R s m args below meth c Q H locs cells slots arr ls st h q' hx hb hml hown hts hR hl hf k
    rcases st with _ | ⟨y | y | y, _ | ⟨x | x | x, st⟩⟩ <;> simp only [x_iand, reduceCtorEq] at hf
    cases hf
    exact lv_iand hx hb hd (by rw [← hn]; exact k arr hl)
theorem sn_ior (hd : decode cc (pcs i) = .ok (.ior, 1)) (hn : pcs n = pcs i + 1) : mx_Snd E cc nL own ini pcs Ts i (x_ior n) := by
  refine sn_keep ?_ ?_
  · intro ls st h q' hf
    rcases st with _ | ⟨y | y | y, _ | ⟨x | x | x, st⟩⟩ <;> simp only [x_ior, reduceCtorEq] at hf
    cases hf; rfl
  · intro p l e R s m args below meth c Q H locs cells slots arr ls st h q' hx hb hml hown hts hR hl hf k
    rcases st with _ | ⟨y | y | y, _ | ⟨x | x | x, st⟩⟩ <;> simp only [x_ior, reduceCtorEq] at hf
    cases hf
    exact lv_ior hx hb hd (by rw [← hn]; exact k arr hl)
theorem sn_ixor (hd : decode cc (pcs i) = .ok (.ixor, 1)) (hn : pcs n = pcs i + 1) : mx_Snd E cc nL own ini pcs Ts i (x_ixor n) := by
  refine sn_keep ?_ ?_
  · intro ls st h q' hf
    rcases st with _ | ⟨y | y | y, _ | ⟨x | x | x, st⟩⟩ <;> simp only [x_ixor, reduceCtorEq] at hf
    cases hf; rfl
  · intro p l e R s m args below meth c Q H locs cells slots arr ls st h q' hx hb hml hown hts hR hl hf k
    rcases st with _ | ⟨y | y | y, _ | ⟨x | x | x, st⟩⟩ <;> simp only [x_ixor, reduceCtorEq] at hf
    cases hf
    exact lv_ixor hx hb hd (by rw [← hn]; exact k arr hl)
theorem sn_ladd (hd : decode cc (pcs i) = .ok (.ladd, 1)) (hn : pcs n = pcs i + 1) : mx_Snd E cc nL own ini pcs Ts i (x_ladd n) := by
  refine sn_keep ?_ ?_
  · intro ls st h q' hf
    rcases st with _ | ⟨y | y | y, _ | ⟨x | x | x, st⟩⟩ <;> simp only [x_ladd, reduceCtorEq] at hf
    cases hf; rfl
  · intro p l e R s m args below meth c Q H locs cells slots arr ls st h q' hx hb hml hown hts hR hl hf k
    rcases st with _ | ⟨y | y | y, _ | ⟨x | x | x, st⟩⟩ <;> simp only [x_ladd, reduceCtorEq] at hf
    cases hf
    exact lv_ladd hx hb hd (by rw [← hn]; exact k arr hl)
theorem sn_lsub (hd : decode cc (pcs i) = .ok (.lsub, 1)) (hn : pcs n = pcs i + 1) : mx_Snd E cc nL own ini pcs Ts i (x_lsub n) := by
  refine sn_keep ?_ ?_
  · intro ls st h q' hf
    rcases st with _ | ⟨y | y | y, _ | ⟨x | x | x, st⟩⟩ <;> simp only [x_lsub, reduceCtorEq] at hf
    cases hf; rfl
  · intro p l e R s m args below meth c Q H locs cells slots arr ls st h q' hx hb hml hown hts hR hl hf k
    rcases st with _ | ⟨y | y | y, _ | ⟨x | x | x, st⟩⟩ <;> simp only [x_lsub, reduceCtorEq] at hf
    cases hf
    exact lv_lsub hx hb hd (by rw [← hn]; exact k arr hl)
theorem sn_land (hd : decode cc (pcs i) = .ok (.land, 1)) (hn : pcs n = pcs i + 1) : mx_Snd E cc nL own ini pcs Ts i (x_land n) := by
  refine sn_keep ?_ ?_
  · intro ls st h q' hf
    rcases st with _ | ⟨y | y | y, _ | ⟨x | x | x, st⟩⟩ <;> simp only [x_land, reduceCtorEq] at hf
    cases hf; rfl
  · intro p l e R s m args below meth c Q H locs cells slots arr ls st h q' hx hb hml hown hts hR hl hf k
    rcases st with _ | ⟨y | y | y, _ | ⟨x | x | x, st⟩⟩ <;> simp only [x_land, reduceCtorEq] at hf
    cases hf
    exact lv_land hx hb hd (by rw [← hn]; exact k arr hl)
theorem sn_lor (hd : decode cc (pcs i) = .ok (.lor, 1)) (hn : pcs n = pcs i + 1) : mx_Snd E cc nL own ini pcs Ts i (x_lor n) := by
  refine sn_keep ?_ ?_
  · intro ls st h q' hf
    rcases st with _ | ⟨y | y | y, _ | ⟨x | x | x, st⟩⟩ <;> simp only [x_lor, reduceCtorEq] at hf
    cases hf; rfl
  · intro p l e R s m args below meth c Q H locs cells slots arr ls st h q' hx hb hml hown hts hR hl hf k
    rcases st with _ | ⟨y | y | y, _ | ⟨x | x | x, st⟩⟩ <;> simp only [x_lor, reduceCtorEq] at hf
    cases hf
    exact lv_lor hx hb hd (by rw [← hn]; exact k arr hl)
theorem sn_lxor (hd : decode cc (pcs i) = .ok (.lxor, 1)) (hn : pcs n = pcs i + 1) : mx_Snd E cc nL own ini pcs Ts i (x_lxor n) := by
  refine sn_keep ?_ ?_
  · intro ls st h q' hf
    rcases st with _ | ⟨y | y | y, _ | ⟨x | x | x, st⟩⟩ <;> simp only [x_lxor, reduceCtorEq] at hf
    cases hf; rfl
  · intro p l e R s m args below meth c Q H locs cells slots arr ls st h q' hx hb hml hown hts hR hl hf k
    rcases st with _ | ⟨y | y | y, _ | ⟨x | x | x, st⟩⟩ <;> simp only [x_lxor, reduceCtorEq] at hf
    cases hf
    exact lv_lxor hx hb hd (by rw [← hn]; exact k arr hl)
theorem sn_lshl (hd : decode cc (pcs i) = .ok (.lshl, 1)) (hn : pcs n = pcs i + 1) : mx_Snd E cc nL own ini pcs Ts i (x_lshl n) := by
  refine sn_keep ?_ ?_
  · intro ls st h q' hf
    rcases st with _ | ⟨y | y | y, _ | ⟨x | x | x, st⟩⟩ <;> simp only [x_lshl, reduceCtorEq] at hf
    cases hf; rfl
  · intro p l e R s m args below meth c Q H locs cells slots arr ls st h q' hx hb hml hown hts hR hl hf k
    rcases st with _ | ⟨y | y | y, _ | ⟨x | x | x, st⟩⟩ <;> simp only [x_lshl, reduceCtorEq] at hf
    cases hf
    exact lv_lshl hx hb hd rfl (by rw [← hn]; exact k arr hl)
theorem sn_lushr (hd : decode cc (pcs i) = .ok (.lushr, 1)) (hn : pcs n = pcs i + 1) : mx_Snd E cc nL own ini pcs Ts i (x_lushr n) := by
  refine sn_keep ?_ ?_
  · intro ls st h q' hf
    rcases st with _ | ⟨y | y | y, _ | ⟨x | x | x, st⟩⟩ <;> simp only [x_lushr, reduceCtorEq] at hf
    cases hf; rfl
  · intro p l e R s m args below meth c Q H locs cells slots arr ls st h q' hx hb hml hown hts hR hl hf k
    rcases st with _ | ⟨y | y | y, _ | ⟨x | x | x, st⟩⟩ <;> simp only [x_lushr, reduceCtorEq] at hf
    cases hf
    exact lv_lushr hx hb hd rfl (by rw [← hn]; exact k arr hl)
theorem sn_lcmp (hd : decode cc (pcs i) = .ok (.lcmp, 1)) (hn : pcs n = pcs i + 1) : mx_Snd E cc nL own ini pcs Ts i (x_lcmp n) := by
  refine sn_keep ?_ ?_
  · intro ls st h q' hf
    rcases st with _ | ⟨y | y | y, _ | ⟨x | x | x, st⟩⟩ <;> simp only [x_lcmp, reduceCtorEq] at hf
    cases hf; rfl
  · intro p l e R s m args below meth c Q H locs cells slots arr ls st h q' hx hb hml hown hts hR hl hf k
    rcases st with _ | ⟨y | y | y, _ | ⟨x | x | x, st⟩⟩ <;> simp only [x_lcmp, reduceCtorEq] at hf
    cases hf
    exact W.lcmp hx hb hd (by rw [← hn]; exact k arr hl)
theorem sn_i2l (hd : decode cc (pcs i) = .ok (.i2l, 1)) (hn : pcs n = pcs i + 1) : mx_Snd E cc nL own ini pcs Ts i (x_i2l n) := by
  refine sn_keep ?_ ?_
  · intro ls st h q' hf
    rcases st with _ | ⟨x | x | x, st⟩ <;> simp only [x_i2l, reduceCtorEq] at hf
    cases hf; rfl
  · intro p l e R s m args below meth c Q H locs cells slots arr ls st h q' hx hb hml hown hts hR hl hf k
    rcases st with _ | ⟨x | x | x, st⟩ <;> simp only [x_i2l, reduceCtorEq] at hf
    cases hf
    exact lv_i2l hx hb hd rfl (by rw [← hn]; exact k arr hl)
theorem sn_dup (hd : decode cc (pcs i) = .ok (.dup, 1)) (hn : pcs n = pcs i + 1) : mx_Snd E cc nL own ini pcs Ts i (x_dup n) := by
  refine sn_keep ?_ ?_
  · intro ls st h q' hf
    rcases st with _ | ⟨v, st⟩ <;> simp only [x_dup, reduceCtorEq] at hf
    split at hf <;> cases hf
    rfl
  · intro p l e R s m args below meth c Q H locs cells slots arr ls st h q' hx hb hml hown hts hR hl hf k
    rcases st with _ | ⟨v, st⟩ <;> simp only [x_dup, reduceCtorEq] at hf
    split at hf <;> cases hf
    rename_i hc
    exact lv_dup hx hb hd ((mx_cat_eq v).trans hc) (by rw [← hn]; exact k arr hl)
theorem sn_pop (hd : decode cc (pcs i) = .ok (.pop, 1)) (hn : pcs n = pcs i + 1) : mx_Snd E cc nL own ini pcs Ts i (x_pop n) := by
  refine sn_keep ?_ ?_
  · intro ls st h q' hf
    rcases st with _ | ⟨v, st⟩ <;> simp only [x_pop, reduceCtorEq] at hf
    split at hf <;> cases hf
    rfl
  · intro p l e R s m args below meth c Q H locs cells slots arr ls st h q' hx hb hml hown hts hR hl hf k
    rcases st with _ | ⟨v, st⟩ <;> simp only [x_pop, reduceCtorEq] at hf
    split at hf <;> cases hf
    rename_i hc
    exact lv_pop hx hb hd ((mx_cat_eq v).trans hc) (by rw [← hn]; exact k arr hl)
theorem sn_dupx1 (hd : decode cc (pcs i) = .ok (.dup_x1, 1)) (hn : pcs n = pcs i + 1) : mx_Snd E cc nL own ini pcs Ts i (x_dupx1 n) := by
  refine sn_keep ?_ ?_
  · intro ls st h q' hf
    rcases st with _ | ⟨v, _ | ⟨w, st⟩⟩ <;> simp only [x_dupx1, reduceCtorEq] at hf
    split at hf <;> cases hf
    rfl
  · intro p l e R s m args below meth c Q H locs cells slots arr ls st h q' hx hb hml hown hts hR hl hf k
    rcases st with _ | ⟨v, _ | ⟨w, st⟩⟩ <;> simp only [x_dupx1, reduceCtorEq] at hf
    split at hf <;> cases hf
    rename_i hc
    exact lv_dup_x1 hx hb hd ((mx_cat_eq v).trans hc.1) ((mx_cat_eq w).trans hc.2) (by rw [← hn]; exact k arr hl)
theorem sn_dup2 (hd : decode cc (pcs i) = .ok (.dup2, 1)) (hn : pcs n = pcs i + 1) : mx_Snd E cc nL own ini pcs Ts i (x_dup2 n) := by
  refine sn_keep ?_ ?_
  · intro ls st h q' hf
    rcases st with _ | ⟨v, _ | ⟨w, st⟩⟩ <;> simp only [x_dup2, reduceCtorEq] at hf
    split at hf <;> cases hf
    rfl
  · intro p l e R s m args below meth c Q H locs cells slots arr ls st h q' hx hb hml hown hts hR hl hf k
    rcases st with _ | ⟨v, _ | ⟨w, st⟩⟩ <;> simp only [x_dup2, reduceCtorEq] at hf
    split at hf <;> cases hf
    rename_i hc
    exact lv_dup2_11 hx hb hd ((mx_cat_eq v).trans hc.1) ((mx_cat_eq w).trans hc.2) (by rw [← hn]; exact k arr hl)
theorem sn_ifeq {t tg : Nat} {off : Int} (hd : decode cc (pcs i) = .ok (.ifCond .eq off, 3)) (hn : pcs n = pcs i + 3) (ht : pcs t = tg) (hto : (pcs i : Int) + off = (tg : Int)) : mx_Snd E cc nL own ini pcs Ts i (x_ifeq n t) := by
  refine sn_keep ?_ ?_
  · intro ls st h q' hf
    rcases st with _ | ⟨x | x | x, st⟩ <;> simp only [x_ifeq, reduceCtorEq] at hf
    cases hf
    rfl
  · intro p l e R s m args below meth c Q H locs cells slots arr ls st h q' hx hb hml hown hts hR hl hf k
    rcases st with _ | ⟨x | x | x, st⟩ <;> simp only [x_ifeq, reduceCtorEq] at hf
    cases hf
    exact lv_if_eq (tgt := tg) hx hb hd hto (fun hc => by have := k arr hl; simp only [if_pos hc] at this; rw [← ht]; exact this) (fun hc => by have := k arr hl; simp only [if_neg hc] at this; rw [← hn]; exact this)
theorem sn_ceq {t tg : Nat} {off : Int} (hd : decode cc (pcs i) = .ok (.if_icmp .eq off, 3)) (hn : pcs n = pcs i + 3) (ht : pcs t = tg) (hto : (pcs i : Int) + off = (tg : Int)) : mx_Snd E cc nL own ini pcs Ts i (x_ceq n t) := by
  refine sn_keep ?_ ?_
  · intro ls st h q' hf
    rcases st with _ | ⟨y | y | y, _ | ⟨x | x | x, st⟩⟩ <;> simp only [x_ceq, reduceCtorEq] at hf
    cases hf
    rfl
  · intro p l e R s m args below meth c Q H locs cells slots arr ls st h q' hx hb hml hown hts hR hl hf k
    rcases st with _ | ⟨y | y | y, _ | ⟨x | x | x, st⟩⟩ <;> simp only [x_ceq, reduceCtorEq] at hf
    cases hf
    exact lv_icmp_eq (tgt := tg) hx hb hd hto (fun hc => by have := k arr hl; simp only [if_pos hc] at this; rw [← ht]; exact this) (fun hc => by have := k arr hl; simp only [if_neg hc] at this; rw [← hn]; exact this)
theorem sn_ifne {t tg : Nat} {off : Int} (hd : decode cc (pcs i) = .ok (.ifCond .ne off, 3)) (hn : pcs n = pcs i + 3) (ht : pcs t = tg) (hto : (pcs i : Int) + off = (tg : Int)) : mx_Snd E cc nL own ini pcs Ts i (x_ifne n t) := by
  refine sn_keep ?_ ?_
  · intro ls st h q' hf
    rcases st with _ | ⟨x | x | x, st⟩ <;> simp only [x_ifne, reduceCtorEq] at hf
    cases hf
    rfl
  · intro p l e R s m args below meth c Q H locs cells slots arr ls st h q' hx hb hml hown hts hR hl hf k
    rcases st with _ | ⟨x | x | x, st⟩ <;> simp only [x_ifne, reduceCtorEq] at hf
    cases hf
    exact lv_if_ne (tgt := tg) hx hb hd hto (fun hc => by have := k arr hl; simp only [if_neg hc] at this; rw [← ht]; exact this) (fun hc => by have := k arr hl; simp only [if_pos hc] at this; rw [← hn]; exact this)
theorem sn_cne {t tg : Nat} {off : Int} (hd : decode cc (pcs i) = .ok (.if_icmp .ne off, 3)) (hn : pcs n = pcs i + 3) (ht : pcs t = tg) (hto : (pcs i : Int) + off = (tg : Int)) : mx_Snd E cc nL own ini pcs Ts i (x_cne n t) := by
  refine sn_keep ?_ ?_
  · intro ls st h q' hf
    rcases st with _ | ⟨y | y | y, _ | ⟨x | x | x, st⟩⟩ <;> simp only [x_cne, reduceCtorEq] at hf
    cases hf
    rfl
  · intro p l e R s m args below meth c Q H locs cells slots arr ls st h q' hx hb hml hown hts hR hl hf k
    rcases st with _ | ⟨y | y | y, _ | ⟨x | x | x, st⟩⟩ <;> simp only [x_cne, reduceCtorEq] at hf
    cases hf
    exact lv_icmp_ne (tgt := tg) hx hb hd hto (fun hc => by have := k arr hl; simp only [if_neg hc] at this; rw [← ht]; exact this) (fun hc => by have := k arr hl; simp only [if_pos hc] at this; rw [← hn]; exact this)
theorem sn_iflt {t tg : Nat} {off : Int} (hd : decode cc (pcs i) = .ok (.ifCond .lt off, 3)) (hn : pcs n = pcs i + 3) (ht : pcs t = tg) (hto : (pcs i : Int) + off = (tg : Int)) : mx_Snd E cc nL own ini pcs Ts i (x_iflt n t) := by
  refine sn_keep ?_ ?_
  · intro ls st h q' hf
    rcases st with _ | ⟨x | x | x, st⟩ <;> simp only [x_iflt, reduceCtorEq] at hf
    cases hf
    rfl
  · intro p l e R s m args below meth c Q H locs cells slots arr ls st h q' hx hb hml hown hts hR hl hf k
    rcases st with _ | ⟨x | x | x, st⟩ <;> simp only [x_iflt, reduceCtorEq] at hf
    cases hf
    exact lv_if_lt (tgt := tg) hx hb hd hto (fun hc => by have := k arr hl; simp only [if_pos hc] at this; rw [← ht]; exact this) (fun hc => by have := k arr hl; simp only [if_neg hc] at this; rw [← hn]; exact this)
theorem sn_clt {t tg : Nat} {off : Int} (hd : decode cc (pcs i) = .ok (.if_icmp .lt off, 3)) (hn : pcs n = pcs i + 3) (ht : pcs t = tg) (hto : (pcs i : Int) + off = (tg : Int)) : mx_Snd E cc nL own ini pcs Ts i (x_clt n t) := by
  refine sn_keep ?_ ?_
  · intro ls st h q' hf
    rcases st with _ | ⟨y | y | y, _ | ⟨x | x | x, st⟩⟩ <;> simp only [x_clt, reduceCtorEq] at hf
    cases hf
    rfl
  · intro p l e R s m args below meth c Q H locs cells slots arr ls st h q' hx hb hml hown hts hR hl hf k
    rcases st with _ | ⟨y | y | y, _ | ⟨x | x | x, st⟩⟩ <;> simp only [x_clt, reduceCtorEq] at hf
    cases hf
    exact lv_icmp_lt (tgt := tg) hx hb hd hto (fun hc => by have := k arr hl; simp only [if_pos hc] at this; rw [← ht]; exact this) (fun hc => by have := k arr hl; simp only [if_neg hc] at this; rw [← hn]; exact this)
theorem sn_ifge {t tg : Nat} {off : Int} (hd : decode cc (pcs i) = .ok (.ifCond .ge off, 3)) (hn : pcs n = pcs i + 3) (ht : pcs t = tg) (hto : (pcs i : Int) + off = (tg : Int)) : mx_Snd E cc nL own ini pcs Ts i (x_ifge n t) := by
  refine sn_keep ?_ ?_
  · intro ls st h q' hf
    rcases st with _ | ⟨x | x | x, st⟩ <;> simp only [x_ifge, reduceCtorEq] at hf
    cases hf
    rfl
  · intro p l e R s m args below meth c Q H locs cells slots arr ls st h q' hx hb hml hown hts hR hl hf k
    rcases st with _ | ⟨x | x | x, st⟩ <;> simp only [x_ifge, reduceCtorEq] at hf
    cases hf
    exact lv_if_ge (tgt := tg) hx hb hd hto (fun hc => by have := k arr hl; simp only [if_pos hc] at this; rw [← ht]; exact this) (fun hc => by have := k arr hl; simp only [if_neg hc] at this; rw [← hn]; exact this)
theorem sn_cge {t tg : Nat} {off : Int} (hd : decode cc (pcs i) = .ok (.if_icmp .ge off, 3)) (hn : pcs n = pcs i + 3) (ht : pcs t = tg) (hto : (pcs i : Int) + off = (tg : Int)) : mx_Snd E cc nL own ini pcs Ts i (x_cge n t) := by
  refine sn_keep ?_ ?_
  · intro ls st h q' hf
    rcases st with _ | ⟨y | y | y, _ | ⟨x | x | x, st⟩⟩ <;> simp only [x_cge, reduceCtorEq] at hf
    cases hf
    rfl
  · intro p l e R s m args below meth c Q H locs cells slots arr ls st h q' hx hb hml hown hts hR hl hf k
    rcases st with _ | ⟨y | y | y, _ | ⟨x | x | x, st⟩⟩ <;> simp only [x_cge, reduceCtorEq] at hf
    cases hf
    exact lv_icmp_ge (tgt := tg) hx hb hd hto (fun hc => by have := k arr hl; simp only [if_pos hc] at this; rw [← ht]; exact this) (fun hc => by have := k arr hl; simp only [if_neg hc] at this; rw [← hn]; exact this)
theorem sn_ifgt {t tg : Nat} {off : Int} (hd : decode cc (pcs i) = .ok (.ifCond .gt off, 3)) (hn : pcs n = pcs i + 3) (ht : pcs t = tg) (hto : (pcs i : Int) + off = (tg : Int)) : mx_Snd E cc nL own ini pcs Ts i (x_ifgt n t) := by
  refine sn_keep ?_ ?_
  · intro ls st h q' hf
    rcases st with _ | ⟨x | x | x, st⟩ <;> simp only [x_ifgt, reduceCtorEq] at hf
    cases hf
    rfl
  · intro p l e R s m args below meth c Q H locs cells slots arr ls st h q' hx hb hml hown hts hR hl hf k
    rcases st with _ | ⟨x | x | x, st⟩ <;> simp only [x_ifgt, reduceCtorEq] at hf
    cases hf
    exact lv_if_gt (tgt := tg) hx hb hd hto (fun hc => by have := k arr hl; simp only [if_pos hc] at this; rw [← ht]; exact this) (fun hc => by have := k arr hl; simp only [if_neg hc] at this; rw [← hn]; exact this)
theorem sn_cgt {t tg : Nat} {off : Int} (hd : decode cc (pcs i) = .ok (.if_icmp .gt off, 3)) (hn : pcs n = pcs i + 3) (ht : pcs t = tg) (hto : (pcs i : Int) + off = (tg : Int)) : mx_Snd E cc nL own ini pcs Ts i (x_cgt n t) := by
  refine sn_keep ?_ ?_
  · intro ls st h q' hf
    rcases st with _ | ⟨y | y | y, _ | ⟨x | x | x, st⟩⟩ <;> simp only [x_cgt, reduceCtorEq] at hf
    cases hf
    rfl
  · intro p l e R s m args below meth c Q H locs cells slots arr ls st h q' hx hb hml hown hts hR hl hf k
    rcases st with _ | ⟨y | y | y, _ | ⟨x | x | x, st⟩⟩ <;> simp only [x_cgt, reduceCtorEq] at hf
    cases hf
    exact lv_icmp_gt (tgt := tg) hx hb hd hto (fun hc => by have := k arr hl; simp only [if_pos hc] at this; rw [← ht]; exact this) (fun hc => by have := k arr hl; simp only [if_neg hc] at this; rw [← hn]; exact this)
theorem sn_ifle {t tg : Nat} {off : Int} (hd : decode cc (pcs i) = .ok (.ifCond .le off, 3)) (hn : pcs n = pcs i + 3) (ht : pcs t = tg) (hto : (pcs i : Int) + off = (tg : Int)) : mx_Snd E cc nL own ini pcs Ts i (x_ifle n t) := by
  refine sn_keep ?_ ?_
  · intro ls st h q' hf
    rcases st with _ | ⟨x | x | x, st⟩ <;> simp only [x_ifle, reduceCtorEq] at hf
    cases hf
    rfl
  · intro p l e R s m args below meth c Q H locs cells slots arr ls st h q' hx hb hml hown hts hR hl hf k
    rcases st with _ | ⟨x | x | x, st⟩ <;> simp only [x_ifle, reduceCtorEq] at hf
    cases hf
    exact lv_if_le (tgt := tg) hx hb hd hto (fun hc => by have := k arr hl; simp only [if_pos hc] at this; rw [← ht]; exact this) (fun hc => by have := k arr hl; simp only [if_neg hc] at this; rw [← hn]; exact this)
theorem sn_cle {t tg : Nat} {off : Int} (hd : decode cc (pcs i) = .ok (.if_icmp .le off, 3)) (hn : pcs n = pcs i + 3) (ht : pcs t = tg) (hto : (pcs i : Int) + off = (tg : Int)) : mx_Snd E cc nL own ini pcs Ts i (x_cle n t) := by
  refine sn_keep ?_ ?_
  · intro ls st h q' hf
    rcases st with _ | ⟨y | y | y, _ | ⟨x | x | x, st⟩⟩ <;> simp only [x_cle, reduceCtorEq] at hf
    cases hf
    rfl
  · intro p l e R s m args below meth c Q H locs cells slots arr ls st h q' hx hb hml hown hts hR hl hf k
    rcases st with _ | ⟨y | y | y, _ | ⟨x | x | x, st⟩⟩ <;> simp only [x_cle, reduceCtorEq] at hf
    cases hf
    exact lv_icmp_le (tgt := tg) hx hb hd hto (fun hc => by have := k arr hl; simp only [if_pos hc] at this; rw [← ht]; exact this) (fun hc => by have := k arr hl; simp only [if_neg hc] at this; rw [← hn]; exact this)
theorem sn_aeq {t tg : Nat} {off : Int} (hd : decode cc (pcs i) = .ok (.if_acmp .eq off, 3)) (hn : pcs n = pcs i + 3) (ht : pcs t = tg) (hto : (pcs i : Int) + off = (tg : Int)) : mx_Snd E cc nL own ini pcs Ts i (x_aeq n t) := by
  refine sn_keep ?_ ?_
  · intro ls st h q' hf
    rcases st with _ | ⟨y | y | y, _ | ⟨x | x | x, st⟩⟩ <;> simp only [x_aeq, reduceCtorEq] at hf
    cases hf
    rfl
  · intro p l e R s m args below meth c Q H locs cells slots arr ls st h q' hx hb hml hown hts hR hl hf k
    rcases st with _ | ⟨y | y | y, _ | ⟨x | x | x, st⟩⟩ <;> simp only [x_aeq, reduceCtorEq] at hf
    cases hf
    exact lv_acmp_eq (tgt := tg) hx hb hd hto (fun hc => by have := k arr hl; simp only [if_pos hc] at this; rw [← ht]; exact this) (fun hc => by have := k arr hl; simp only [if_neg hc] at this; rw [← hn]; exact this)
theorem sn_ane {t tg : Nat} {off : Int} (hd : decode cc (pcs i) = .ok (.if_acmp .ne off, 3)) (hn : pcs n = pcs i + 3) (ht : pcs t = tg) (hto : (pcs i : Int) + off = (tg : Int)) : mx_Snd E cc nL own ini pcs Ts i (x_ane n t) := by
  refine sn_keep ?_ ?_
  · intro ls st h q' hf
    rcases st with _ | ⟨y | y | y, _ | ⟨x | x | x, st⟩⟩ <;> simp only [x_ane, reduceCtorEq] at hf
    cases hf
    rfl
  · intro p l e R s m args below meth c Q H locs cells slots arr ls st h q' hx hb hml hown hts hR hl hf k
    rcases st with _ | ⟨y | y | y, _ | ⟨x | x | x, st⟩⟩ <;> simp only [x_ane, reduceCtorEq] at hf
    cases hf
    exact lv_acmp_ne (tgt := tg) hx hb hd hto (fun hc => by have := k arr hl; simp only [if_neg hc] at this; rw [← ht]; exact this) (fun hc => by have := k arr hl; simp only [if_pos hc] at this; rw [← hn]; exact this)
theorem sn_inul {t tg : Nat} {off : Int} (hd : decode cc (pcs i) = .ok (.ifnull off, 3)) (hn : pcs n = pcs i + 3) (ht : pcs t = tg) (hto : (pcs i : Int) + off = (tg : Int)) : mx_Snd E cc nL own ini pcs Ts i (x_inul n t) := by
  refine sn_keep ?_ ?_
  · intro ls st h q' hf
    rcases st with _ | ⟨x | x | x, st⟩ <;> simp only [x_inul, reduceCtorEq] at hf
    cases hf
    rfl
  · intro p l e R s m args below meth c Q H locs cells slots arr ls st h q' hx hb hml hown hts hR hl hf k
    rcases st with _ | ⟨x | x | x, st⟩ <;> simp only [x_inul, reduceCtorEq] at hf
    cases hf
    cases x with
    | none => exact lv_ifnullN (tgt := tg) hx hb hd hto (by have := k arr hl; simp only [if_true] at this; rw [← ht]; exact this)
    | some x => exact lv_ifnull hx hb hd (by have := k arr hl; simp only [reduceCtorEq, if_false] at this; rw [← hn]; exact this)
theorem sn_inn {t tg : Nat} {off : Int} (hd : decode cc (pcs i) = .ok (.ifnonnull off, 3)) (hn : pcs n = pcs i + 3) (ht : pcs t = tg) (hto : (pcs i : Int) + off = (tg : Int)) : mx_Snd E cc nL own ini pcs Ts i (x_inn n t) := by
  refine sn_keep ?_ ?_
  · intro ls st h q' hf
    rcases st with _ | ⟨x | x | x, st⟩ <;> simp only [x_inn, reduceCtorEq] at hf
    cases hf
    rfl
  · intro p l e R s m args below meth c Q H locs cells slots arr ls st h q' hx hb hml hown hts hR hl hf k
    rcases st with _ | ⟨x | x | x, st⟩ <;> simp only [x_inn, reduceCtorEq] at hf
    cases hf
    cases x with
    | none => exact lv_ifnonnullN hx hb hd (by have := k arr hl; simp only [if_true] at this; rw [← hn]; exact this)
    | some x => exact lv_ifnonnull (tgt := tg) hx hb hd hto (by have := k arr hl; simp only [reduceCtorEq, if_false] at this; rw [← ht]; exact this)
theorem sn_goto {t tg : Nat} {off : Int} (hd : decode cc (pcs i) = .ok (.goto off, 3)) (ht : pcs t = tg) (hto : (pcs i : Int) + off = (tg : Int)) : mx_Snd E cc nL own ini pcs Ts i (x_goto t) := by
  refine sn_keep ?_ ?_
  · intro ls st h q' hf
    simp only [x_goto] at hf
    cases hf; rfl
  · intro p l e R s m args below meth c Q H locs cells slots arr ls st h q' hx hb hml hown hts hR hl hf k
    simp only [x_goto] at hf
    cases hf
    exact lv_goto (tgt := tg) hx hb hd hto (by rw [← ht]; exact k arr hl)
end
end
section
/-! Fields, new cells, arrays, switches. -/
section
variable {E : mx_E} {cc : ByteArray} {nL : Nat} {own : String} {ini : Bool} {pcs : Nat → Nat} {Ts : List Cond} {i n : Nat}
/-- a field is read -/
theorem sw_get {c k idx : Nat} {C : String} {T : u_T} {N : Nat} (hd : decode cc (pcs i) = .ok (.getfield idx, 3)) (hn : pcs n = pcs i + 3) (hc : (eC E)[c]? = some (C, T, N)) (hws : ∀ w ∈ u_ws C T N, w ∈ Ts) (hk : k < N) (hlk : Cond.fieldLink own idx (T k).1 (T k).2.1 (T k).2.2.1 ∈ Ts)
    {p : Program} {l : Launch} {e : Env} {R : Room} {s : State} {m : MethodId} {args : Array Value} {below : List Frame} {meth : Method} {cd : Code} {Q : State → Prop} (hx : p.tables.exec = Jvm.exec) (hb : cd.code = cc) (hown : s.vm.findClass own = some m.cls) (hts : ∀ w ∈ Ts, w.before args s = true) (hKn : mx_Kn E s)
    {h : mx_H} {H : Heap} {locs : List Loc} {cells slots : Nat} {arr : Array Slot} {a : Nat} {rest : List Value} (hrep : mx_Rep E h H) (ha : hpK h a = some (.inl c))
    (kk : W p l e R s m args below meth cd H locs cells slots Q (F0 m (pcs n) arr (hpV h a (eF E c k) k :: rest))) : W p l e R s m args below meth cd H locs cells slots Q (F0 m (pcs i) arr (.ref a :: rest)) := by
  obtain ⟨-, r, h1, cell, q1, q2, q3, q4⟩ := hrep.2.2 a _ ha
  have hr : r = (C, T, N) := Option.some.inj (h1.symm.trans hc)
  subst hr
  obtain ⟨hS, hfc, kC, hkC, hkind⟩ := hKn.1 c _ hc
  obtain ⟨cf, kf, fi, f, hi, hsl⟩ := hS k hk
  refine W.getf hx hb hown (hts _ hlk) hi (u_facts hfc hkC (u_lays hts hws hk) hi).1 q1 (by rw [q3]; exact fun h => by cases h) (v := hpV h a (eF E c k) k) ?_ rfl rfl hd (by rw [hn] at kk; exact kk)
  rw [hsl, q4 k hk]
theorem sn_gI {c k idx : Nat} {C : String} {T : u_T} {N : Nat} (hd : decode cc (pcs i) = .ok (.getfield idx, 3)) (hn : pcs n = pcs i + 3) (hc : (eC E)[c]? = some (C, T, N)) (hws : ∀ w ∈ u_ws C T N, w ∈ Ts) (hk : k < N) (hlk : Cond.fieldLink own idx (T k).1 (T k).2.1 (T k).2.2.1 ∈ Ts) (hty : eF E c k = 0 ∨ eF E c k = 3) : mx_Snd E cc nL own ini pcs Ts i (x_gI n c k) := by
  refine ⟨fun ls st h q' hf => ?_, ?_⟩
  · rcases st with _ | ⟨x | x | (_ | a), st⟩ <;> simp only [x_gI, reduceCtorEq] at hf
    split at hf <;> cases hf
    rename_i ha
    exact ⟨Nat.le_refl _, Nat.le_refl _⟩
  intro p l e R s m args below meth cd Q hx hb hml hown hts hKn hin hR sz us ls st h q' H locs arr hf hz hu hrep hl hS hcs hss kk
  rcases st with _ | ⟨x | x | (_ | a), st⟩ <;> simp only [x_gI, reduceCtorEq] at hf
  split at hf <;> cases hf
  rename_i ha
  refine sw_get hd hn hc hws hk hlk hx hb hown hts hKn hrep ha ?_
  have := kk H locs arr hrep hl hS
  have e1 : hpV h a (eF E c k) k = .int (hpI h a k) := by rcases hty with e | e <;> rw [e] <;> rfl
  rw [e1]; exact this
theorem sn_gL {c k idx : Nat} {C : String} {T : u_T} {N : Nat} (hd : decode cc (pcs i) = .ok (.getfield idx, 3)) (hn : pcs n = pcs i + 3) (hc : (eC E)[c]? = some (C, T, N)) (hws : ∀ w ∈ u_ws C T N, w ∈ Ts) (hk : k < N) (hlk : Cond.fieldLink own idx (T k).1 (T k).2.1 (T k).2.2.1 ∈ Ts) (hty : eF E c k = 1) : mx_Snd E cc nL own ini pcs Ts i (x_gL n c k) := by
  refine ⟨fun ls st h q' hf => ?_, ?_⟩
  · rcases st with _ | ⟨x | x | (_ | a), st⟩ <;> simp only [x_gL, reduceCtorEq] at hf
    split at hf <;> cases hf
    rename_i ha
    exact ⟨Nat.le_refl _, Nat.le_refl _⟩
  intro p l e R s m args below meth cd Q hx hb hml hown hts hKn hin hR sz us ls st h q' H locs arr hf hz hu hrep hl hS hcs hss kk
  rcases st with _ | ⟨x | x | (_ | a), st⟩ <;> simp only [x_gL, reduceCtorEq] at hf
  split at hf <;> cases hf
  rename_i ha
  refine sw_get hd hn hc hws hk hlk hx hb hown hts hKn hrep ha ?_
  have := kk H locs arr hrep hl hS
  have e1 : hpV h a (eF E c k) k = .long (hpL h a k) := by rw [hty]; rfl
  rw [e1]; exact this
theorem sn_gR {c k idx : Nat} {C : String} {T : u_T} {N : Nat} (hd : decode cc (pcs i) = .ok (.getfield idx, 3)) (hn : pcs n = pcs i + 3) (hc : (eC E)[c]? = some (C, T, N)) (hws : ∀ w ∈ u_ws C T N, w ∈ Ts) (hk : k < N) (hlk : Cond.fieldLink own idx (T k).1 (T k).2.1 (T k).2.2.1 ∈ Ts) (hty : eF E c k = 2) : mx_Snd E cc nL own ini pcs Ts i (x_gR n c k) := by
  refine ⟨fun ls st h q' hf => ?_, ?_⟩
  · rcases st with _ | ⟨x | x | (_ | a), st⟩ <;> simp only [x_gR, reduceCtorEq] at hf
    split at hf <;> cases hf
    rename_i ha
    exact ⟨Nat.le_refl _, Nat.le_refl _⟩
  intro p l e R s m args below meth cd Q hx hb hml hown hts hKn hin hR sz us ls st h q' H locs arr hf hz hu hrep hl hS hcs hss kk
  rcases st with _ | ⟨x | x | (_ | a), st⟩ <;> simp only [x_gR, reduceCtorEq] at hf
  split at hf <;> cases hf
  rename_i ha
  refine sw_get hd hn hc hws hk hlk hx hb hown hts hKn hrep ha ?_
  have := kk H locs arr hrep hl hS
  have e1 : hpV h a (eF E c k) k = va_rf (hpR h a k) := by rw [hty]; rfl
  rw [e1]; exact this
/-- a field is written: fin: it is final, in a constructor of its class -/
theorem sw_put {fin : Bool} {c k idx : Nat} {C : String} {T : u_T} {N : Nat} {tf : Nat → FieldType} (hd : decode cc (pcs i) = .ok (.putfield idx, 3)) (hn : pcs n = pcs i + 3) (hc : (eC E)[c]? = some (C, T, N)) (hws : ∀ w ∈ u_ws C T N, w ∈ Ts) (hk : k < N) (hlk : Cond.fieldLink own idx (T k).1 (T k).2.1 (T k).2.2.1 ∈ Ts)
    (htf : ∀ k, k < N → parseFieldDescriptor (T k).2.2.1 = some (tf k)) (hnm : ∀ a, a < N → ∀ b, b < N → a ≠ b → (T a).2.1 ≠ (T b).2.1) (hfin : (T k).2.2.2 = fin) (hfo : fin = true → (T k).1 = own ∧ ini = true)
    {p : Program} {l : Launch} {e : Env} {R : Room} {s : State} {m : MethodId} {args : Array Value} {below : List Frame} {meth : Method} {cd : Code} {Q : State → Prop} (hx : p.tables.exec = Jvm.exec) (hb : cd.code = cc) (hown : s.vm.findClass own = some m.cls) (hts : ∀ w ∈ Ts, w.before args s = true) (hKn : mx_Kn E s) (hin : ini = true → meth.name = "<init>")
    {h h' : mx_H} {H : Heap} {locs : List Loc} {cells slots : Nat} {arr : Array Slot} {a : Nat} {rest : List Value} {v : Value} (hrep : mx_Rep E h H) (hS0 : va_S (mx_A E) s.heap H locs) (ha : hpK h a = some (.inl c)) (hnar : narrow (tf k) v = v) (hfit : fits (tf k) v = true)
    (hZ : hpZ h' = hpZ h) (hK : ∀ b, hpK h' b = hpK h b) (hV1 : ∀ b ty j, b ≠ a → hpV h' b ty j = hpV h b ty j) (hV2 : ∀ j, j < N → hpV h' a (eF E c j) j = if j = k then v else hpV h a (eF E c j) j)
    (kk : ∀ (H' : Heap) (locs' : List Loc), mx_Rep E h' H' → va_S (mx_A E) s.heap H' locs' → W p l e R s m args below meth cd H' locs' cells slots Q (F0 m (pcs n) arr rest)) : W p l e R s m args below meth cd H locs cells slots Q (F0 m (pcs i) arr (v :: .ref a :: rest)) := by
  obtain ⟨hba, r, h1, cell, q1, q2, q3, q4⟩ := hrep.2.2 a _ ha
  have hr : r = (C, T, N) := Option.some.inj (h1.symm.trans hc)
  subst hr
  obtain ⟨hS, hfc, kC, hkC, hkind⟩ := hKn.1 c _ hc
  have hap : ∀ x y, x < N → y < N → x ≠ y → ((eD E).2 c) x ≠ ((eD E).2 c) y := by
    intro x y hxN hyN hne
    obtain ⟨_, _, _, fa, hia, ea⟩ := hS x hxN
    obtain ⟨_, _, _, fb, hib, eb⟩ := hS y hyN
    rw [← ea, ← eb]
    refine u_apart (u_lays hts hws hxN) (u_lays hts hws hyN) hia hib ?_
    rw [(State.fieldFound?_type hia (htf x hxN)).1, (State.fieldFound?_type hib (htf y hyN)).1]
    exact hnm x hxN y hyN hne
  obtain ⟨cf, kf, fi, f, hi, hsl⟩ := hS k hk
  have hlay := hts _ (hws _ (u_in_lay hk))
  have hst := (u_facts hfc hkC (u_lays hts hws hk) hi).1
  have fin' : ∀ H' : Heap, H'[a]? = some (cell.setSlot f.slot v) → H'.size = H.size → (∀ q, q ≠ a → H'[q]? = H[q]?) → W p l e R s m args below meth cd H' (locs ++ [⟨a, f.slot⟩]) cells slots Q (F0 m (pcs i + 3) arr rest) := by
    intro H' e1 e2 e3
    rw [← hn]
    refine kk H' _ (hrep.put e2 e3 hZ hK hV1 ha ?_) (hS0.put e2 e3 hba)
    rw [hsl] at e1
    exact ⟨(C, T, N), hc, _, e1, q2, q3, fun j hj => by rw [t_set q4 hap hk v j hj]; show some _ = some (hpV h' a (eF E c j) j); rw [hV2 j hj]; rfl⟩
  cases fin with
  | false =>
    unfold u_lay at hlay
    rw [if_neg (by rw [hfin]; decide)] at hlay
    have h6 := u_store hfc hkC hkind hlay hi (htf k hk) hnar hfit
    exact W.putK hx hb (f := f) ⟨hown, hts _ hlk, ⟨_, _, _, hi⟩, hst⟩ (by rw [q2]; exact h6) q1 q3 (by rw [hsl]; exact k2_hasslot (q4 k hk)) rfl rfl hd fin'
  | true =>
    obtain ⟨ho, hi0⟩ := hfo rfl
    unfold u_lay at hlay
    rw [if_pos hfin] at hlay
    have hcf : m.cls = cf := by
      obtain ⟨_, _, c', _, _, _, -, -, hf', -, -, -, hown2, -⟩ := Cond.laysFinal_spec hlay
      have e1 : c' = cf := by have := hi.symm.trans hf'; simp at this; exact this.1.symm
      rw [ho] at hown2
      rw [← e1]; exact Option.some.inj (hown.symm.trans hown2)
    have h6 := u_fits hfc hkC hkind (Or.inr hlay) hi (htf k hk) hnar hfit
    exact W.putFinK hx hb hown (hts _ hlk) hi hst hcf (hin hi0) (by rw [q2]; exact h6) q1 q3 (by rw [hsl]; exact k2_hasslot (q4 k hk)) rfl rfl hd fin'
theorem sn_pI (fin : Bool) {c k idx : Nat} {C : String} {T : u_T} {N : Nat} {tf : Nat → FieldType} (hd : decode cc (pcs i) = .ok (.putfield idx, 3)) (hn : pcs n = pcs i + 3) (hc : (eC E)[c]? = some (C, T, N)) (hws : ∀ w ∈ u_ws C T N, w ∈ Ts) (hk : k < N) (hlk : Cond.fieldLink own idx (T k).1 (T k).2.1 (T k).2.2.1 ∈ Ts)
    (htf : ∀ k, k < N → parseFieldDescriptor (T k).2.2.1 = some (tf k)) (hnm : ∀ a, a < N → ∀ b, b < N → a ≠ b → (T a).2.1 ≠ (T b).2.1) (hfin : (T k).2.2.2 = fin) (hfo : fin = true → (T k).1 = own ∧ ini = true) (hty : eF E c k = 0 ∧ tf k = .int) : mx_Snd E cc nL own ini pcs Ts i (x_pI n c k) := by
  refine ⟨fun ls st h q' hf => ?_, ?_⟩
  · rcases st with _ | ⟨x | x | x, _ | ⟨y | y | (_ | a), st⟩⟩ <;> simp only [x_pI, reduceCtorEq] at hf
    split at hf <;> cases hf
    rename_i ha
    exact ⟨Nat.le_refl _, Nat.le_refl _⟩
  intro p l e R s m args below meth cd Q hx hb hml hown hts hKn hin hR sz us ls st h q' H locs arr hf hz hu hrep hl hS hcs hss kk
  rcases st with _ | ⟨x | x | x, _ | ⟨y | y | (_ | a), st⟩⟩ <;> simp only [x_pI, reduceCtorEq] at hf
  split at hf <;> cases hf
  rename_i ha
  refine sw_put (h' := hwI h a k x) (tf := tf) hd hn hc hws hk hlk htf hnm hfin hfo hx hb hown hts hKn hin hrep hS ha (by rw [hty.2]; rfl) (by rw [hty.2]; rfl) rfl (fun _ => rfl) ?_ ?_ (fun H' locs' hr' hS' => kk H' locs' arr hr' hl hS')
  · intro b ty j hne
    unfold hpV
    rw [hpI_wI, if_neg (fun q => hne q.1)]
    rfl
  · intro j hj
    by_cases e : j = k
    · subst e
      rw [if_pos rfl, hty.1]
      show Value.int (hpI (hwI h a j x) a j) = _
      rw [hpI_wI, if_pos ⟨rfl, rfl⟩]; rfl
    · rw [if_neg e]
      unfold hpV
      rw [hpI_wI, if_neg (fun q => e q.2)]
      rfl
theorem sn_pZ (fin : Bool) {c k idx : Nat} {C : String} {T : u_T} {N : Nat} {tf : Nat → FieldType} (hd : decode cc (pcs i) = .ok (.putfield idx, 3)) (hn : pcs n = pcs i + 3) (hc : (eC E)[c]? = some (C, T, N)) (hws : ∀ w ∈ u_ws C T N, w ∈ Ts) (hk : k < N) (hlk : Cond.fieldLink own idx (T k).1 (T k).2.1 (T k).2.2.1 ∈ Ts)
    (htf : ∀ k, k < N → parseFieldDescriptor (T k).2.2.1 = some (tf k)) (hnm : ∀ a, a < N → ∀ b, b < N → a ≠ b → (T a).2.1 ≠ (T b).2.1) (hfin : (T k).2.2.2 = fin) (hfo : fin = true → (T k).1 = own ∧ ini = true) (hty : eF E c k = 3 ∧ tf k = .boolean) : mx_Snd E cc nL own ini pcs Ts i (x_pZ n c k) := by
  refine ⟨fun ls st h q' hf => ?_, ?_⟩
  · rcases st with _ | ⟨x | x | x, _ | ⟨y | y | (_ | a), st⟩⟩ <;> simp only [x_pZ, reduceCtorEq] at hf
    split at hf <;> cases hf
    rename_i ha
    obtain ⟨ha, hb01⟩ := ha
    exact ⟨Nat.le_refl _, Nat.le_refl _⟩
  intro p l e R s m args below meth cd Q hx hb hml hown hts hKn hin hR sz us ls st h q' H locs arr hf hz hu hrep hl hS hcs hss kk
  rcases st with _ | ⟨x | x | x, _ | ⟨y | y | (_ | a), st⟩⟩ <;> simp only [x_pZ, reduceCtorEq] at hf
  split at hf <;> cases hf
  rename_i ha
  obtain ⟨ha, hb01⟩ := ha
  refine sw_put (h' := hwI h a k x) (tf := tf) hd hn hc hws hk hlk htf hnm hfin hfo hx hb hown hts hKn hin hrep hS ha (by rw [hty.2]; rcases hb01 with rfl | rfl <;> rfl) (by rw [hty.2]; rcases hb01 with rfl | rfl <;> rfl) rfl (fun _ => rfl) ?_ ?_ (fun H' locs' hr' hS' => kk H' locs' arr hr' hl hS')
  · intro b ty j hne
    unfold hpV
    rw [hpI_wI, if_neg (fun q => hne q.1)]
    rfl
  · intro j hj
    by_cases e : j = k
    · subst e
      rw [if_pos rfl, hty.1]
      show Value.int (hpI (hwI h a j x) a j) = _
      rw [hpI_wI, if_pos ⟨rfl, rfl⟩]; rfl
    · rw [if_neg e]
      unfold hpV
      rw [hpI_wI, if_neg (fun q => e q.2)]
      rfl
theorem sn_pL (fin : Bool) {c k idx : Nat} {C : String} {T : u_T} {N : Nat} {tf : Nat → FieldType} (hd : decode cc (pcs i) = .ok (.putfield idx, 3)) (hn : pcs n = pcs i + 3) (hc : (eC E)[c]? = some (C, T, N)) (hws : ∀ w ∈ u_ws C T N, w ∈ Ts) (hk : k < N) (hlk : Cond.fieldLink own idx (T k).1 (T k).2.1 (T k).2.2.1 ∈ Ts)
    (htf : ∀ k, k < N → parseFieldDescriptor (T k).2.2.1 = some (tf k)) (hnm : ∀ a, a < N → ∀ b, b < N → a ≠ b → (T a).2.1 ≠ (T b).2.1) (hfin : (T k).2.2.2 = fin) (hfo : fin = true → (T k).1 = own ∧ ini = true) (hty : eF E c k = 1 ∧ tf k = .long) : mx_Snd E cc nL own ini pcs Ts i (x_pL n c k) := by
  refine ⟨fun ls st h q' hf => ?_, ?_⟩
  · rcases st with _ | ⟨x | x | x, _ | ⟨y | y | (_ | a), st⟩⟩ <;> simp only [x_pL, reduceCtorEq] at hf
    split at hf <;> cases hf
    rename_i ha
    exact ⟨Nat.le_refl _, Nat.le_refl _⟩
  intro p l e R s m args below meth cd Q hx hb hml hown hts hKn hin hR sz us ls st h q' H locs arr hf hz hu hrep hl hS hcs hss kk
  rcases st with _ | ⟨x | x | x, _ | ⟨y | y | (_ | a), st⟩⟩ <;> simp only [x_pL, reduceCtorEq] at hf
  split at hf <;> cases hf
  rename_i ha
  refine sw_put (h' := hwL h a k x) (tf := tf) hd hn hc hws hk hlk htf hnm hfin hfo hx hb hown hts hKn hin hrep hS ha (by rw [hty.2]; rfl) (by rw [hty.2]; rfl) rfl (fun _ => rfl) ?_ ?_ (fun H' locs' hr' hS' => kk H' locs' arr hr' hl hS')
  · intro b ty j hne
    unfold hpV
    rw [hpL_wL, if_neg (fun q => hne q.1)]
    rfl
  · intro j hj
    by_cases e : j = k
    · subst e
      rw [if_pos rfl, hty.1]
      show Value.long (hpL (hwL h a j x) a j) = _
      rw [hpL_wL, if_pos ⟨rfl, rfl⟩]; rfl
    · rw [if_neg e]
      unfold hpV
      rw [hpL_wL, if_neg (fun q => e q.2)]
      rfl
theorem sn_pR (fin : Bool) {c k idx : Nat} {C : String} {T : u_T} {N : Nat} {tf : Nat → FieldType} (hd : decode cc (pcs i) = .ok (.putfield idx, 3)) (hn : pcs n = pcs i + 3) (hc : (eC E)[c]? = some (C, T, N)) (hws : ∀ w ∈ u_ws C T N, w ∈ Ts) (hk : k < N) (hlk : Cond.fieldLink own idx (T k).1 (T k).2.1 (T k).2.2.1 ∈ Ts)
    (htf : ∀ k, k < N → parseFieldDescriptor (T k).2.2.1 = some (tf k)) (hnm : ∀ a, a < N → ∀ b, b < N → a ≠ b → (T a).2.1 ≠ (T b).2.1) (hfin : (T k).2.2.2 = fin) (hfo : fin = true → (T k).1 = own ∧ ini = true) (hty : eF E c k = 2) (htr : (tf k).isReference = true) : mx_Snd E cc nL own ini pcs Ts i (x_pR n c k) := by
  refine ⟨fun ls st h q' hf => ?_, ?_⟩
  · rcases st with _ | ⟨x | x | x, _ | ⟨y | y | (_ | a), st⟩⟩ <;> simp only [x_pR, reduceCtorEq] at hf
    split at hf <;> cases hf
    rename_i ha
    exact ⟨Nat.le_refl _, Nat.le_refl _⟩
  intro p l e R s m args below meth cd Q hx hb hml hown hts hKn hin hR sz us ls st h q' H locs arr hf hz hu hrep hl hS hcs hss kk
  rcases st with _ | ⟨x | x | x, _ | ⟨y | y | (_ | a), st⟩⟩ <;> simp only [x_pR, reduceCtorEq] at hf
  split at hf <;> cases hf
  rename_i ha
  refine sw_put (h' := hwR h a k x) (tf := tf) (v := va_rf x) hd hn hc hws hk hlk htf hnm hfin hfo hx hb hown hts hKn hin hrep hS ha (by cases x <;> cases tf k <;> rfl) (by generalize tf k = z at htr; cases x <;> cases z <;> first | rfl | cases htr) rfl (fun _ => rfl) ?_ ?_ (fun H' locs' hr' hS' => kk H' locs' arr hr' hl hS')
  · intro b ty j hne
    unfold hpV
    rw [hpR_wR, if_neg (fun q => hne q.1)]
    rfl
  · intro j hj
    by_cases e : j = k
    · subst e
      rw [if_pos rfl, hty]
      show va_rf (hpR (hwR h a j x) a j) = _
      rw [hpR_wR, if_pos ⟨rfl, rfl⟩]
    · rw [if_neg e]
      unfold hpV
      rw [hpR_wR, if_neg (fun q => e q.2)]
      rfl
def mx_dv (ty : Nat) : Value := match ty with
  | 1 => .long 0
  | 2 => .null
  | _ => .int 0
theorem hpV_nw {h : mx_H} {t : mx_K} {n ty k : Nat} : hpV (hnw h t n) (hpZ h) ty k = mx_dv ty := by
  unfold hpV mx_dv
  rw [hpI_nw, hpL_nw, hpR_nw, if_pos rfl, if_pos rfl, if_pos rfl]
  rfl
theorem va_S.made {A : Nat → Prop} {H0 H H1 : Heap} {locs : List Loc} (h : va_S A H0 H locs) (z : H1.size = H.size + 1) (o : ∀ q : Nat, q < H.size → H1[q]? = H[q]?) : va_S A H0 H1 locs :=
  ⟨Nat.le_trans h.1 (by omega), fun x h1 h2 => (o x (Nat.lt_of_lt_of_le h1 h.1)).trans (h.2.1 x h1 h2), h.2.2⟩
theorem sn_new {c idx : Nat} {C : String} {T : u_T} {N : Nat} {tf : Nat → FieldType} (hd : decode cc (pcs i) = .ok (.new idx, 3)) (hn : pcs n = pcs i + 3) (hc : (eC E)[c]? = some (C, T, N)) (hws : ∀ w ∈ u_ws C T N, w ∈ Ts) (hlk : Cond.classLink own idx C ∈ Ts) (hins : Cond.instantiable C N ∈ Ts) (hini : Cond.initialized C ∈ Ts)
    (htf : ∀ k, k < N → parseFieldDescriptor (T k).2.2.1 = some (tf k)) (hdv : ∀ k, k < N → defaultValue (tf k) = mx_dv (eF E c k)) : mx_Snd E cc nL own ini pcs Ts i (x_new n c N) := by
  refine ⟨fun ls st h q' hf => ?_, ?_⟩
  · simp only [x_new] at hf
    cases hf
    exact ⟨Nat.le_succ _, Nat.le_add_right _ _⟩
  intro p l e R s m args below meth cd Q hx hb hml hown hts hKn hin hR sz us ls st h q' H locs arr hf hz hu hrep hl hS hcs hss kk
  simp only [x_new] at hf
  cases hf
  have hKc := hKn.1 c _ hc
  dsimp only at hcs hss kk
  rw [hpZ_nw] at hcs
  rw [hpU_nw] at hss
  refine W.newcK hx hb hown (hts _ hlk) (hts _ hins) (hts _ hini) rfl hd (by omega) (by omega) hKc.2.1 hrep.1 fun H1 kC hkC e1 z1 o1 => ?_
  have hz1 : H1.size = H.size + 1 := by rw [z1, hrep.1]
  have o1' : ∀ q : Nat, q < H.size → H1[q]? = H[q]? := fun q hq => o1 q (by rw [hrep.1] at hq; exact hq)
  have := kk H1 locs arr (hrep.made hz1 o1' ⟨(C, T, N), hc, (u_born tf hts hws hKc hkC e1 htf).to (fun k hk => by rw [hpV_nw, hdv k hk])⟩) hl (hS.made hz1 o1')
  rw [hpZ_nw, hpU_nw] at this
  rw [show hpZ h - sz + 1 = hpZ h + 1 - sz by omega, show hpU h - us + N = hpU h + N - us by omega, ← hn]
  exact this
theorem sn_oin {idx : Nat} (hd : decode cc (pcs i) = .ok (.invokespecial idx, 3)) (hn : pcs n = pcs i + 3) (h1 : Cond.methodLink own idx Lib.objectInit ∈ Ts) (h2 : Cond.instanceMethod Lib.objectInit ∈ Ts) (h3 : Cond.code Lib.objectInit ⟨#[0xb1]⟩ 1 none ∈ Ts) : mx_Snd E cc nL own ini pcs Ts i (x_oin n) := by
  refine sn_keep ?_ ?_
  · intro ls st h q' hf
    rcases st with _ | ⟨x | x | (_ | a), st⟩ <;> simp only [x_oin, reduceCtorEq] at hf
    split at hf <;> cases hf
    rfl
  · intro p l e R s m args below meth c Q H locs cells slots arr ls st h q' hx hb hml hown hts hR hl hf k
    rcases st with _ | ⟨x | x | (_ | a), st⟩ <;> simp only [x_oin, reduceCtorEq] at hf
    split at hf <;> cases hf
    rename_i hcat
    refine W.objInit hx hb hown (hts _ h1) (hts _ h2) (hts _ h3) rfl (by rw [hml]; exact hl.1) rfl hd hR.1 ?_ (by rw [← hn]; exact k arr hl)
    have := mx_cats_eq st
    show 2 * 0 + _ + 12 ≤ R.locals
    rw [this]
    omega
/-- a table of cases: lo, lo + 1 .. -/
theorem sw_at_mem {ps : List (Int32 × Nat)} {d : Nat} {x : Int32} : (∃ t, (x, t) ∈ ps ∧ sw_at ps d x = t) ∨ ((∀ t, (x, t) ∉ ps) ∧ sw_at ps d x = d) := by
  induction ps with
  | nil => right; exact ⟨fun t h => (by cases h), rfl⟩
  | cons q r ih =>
    obtain ⟨k, t⟩ := q
    by_cases e : x = k
    · left; exact ⟨t, by rw [e]; exact List.mem_cons_self, by simp [sw_at, e]⟩
    · rcases ih with ⟨u, h1, h2⟩ | ⟨h1, h2⟩
      · left; exact ⟨u, List.mem_cons_of_mem _ h1, by simp [sw_at, e, h2]⟩
      · right
        refine ⟨fun u hu => ?_, by simp [sw_at, e, h2]⟩
        rcases List.mem_cons.mp hu with h | h
        · cases h; exact e rfl
        · exact h1 u h
end
end
section
/-! Arrays and switches. -/
section
variable {E : mx_E} {cc : ByteArray} {nL : Nat} {own : String} {ini : Bool} {pcs : Nat → Nat} {Ts : List Cond} {i n : Nat}
theorem sn_alen (hd : decode cc (pcs i) = .ok (.arraylength, 1)) (hn : pcs n = pcs i + 1) : mx_Snd E cc nL own ini pcs Ts i (x_alen n) := by
  refine ⟨fun ls st h q' hf => ?_, ?_⟩
  · rcases st with _ | ⟨x | x | (_ | a), st⟩ <;> simp only [x_alen, reduceCtorEq] at hf
    split at hf <;> cases hf
    exact ⟨Nat.le_refl _, Nat.le_refl _⟩
  intro p l e R s m args below meth cd Q hx hb hml hown hts hKn hin hR sz us ls st h q' H locs arr hf hz hu hrep hl hS hcs hss kk
  rcases st with _ | ⟨x | x | (_ | a), st⟩ <;> simp only [x_alen, reduceCtorEq] at hf
  split at hf <;> cases hf
  rename_i t len ha
  obtain ⟨-, r, h1, h2⟩ := hrep.2.2 a _ ha
  refine W.alen (n := Int32.ofNat len) hx hb h2 ((hKn.2.1 t r h1).1 len _) (by rw [arrV_size] <;> rfl) rfl rfl hd ?_
  have := kk H locs arr hrep hl hS
  rw [hn] at this
  exact this
theorem sn_ial {t : Nat} (ht : (eT E)[t]? = some (.int, 0)) (hd : decode cc (pcs i) = .ok (.iaload, 1)) (hn : pcs n = pcs i + 1) : mx_Snd E cc nL own ini pcs Ts i (x_ial n t) := by
  refine ⟨fun ls st h q' hf => ?_, ?_⟩
  · rcases st with _ | ⟨j | j | j, _ | ⟨x | x | (_ | a), st⟩⟩ <;> simp only [x_ial, reduceCtorEq] at hf
    split at hf <;> try cases hf
    split at hf <;> cases hf
    exact ⟨Nat.le_refl _, Nat.le_refl _⟩
  intro p l e R s m args below meth cd Q hx hb hml hown hts hKn hin hR sz us ls st h q' H locs arr hf hz hu hrep hl hS hcs hss kk
  rcases st with _ | ⟨j | j | j, _ | ⟨x | x | (_ | a), st⟩⟩ <;> simp only [x_ial, reduceCtorEq] at hf
  split at hf <;> try cases hf
  split at hf <;> cases hf
  rename_i u len ha hc
  obtain ⟨rfl, hin2⟩ := hc
  obtain ⟨-, r, h1, h2⟩ := hrep.2.2 a _ ha
  cases ht.symm.trans h1
  have hlt : j.toNatClampNeg < len := Nat.not_le.mp fun q => hin2 (Or.inr q)
  refine W.iald (v := .int (hpI h a j.toNatClampNeg)) hx hb h2 ((hKn.2.1 _ _ h1).1 len _) (fun q => by cases q) (by rw [arrV_size]; exact hin2) (by rw [arrV_read _ _ hlt]; rfl) rfl rfl hd ?_
  have := kk H locs arr hrep hl hS
  rw [hn] at this
  exact this
theorem sn_aal {t : Nat} {C : String} (ht : (eT E)[t]? = some (.object C, 2)) (hd : decode cc (pcs i) = .ok (.aaload, 1)) (hn : pcs n = pcs i + 1) : mx_Snd E cc nL own ini pcs Ts i (x_aal n t) := by
  refine ⟨fun ls st h q' hf => ?_, ?_⟩
  · rcases st with _ | ⟨j | j | j, _ | ⟨x | x | (_ | a), st⟩⟩ <;> simp only [x_aal, reduceCtorEq] at hf
    split at hf <;> try cases hf
    split at hf <;> cases hf
    exact ⟨Nat.le_refl _, Nat.le_refl _⟩
  intro p l e R s m args below meth cd Q hx hb hml hown hts hKn hin hR sz us ls st h q' H locs arr hf hz hu hrep hl hS hcs hss kk
  rcases st with _ | ⟨j | j | j, _ | ⟨x | x | (_ | a), st⟩⟩ <;> simp only [x_aal, reduceCtorEq] at hf
  split at hf <;> try cases hf
  split at hf <;> cases hf
  rename_i u len ha hc
  obtain ⟨rfl, hin2⟩ := hc
  obtain ⟨-, r, h1, h2⟩ := hrep.2.2 a _ ha
  cases ht.symm.trans h1
  have hlt : j.toNatClampNeg < len := Nat.not_le.mp fun q => hin2 (Or.inr q)
  refine W.aald (v := va_rf (hpR h a j.toNatClampNeg)) (ty := .object C) hx hb h2 ((hKn.2.1 _ _ h1).1 len _) rfl (fun q => by cases q) (by rw [arrV_size]; exact hin2) (by rw [arrV_read _ _ hlt]; rfl) rfl rfl hd ?_
  have := kk H locs arr hrep hl hS
  rw [hn] at this
  exact this
theorem sn_ias {t : Nat} (ht : (eT E)[t]? = some (.int, 0)) (hd : decode cc (pcs i) = .ok (.iastore, 1)) (hn : pcs n = pcs i + 1) : mx_Snd E cc nL own ini pcs Ts i (x_ias n t) := by
  refine ⟨fun ls st h q' hf => ?_, ?_⟩
  · rcases st with _ | ⟨v | v | v, _ | ⟨j | j | j, _ | ⟨x | x | (_ | a), st⟩⟩⟩ <;> simp only [x_ias, reduceCtorEq] at hf
    split at hf <;> try cases hf
    split at hf <;> cases hf
    exact ⟨Nat.le_refl _, Nat.le_refl _⟩
  intro p l e R s m args below meth cd Q hx hb hml hown hts hKn hin hR sz us ls st h q' H locs arr hf hz hu hrep hl hS hcs hss kk
  rcases st with _ | ⟨v | v | v, _ | ⟨j | j | j, _ | ⟨x | x | (_ | a), st⟩⟩⟩ <;> simp only [x_ias, reduceCtorEq] at hf
  split at hf <;> try cases hf
  split at hf <;> cases hf
  rename_i u len ha hc
  obtain ⟨rfl, hin2⟩ := hc
  obtain ⟨hba, r, h1, h2⟩ := hrep.2.2 a _ ha
  cases ht.symm.trans h1
  refine W.iast hx hb h2 ((hKn.2.1 _ _ h1).1 len _) (fun q => by cases q) (by rw [arrV_size]; exact hin2) rfl rfl hd fun H1 e1 z1 o1 => ?_
  rw [← hn]
  refine kk H1 _ arr (hrep.put z1 o1 rfl (fun _ => rfl) (fun b ty k hne => ?_) ha ⟨_, h1, ?_⟩) hl (hS.put z1 o1 hba)
  · unfold hpV
    rw [hpI_wI, if_neg (fun q => hne q.1)]
    rfl
  · rw [e1, arrV_store]
    congr 2
    funext k
    by_cases e : k = j.toNatClampNeg
    · subst e
      show _ = Value.int _
      rw [hpI_wI, if_pos ⟨rfl, rfl⟩]
      simp [updV]
    · show _ = Value.int _
      rw [hpI_wI, if_neg (fun q => e q.2)]
      simp [updV, e]
      rfl
theorem sn_aas {t c : Nat} {C : String} {T : u_T} {N : Nat} (ht : (eT E)[t]? = some (.object C, 2)) (hcl : (eC E)[c]? = some (C, T, N)) (hd : decode cc (pcs i) = .ok (.aastore, 1)) (hn : pcs n = pcs i + 1) : mx_Snd E cc nL own ini pcs Ts i (x_aas n t c) := by
  refine ⟨fun ls st h q' hf => ?_, ?_⟩
  · rcases st with _ | ⟨v | v | v, _ | ⟨j | j | j, _ | ⟨x | x | (_ | a), st⟩⟩⟩ <;> simp only [x_aas, reduceCtorEq] at hf
    split at hf <;> try cases hf
    split at hf <;> cases hf
    exact ⟨Nat.le_refl _, Nat.le_refl _⟩
  intro p l e R s m args below meth cd Q hx hb hml hown hts hKn hin hR sz us ls st h q' H locs arr hf hz hu hrep hl hS hcs hss kk
  rcases st with _ | ⟨v | v | v, _ | ⟨j | j | j, _ | ⟨x | x | (_ | a), st⟩⟩⟩ <;> simp only [x_aas, reduceCtorEq] at hf
  split at hf <;> try cases hf
  split at hf <;> cases hf
  rename_i u len ha hc
  obtain ⟨rfl, hin2, hokr⟩ := hc
  obtain ⟨hba, r, h1, h2⟩ := hrep.2.2 a _ ha
  cases ht.symm.trans h1
  have hlt : j.toNatClampNeg < len := Nat.not_le.mp fun q => hin2 (Or.inr q)
  have h0 : ¬ j < 0 := fun q => hin2 (Or.inl q)
  have fin : ∀ H1 : Heap, H1[a]? = some ((arrV (eA E u) len (fun k => hpV h a 2 k)).setSlot j.toNatClampNeg (va_rf v)) → H1.size = H.size → (∀ q, q ≠ a → H1[q]? = H[q]?) → W p l e R s m args below meth cd H1 (locs ++ [⟨a, j.toNatClampNeg⟩]) (hpZ h - sz) (hpU h - us) Q (F0 m (pcs i + 1) arr (st.map mx_v)) := by
    intro H1 e1 z1 o1
    rw [← hn]
    refine kk H1 _ arr (hrep.put z1 o1 rfl (fun _ => rfl) (fun b ty k hne => ?_) ha ⟨_, h1, ?_⟩) hl (hS.put z1 o1 hba)
    · unfold hpV
      rw [hpR_wR, if_neg (fun q => hne q.1)]
      rfl
    · rw [e1, arrV_store]
      congr 2
      funext k
      by_cases e : k = j.toNatClampNeg
      · subst e
        show _ = va_rf _
        rw [hpR_wR, if_pos ⟨rfl, rfl⟩]
        simp [updV]
      · show _ = va_rf _
        rw [hpR_wR, if_neg (fun q => e q.2)]
        simp [updV, e]
        rfl
  cases v with
  | none => exact va_WaastN (C := C) hx hb h2 ((hKn.2.1 _ _ h1).1 len _) (fun h => by cases h) (by rw [arrV_size]; exact hin2) rfl rfl hd fin
  | some b =>
    have hkb : hpK h b = some (.inl c) := of_decide_eq_true hokr
    obtain ⟨-, r, g1, cellV, g2, g3, g4, -⟩ := hrep.2.2 b _ hkb
    have hcls := (hKn.1 c _ hcl).2
    obtain ⟨kA, comp, k1, k2, k3, -⟩ := (hKn.2.1 _ _ h1).2
    have hcomp : comp = (eD E).1 c := Option.some.inj (k3.symm.trans hcls.1)
    subst hcomp
    obtain ⟨kC, hkC, -⟩ := id hcls.2
    exact W.aast hx hb h2 (fun q h => by cases h) (fun h => by cases h) k1 k2 rfl hkC ⟨h0, by rw [arrV_size]; exact hlt⟩ g2 (fun q h => by rw [g4] at h; cases h) (by rw [g3]; exact hkC) (by rw [g3]; exact va_assign hcls) rfl rfl hd fin
theorem sn_nai {t : Nat} (ht : (eT E)[t]? = some (.int, 0)) (hd : decode cc (pcs i) = .ok (.newarray .int, 2)) (hn : pcs n = pcs i + 2) (hw : Cond.arrayClass .int ∈ Ts) : mx_Snd E cc nL own ini pcs Ts i (x_nar n t) := by
  refine ⟨fun ls st h q' hf => ?_, ?_⟩
  · rcases st with _ | ⟨x | x | x, st⟩ <;> simp only [x_nar, reduceCtorEq] at hf
    split at hf <;> cases hf
    exact ⟨Nat.le_succ _, Nat.le_add_right _ _⟩
  intro p l e R s m args below meth cd Q hx hb hml hown hts hKn hin hR sz us ls st h q' H locs arr hf hz hu hrep hl hS hcs hss kk
  rcases st with _ | ⟨x | x | x, st⟩ <;> simp only [x_nar, reduceCtorEq] at hf
  split at hf <;> cases hf
  rename_i hc
  dsimp only at hcs hss kk
  rw [hpZ_nw] at hcs
  rw [hpU_nw] at hss
  refine va_newaK (atype := .int) hx hb (hts _ hw) rfl hd rfl hc.1 rfl (by have := hc.2; show _ * 4 ≤ _; omega) (by omega) (by omega) hrep.1 fun H1 cA e1 z1 o1 hAr hNm => ?_
  have hcA : cA = eA E t := by
    have := (hKn.2.1 t _ ht).2
    exact Option.some.inj (hNm.symm.trans this)
  subst hcA
  have hz1 : H1.size = H.size + 1 := by rw [z1, hrep.1]
  have o1' : ∀ q : Nat, q < H.size → H1[q]? = H[q]? := fun q hq => o1 q (by rw [hrep.1] at hq; exact hq)
  have := kk H1 locs arr (hrep.made hz1 o1' ⟨_, ht, by rw [e1]; congr 2; funext k; rw [hpV_nw]; rfl⟩) hl (hS.made hz1 o1')
  rw [hpZ_nw, hpU_nw] at this
  rw [show hpZ h - sz + 1 = hpZ h + 1 - sz by omega, show hpU h - us + x.toNatClampNeg = hpU h + x.toNatClampNeg - us by omega, ← hn]
  exact this
theorem sn_naq {t idx : Nat} {C : String} (ht : (eT E)[t]? = some (.object C, 2)) (hd : decode cc (pcs i) = .ok (.anewarray idx, 3)) (hn : pcs n = pcs i + 3) (hlk : Cond.classLink own idx C ∈ Ts) (ho : C ∈ eO E) : mx_Snd E cc nL own ini pcs Ts i (x_nar n t) := by
  refine ⟨fun ls st h q' hf => ?_, ?_⟩
  · rcases st with _ | ⟨x | x | x, st⟩ <;> simp only [x_nar, reduceCtorEq] at hf
    split at hf <;> cases hf
    exact ⟨Nat.le_succ _, Nat.le_add_right _ _⟩
  intro p l e R s m args below meth cd Q hx hb hml hown hts hKn hin hR sz us ls st h q' H locs arr hf hz hu hrep hl hS hcs hss kk
  rcases st with _ | ⟨x | x | x, st⟩ <;> simp only [x_nar, reduceCtorEq] at hf
  split at hf <;> cases hf
  rename_i hc
  dsimp only at hcs hss kk
  rw [hpZ_nw] at hcs
  rw [hpU_nw] at hss
  refine W.anew hx hb hown (hts _ hlk) (va_AO.use (hKn.2.2.2.1 C ho)) rfl hd rfl hc.1 (by have := hc.2; omega) (by omega) (by omega) fun cA kA comp f1 f2 f3 f4 => ?_
  have hcA : cA = eA E t := by
    obtain ⟨kA', comp', -, -, -, g4⟩ := (hKn.2.1 t _ ht).2
    exact Option.some.inj (f1.symm.trans g4)
  subst hcA
  generalize hH1 : H.push ({ cls := eA E t, slots := Array.replicate x.toNatClampNeg .null, vm := .none } : Cell) = H1
  have z1 : H1.size = H.size + 1 := by rw [← hH1, Array.size_push]
  have e1 : H1[hpZ h]? = some (arrV (eA E t) x.toNatClampNeg (fun _ => .null)) := by rw [← hH1, ← hrep.1, Array.getElem?_push_size, ← arrV_new]
  have o1 : ∀ q : Nat, q < H.size → H1[q]? = H[q]? := fun q hq => by rw [← hH1, Array.getElem?_push, if_neg (Nat.ne_of_lt hq)]
  have := kk H1 locs arr (hrep.made z1 o1 ⟨_, ht, by rw [e1]; congr 2; funext k; rw [hpV_nw]; rfl⟩) hl (hS.made z1 o1)
  rw [hpZ_nw, hpU_nw] at this
  rw [show hpZ h - sz + 1 = hpZ h + 1 - sz by omega, show hpU h - us + x.toNatClampNeg = hpU h + x.toNatClampNeg - us by omega, hrep.1, ← hn]
  exact this
theorem sn_tsw {ps : List (Int32 × Nat)} {d len : Nat} {dflt lo hi : Int} {offs : Array Int} (hd : decode cc (pcs i) = .ok (.tableswitch dflt lo hi offs, len)) (hdf : (pcs i : Int) + dflt = (pcs d : Int))
    (hps : ∀ q ∈ ps, lo ≤ q.1.toInt ∧ q.1.toInt ≤ hi ∧ (offs[(q.1.toInt - lo).toNat]?).map (fun o => (pcs i : Int) + o) = some (pcs q.2 : Int)) (hcov : ∀ j, j < (hi - lo + 1).toNat → ∃ q ∈ ps, q.1.toInt = lo + (j : Int)) : mx_Snd E cc nL own ini pcs Ts i (x_sw ps d) := by
  refine sn_keep ?_ ?_
  · intro ls st h q' hf
    rcases st with _ | ⟨x | x | x, st⟩ <;> simp only [x_sw, reduceCtorEq] at hf
    cases hf; rfl
  · intro p l e R s m args below meth c Q H locs cells slots arr ls st h q' hx hb hml hown hts hR hl hf k
    rcases st with _ | ⟨x | x | x, st⟩ <;> simp only [x_sw, reduceCtorEq] at hf
    cases hf
    have kk := k arr hl
    dsimp only at kk
    rcases sw_at_mem (ps := ps) (d := d) (x := x) with ⟨t, h1, h2⟩ | ⟨h1, h2⟩
    · rw [h2] at kk
      obtain ⟨g1, g2, g3⟩ := hps _ h1
      dsimp only at g1 g2 g3
      cases ho : offs[(x.toInt - lo).toNat]? with
      | none => rw [ho] at g3; simp at g3
      | some o =>
        rw [ho] at g3
        simp only [Option.map_some, Option.some.injEq] at g3
        exact lv_tableIn hx hb hd (by omega) (by omega) ho g3 kk
    · rw [h2] at kk
      refine lv_tableOut hx hb hd ?_ hdf kk
      by_cases hlo : x.toInt < lo
      · exact Or.inl hlo
      · right
        refine Int.not_le.mp fun hle => ?_
        obtain ⟨q, hq, e1⟩ := hcov (x.toInt - lo).toNat (by omega)
        have e2 : q.1 = x := Int32.toInt_inj.mp (by rw [e1]; omega)
        exact h1 q.2 (by rw [← e2]; exact hq)
def sw_ok (pc : Nat) (pcs : Nat → Nat) (L : List (Int × Int)) (ps : List (Int32 × Nat)) : Bool := match L, ps with
  | [], [] => true
  | (k, o) :: L, (k', t) :: ps => decide (k'.toInt = k) && decide ((pc : Int) + o = (pcs t : Int)) && sw_ok pc pcs L ps
  | _, _ => false
theorem sw_off {pc d : Nat} {pcs : Nat → Nat} {dflt : Int} {x : Int32} (hdf : (pc : Int) + dflt = (pcs d : Int)) : ∀ {L : List (Int × Int)} {ps : List (Int32 × Nat)}, sw_ok pc pcs L ps = true → (pc : Int) + Op.lookupswitch.offset L dflt x.toInt = (pcs (sw_at ps d x) : Int) := by
  intro L
  induction L with
  | nil => intro ps h; cases ps <;> simp [sw_ok] at h; exact hdf
  | cons q L ih =>
    intro ps h
    obtain ⟨k, o⟩ := q
    cases ps with
    | nil => simp [sw_ok] at h
    | cons q ps =>
      obtain ⟨k', t⟩ := q
      simp only [sw_ok, Bool.and_eq_true, decide_eq_true_eq] at h
      obtain ⟨⟨h1, h2⟩, h3⟩ := h
      rw [Op.lookupswitch.offset_cons]
      by_cases e : x = k'
      · rw [if_pos (by rw [e, h1])]
        simp [sw_at, e, h2]
      · rw [if_neg (fun z => e (Int32.toInt_inj.mp (by rw [h1]; exact z.symm)))]
        simp only [sw_at, if_neg e]
        exact ih h3
theorem sn_lsw {ps : List (Int32 × Nat)} {d len : Nat} {dflt : Int} {L : Array (Int × Int)} (hd : decode cc (pcs i) = .ok (.lookupswitch dflt L, len)) (hdf : (pcs i : Int) + dflt = (pcs d : Int)) (hp : (L.toList.zip (L.toList.drop 1)).all (fun (a, next) => a.1 < next.1) = true) (hps : sw_ok (pcs i) pcs L.toList ps = true) : mx_Snd E cc nL own ini pcs Ts i (x_sw ps d) := by
  refine sn_keep ?_ ?_
  · intro ls st h q' hf
    rcases st with _ | ⟨x | x | x, st⟩ <;> simp only [x_sw, reduceCtorEq] at hf
    cases hf; rfl
  · intro p l e R s m args below meth c Q H locs cells slots arr ls st h q' hx hb hml hown hts hR hl hf k
    rcases st with _ | ⟨x | x | x, st⟩ <;> simp only [x_sw, reduceCtorEq] at hf
    cases hf
    exact lv_lookup hx hb hd hp rfl (sw_off hdf hps) (k arr hl)
theorem sn_idiv (hd : decode cc (pcs i) = .ok (.idiv, 1)) (hn : pcs n = pcs i + 1) : mx_Snd E cc nL own ini pcs Ts i (x_idiv n) := by
  refine sn_keep ?_ ?_
  · intro ls st h q' hf
    rcases st with _ | ⟨y | y | y, _ | ⟨x | x | x, st⟩⟩ <;> simp only [x_idiv, reduceCtorEq] at hf
    split at hf <;> cases hf
    rfl
  · intro p l e R s m args below meth c Q H locs cells slots arr ls st h q' hx hb hml hown hts hR hl hf k
    rcases st with _ | ⟨y | y | y, _ | ⟨x | x | x, st⟩⟩ <;> simp only [x_idiv, reduceCtorEq] at hf
    split at hf <;> cases hf
    rename_i hne
    exact lv_idiv hx hb hd hne (by rw [← hn]; exact k arr hl)
theorem sn_irem (hd : decode cc (pcs i) = .ok (.irem, 1)) (hn : pcs n = pcs i + 1) : mx_Snd E cc nL own ini pcs Ts i (x_irem n) := by
  refine sn_keep ?_ ?_
  · intro ls st h q' hf
    rcases st with _ | ⟨y | y | y, _ | ⟨x | x | x, st⟩⟩ <;> simp only [x_irem, reduceCtorEq] at hf
    split at hf <;> cases hf
    rfl
  · intro p l e R s m args below meth c Q H locs cells slots arr ls st h q' hx hb hml hown hts hR hl hf k
    rcases st with _ | ⟨y | y | y, _ | ⟨x | x | x, st⟩⟩ <;> simp only [x_irem, reduceCtorEq] at hf
    split at hf <;> cases hf
    rename_i hne
    exact lv_irem hx hb hd hne (by rw [← hn]; exact k arr hl)
theorem sn_lshr (hd : decode cc (pcs i) = .ok (.lshr, 1)) (hn : pcs n = pcs i + 1) : mx_Snd E cc nL own ini pcs Ts i (x_lshr n) := by
  refine sn_keep ?_ ?_
  · intro ls st h q' hf
    rcases st with _ | ⟨y | y | y, _ | ⟨x | x | x, st⟩⟩ <;> simp only [x_lshr, reduceCtorEq] at hf
    cases hf
    rfl
  · intro p l e R s m args below meth c Q H locs cells slots arr ls st h q' hx hb hml hown hts hR hl hf k
    rcases st with _ | ⟨y | y | y, _ | ⟨x | x | x, st⟩⟩ <;> simp only [x_lshr, reduceCtorEq] at hf
    cases hf
    exact lv_lshr hx hb hd rfl (by rw [← hn]; exact k arr hl)
theorem sn_pop2 (hd : decode cc (pcs i) = .ok (.pop2, 1)) (hn : pcs n = pcs i + 1) : mx_Snd E cc nL own ini pcs Ts i (x_pop2 n) := by
  refine sn_keep ?_ ?_
  · intro ls st h q' hf
    rcases st with _ | ⟨x | x | x, st⟩ <;> simp only [x_pop2, reduceCtorEq] at hf
    cases hf
    rfl
  · intro p l e R s m args below meth c Q H locs cells slots arr ls st h q' hx hb hml hown hts hR hl hf k
    rcases st with _ | ⟨x | x | x, st⟩ <;> simp only [x_pop2, reduceCtorEq] at hf
    cases hf
    exact lv_pop2_2 hx hb hd rfl (by rw [← hn]; exact k arr hl)
theorem sn_max {idx : Nat} (hd : decode cc (pcs i) = .ok (.invokestatic idx, 3)) (hn : pcs n = pcs i + 3) (h1 : Cond.methodLink own idx Lib.Math.max.name ∈ Ts) (h2 : Cond.static Lib.Math.max.name ∈ Ts) (h3 : Cond.initialized "java/lang/Math" ∈ Ts) (h4 : Cond.code Lib.Math.max.name Lib.Math.max.code 2 (some .int) ∈ Ts) : mx_Snd E cc nL own ini pcs Ts i (x_max n) := by
  refine ⟨fun ls st h q' hf => ?_, ?_⟩
  · rcases st with _ | ⟨y | y | y, _ | ⟨x | x | x, st⟩⟩ <;> simp only [x_max, reduceCtorEq] at hf
    split at hf <;> cases hf
    exact ⟨Nat.le_refl _, Nat.le_refl _⟩
  intro p l e R s m args below meth cd Q hx hb hml hown hts hKn hin hR sz us ls st h q' H locs arr hf hz hu hrep hl hS hcs hss kk
  rcases st with _ | ⟨y | y | y, _ | ⟨x | x | x, st⟩⟩ <;> simp only [x_max, reduceCtorEq] at hf
  split at hf <;> cases hf
  rename_i hcat
  have hsum := mx_cats_eq st
  refine va_mmax hx hb (by rw [hml]; exact hl.1.symm) hown (hts _ h1) (hts _ h2) (hts _ h3) (hts _ h4) hR.1 (by rw [hsum]; omega) hcs hss hd ?_
  have := kk H locs arr hrep hl hS
  rw [hn] at this
  exact this
theorem sn_sld (hd : decode cc (pcs i) = .ok (.iaload, 1)) (hn : pcs n = pcs i + 1) : mx_Snd E cc nL own ini pcs Ts i (x_sld n (eSb E) (eSL E) (eSx E)) := by
  refine ⟨fun ls st h q' hf => ?_, ?_⟩
  · rcases st with _ | ⟨j | j | j, _ | ⟨x | x | (_ | a), st⟩⟩ <;> simp only [x_sld, reduceCtorEq] at hf
    split at hf <;> cases hf
    exact ⟨Nat.le_refl _, Nat.le_refl _⟩
  intro p l e R s m args below meth cd Q hx hb hml hown hts hKn hin hR sz us ls st h q' H locs arr hf hz hu hrep hl hS hcs hss kk
  rcases st with _ | ⟨j | j | j, _ | ⟨x | x | (_ | a), st⟩⟩ <;> simp only [x_sld, reduceCtorEq] at hf
  split at hf <;> cases hf
  rename_i hc
  obtain ⟨rfl, hin2⟩ := hc
  obtain ⟨k1, k2, k3, k4⟩ := hKn.2.2.2.2
  have hlt : j.toNatClampNeg < eSL E := Nat.not_le.mp fun q => hin2 (Or.inr q)
  refine W.iald (v := .int (eSx E j.toNatClampNeg)) hx hb hrep.2.1.2.2 k1 k2 (by rw [k3]; exact hin2) (k4 _ hlt) rfl rfl hd ?_
  have := kk H locs arr hrep hl hS
  rw [hn] at this
  exact this
theorem sn_sln (hd : decode cc (pcs i) = .ok (.arraylength, 1)) (hn : pcs n = pcs i + 1) : mx_Snd E cc nL own ini pcs Ts i (x_sln n (eSb E) (eSL E)) := by
  refine ⟨fun ls st h q' hf => ?_, ?_⟩
  · rcases st with _ | ⟨x | x | (_ | a), st⟩ <;> simp only [x_sln, reduceCtorEq] at hf
    split at hf <;> cases hf
    exact ⟨Nat.le_refl _, Nat.le_refl _⟩
  intro p l e R s m args below meth cd Q hx hb hml hown hts hKn hin hR sz us ls st h q' H locs arr hf hz hu hrep hl hS hcs hss kk
  rcases st with _ | ⟨x | x | (_ | a), st⟩ <;> simp only [x_sln, reduceCtorEq] at hf
  split at hf <;> cases hf
  rename_i hc
  subst hc
  obtain ⟨k1, k2, k3, k4⟩ := hKn.2.2.2.2
  refine W.alen (n := Int32.ofNat (eSL E)) hx hb hrep.2.1.2.2 k1 (by rw [k3] <;> rfl) rfl rfl hd ?_
  have := kk H locs arr hrep hl hS
  rw [hn] at this
  exact this
theorem sn_lal {t : Nat} (ht : (eT E)[t]? = some (.long, 1)) (hd : decode cc (pcs i) = .ok (.laload, 1)) (hn : pcs n = pcs i + 1) : mx_Snd E cc nL own ini pcs Ts i (x_lal n t) := by
  refine ⟨fun ls st h q' hf => ?_, ?_⟩
  · rcases st with _ | ⟨j | j | j, _ | ⟨x | x | (_ | a), st⟩⟩ <;> simp only [x_lal, reduceCtorEq] at hf
    split at hf <;> try cases hf
    split at hf <;> cases hf
    exact ⟨Nat.le_refl _, Nat.le_refl _⟩
  intro p l e R s m args below meth cd Q hx hb hml hown hts hKn hin hR sz us ls st h q' H locs arr hf hz hu hrep hl hS hcs hss kk
  rcases st with _ | ⟨j | j | j, _ | ⟨x | x | (_ | a), st⟩⟩ <;> simp only [x_lal, reduceCtorEq] at hf
  split at hf <;> try cases hf
  split at hf <;> cases hf
  rename_i u len ha hc
  obtain ⟨rfl, hin2⟩ := hc
  obtain ⟨-, r, h1, h2⟩ := hrep.2.2 a _ ha
  cases ht.symm.trans h1
  have hlt : j.toNatClampNeg < len := Nat.not_le.mp fun q => hin2 (Or.inr q)
  refine W.lald (v := .long (hpL h a j.toNatClampNeg)) hx hb h2 ((hKn.2.1 _ _ h1).1 len _) (fun q => by cases q) (by rw [arrV_size]; exact hin2) (by rw [arrV_read _ _ hlt]; rfl) rfl rfl hd ?_
  have := kk H locs arr hrep hl hS
  rw [hn] at this
  exact this
theorem sn_las {t : Nat} (ht : (eT E)[t]? = some (.long, 1)) (hd : decode cc (pcs i) = .ok (.lastore, 1)) (hn : pcs n = pcs i + 1) : mx_Snd E cc nL own ini pcs Ts i (x_las n t) := by
  refine ⟨fun ls st h q' hf => ?_, ?_⟩
  · rcases st with _ | ⟨v | v | v, _ | ⟨j | j | j, _ | ⟨x | x | (_ | a), st⟩⟩⟩ <;> simp only [x_las, reduceCtorEq] at hf
    split at hf <;> try cases hf
    split at hf <;> cases hf
    exact ⟨Nat.le_refl _, Nat.le_refl _⟩
  intro p l e R s m args below meth cd Q hx hb hml hown hts hKn hin hR sz us ls st h q' H locs arr hf hz hu hrep hl hS hcs hss kk
  rcases st with _ | ⟨v | v | v, _ | ⟨j | j | j, _ | ⟨x | x | (_ | a), st⟩⟩⟩ <;> simp only [x_las, reduceCtorEq] at hf
  split at hf <;> try cases hf
  split at hf <;> cases hf
  rename_i u len ha hc
  obtain ⟨rfl, hin2⟩ := hc
  obtain ⟨hba, r, h1, h2⟩ := hrep.2.2 a _ ha
  cases ht.symm.trans h1
  refine W.last hx hb h2 ((hKn.2.1 _ _ h1).1 len _) (fun q => by cases q) (by rw [arrV_size]; exact hin2) rfl rfl hd fun H1 e1 z1 o1 => ?_
  rw [← hn]
  refine kk H1 _ arr (hrep.put z1 o1 rfl (fun _ => rfl) (fun b ty k hne => ?_) ha ⟨_, h1, ?_⟩) hl (hS.put z1 o1 hba)
  · unfold hpV
    rw [hpL_wL, if_neg (fun q => hne q.1)]
    rfl
  · rw [e1, arrV_store]
    congr 2
    funext k
    by_cases e : k = j.toNatClampNeg
    · subst e
      show _ = Value.long _
      rw [hpL_wL, if_pos ⟨rfl, rfl⟩]
      simp [updV]
    · show _ = Value.long _
      rw [hpL_wL, if_neg (fun q => e q.2)]
      simp [updV, e]
      rfl
theorem sn_nal {t : Nat} (ht : (eT E)[t]? = some (.long, 1)) (hd : decode cc (pcs i) = .ok (.newarray .long, 2)) (hn : pcs n = pcs i + 2) (hw : Cond.arrayClass .long ∈ Ts) : mx_Snd E cc nL own ini pcs Ts i (x_nar n t) := by
  refine ⟨fun ls st h q' hf => ?_, ?_⟩
  · rcases st with _ | ⟨x | x | x, st⟩ <;> simp only [x_nar, reduceCtorEq] at hf
    split at hf <;> cases hf
    exact ⟨Nat.le_succ _, Nat.le_add_right _ _⟩
  intro p l e R s m args below meth cd Q hx hb hml hown hts hKn hin hR sz us ls st h q' H locs arr hf hz hu hrep hl hS hcs hss kk
  rcases st with _ | ⟨x | x | x, st⟩ <;> simp only [x_nar, reduceCtorEq] at hf
  split at hf <;> cases hf
  rename_i hc
  dsimp only at hcs hss kk
  rw [hpZ_nw] at hcs
  rw [hpU_nw] at hss
  refine va_newaK (atype := .long) hx hb (hts _ hw) rfl hd rfl hc.1 rfl (by have := hc.2; show _ * 8 ≤ _; omega) (by omega) (by omega) hrep.1 fun H1 cA e1 z1 o1 hAr hNm => ?_
  have hcA : cA = eA E t := by
    have := (hKn.2.1 t _ ht).2
    exact Option.some.inj (hNm.symm.trans this)
  subst hcA
  have hz1 : H1.size = H.size + 1 := by rw [z1, hrep.1]
  have o1' : ∀ q : Nat, q < H.size → H1[q]? = H[q]? := fun q hq => o1 q (by rw [hrep.1] at hq; exact hq)
  have := kk H1 locs arr (hrep.made hz1 o1' ⟨_, ht, by rw [e1]; congr 2; funext k; rw [hpV_nw]; rfl⟩) hl (hS.made hz1 o1')
  rw [hpZ_nw, hpU_nw] at this
  rw [show hpZ h - sz + 1 = hpZ h + 1 - sz by omega, show hpU h - us + x.toNatClampNeg = hpU h + x.toNatClampNeg - us by omega, ← hn]
  exact this
end
end
section
/-! A run of the abstract machine is a run of the Statement's machine. -/
/-- a method: its name, bytes, places for locals, answer's type, the place of each instruction in the bytes, its code -/
abbrev mx_M : Type := MethodName × ByteArray × Nat × Option FieldType × (Nat → Nat) × (Nat → mx_I)
abbrev mY (M : mx_M) : MethodName := M.1
abbrev mB (M : mx_M) : ByteArray := M.2.1
abbrev mL (M : mx_M) : Nat := M.2.2.1
abbrev mR (M : mx_M) : Option FieldType := M.2.2.2.1
abbrev mP (M : mx_M) : Nat → Nat := M.2.2.2.2.1
abbrev mI (M : mx_M) : Nat → mx_I := M.2.2.2.2.2
def mW (Tg : List Cond) (M : mx_M) : List Cond := Cond.code (mY M) (mB M) (mL M) (mR M) :: Tg
def mx_link (E : mx_E) (Ts : List Cond) (own : String) (idx : Nat) (y : MethodName) : Prop := Cond.methodLink own idx y ∈ Ts ∨ ∃ host, (own, idx, y, host) ∈ eN E
/-- what a call's instruction needs: Ts the words at hand -/
def mx_Cal (E : mx_E) (Ts : List Cond) (own : String) (cc : ByteArray) (pcs : Nat → Nat) (y : MethodName) (ret : Option FieldType) (i k nxt kind : Nat) : Prop :=
  pcs nxt = pcs i + 3 ∧ Cond.initialized y.cls ∈ Ts ∧ (y.cls ≠ "java/lang/invoke/MethodHandle" ∧ y.cls ≠ "java/lang/invoke/VarHandle") ∧ match kind with
  | 0 => (parseMethodDescriptor y.desc).map (fun d => d.parameters.length) = some k ∧ Cond.static y ∈ Ts ∧ ∃ idx, mx_link E Ts own idx y ∧ decode cc (pcs i) = .ok (.invokestatic idx, 3)
  | 1 => (parseMethodDescriptor y.desc).map (fun d => d.parameters.length + 1) = some k ∧ ret = none ∧ y.name = "<init>" ∧ Cond.instanceMethod y ∈ Ts ∧ ∃ idx, mx_link E Ts own idx y ∧ decode cc (pcs i) = .ok (.invokespecial idx, 3)
  | ci + 2 => (parseMethodDescriptor y.desc).map (fun d => d.parameters.length + 1) = some k ∧ Cond.instanceMethod y ∈ Ts ∧ Cond.selects y.cls y y ∈ Ts ∧ (∃ (T : u_T) (N : Nat), (eC E)[ci]? = some (y.cls, T, N)) ∧ ∃ idx, mx_link E Ts own idx y ∧ decode cc (pcs i) = .ok (.invokevirtual idx, 3)
def mx_rets (cc : ByteArray) (pcs : Nat → Nat) (ret : Option FieldType) (i t : Nat) : Prop := match t with
  | 0 => decode cc (pcs i) = .ok (.ireturn, 1) ∧ ret = some .int
  | 1 => decode cc (pcs i) = .ok (.lreturn, 1) ∧ ret = some .long
  | 2 => decode cc (pcs i) = .ok (.areturn, 1) ∧ ∃ rt, ret = some rt ∧ ((∃ n, rt = .object n) ∨ ∃ t, rt = .array t)
  | 3 => decode cc (pcs i) = .ok (.ireturn, 1) ∧ ret = some .boolean
  | _ => decode cc (pcs i) = .ok (.return_, 1) ∧ ret = none
def mx_Ok (E : mx_E) (mt : Nat → mx_M) (Ts : List Cond) (own : String) (ini : Bool) (cc : ByteArray) (nL : Nat) (pcs : Nat → Nat) (i : Nat) (I : mx_I) : Prop := match I with
  | .inl f => mx_Snd E cc nL own ini pcs Ts i f
  | .inr (.inl (j, k, nxt, kind)) => mx_Cal E Ts own cc pcs (mY (mt j)) (mR (mt j)) i k nxt kind
  | .inr (.inr _) => True
def mx_Pc (E : mx_E) (as : List mx_V) (h : mx_H) : Array Value → State → Prop := fun v U => v = (as.map mx_v).toArray ∧ mx_Rep E h U.heap ∧ mx_Kn E U
def mx_Qc (E : mx_E) (r : Option mx_V) (h' : mx_H) : Array Value → State → Outcome → State → Prop := fun _ st oc t => oc = .returned (r.map mx_v) ∧ mx_Rep E h' t.heap ∧ va_F (mx_A E) st t
theorem mx_Pc_blind {E : mx_E} {as : List mx_V} {h : mx_H} : FrameBlind (mx_Pc E as h) := fun _ _ _ _ q => ⟨q.1, q.2.1, mx_Kn.same rfl q.2.2⟩
def mx_rm (d : Nat) (h h' : mx_H) : Room := { frames := d, cells := hpZ h' - hpZ h, slots := hpU h' - hpU h, locals := 36 * d }
/-- the contracts of all methods, d frames deep, as a relation C of the abstract machine has them -/
def mx_CS (l : Launch) (E : mx_E) (mt : Nat → mx_M) (Tg : List Cond) (d : Nat) (C : mx_C) : Prop := ∀ (j : Nat) (as : List mx_V) (h : mx_H) (r : Option mx_V) (h' : mx_H), C j as h r h' →
  (hpZ h ≤ hpZ h' ∧ hpU h ≤ hpU h') ∧ Met l (mY (mt j)) (mW Tg (mt j)) (mx_rm d h h') (mx_Pc E as h) (mx_Qc E r h') (hpZ h' - hpZ h) (hpU h' - hpU h) (mx_A E)
theorem mx_mono {E : mx_E} {mt : Nat → mx_M} {Ts Tg : List Cond} {own : String} {ini : Bool} {cc : ByteArray} {nL : Nat} {pcs : Nat → Nat} {code : Nat → mx_I} {l : Launch} {d : Nat} {C : mx_C} (hok : ∀ i, mx_Ok E mt Ts own ini cc nL pcs i (code i)) (hC : mx_CS l E mt Tg d C) :
    ∀ (n : Nat) (q : mx_S) (r : Option mx_V) (h' : mx_H), mx_Run C code n q r h' → hpZ q.2.2.2 ≤ hpZ h' ∧ hpU q.2.2.2 ≤ hpU h' := by
  intro n
  induction n with
  | zero => intro q r h' h; exact absurd h (by simp [mx_Run])
  | succ n ih =>
    intro q r h' h
    obtain ⟨i, ls, st, hp⟩ := q
    have ho := hok i
    simp only [mx_Run] at h
    generalize hcode : code i = I at ho h
    rcases I with f | ⟨j, k, nxt, kind⟩ | t
    · obtain ⟨q', h1, h2⟩ := h
      have e1 := ho.1 ls st hp q' h1
      have e2 := ih q' r h' h2
      exact ⟨Nat.le_trans e1.1 e2.1, Nat.le_trans e1.2 e2.2⟩
    · obtain ⟨as, rest, r1, h1, -, -, -, -, hc, h2⟩ := h
      have e1 := (hC j as hp r1 h1 hc).1
      have e2 := ih _ r h' h2
      exact ⟨Nat.le_trans e1.1 e2.1, Nat.le_trans e1.2 e2.2⟩
    · rw [h.2]; exact ⟨Nat.le_refl _, Nat.le_refl _⟩
section
variable {p : Program} {l : Launch} {e : Env} {R : Room} {s : State} {m : MethodId} {args : Array Value} {below : List Frame} {meth : Method} {c : Code} {Q : State → Prop}
theorem sw_run {E : mx_E} {Ts Tg : List Cond} {own : String} {cc : ByteArray} {nL : Nat} {pcs : Nat → Nat} {M : mx_M} {i k nxt kind d : Nat} (hx : p.tables.exec = Jvm.exec) (hb : c.code = cc) (hml : c.maxLocals = nL) (hown : s.vm.findClass own = some m.cls) (hts : ∀ w ∈ Ts, w.before args s = true) (hKn : mx_Kn E s)
    (hG : GoodIn Ts (mW Tg M)) (hcal : mx_Cal E Ts own cc pcs (mY M) (mR M) i k nxt kind) {as rest : List mx_V} {r1 : Option mx_V} {h h1 : mx_H} {H : Heap} {locs : List Loc} {cells slots : Nat} {arr : Array Slot} (hk : as.length = k) (hcat : mx_cats rest ≤ 8) (hrcv : mx_rcv kind as h) (hrep : mx_Rep E h H) (hsize : arr.size = nL)
    (hM : Met l (mY M) (mW Tg M) (mx_rm d h h1) (mx_Pc E as h) (mx_Qc E r1 h1) (hpZ h1 - hpZ h) (hpU h1 - hpU h) (mx_A E)) (hR : d + 1 ≤ R.frames ∧ 8 + (mL M + 11) + 36 * d ≤ R.locals) (hf : cells + (hpZ h1 - hpZ h) ≤ R.cells ∧ slots + (hpU h1 - hpU h) ≤ R.slots) :
    va_Run p l e R s m args below meth c H locs cells slots (hpZ h1 - hpZ h) (hpU h1 - hpU h) (F0 m (pcs i) arr ((as.reverse ++ rest).map mx_v)) (rest.map mx_v) (mx_Qc E r1 h1 (as.map mx_v).toArray) (mx_A E) := by
  obtain ⟨hnx, hini, hmh, hcal⟩ := hcal
  have hst : (as.reverse ++ rest).map mx_v = (as.map mx_v).reverse ++ rest.map mx_v := by rw [List.map_append, List.map_reverse]
  have hW : 2 * (F0 m (pcs i) arr ((as.map mx_v).reverse ++ rest.map mx_v)).monitorRoom + ((rest.map mx_v).map fun v => v.category).sum ≤ 8 := by
    rw [mx_cats_eq]
    show 2 * 0 + _ ≤ 8
    omega
  rw [hst]
  have hpre : ∀ U : State, U.heap = H → s.WarmedH U.vm → mx_Pc E as h (as.map mx_v).toArray U := fun U hU hWm => ⟨rfl, by rw [hU]; exact hrep, hKn.moved hWm⟩
  match kind, hcal, hrcv with
  | 0, ⟨hpar, hstat, idx, hlk, hdg⟩, _ =>
    have hlen : (as.map mx_v).length = k := by rw [List.length_map]; exact hk
    rcases hlk with hlk | ⟨host, hlk⟩
    · exact va_runS ⟨hx, hb, hml, hown, hts⟩ hM ⟨callB_of k hts hG rfl rfl rfl (hts _ hini) (hts _ hlk) ⟨hmh.1, hmh.2, hpar⟩ hR, hts _ hstat⟩ ⟨mx_Pc_blind, hpre⟩ rfl hlen hsize rfl hW hdg hf
    · exact va_runSN ⟨hx, hb, hml, hown, hts⟩ hM ⟨va_cnB k hts hG rfl rfl rfl (hKn.2.2.1 _ hlk) (hts _ hini) ⟨hmh.1, hmh.2, hpar⟩ hR, hts _ hstat, trivial⟩ ⟨mx_Pc_blind, hpre⟩ rfl hlen hsize rfl hW hdg hf
  | 1, ⟨hpar, hret, hnm, hinst, idx, hlk, hdg⟩, ⟨b, hbb⟩ =>
    obtain ⟨as', rfl⟩ : ∃ as', as = .inr (.inr (some b)) :: as' := by
      cases as with
      | nil => simp at hbb
      | cons v t => simp at hbb; exact ⟨t, by rw [hbb]⟩
    have hpar' : (parseMethodDescriptor (mY M).desc).map (fun d => d.parameters.length) = some (as'.map mx_v).length := by
      cases hq : parseMethodDescriptor (mY M).desc with
      | none => rw [hq] at hpar; simp at hpar
      | some z => rw [hq] at hpar; simp only [Option.map_some, Option.some.injEq] at hpar ⊢; simp at hk ⊢; omega
    have hst2 : ((.inr (.inr (some b)) :: as' : List mx_V).map mx_v).reverse ++ rest.map mx_v = (as'.map mx_v).reverse ++ .ref b :: rest.map mx_v := by
      simp [mx_v, va_rf]
    rw [hst2] at hW ⊢
    rcases hlk with hlk | ⟨host, hlk⟩
    · exact va_runI ⟨hx, hb, hml, hown, hts⟩ hM ⟨callB_of _ hts hG (show mW Tg M = Cond.code (mY M) (mB M) (mL M) none :: Tg by unfold mW; rw [hret]) rfl rfl (hts _ hini) (hts _ hlk) ⟨hmh.1, hmh.2, hpar'⟩ hR, hnm, hts _ hinst⟩ ⟨mx_Pc_blind, hpre⟩ rfl rfl hsize rfl hW hdg hf
    · exact va_runIN ⟨hx, hb, hml, hown, hts⟩ hM ⟨va_cnB _ hts hG (show mW Tg M = Cond.code (mY M) (mB M) (mL M) none :: Tg by unfold mW; rw [hret]) rfl rfl (hKn.2.2.1 _ hlk) (hts _ hini) ⟨hmh.1, hmh.2, hpar'⟩ hR, hnm, hts _ hinst⟩ ⟨mx_Pc_blind, hpre⟩ rfl rfl hsize rfl hW hdg hf
  | ci + 2, ⟨hpar, hinst, hsel, ⟨T, N, hcl⟩, idx, hlk, hdg⟩, ⟨b, hbb, hkb⟩ =>
    obtain ⟨as', rfl⟩ : ∃ as', as = .inr (.inr (some b)) :: as' := by
      cases as with
      | nil => simp at hbb
      | cons v t => simp at hbb; exact ⟨t, by rw [hbb]⟩
    have hpar' : (parseMethodDescriptor (mY M).desc).map (fun d => d.parameters.length) = some (as'.map mx_v).length := by
      cases hq : parseMethodDescriptor (mY M).desc with
      | none => rw [hq] at hpar; simp at hpar
      | some z => rw [hq] at hpar; simp only [Option.map_some, Option.some.injEq] at hpar ⊢; simp at hk ⊢; omega
    have hst2 : ((.inr (.inr (some b)) :: as' : List mx_V).map mx_v).reverse ++ rest.map mx_v = (as'.map mx_v).reverse ++ .ref b :: rest.map mx_v := by
      simp [mx_v, va_rf]
    rw [hst2] at hW ⊢
    obtain ⟨-, r, g1, cell, g2, g3, g4, -⟩ := hrep.2.2 b _ hkb
    have hrc : ∃ cellB : Cell, H[b]? = some cellB ∧ cellB.vm.isStatics = false ∧ s.vm.findClass (mY M).cls = some cellB.cls := ⟨cell, g2, by rw [g4]; rfl, by rw [g3]; exact (hKn.1 ci _ hcl).2.1⟩
    rcases hlk with hlk | ⟨host, hlk⟩
    · exact va_runV ⟨hx, hb, hml, hown, hts⟩ hM ⟨callB_of _ hts hG rfl rfl rfl (hts _ hini) (hts _ hlk) ⟨hmh.1, hmh.2, hpar'⟩ hR, hts _ hinst, hts _ hsel⟩ ⟨mx_Pc_blind, hrc, hpre⟩ rfl rfl hsize rfl hW hdg hf
    · exact va_runVN ⟨hx, hb, hml, hown, hts⟩ hM ⟨va_cnB _ hts hG rfl rfl rfl (hKn.2.2.1 _ hlk) (hts _ hini) ⟨hmh.1, hmh.2, hpar'⟩ hR, hts _ hinst, hts _ hsel⟩ ⟨mx_Pc_blind, hrc, hpre⟩ rfl rfl hsize rfl hW hdg hf
end
theorem mx_walk {E : mx_E} {mt : Nat → mx_M} {Ts Tg : List Cond} {own : String} {ini : Bool} {cc : ByteArray} {nL : Nat} {pcs : Nat → Nat} {code : Nat → mx_I} {p : Program} {l : Launch} {e : Env} {R : Room} {s : State} {m : MethodId} {args : Array Value} {below : List Frame} {meth : Method} {c : Code} {Q : State → Prop} {d sz us : Nat} {C : mx_C} {r : Option mx_V} {h' : mx_H}
    (hx : p.tables.exec = Jvm.exec) (hb : c.code = cc) (hml : c.maxLocals = nL) (hown : s.vm.findClass own = some m.cls) (hts : ∀ w ∈ Ts, w.before args s = true) (hKn : mx_Kn E s) (hin : ini = true → meth.name = "<init>") (hR : d + 1 ≤ R.frames ∧ 36 * (d + 1) ≤ R.locals) (hRc : hpZ h' - sz ≤ R.cells) (hRs : hpU h' - us ≤ R.slots)
    (hok : ∀ i, mx_Ok E mt Ts own ini cc nL pcs i (code i)) (hC : mx_CS l E mt Tg d C) (hG : ∀ j, GoodIn Ts (mW Tg (mt j))) (hmL : ∀ j, mL (mt j) ≤ 17)
    (hend : ∀ (i t : Nat) (st : List mx_V) (H : Heap) (locs : List Loc) (arr : Array Slot), code i = .inr (.inr t) → mx_ret t st r → mx_Rep E h' H → va_S (mx_A E) s.heap H locs → W p l e R s m args below meth c H locs (hpZ h' - sz) (hpU h' - us) Q (F0 m (pcs i) arr (st.map mx_v))) :
    ∀ (n : Nat) (q : mx_S) (H : Heap) (locs : List Loc) (arr : Array Slot), mx_Run C code n q r h' → sz ≤ hpZ q.2.2.2 → us ≤ hpU q.2.2.2 → mx_Rep E q.2.2.2 H → ml_has arr nL q.2.1 → va_S (mx_A E) s.heap H locs →
      W p l e R s m args below meth c H locs (hpZ q.2.2.2 - sz) (hpU q.2.2.2 - us) Q (F0 m (pcs q.1) arr (q.2.2.1.map mx_v)) := by
  intro n
  induction n with
  | zero => intro q H locs arr h; exact absurd h (by simp [mx_Run])
  | succ n ih =>
    intro q H locs arr h hz hu hrep hl hS
    obtain ⟨i, ls, st, hp⟩ := q
    have ho := hok i
    simp only [mx_Run] at h
    dsimp only at hz hu hrep hl ⊢
    generalize hcode : code i = I at ho h
    rcases I with f | ⟨j, k, nxt, kind⟩ | t
    · obtain ⟨q', h1, h2⟩ := h
      have e1 := ho.1 ls st hp q' h1
      have e2 := mx_mono hok hC n q' r h' h2
      refine ho.2 p l e R s m args below meth c Q hx hb hml hown hts hKn hin ⟨by omega, by omega⟩ sz us ls st hp q' H locs arr h1 hz hu hrep hl hS (by omega) (by omega) (fun H' locs' arr' hr' hl' hS' => ?_)
      exact ih q' H' locs' arr' h2 (by omega) (by omega) hr' hl' hS'
    · obtain ⟨as, rest, r1, h1, hst, hk, hcat, hrcv, hc, h2⟩ := h
      obtain ⟨hm, hM⟩ := hC j as hp r1 h1 hc
      have e2 := mx_mono hok hC n _ r h' h2
      dsimp only at e2 hst hrcv
      subst hst
      have hL := hmL j
      have hrun := sw_run (e := e) (R := R) (below := below) (meth := meth) (locs := locs) (cells := hpZ hp - sz) (slots := hpU hp - us) hx hb hml hown hts hKn (hG j) ho hk hcat hrcv hrep hl.1 hM ⟨hR.1, by omega⟩ ⟨by omega, by omega⟩
      intro T hT X
      obtain ⟨v, st₀, t, T', L, g0, X', hL', g1, g2, ⟨hv, hr1, hF⟩, stp⟩ := hrun T hT X
      cases hv
      have hS' : va_S (mx_A E) s.heap T'.heap (locs ++ L) := by
        refine ⟨Nat.le_trans hS.1 (by rw [g1, ← g0]; exact hF.1), fun q q1 q2 => ?_, fun q hq => ?_⟩
        · have q3 : q < H.size := Nat.lt_of_lt_of_le q1 hS.1
          rw [g1, hF.2 q (by rw [g0]; exact q3) q2, g0]
          exact hS.2.1 q q1 q2
        · rcases List.mem_append.mp hq with z | z
          · exact hS.2.2 q z
          · exact hL' q z
      have hnx := ho.1
      have key := ih (nxt, ls, r1.toList ++ rest, h1) T'.heap (locs ++ L) arr h2 (by dsimp only; omega) (by dsimp only; omega) (by dsimp only; rw [g1]; exact hr1) hl hS'
      dsimp only at key
      have ec : hpZ hp - sz + (hpZ h1 - hpZ hp) = hpZ h1 - sz := by omega
      have es : hpU hp - us + (hpU h1 - hpU hp) = hpU h1 - us := by omega
      rw [ec, es] at X'
      obtain ⟨t2, a1, b1⟩ := key T' rfl X'
      refine ⟨t2, stp t2 ?_, b1⟩
      have ev : (r1.map mx_v).toList ++ rest.map mx_v = (r1.toList ++ rest).map mx_v := by cases r1 <;> simp
      rw [show (F0 m (pcs i) arr ((as.reverse ++ rest).map mx_v)).pc + 3 = pcs nxt from hnx.symm, ev]
      exact a1
    · obtain ⟨h1, h2⟩ := h
      subst h2
      exact hend i t st H locs arr hcode h1 hrep hS
/-- all calls of the abstract machine are calls of the Statement's -/
theorem mx_sound {E : mx_E} {mt : Nat → mx_M} {Tg : List Cond} {l : Launch} {prog : Nat → Nat × (Nat → mx_I)} (hprog : ∀ j, prog j = (mL (mt j), mI (mt j)))
    (hok : ∀ j i, mx_Ok E mt (mW Tg (mt j)) (mY (mt j)).cls (decide ((mY (mt j)).name = "<init>")) (mB (mt j)) (mL (mt j)) (mP (mt j)) i (mI (mt j) i)) (hret : ∀ j i t, mI (mt j) i = .inr (.inr t) → mx_rets (mB (mt j)) (mP (mt j)) (mR (mt j)) i t)
    (hg : ∀ w ∈ Tg, (w.onTables && w.keeps) = true ∨ ∃ ty, w = .arrayClass ty) (hcd : ∀ j, Cond.code (mY (mt j)) (mB (mt j)) (mL (mt j)) (mR (mt j)) ∈ Tg) (hmL : ∀ j, mL (mt j) ≤ 17) (hpl : ∀ j, plainName (mY (mt j)).cls = true) (hp0 : ∀ j, mP (mt j) 0 = 0) :
    ∀ d, mx_CS l E mt Tg d (mx_Call prog d) := by
  have hG : ∀ i j, GoodIn (mW Tg (mt i)) (mW Tg (mt j)) := by
    intro i j w hw
    have hin : w ∈ Tg := by
      rcases List.mem_cons.mp hw with h | h
      · rw [h]; exact hcd j
      · exact h
    exact ⟨List.mem_cons_of_mem _ hin, hg w hin⟩
  intro d
  induction d with
  | zero => intro j as h r h' hc; exact absurd hc (by simp [mx_Call])
  | succ d ih =>
    intro j as h r h' hc
    obtain ⟨hfit, n, hrun⟩ := hc
    rw [hprog] at hrun hfit
    dsimp only at hrun hfit
    refine ⟨mx_mono (hok j) ih n _ r h' hrun, ?_⟩
    refine Met.ofW (cc := mB (mt j)) (maxL := mL (mt j)) (ret := mR (mt j)) (hpl j) rfl ?_
    intro p e s m args below meth c s₁ B hml hv
    obtain ⟨rfl, hrep, hKn⟩ := hv
    have hx := B.exec
    have hb := B.bytes
    have hr := B.returns
    have hts := atoms_spec (ws := mW Tg (mt j)) B.pre
    have hown : s.vm.findClass (mY (mt j)).cls = some m.cls := findClass_of_methodNamed B.named
    have hlocks := B.notSynchronized
    have hin : decide ((mY (mt j)).name = "<init>") = true → meth.name = "<init>" := fun hd => by
      rw [(name_of_methodNamed B.named B.method).1]; exact of_decide_eq_true hd
    have hlen : (lg_sl (as.map mx_v)).length ≤ mL (mt j) := by
      rw [mx_len]; exact hfit
    have hl := lv_entry (as.map mx_v) (n := mL (mt j)) hlen
    rw [lg_entry_eq]
    generalize (lg_sl (as.map mx_v) ++ List.replicate (mL (mt j) - (lg_sl (as.map mx_v)).length) Slot.unset).toArray = ls at hl ⊢
    have hl' : ml_has ls (mL (mt j)) (ml_pad (mL (mt j)) (ml_args as)) := ml_entry hl
    have key := mx_walk (e := e) (below := below) (sz := hpZ h) (us := hpU h) (R := mx_rm (d + 1) h h') (Q := MQ below (mx_Qc E r h') (as.map mx_v).toArray s (hpZ h' - hpZ h) (hpU h' - hpU h) (mx_A E)) hx hb hml hown hts hKn hin ⟨Nat.le_refl _, Nat.le_refl _⟩ (Nat.le_refl _) (Nat.le_refl _) (hok j) ih (hG j) hmL ?_ n _ s.heap [] ls hrun (Nat.le_refl _) (Nat.le_refl _) hrep hl' va_S.rf
    · dsimp only at key
      rw [Nat.sub_self, Nat.sub_self, hp0] at key
      exact key
    · intro i t st H locs arr hcode hret' hrep' hS'
      have hq : ∀ t : State, t.heap = H → s.WarmedH t.vm → ∀ o, o = .returned (r.map mx_v) → mx_Qc E r h' (as.map mx_v).toArray s o t := fun t ht _ o ho => ⟨ho, by rw [ht]; exact hrep', hS'.F ht⟩
      have hrt := hret j i t hcode
      match t, hret', hrt with
      | 0, ⟨x, e1, e2⟩, ⟨hd, he⟩ => subst e1; subst e2; exact W.iret hx hb (hr.trans he) (fun t ht hW => hq t ht hW _ rfl) hS'.2.2 hd
      | 1, ⟨x, e1, e2⟩, ⟨hd, he⟩ => subst e1; subst e2; exact W.lret hx hb (hr.trans he) (fun t ht hW => hq t ht hW _ rfl) hS'.2.2 hd
      | 2, ⟨x, e1, e2⟩, ⟨hd, rt, he, hrt⟩ => subst e1; subst e2; exact W.aret hx hb (hr.trans he) hrt (by cases x with | none => exact Or.inl rfl | some a => exact Or.inr ⟨a, rfl⟩) (fun t ht hW => hq t ht hW _ rfl) hS'.2.2 hd
      | 3, ⟨x, e1, e2, h01⟩, ⟨hd, he⟩ => subst e1; subst e2; exact W.zret hx hb (hr.trans he) (by rcases h01 with rfl | rfl <;> rfl) (fun t ht hW => hq t ht hW _ rfl) hS'.2.2 hd
      | t + 4, ⟨e1, e2⟩, ⟨hd, he⟩ => subst e1; subst e2; exact W.vret hx hb (hr.trans he) (fun t ht hW => hq t ht hW _ rfl) hS'.2.2 hd
end
