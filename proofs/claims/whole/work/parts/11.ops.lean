/-! The instructions as functions, runs of a method's code, and what is said of a run (mx_V: it comes to an end with Q). -/
abbrev mx_S : Type := Nat × mx_L × List mx_V × mx_H
/-- a plain instruction; a call (method, number of words taken off the stack, next place, kind: 0 static, 1 a constructor, 2 + ci on an object of class ci); a return (0 int, 1 long, 2 reference, 3 boolean, 4 void) -/
abbrev mx_I : Type := (mx_S → Option mx_S) ⊕ ((Nat × Nat × Nat × Nat) ⊕ Nat)
def mx_cats (st : List mx_V) : Nat := match st with
  | [] => 0
  | v :: t => mx_cat v + mx_cats t
theorem mx_cats_eq (st : List mx_V) : ((st.map mx_v).map fun v => v.category).sum = mx_cats st := by
  induction st with
  | nil => rfl
  | cons v t ih => simp only [List.map_cons, List.sum_cons, mx_cats, ih, mx_cat_eq]
def x_ic (n : Nat) (z : Int32) : mx_S → Option mx_S := fun q => match q with
  | (_, ls, st, h) => some (n, ls, .inl z :: st, h)
def x_lc (n : Nat) (z : Int64) : mx_S → Option mx_S := fun q => match q with
  | (_, ls, st, h) => some (n, ls, .inr (.inl z) :: st, h)
def x_nul (n : Nat) : mx_S → Option mx_S := fun q => match q with
  | (_, ls, st, h) => some (n, ls, .inr (.inr none) :: st, h)
def x_ild (n i : Nat) : mx_S → Option mx_S := fun q => match q with
  | (_, ls, st, h) => match ml_get i ls with
    | some (.inl x) => some (n, ls, .inl x :: st, h)
    | _ => none
def x_lld (n i : Nat) : mx_S → Option mx_S := fun q => match q with
  | (_, ls, st, h) => match ml_get i ls with
    | some (.inr (.inl x)) => some (n, ls, .inr (.inl x) :: st, h)
    | _ => none
def x_ald (n i : Nat) : mx_S → Option mx_S := fun q => match q with
  | (_, ls, st, h) => match ml_get i ls with
    | some (.inr (.inr x)) => some (n, ls, .inr (.inr x) :: st, h)
    | _ => none
def x_ist (n i : Nat) : mx_S → Option mx_S := fun q => match q with
  | (_, ls, .inl x :: st, h) => some (n, ml_set i (.inl x) ls, st, h)
  | _ => none
def x_lst (n i : Nat) : mx_S → Option mx_S := fun q => match q with
  | (_, ls, .inr (.inl x) :: st, h) => some (n, ml_set i (.inr (.inl x)) ls, st, h)
  | _ => none
def x_ast (n i : Nat) : mx_S → Option mx_S := fun q => match q with
  | (_, ls, .inr (.inr x) :: st, h) => some (n, ml_set i (.inr (.inr x)) ls, st, h)
  | _ => none
def x_inc (n i : Nat) (z : Int32) : mx_S → Option mx_S := fun q => match q with
  | (_, ls, st, h) => match ml_get i ls with
    | some (.inl x) => some (n, ml_set i (.inl (x + z)) ls, st, h)
    | _ => none
def x_iadd (n : Nat) : mx_S → Option mx_S := fun q => match q with
  | (_, ls, .inl y :: .inl x :: st, h) => some (n, ls, .inl (x + y) :: st, h)
  | _ => none
def x_isub (n : Nat) : mx_S → Option mx_S := fun q => match q with
  | (_, ls, .inl y :: .inl x :: st, h) => some (n, ls, .inl (x - y) :: st, h)
  | _ => none
def x_imul (n : Nat) : mx_S → Option mx_S := fun q => match q with
  | (_, ls, .inl y :: .inl x :: st, h) => some (n, ls, .inl (x * y) :: st, h)
  | _ => none
def x_iand (n : Nat) : mx_S → Option mx_S := fun q => match q with
  | (_, ls, .inl y :: .inl x :: st, h) => some (n, ls, .inl (x &&& y) :: st, h)
  | _ => none
def x_ior (n : Nat) : mx_S → Option mx_S := fun q => match q with
  | (_, ls, .inl y :: .inl x :: st, h) => some (n, ls, .inl (x ||| y) :: st, h)
  | _ => none
def x_ixor (n : Nat) : mx_S → Option mx_S := fun q => match q with
  | (_, ls, .inl y :: .inl x :: st, h) => some (n, ls, .inl (x ^^^ y) :: st, h)
  | _ => none
def x_ladd (n : Nat) : mx_S → Option mx_S := fun q => match q with
  | (_, ls, .inr (.inl y) :: .inr (.inl x) :: st, h) => some (n, ls, .inr (.inl (x + y)) :: st, h)
  | _ => none
def x_lsub (n : Nat) : mx_S → Option mx_S := fun q => match q with
  | (_, ls, .inr (.inl y) :: .inr (.inl x) :: st, h) => some (n, ls, .inr (.inl (x - y)) :: st, h)
  | _ => none
def x_land (n : Nat) : mx_S → Option mx_S := fun q => match q with
  | (_, ls, .inr (.inl y) :: .inr (.inl x) :: st, h) => some (n, ls, .inr (.inl (x &&& y)) :: st, h)
  | _ => none
def x_lor (n : Nat) : mx_S → Option mx_S := fun q => match q with
  | (_, ls, .inr (.inl y) :: .inr (.inl x) :: st, h) => some (n, ls, .inr (.inl (x ||| y)) :: st, h)
  | _ => none
def x_lxor (n : Nat) : mx_S → Option mx_S := fun q => match q with
  | (_, ls, .inr (.inl y) :: .inr (.inl x) :: st, h) => some (n, ls, .inr (.inl (x ^^^ y)) :: st, h)
  | _ => none
def x_lshl (n : Nat) : mx_S → Option mx_S := fun q => match q with
  | (_, ls, .inl y :: .inr (.inl x) :: st, h) => some (n, ls, .inr (.inl (x <<< (y.toInt64 &&& 63))) :: st, h)
  | _ => none
def x_lushr (n : Nat) : mx_S → Option mx_S := fun q => match q with
  | (_, ls, .inl y :: .inr (.inl x) :: st, h) => some (n, ls, .inr (.inl (x.toUInt64 >>> (y.toInt64.toUInt64 &&& Int64.toUInt64 63)).toInt64) :: st, h)
  | _ => none
def x_lcmp (n : Nat) : mx_S → Option mx_S := fun q => match q with
  | (_, ls, .inr (.inl y) :: .inr (.inl x) :: st, h) => some (n, ls, .inl (lg_cmp x y) :: st, h)
  | _ => none
def x_i2l (n : Nat) : mx_S → Option mx_S := fun q => match q with
  | (_, ls, .inl x :: st, h) => some (n, ls, .inr (.inl x.toInt64) :: st, h)
  | _ => none
def x_dup (n : Nat) : mx_S → Option mx_S := fun q => match q with
  | (_, ls, v :: st, h) => if mx_cat v = 1 then some (n, ls, v :: v :: st, h) else none
  | _ => none
def x_pop (n : Nat) : mx_S → Option mx_S := fun q => match q with
  | (_, ls, v :: st, h) => if mx_cat v = 1 then some (n, ls, st, h) else none
  | _ => none
def x_dupx1 (n : Nat) : mx_S → Option mx_S := fun q => match q with
  | (_, ls, v :: w :: st, h) => if mx_cat v = 1 ∧ mx_cat w = 1 then some (n, ls, v :: w :: v :: st, h) else none
  | _ => none
def x_dup2 (n : Nat) : mx_S → Option mx_S := fun q => match q with
  | (_, ls, v :: w :: st, h) => if mx_cat v = 1 ∧ mx_cat w = 1 then some (n, ls, v :: w :: v :: w :: st, h) else none
  | _ => none
/-- branches on an int: n falls through, t is the target; c: 0 eq, 1 ne, 2 lt, 3 ge, 4 gt, 5 le -/
def x_ifeq (n t : Nat) : mx_S → Option mx_S := fun q => match q with
  | (_, ls, .inl x :: st, h) => some (if x = 0 then t else n, ls, st, h)
  | _ => none
def x_ifne (n t : Nat) : mx_S → Option mx_S := fun q => match q with
  | (_, ls, .inl x :: st, h) => some (if x = 0 then n else t, ls, st, h)
  | _ => none
def x_iflt (n t : Nat) : mx_S → Option mx_S := fun q => match q with
  | (_, ls, .inl x :: st, h) => some (if x < 0 then t else n, ls, st, h)
  | _ => none
def x_ifge (n t : Nat) : mx_S → Option mx_S := fun q => match q with
  | (_, ls, .inl x :: st, h) => some (if 0 ≤ x then t else n, ls, st, h)
  | _ => none
def x_ifgt (n t : Nat) : mx_S → Option mx_S := fun q => match q with
  | (_, ls, .inl x :: st, h) => some (if 0 < x then t else n, ls, st, h)
  | _ => none
def x_ifle (n t : Nat) : mx_S → Option mx_S := fun q => match q with
  | (_, ls, .inl x :: st, h) => some (if x ≤ 0 then t else n, ls, st, h)
  | _ => none
def x_ceq (n t : Nat) : mx_S → Option mx_S := fun q => match q with
  | (_, ls, .inl y :: .inl x :: st, h) => some (if x = y then t else n, ls, st, h)
  | _ => none
def x_cne (n t : Nat) : mx_S → Option mx_S := fun q => match q with
  | (_, ls, .inl y :: .inl x :: st, h) => some (if x = y then n else t, ls, st, h)
  | _ => none
def x_clt (n t : Nat) : mx_S → Option mx_S := fun q => match q with
  | (_, ls, .inl y :: .inl x :: st, h) => some (if x < y then t else n, ls, st, h)
  | _ => none
def x_cge (n t : Nat) : mx_S → Option mx_S := fun q => match q with
  | (_, ls, .inl y :: .inl x :: st, h) => some (if y ≤ x then t else n, ls, st, h)
  | _ => none
def x_cgt (n t : Nat) : mx_S → Option mx_S := fun q => match q with
  | (_, ls, .inl y :: .inl x :: st, h) => some (if y < x then t else n, ls, st, h)
  | _ => none
def x_cle (n t : Nat) : mx_S → Option mx_S := fun q => match q with
  | (_, ls, .inl y :: .inl x :: st, h) => some (if x ≤ y then t else n, ls, st, h)
  | _ => none
def x_aeq (n t : Nat) : mx_S → Option mx_S := fun q => match q with
  | (_, ls, .inr (.inr y) :: .inr (.inr x) :: st, h) => some (if x = y then t else n, ls, st, h)
  | _ => none
def x_ane (n t : Nat) : mx_S → Option mx_S := fun q => match q with
  | (_, ls, .inr (.inr y) :: .inr (.inr x) :: st, h) => some (if x = y then n else t, ls, st, h)
  | _ => none
def x_inul (n t : Nat) : mx_S → Option mx_S := fun q => match q with
  | (_, ls, .inr (.inr x) :: st, h) => some (if x = none then t else n, ls, st, h)
  | _ => none
def x_inn (n t : Nat) : mx_S → Option mx_S := fun q => match q with
  | (_, ls, .inr (.inr x) :: st, h) => some (if x = none then n else t, ls, st, h)
  | _ => none
def x_goto (t : Nat) : mx_S → Option mx_S := fun q => match q with
  | (_, ls, st, h) => some (t, ls, st, h)
def sw_at (ps : List (Int32 × Nat)) (d : Nat) (x : Int32) : Nat := match ps with
  | [] => d
  | (k, t) :: r => if x = k then t else sw_at r d x
def x_sw (ps : List (Int32 × Nat)) (d : Nat) : mx_S → Option mx_S := fun q => match q with
  | (_, ls, .inl x :: st, h) => some (sw_at ps d x, ls, st, h)
  | _ => none
/-- fields of an object of class ci -/
def x_gI (n c k : Nat) : mx_S → Option mx_S := fun q => match q with
  | (_, ls, .inr (.inr (some a)) :: st, h) => if hpK h a = some (.inl c) then some (n, ls, .inl (hpI h a k) :: st, h) else none
  | _ => none
def x_gL (n c k : Nat) : mx_S → Option mx_S := fun q => match q with
  | (_, ls, .inr (.inr (some a)) :: st, h) => if hpK h a = some (.inl c) then some (n, ls, .inr (.inl (hpL h a k)) :: st, h) else none
  | _ => none
def x_gR (n c k : Nat) : mx_S → Option mx_S := fun q => match q with
  | (_, ls, .inr (.inr (some a)) :: st, h) => if hpK h a = some (.inl c) then some (n, ls, .inr (.inr (hpR h a k)) :: st, h) else none
  | _ => none
def x_pI (n c k : Nat) : mx_S → Option mx_S := fun q => match q with
  | (_, ls, .inl x :: .inr (.inr (some a)) :: st, h) => if hpK h a = some (.inl c) then some (n, ls, st, hwI h a k x) else none
  | _ => none
def x_pZ (n c k : Nat) : mx_S → Option mx_S := fun q => match q with
  | (_, ls, .inl x :: .inr (.inr (some a)) :: st, h) => if hpK h a = some (.inl c) ∧ (x = 0 ∨ x = 1) then some (n, ls, st, hwI h a k x) else none
  | _ => none
def x_pL (n c k : Nat) : mx_S → Option mx_S := fun q => match q with
  | (_, ls, .inr (.inl x) :: .inr (.inr (some a)) :: st, h) => if hpK h a = some (.inl c) then some (n, ls, st, hwL h a k x) else none
  | _ => none
def x_pR (n c k : Nat) : mx_S → Option mx_S := fun q => match q with
  | (_, ls, .inr (.inr x) :: .inr (.inr (some a)) :: st, h) => if hpK h a = some (.inl c) then some (n, ls, st, hwR h a k x) else none
  | _ => none
def x_new (n c N : Nat) : mx_S → Option mx_S := fun q => match q with
  | (_, ls, st, h) => some (n, ls, .inr (.inr (some (hpZ h))) :: st, hnw h (.inl c) N)
/-- arrays of the type with the number t -/
def x_nar (n t : Nat) : mx_S → Option mx_S := fun q => match q with
  | (_, ls, .inl x :: st, h) => if ¬ x < 0 ∧ x.toNatClampNeg ≤ 60000000 then some (n, ls, .inr (.inr (some (hpZ h))) :: st, hnw h (.inr (t, x.toNatClampNeg)) x.toNatClampNeg) else none
  | _ => none
def x_ial (n t : Nat) : mx_S → Option mx_S := fun q => match q with
  | (_, ls, .inl j :: .inr (.inr (some a)) :: st, h) => match hpK h a with
    | some (.inr (u, len)) => if u = t ∧ ¬ (j < 0 ∨ len ≤ j.toNatClampNeg) then some (n, ls, .inl (hpI h a j.toNatClampNeg) :: st, h) else none
    | _ => none
  | _ => none
def x_aal (n t : Nat) : mx_S → Option mx_S := fun q => match q with
  | (_, ls, .inl j :: .inr (.inr (some a)) :: st, h) => match hpK h a with
    | some (.inr (u, len)) => if u = t ∧ ¬ (j < 0 ∨ len ≤ j.toNatClampNeg) then some (n, ls, .inr (.inr (hpR h a j.toNatClampNeg)) :: st, h) else none
    | _ => none
  | _ => none
def x_ias (n t : Nat) : mx_S → Option mx_S := fun q => match q with
  | (_, ls, .inl x :: .inl j :: .inr (.inr (some a)) :: st, h) => match hpK h a with
    | some (.inr (u, len)) => if u = t ∧ ¬ (j < 0 ∨ len ≤ j.toNatClampNeg) then some (n, ls, st, hwI h a j.toNatClampNeg x) else none
    | _ => none
  | _ => none
def mx_okr (h : mx_H) (c : Nat) (r : Option Nat) : Bool := match r with
  | none => true
  | some b => decide (hpK h b = some (.inl c))
/-- a reference stored into an array whose elements are of class ci: null, or an object of just this class -/
def x_aas (n t c : Nat) : mx_S → Option mx_S := fun q => match q with
  | (_, ls, .inr (.inr r) :: .inl j :: .inr (.inr (some a)) :: st, h) => match hpK h a with
    | some (.inr (u, len)) => if u = t ∧ ¬ (j < 0 ∨ len ≤ j.toNatClampNeg) ∧ mx_okr h c r = true then some (n, ls, st, hwR h a j.toNatClampNeg r) else none
    | _ => none
  | _ => none
def x_alen (n : Nat) : mx_S → Option mx_S := fun q => match q with
  | (_, ls, .inr (.inr (some a)) :: st, h) => match hpK h a with
    | some (.inr (_, len)) => some (n, ls, .inl (Int32.ofNat len) :: st, h)
    | _ => none
  | _ => none
/-- Object.<init> -/
def x_oin (n : Nat) : mx_S → Option mx_S := fun q => match q with
  | (_, ls, .inr (.inr (some _)) :: st, h) => if mx_cats st ≤ 8 then some (n, ls, st, h) else none
  | _ => none
def x_idiv (n : Nat) : mx_S → Option mx_S := fun q => match q with
  | (_, ls, .inl y :: .inl x :: st, h) => if y = 0 then none else some (n, ls, .inl (x / y) :: st, h)
  | _ => none
def x_irem (n : Nat) : mx_S → Option mx_S := fun q => match q with
  | (_, ls, .inl y :: .inl x :: st, h) => if y = 0 then none else some (n, ls, .inl (x - x / y * y) :: st, h)
  | _ => none
def x_lshr (n : Nat) : mx_S → Option mx_S := fun q => match q with
  | (_, ls, .inl y :: .inr (.inl x) :: st, h) => some (n, ls, .inr (.inl (x >>> (y.toInt64 &&& 63))) :: st, h)
  | _ => none
def x_pop2 (n : Nat) : mx_S → Option mx_S := fun q => match q with
  | (_, ls, .inr (.inl _) :: st, h) => some (n, ls, st, h)
  | _ => none
/-- Math.max -/
def x_max (n : Nat) : mx_S → Option mx_S := fun q => match q with
  | (_, ls, .inl y :: .inl x :: st, h) => if mx_cats st ≤ 8 then some (n, ls, .inl (if x < y then y else x) :: st, h) else none
  | _ => none
/-- the law's own script: L ints xs at the cell b -/
def x_sld (n b L : Nat) (xs : Nat → Int32) : mx_S → Option mx_S := fun q => match q with
  | (_, ls, .inl j :: .inr (.inr (some a)) :: st, h) => if a = b ∧ ¬ (j < 0 ∨ L ≤ j.toNatClampNeg) then some (n, ls, .inl (xs j.toNatClampNeg) :: st, h) else none
  | _ => none
def x_sln (n b L : Nat) : mx_S → Option mx_S := fun q => match q with
  | (_, ls, .inr (.inr (some a)) :: st, h) => if a = b then some (n, ls, .inl (Int32.ofNat L) :: st, h) else none
  | _ => none
def x_lal (n t : Nat) : mx_S → Option mx_S := fun q => match q with
  | (_, ls, .inl j :: .inr (.inr (some a)) :: st, h) => match hpK h a with
    | some (.inr (u, len)) => if u = t ∧ ¬ (j < 0 ∨ len ≤ j.toNatClampNeg) then some (n, ls, .inr (.inl (hpL h a j.toNatClampNeg)) :: st, h) else none
    | _ => none
  | _ => none
def x_las (n t : Nat) : mx_S → Option mx_S := fun q => match q with
  | (_, ls, .inr (.inl x) :: .inl j :: .inr (.inr (some a)) :: st, h) => match hpK h a with
    | some (.inr (u, len)) => if u = t ∧ ¬ (j < 0 ∨ len ≤ j.toNatClampNeg) then some (n, ls, st, hwL h a j.toNatClampNeg x) else none
    | _ => none
  | _ => none
def mx_ret (t : Nat) (st : List mx_V) (r : Option mx_V) : Prop := match t with
  | 0 => ∃ x : Int32, st = [.inl x] ∧ r = some (.inl x)
  | 1 => ∃ x : Int64, st = [.inr (.inl x)] ∧ r = some (.inr (.inl x))
  | 2 => ∃ x : Option Nat, st = [.inr (.inr x)] ∧ r = some (.inr (.inr x))
  | 3 => ∃ x : Int32, st = [.inl x] ∧ r = some (.inl x) ∧ (x = 0 ∨ x = 1)
  | _ => st = [] ∧ r = none
def mx_rcv (kind : Nat) (as : List mx_V) (h : mx_H) : Prop := match kind with
  | 0 => True
  | 1 => ∃ b, as.head? = some (.inr (.inr (some b)))
  | k + 2 => ∃ b, as.head? = some (.inr (.inr (some b))) ∧ hpK h b = some (.inl k)
abbrev mx_C : Type := Nat → List mx_V → mx_H → Option mx_V → mx_H → Prop
def mx_Run (C : mx_C) (code : Nat → mx_I) : Nat → mx_S → Option mx_V → mx_H → Prop
  | 0, _, _, _ => False
  | n + 1, q, r, h' => match code q.1 with
    | .inl f => ∃ q', f q = some q' ∧ mx_Run C code n q' r h'
    | .inr (.inl (j, k, nxt, kind)) => ∃ as rest r1 h1, q.2.2.1 = as.reverse ++ rest ∧ as.length = k ∧ mx_cats rest ≤ 8 ∧ mx_rcv kind as q.2.2.2 ∧ C j as q.2.2.2 r1 h1 ∧ mx_Run C code n (nxt, q.2.1, r1.toList ++ rest, h1) r h'
    | .inr (.inr t) => mx_ret t q.2.2.1 r ∧ h' = q.2.2.2
/-- the run comes to its end, with Q -/
def mx_W (C : mx_C) (code : Nat → mx_I) (q : mx_S) (Q : Option mx_V → mx_H → Prop) : Prop := ∃ n r h', mx_Run C code n q r h' ∧ Q r h'
section
variable {C : mx_C} {code : Nat → mx_I} {Q : Option mx_V → mx_H → Prop}
theorem mw_go {q q' : mx_S} {f : mx_S → Option mx_S} (hc : code q.1 = .inl f) (hf : f q = some q') (k : mx_W C code q' Q) : mx_W C code q Q := by
  obtain ⟨n, r, h', h1, h2⟩ := k
  refine ⟨n + 1, r, h', ?_, h2⟩
  simp only [mx_Run, hc]
  exact ⟨q', hf, h1⟩
theorem mw_call {i : Nat} {ls : mx_L} {st rest : List mx_V} {h h1 : mx_H} {j k nxt kind : Nat} {as : List mx_V} {r1 : Option mx_V} (hc : code i = .inr (.inl (j, k, nxt, kind))) (hst : st = as.reverse ++ rest) (hk : as.length = k) (hcat : mx_cats rest ≤ 8) (hr : mx_rcv kind as h) (hC : C j as h r1 h1) (kk : mx_W C code (nxt, ls, r1.toList ++ rest, h1) Q) : mx_W C code (i, ls, st, h) Q := by
  obtain ⟨n, r, h', e1, e2⟩ := kk
  refine ⟨n + 1, r, h', ?_, e2⟩
  simp only [mx_Run, hc]
  exact ⟨as, rest, r1, h1, hst, hk, hcat, hr, hC, e1⟩
theorem mw_ret {i : Nat} {ls : mx_L} {st : List mx_V} {h : mx_H} {t : Nat} {r : Option mx_V} (hc : code i = .inr (.inr t)) (hr : mx_ret t st r) (hq : Q r h) : mx_W C code (i, ls, st, h) Q := by
  refine ⟨1, r, h, ?_, hq⟩
  simp only [mx_Run, hc]
  exact ⟨hr, trivial⟩
theorem mw_if {c : Prop} (hd : Decidable c) {a b : Nat} {x : mx_L × List mx_V × mx_H} (h1 : c → mx_W C code (a, x) Q) (h2 : ¬ c → mx_W C code (b, x) Q) : mx_W C code (@ite _ c hd a b, x) Q := by
  by_cases hc : c
  · rw [if_pos hc]; exact h1 hc
  · rw [if_neg hc]; exact h2 hc
theorem mw_cons {q : mx_S} {Q' : Option mx_V → mx_H → Prop} (h : mx_W C code q Q') (hq : ∀ r h', Q' r h' → Q r h') : mx_W C code q Q := by
  obtain ⟨n, r, h', e1, e2⟩ := h
  exact ⟨n, r, h', e1, hq _ _ e2⟩
end
def ml_args (as : List mx_V) : mx_L := match as with
  | [] => []
  | v :: t => some v :: (if mx_cat v = 2 then none :: ml_args t else ml_args t)
def ml_pad (n : Nat) (ls : mx_L) : mx_L := match n, ls with
  | 0, _ => []
  | n + 1, [] => none :: ml_pad n []
  | n + 1, q :: t => q :: ml_pad n t
/-- calls of the methods of a program (places for locals, code), d frames deep -/
def mx_Call (prog : Nat → Nat × (Nat → mx_I)) : Nat → mx_C
  | 0 => fun _ _ _ _ _ => False
  | d + 1 => fun j as h r h' => mx_cats as ≤ (prog j).1 ∧ ∃ n, mx_Run (mx_Call prog d) (prog j).2 n (0, ml_pad (prog j).1 (ml_args as), [], h) r h'
theorem mc_of {prog : Nat → Nat × (Nat → mx_I)} {d j : Nat} {as : List mx_V} {h : mx_H} {Q : Option mx_V → mx_H → Prop} (hfit : mx_cats as ≤ (prog j).1) (hw : mx_W (mx_Call prog d) (prog j).2 (0, ml_pad (prog j).1 (ml_args as), [], h) Q) : ∃ r h', mx_Call prog (d + 1) j as h r h' ∧ Q r h' := by
  obtain ⟨n, r, h', h1, h2⟩ := hw
  exact ⟨r, h', ⟨hfit, n, h1⟩, h2⟩
theorem ml_pad_at {n : Nat} : ∀ {ls : mx_L} {i : Nat} {v : mx_V}, (ml_pad n ls)[i]? = some (some v) → ls[i]? = some (some v) := by
  induction n with
  | zero => intro ls i v h; simp [ml_pad] at h
  | succ n ih =>
    intro ls i v h
    cases ls with
    | nil =>
      cases i with
      | zero => simp [ml_pad] at h
      | succ i => simp only [ml_pad, List.getElem?_cons_succ] at h; have := ih h; simp at this
    | cons q t =>
      cases i with
      | zero => simpa [ml_pad] using h
      | succ i => simp only [ml_pad, List.getElem?_cons_succ] at h; simpa using ih h
theorem ml_args_in : ∀ {as : List mx_V} {k i : Nat} {v : mx_V}, (ml_args as)[i]? = some (some v) → (k + i, mx_v v) ∈ lv_args k (as.map mx_v) := by
  intro as
  induction as with
  | nil => intro k i v h; simp [ml_args] at h
  | cons w t ih =>
    intro k i v h
    simp only [List.map_cons, lv_args, mx_cat_eq]
    cases i with
    | zero => simp [ml_args] at h; subst h; simp
    | succ i =>
      simp only [ml_args, List.getElem?_cons_succ] at h
      by_cases hc : mx_cat w = 2
      · rw [if_pos hc] at h ⊢
        cases i with
        | zero => simp at h
        | succ i =>
          simp only [List.getElem?_cons_succ] at h
          have := ih (k := k + 2) h
          refine List.mem_cons_of_mem _ ?_
          rwa [show k + (i + 1 + 1) = k + 2 + i by omega]
      · rw [if_neg hc] at h ⊢
        have := ih (k := k + 1) h
        refine List.mem_cons_of_mem _ ?_
        rwa [show k + (i + 1) = k + 1 + i by omega]
theorem ml_entry {arr : Array Slot} {n k : Nat} {as : List mx_V} (h : lv_has arr n (lv_args 0 (as.map mx_v))) : ml_has arr n (ml_pad k (ml_args as)) := by
  refine ⟨h.1, h.2.1, fun q hq => h.2.2 q ?_⟩
  obtain ⟨i, v, rfl, hi⟩ := ml_as_mem.mp hq
  exact ml_args_in (ml_pad_at hi)
theorem mx_len (as : List mx_V) : (lg_sl (as.map mx_v)).length = mx_cats as := by
  induction as with
  | nil => rfl
  | cons v t ih =>
    rcases v with x | x | (_ | a) <;> simp_all [lg_sl, mx_cats, mx_cat, mx_v, va_rf, Value.category] <;> omega
