/-! Rules for runs of the abstract machine: heap instructions, calls. -/
section
variable {C : mx_C} {code : Nat → mx_I} {Q : Option mx_V → mx_H → Prop} {i n c k : Nat} {ls : mx_L} {st : List mx_V} {h : mx_H} {a : Nat} {r : Option Nat}
theorem mw_gI (hc : code i = .inl (x_gI n c k)) (hr : r = some a) (hk : hpK h a = some (.inl c)) (kk : mx_W C code (n, ls, .inl (hpI h a k) :: st, h) Q) : mx_W C code (i, ls, .inr (.inr r) :: st, h) Q := by
  subst hr; exact mw_go hc (by show x_gI n c k _ = _; simp only [x_gI, hk, if_true]) kk
theorem mw_gL (hc : code i = .inl (x_gL n c k)) (hr : r = some a) (hk : hpK h a = some (.inl c)) (kk : mx_W C code (n, ls, .inr (.inl (hpL h a k)) :: st, h) Q) : mx_W C code (i, ls, .inr (.inr r) :: st, h) Q := by
  subst hr; exact mw_go hc (by show x_gL n c k _ = _; simp only [x_gL, hk, if_true]) kk
theorem mw_gR (hc : code i = .inl (x_gR n c k)) (hr : r = some a) (hk : hpK h a = some (.inl c)) (kk : mx_W C code (n, ls, .inr (.inr (hpR h a k)) :: st, h) Q) : mx_W C code (i, ls, .inr (.inr r) :: st, h) Q := by
  subst hr; exact mw_go hc (by show x_gR n c k _ = _; simp only [x_gR, hk, if_true]) kk
theorem mw_pI {x : Int32} (hc : code i = .inl (x_pI n c k)) (hr : r = some a) (hk : hpK h a = some (.inl c)) (kk : mx_W C code (n, ls, st, hwI h a k x) Q) : mx_W C code (i, ls, .inl x :: .inr (.inr r) :: st, h) Q := by
  subst hr; exact mw_go hc (by show x_pI n c k _ = _; simp only [x_pI, hk, if_true]) kk
theorem mw_pZ {x : Int32} (hc : code i = .inl (x_pZ n c k)) (hr : r = some a) (hk : hpK h a = some (.inl c)) (hx : x = 0 ∨ x = 1) (kk : mx_W C code (n, ls, st, hwI h a k x) Q) : mx_W C code (i, ls, .inl x :: .inr (.inr r) :: st, h) Q := by
  subst hr; exact mw_go hc (by show x_pZ n c k _ = _; simp only [x_pZ, hk, hx, and_self, if_true]) kk
theorem mw_pL {x : Int64} (hc : code i = .inl (x_pL n c k)) (hr : r = some a) (hk : hpK h a = some (.inl c)) (kk : mx_W C code (n, ls, st, hwL h a k x) Q) : mx_W C code (i, ls, .inr (.inl x) :: .inr (.inr r) :: st, h) Q := by
  subst hr; exact mw_go hc (by show x_pL n c k _ = _; simp only [x_pL, hk, if_true]) kk
theorem mw_pR {x : Option Nat} (hc : code i = .inl (x_pR n c k)) (hr : r = some a) (hk : hpK h a = some (.inl c)) (kk : mx_W C code (n, ls, st, hwR h a k x) Q) : mx_W C code (i, ls, .inr (.inr x) :: .inr (.inr r) :: st, h) Q := by
  subst hr; exact mw_go hc (by show x_pR n c k _ = _; simp only [x_pR, hk, if_true]) kk
theorem mw_ial {t len : Nat} {j : Int32} {v : Nat} (hc : code i = .inl (x_ial n t)) (hr : r = some a) (hk : hpK h a = some (.inr (t, len))) (hj : j = nI v) (hv : v < len) (hl : len < 2 ^ 31) (kk : mx_W C code (n, ls, .inl (hpI h a v) :: st, h) Q) : mx_W C code (i, ls, .inl j :: .inr (.inr r) :: st, h) Q := by
  subst hr; subst hj
  have h1 := nI_in hv hl
  have h2 : (nI v).toNatClampNeg = v := nI_clamp (by omega)
  rw [h2] at h1
  refine mw_go hc ?_ kk
  show x_ial n t _ = _
  simp only [x_ial, hk, h1, not_false_eq_true, and_self, if_true, h2]
theorem mw_lal {t len : Nat} {j : Int32} {v : Nat} (hc : code i = .inl (x_lal n t)) (hr : r = some a) (hk : hpK h a = some (.inr (t, len))) (hj : j = nI v) (hv : v < len) (hl : len < 2 ^ 31) (kk : mx_W C code (n, ls, .inr (.inl (hpL h a v)) :: st, h) Q) : mx_W C code (i, ls, .inl j :: .inr (.inr r) :: st, h) Q := by
  subst hr; subst hj
  have h1 := nI_in hv hl
  have h2 : (nI v).toNatClampNeg = v := nI_clamp (by omega)
  rw [h2] at h1
  refine mw_go hc ?_ kk
  show x_lal n t _ = _
  simp only [x_lal, hk, h1, not_false_eq_true, and_self, if_true, h2]
theorem mw_aal {t len : Nat} {j : Int32} {v : Nat} (hc : code i = .inl (x_aal n t)) (hr : r = some a) (hk : hpK h a = some (.inr (t, len))) (hj : j = nI v) (hv : v < len) (hl : len < 2 ^ 31) (kk : mx_W C code (n, ls, .inr (.inr (hpR h a v)) :: st, h) Q) : mx_W C code (i, ls, .inl j :: .inr (.inr r) :: st, h) Q := by
  subst hr; subst hj
  have h1 := nI_in hv hl
  have h2 : (nI v).toNatClampNeg = v := nI_clamp (by omega)
  rw [h2] at h1
  refine mw_go hc ?_ kk
  show x_aal n t _ = _
  simp only [x_aal, hk, h1, not_false_eq_true, and_self, if_true, h2]
theorem mw_ias {t len : Nat} {x j : Int32} {v : Nat} (hc : code i = .inl (x_ias n t)) (hr : r = some a) (hk : hpK h a = some (.inr (t, len))) (hj : j = nI v) (hv : v < len) (hl : len < 2 ^ 31) (kk : mx_W C code (n, ls, st, hwI h a v x) Q) : mx_W C code (i, ls, .inl x :: .inl j :: .inr (.inr r) :: st, h) Q := by
  subst hr; subst hj
  have h1 := nI_in hv hl
  have h2 : (nI v).toNatClampNeg = v := nI_clamp (by omega)
  rw [h2] at h1
  refine mw_go hc ?_ kk
  show x_ias n t _ = _
  simp only [x_ias, hk, h1, not_false_eq_true, and_self, if_true, h2]
theorem mw_las {t len : Nat} {x : Int64} {j : Int32} {v : Nat} (hc : code i = .inl (x_las n t)) (hr : r = some a) (hk : hpK h a = some (.inr (t, len))) (hj : j = nI v) (hv : v < len) (hl : len < 2 ^ 31) (kk : mx_W C code (n, ls, st, hwL h a v x) Q) : mx_W C code (i, ls, .inr (.inl x) :: .inl j :: .inr (.inr r) :: st, h) Q := by
  subst hr; subst hj
  have h1 := nI_in hv hl
  have h2 : (nI v).toNatClampNeg = v := nI_clamp (by omega)
  rw [h2] at h1
  refine mw_go hc ?_ kk
  show x_las n t _ = _
  simp only [x_las, hk, h1, not_false_eq_true, and_self, if_true, h2]
theorem mw_aas {t len : Nat} {x : Option Nat} {j : Int32} {v : Nat} (hc : code i = .inl (x_aas n t c)) (hr : r = some a) (hk : hpK h a = some (.inr (t, len))) (hj : j = nI v) (hv : v < len) (hl : len < 2 ^ 31) (hx : ∀ b, x = some b → hpK h b = some (.inl c)) (kk : mx_W C code (n, ls, st, hwR h a v x) Q) : mx_W C code (i, ls, .inr (.inr x) :: .inl j :: .inr (.inr r) :: st, h) Q := by
  subst hr; subst hj
  have h1 := nI_in hv hl
  have h2 : (nI v).toNatClampNeg = v := nI_clamp (by omega)
  rw [h2] at h1
  have h3 : mx_okr h c x = true := by
    cases x with
    | none => rfl
    | some b => exact decide_eq_true (hx b rfl)
  refine mw_go hc ?_ kk
  show x_aas n t c _ = _
  simp only [x_aas, hk, h1, h3, not_false_eq_true, and_self, if_true, h2]
theorem mw_alen {t len : Nat} (hc : code i = .inl (x_alen n)) (hr : r = some a) (hk : hpK h a = some (.inr (t, len))) (kk : mx_W C code (n, ls, .inl (nI len) :: st, h) Q) : mx_W C code (i, ls, .inr (.inr r) :: st, h) Q := by
  subst hr; exact mw_go hc (by show x_alen n _ = _; simp only [x_alen, hk]; rfl) kk
theorem mw_div {x y : Int32} (hc : code i = .inl (x_idiv n)) (hy : ¬ y = 0) (kk : mx_W C code (n, ls, .inl (x / y) :: st, h) Q) : mx_W C code (i, ls, .inl y :: .inl x :: st, h) Q :=
  mw_go hc (by show x_idiv n _ = _; simp only [x_idiv, hy, if_false]) kk
theorem mw_rem {x y : Int32} (hc : code i = .inl (x_irem n)) (hy : ¬ y = 0) (kk : mx_W C code (n, ls, .inl (x - x / y * y) :: st, h) Q) : mx_W C code (i, ls, .inl y :: .inl x :: st, h) Q :=
  mw_go hc (by show x_irem n _ = _; simp only [x_irem, hy, if_false]) kk
theorem mw_nar {x : Int32} {t v : Nat} (hc : code i = .inl (x_nar n t)) (hx : x = nI v) (hv : v ≤ 60000000) (kk : mx_W C code (n, ls, .inr (.inr (some (hpZ h))) :: st, hnw h (.inr (t, v)) v) Q) : mx_W C code (i, ls, .inl x :: st, h) Q := by
  subst hx
  have h2 : (nI v).toNatClampNeg = v := nI_clamp (by omega)
  refine mw_go hc ?_ kk
  show x_nar n t _ = _
  simp only [x_nar, nI_pos (show v < 2 ^ 31 by omega), not_false_eq_true, h2, hv, and_self, if_true]
/-- an answer of one value -/
theorem mw_r0 {x : Int32} (hc : code i = .inr (.inr 0)) (hq : Q (some (.inl x)) h) : mx_W C code (i, ls, [.inl x], h) Q := mw_ret hc ⟨x, rfl, rfl⟩ hq
theorem mw_r1 {x : Int64} (hc : code i = .inr (.inr 1)) (hq : Q (some (.inr (.inl x))) h) : mx_W C code (i, ls, [.inr (.inl x)], h) Q := mw_ret hc ⟨x, rfl, rfl⟩ hq
theorem mw_r2 {x : Option Nat} (hc : code i = .inr (.inr 2)) (hq : Q (some (.inr (.inr x))) h) : mx_W C code (i, ls, [.inr (.inr x)], h) Q := mw_ret hc ⟨x, rfl, rfl⟩ hq
theorem mw_r3 {x : Int32} (hc : code i = .inr (.inr 3)) (hx : x = 0 ∨ x = 1) (hq : Q (some (.inl x)) h) : mx_W C code (i, ls, [.inl x], h) Q := mw_ret hc ⟨x, rfl, rfl, hx⟩ hq
theorem mw_r4 (hc : code i = .inr (.inr 4)) (hq : Q none h) : mx_W C code (i, ls, [], h) Q := mw_ret hc ⟨rfl, rfl⟩ hq
end
/-- a call of the method j, d deep, answers r and leaves the heap h' -/
abbrev cl (d j : Nat) (as : List mx_V) (h : mx_H) (r : Option mx_V) (h' : mx_H) : Prop := mx_Call mx_prog d j as h r h'
theorem cl_of {d j : Nat} {as : List mx_V} {h : mx_H} {r : Option mx_V} {h' : mx_H} (hfit : mx_cats as ≤ (mx_prog j).1) (hw : mx_W (mx_Call mx_prog d) (mx_prog j).2 (0, ml_pad (mx_prog j).1 (ml_args as), [], h) (fun r1 h1 => r1 = r ∧ h1 = h')) : cl (d + 1) j as h r h' := by
  obtain ⟨r1, h1, hc, rfl, rfl⟩ := mc_of hfit hw
  exact hc
section
variable {C : mx_C} {code : Nat → mx_I} {Q : Option mx_V → mx_H → Prop} {i : Nat} {ls : mx_L} {st rest as : List mx_V} {h h1 : mx_H} {j k nxt kind : Nat} {v : mx_V}
theorem mw_cv (hC : C j as h (some v) h1) (hc : code i = .inr (.inl (j, k, nxt, kind))) (hst : st = as.reverse ++ rest) (hk : as.length = k) (hcat : mx_cats rest ≤ 8) (hr : mx_rcv kind as h) (kk : mx_W C code (nxt, ls, v :: rest, h1) Q) : mx_W C code (i, ls, st, h) Q := mw_call hc hst hk hcat hr hC kk
theorem mw_cn (hC : C j as h none h1) (hc : code i = .inr (.inl (j, k, nxt, kind))) (hst : st = as.reverse ++ rest) (hk : as.length = k) (hcat : mx_cats rest ≤ 8) (hr : mx_rcv kind as h) (kk : mx_W C code (nxt, ls, rest, h1) Q) : mx_W C code (i, ls, st, h) Q := mw_call hc hst hk hcat hr hC kk
end
