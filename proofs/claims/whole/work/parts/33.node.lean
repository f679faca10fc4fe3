/-! The class's NODES in the heap, and its methods that read them. -/
section
variable {C : mx_C} {code : Nat → mx_I} {Q : Option mx_V → mx_H → Prop} {i n c k : Nat} {ls : mx_L} {st : List mx_V} {h : mx_H} {a : Nat} {r : Option Nat}
theorem mv_gI {x : Int32} (hc : code i = .inl (x_gI n c k)) (hr : r = some a) (hk : hpK h a = some (.inl c)) (hv : hpI h a k = x) (kk : mx_W C code (n, ls, .inl x :: st, h) Q) : mx_W C code (i, ls, .inr (.inr r) :: st, h) Q := mw_gI hc hr hk (by rw [hv]; exact kk)
theorem mv_gL {x : Int64} (hc : code i = .inl (x_gL n c k)) (hr : r = some a) (hk : hpK h a = some (.inl c)) (hv : hpL h a k = x) (kk : mx_W C code (n, ls, .inr (.inl x) :: st, h) Q) : mx_W C code (i, ls, .inr (.inr r) :: st, h) Q := mw_gL hc hr hk (by rw [hv]; exact kk)
theorem mv_gR {x : Option Nat} (hc : code i = .inl (x_gR n c k)) (hr : r = some a) (hk : hpK h a = some (.inl c)) (hv : hpR h a k = x) (kk : mx_W C code (n, ls, .inr (.inr x) :: st, h) Q) : mx_W C code (i, ls, .inr (.inr r) :: st, h) Q := mw_gR hc hr hk (by rw [hv]; exact kk)
end
def oI (b : Bool) (v : Nat) : Int32 := if b then nI v else -1
/-- a chain of NODES from r on by the field f -/
def Chn (na : Nat → Nat) (h : mx_H) (f : Nat) (r : Option Nat) (l : List Nat) : Prop := match l with
  | [] => r = none
  | c :: l => r = some (na c) ∧ Chn na h f (hpR h (na c) f) l
/-- the NODE i of the tree t at its cell; κ: the KINDS that they bear -/
def nAt (na : Nat → Nat) (t : tr) (κ : Nat → Nat) (h : mx_H) (i : Nat) : Prop :=
  hpK h (na i) = some (.inl 1) ∧ hpI h (na i) 0 = nI (tS t i) ∧ hpL h (na i) 1 = tM t i ∧ hpI h (na i) 2 = nI i ∧ hpI h (na i) 3 = nI (tD t i) ∧ hpI h (na i) 4 = nI (κ i) ∧
  hpI h (na i) 5 = oI (tS t i == 5) (tV t i) ∧ hpI h (na i) 6 = oI (tS t i == 5) (tG t i) ∧ hpI h (na i) 7 = oI (tS t i == 5) (tA t i) ∧ hpI h (na i) 8 = nI (tC t i).length ∧
  hpR h (na i) 9 = (if i = 0 then none else some (na (tP t i))) ∧ Chn na h 12 (hpR h (na i) 10) (tC t i) ∧ hpR h (na i) 11 = (tC t i).getLast?.map na
def nAll (na : Nat → Nat) (t : tr) (κ : Nat → Nat) (h : mx_H) : Prop := ∀ i, i < tN t → nAt na t κ h i
section
variable {na : Nat → Nat} {t : tr} {κ : Nat → Nat} {h : mx_H} {i : Nat}
theorem nAt.K (H : nAt na t κ h i) : hpK h (na i) = some (.inl 1) := H.1
theorem nAt.S (H : nAt na t κ h i) : hpI h (na i) 0 = nI (tS t i) := H.2.1
theorem nAt.M (H : nAt na t κ h i) : hpL h (na i) 1 = tM t i := H.2.2.1
theorem nAt.N (H : nAt na t κ h i) : hpI h (na i) 2 = nI i := H.2.2.2.1
theorem nAt.D (H : nAt na t κ h i) : hpI h (na i) 3 = nI (tD t i) := H.2.2.2.2.1
theorem nAt.k (H : nAt na t κ h i) : hpI h (na i) 4 = nI (κ i) := H.2.2.2.2.2.1
theorem nAt.V (H : nAt na t κ h i) : hpI h (na i) 5 = oI (tS t i == 5) (tV t i) := H.2.2.2.2.2.2.1
theorem nAt.G (H : nAt na t κ h i) : hpI h (na i) 6 = oI (tS t i == 5) (tG t i) := H.2.2.2.2.2.2.2.1
theorem nAt.A (H : nAt na t κ h i) : hpI h (na i) 7 = oI (tS t i == 5) (tA t i) := H.2.2.2.2.2.2.2.2.1
theorem nAt.c (H : nAt na t κ h i) : hpI h (na i) 8 = nI (tC t i).length := H.2.2.2.2.2.2.2.2.2.1
theorem nAt.P (H : nAt na t κ h i) : hpR h (na i) 9 = (if i = 0 then none else some (na (tP t i))) := H.2.2.2.2.2.2.2.2.2.2.1
theorem nAt.C (H : nAt na t κ h i) : Chn na h 12 (hpR h (na i) 10) (tC t i) := H.2.2.2.2.2.2.2.2.2.2.2.1
theorem nAt.l (H : nAt na t κ h i) : hpR h (na i) 11 = (tC t i).getLast?.map na := H.2.2.2.2.2.2.2.2.2.2.2.2
theorem nAt.V5 (H : nAt na t κ h i) (h5 : tS t i = 5) : hpI h (na i) 5 = nI (tV t i) := by rw [H.V, h5]; rfl
theorem nAt.G5 (H : nAt na t κ h i) (h5 : tS t i = 5) : hpI h (na i) 6 = nI (tG t i) := by rw [H.G, h5]; rfl
theorem nAt.A5 (H : nAt na t κ h i) (h5 : tS t i = 5) : hpI h (na i) 7 = nI (tA t i) := by rw [H.A, h5]; rfl
end
theorem nI_ne {a b : Nat} (ha : a < 2 ^ 31) (hb : b < 2 ^ 31) (h : a ≠ b) : ¬ nI a = nI b := fun e => h ((nI_eq ha hb).mp e)
theorem N_bit_ok (d : Nat) (h : mx_H) (x : Nat) : cl (d + 1) j_N_bit [.inl (nI x)] h (some (.inr (.inl (bL x)))) h := by
  refine cl_of (Nat.le_of_ble_eq_true rfl) ?_
  show mx_W _ (mx_nth cd_N_bit) (0, [some (.inl (nI x))], [], h) _
  iterate 3 refine mw_go rfl rfl ?_
  exact mw_r1 rfl ⟨rfl, rfl⟩
theorem N_has_ok (d : Nat) (h : mx_H) (w : Int64) {x : Nat} (hx : x < 64) : cl (d + 1) j_N_has [.inr (.inl w), .inl (nI x)] h (some (.inl (bI (tb w x)))) h := by
  refine cl_of (Nat.le_of_ble_eq_true rfl) ?_
  show mx_W _ (mx_nth cd_N_has) (0, [some (.inr (.inl w)), none, some (.inl (nI x))], [], h) _
  iterate 7 refine mw_go rfl rfl ?_
  refine mw_go rfl rfl ?_
  rw [tb_ushr w hx]
  refine mw_if _ (fun hc => ?_) (fun hc => ?_)
  · have : tb w x = false := by
      cases hb : tb w x with
      | false => rfl
      | true => rw [hb] at hc; exact absurd hc (by decide)
    iterate 1 refine mw_go rfl rfl ?_
    exact mw_r3 rfl (Or.inl rfl) ⟨by rw [this]; rfl, rfl⟩
  · have : tb w x = true := by
      cases hb : tb w x with
      | true => rfl
      | false => rw [hb] at hc; exact absurd (by decide) hc
    iterate 2 refine mw_go rfl rfl ?_
    exact mw_r3 rfl (Or.inr rfl) ⟨by rw [this]; rfl, rfl⟩
