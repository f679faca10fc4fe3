/-! Bits of a long; the tree of NODES; what the document says of it, as functions. -/
def bL (x : Nat) : Int64 := 1 <<< ((nI x).toInt64 &&& 63)
def tb (w : Int64) (x : Nat) : Bool := w.toBitVec.getLsbD x
theorem bL_bv : ∀ x, x < 64 → (bL x).toBitVec = BitVec.twoPow 64 x := by decide +kernel
theorem tb_zero (y : Nat) : tb 0 y = false := by simp [tb]
theorem tb_or (w : Int64) {x : Nat} (y : Nat) (hx : x < 64) : tb (w ||| bL x) y = (tb w y || decide (x = y)) := by
  unfold tb
  rw [Int64.toBitVec_or, BitVec.getLsbD_or, bL_bv x hx, BitVec.getLsbD_twoPow]
  simp [hx]
theorem tb_or2 (w v : Int64) (y : Nat) : tb (w ||| v) y = (tb w y || tb v y) := by
  unfold tb
  rw [Int64.toBitVec_or, BitVec.getLsbD_or]
theorem tb_bL {x : Nat} (y : Nat) (hx : x < 64) : tb (bL x) y = decide (x = y) := by
  unfold tb
  rw [bL_bv x hx, BitVec.getLsbD_twoPow]
  simp [hx]
theorem tb_and (w v : Int64) (y : Nat) : tb (w &&& v) y = (tb w y && tb v y) := by
  unfold tb
  rw [Int64.toBitVec_and, BitVec.getLsbD_and]
theorem tb_not (w : Int64) {y : Nat} (hy : y < 64) : tb (w ^^^ (-1)) y = !tb w y := by
  unfold tb
  have ha : (-1 : Int64).toBitVec = BitVec.allOnes 64 := by decide
  rw [Int64.toBitVec_xor, ha, BitVec.getLsbD_xor, BitVec.getLsbD_allOnes]
  simp [hy]
theorem tb_clr (w : Int64) {x y : Nat} (hx : x < 64) (hy : y < 64) : tb (w &&& (bL x ^^^ (-1))) y = (tb w y && !decide (x = y)) := by
  rw [tb_and, tb_not _ hy, tb_bL y hx]
theorem wc_u : ∀ k, k < 64 → ((nI k).toInt64.toUInt64 &&& Int64.toUInt64 63) = UInt64.ofNat k := by decide +kernel
theorem wc_s : ∀ k, k < 64 → (((nI k).toInt64 &&& 63).toBitVec.smod 64) = BitVec.ofNat 64 k := by decide +kernel
theorem tb_ushr (w : Int64) {x : Nat} (hx : x < 64) : ((w.toUInt64 >>> ((nI x).toInt64.toUInt64 &&& Int64.toUInt64 63)).toInt64 &&& 1) = if tb w x then 1 else 0 := by
  rw [wc_u x hx]
  have hs : (UInt64.ofNat x).toNat = x := by
    show (BitVec.ofNat 64 x).toNat = x
    rw [BitVec.toNat_ofNat, Nat.mod_eq_of_lt (by omega)]
  have e : (w.toUInt64 >>> UInt64.ofNat x).toInt64.toBitVec = w.toBitVec >>> x := by
    apply BitVec.eq_of_toNat_eq
    show (w.toUInt64 >>> UInt64.ofNat x).toNat = _
    rw [UInt64.toNat_shiftRight, hs, Nat.mod_eq_of_lt hx, BitVec.toNat_ushiftRight]
    rfl
  apply Int64.toBitVec_inj.mp
  rw [Int64.toBitVec_and, e]
  unfold tb
  apply BitVec.eq_of_getLsbD_eq
  intro i hi
  rw [BitVec.getLsbD_and, BitVec.getLsbD_ushiftRight]
  have h1 : (1 : Int64).toBitVec = 1#64 := by decide
  rw [h1]
  by_cases h0 : i = 0
  · subst h0
    cases hb : w.toBitVec.getLsbD x <;> simp [hb]
  · have : (1#64).getLsbD i = false := by simp [h0]
    rw [this, Bool.and_false]
    cases w.toBitVec.getLsbD x
    · simp
    · simp [h0]
theorem tb_shr (w : Int64) {x : Nat} (hx : x < 64) : ((w >>> ((nI x).toInt64 &&& 63)) &&& 1) = if tb w x then 1 else 0 := by
  apply Int64.toBitVec_inj.mp
  rw [Int64.toBitVec_and, Int64.toBitVec_shiftRight, wc_s x hx]
  unfold tb
  apply BitVec.eq_of_getLsbD_eq
  intro i hi
  have h1 : (1 : Int64).toBitVec = 1#64 := by decide
  rw [BitVec.getLsbD_and, h1]
  by_cases h0 : i = 0
  · subst h0
    have hm : (BitVec.ofNat 64 x).toNat = x := by rw [BitVec.toNat_ofNat, Nat.mod_eq_of_lt (by omega)]
    rw [show w.toBitVec.sshiftRight' (BitVec.ofNat 64 x) = w.toBitVec.sshiftRight x from by show w.toBitVec.sshiftRight (BitVec.ofNat 64 x).toNat = _; rw [hm]]
    rw [BitVec.getLsbD_sshiftRight]
    cases hb : w.toBitVec.getLsbD x <;> simp [hb, hx]
  · have : (1#64).getLsbD i = false := by simp [h0]
    rw [this, Bool.and_false]
    cases w.toBitVec.getLsbD x
    · simp
    · simp [h0]
/-- a NODE: its SORT, the NODE that it is a PART of, its PARTS, its value (the KIND of a GOAL, the variable of a TAKE), TAG, ALL, what it MAKES, how deep -/
abbrev tn : Type := Nat × Nat × List Nat × Nat × Nat × Nat × Int64 × Nat
/-- a tree: how many NODES, and these -/
abbrev tr : Type := Nat × (Nat → tn)
abbrev tN (t : tr) : Nat := t.1
abbrev tS (t : tr) (i : Nat) : Nat := (t.2 i).1
abbrev tP (t : tr) (i : Nat) : Nat := (t.2 i).2.1
abbrev tC (t : tr) (i : Nat) : List Nat := (t.2 i).2.2.1
abbrev tV (t : tr) (i : Nat) : Nat := (t.2 i).2.2.2.1
abbrev tG (t : tr) (i : Nat) : Nat := (t.2 i).2.2.2.2.1
abbrev tA (t : tr) (i : Nat) : Nat := (t.2 i).2.2.2.2.2.1
abbrev tM (t : tr) (i : Nat) : Int64 := (t.2 i).2.2.2.2.2.2.1
abbrev tD (t : tr) (i : Nat) : Nat := (t.2 i).2.2.2.2.2.2.2
/-- what every tree at work is -/
def tOk (t : tr) : Prop := 1 ≤ tN t ∧ tN t ≤ 250 ∧ ∀ i, i < tN t → tS t i < 6 ∧ tD t i ≤ 20 ∧ (∀ c ∈ tC t i, i < c ∧ c < tN t ∧ tP t c = i) ∧ (tC t i).Nodup ∧ (3 < tS t i → tC t i = []) ∧
  (tS t i = 2 → (tC t i).length ≤ 1) ∧ (tS t i = 3 → (tC t i).length ≤ 3) ∧ (tS t i = 4 → tV t i < 5) ∧ (tS t i = 5 → tV t i < 60 ∧ tG t i < 100 ∧ tA t i ≤ 100) ∧ (0 < i → tP t i < i)
/-- it stays in the HEAD of a ROW -/
def thd (t : tr) (c : Nat) : Bool := tS t c == 5 || (tS t c == 4 && tV t c == 0)
/-- the first TAKE of x in a HEAD, if no ATOM ahead of it MAKES x -/
def tkl (t : tr) (x : Nat) (l : List Nat) : Option Nat := match l with
  | [] => none
  | c :: r => if thd t c then (if tS t c = 5 ∧ tV t c = x then some c else if tb (tM t c) x then none else tkl t x r) else none
/-- the TAKE by which x is TAKEN by the PART p -/
def tk (t : tr) (p x : Nat) : Option Nat := if tS t p = 0 then tkl t x (tC t p) else if tS t p = 5 ∧ tV t p = x then some p else none
/-- the KIND of a ROW of these PARTS, the first TAKE of each variable in X counting as DET -/
def krow (t : tr) (κ : Nat → Nat) (X : Nat → Bool) (l : List Nat) : Nat := match l with
  | [] => 0
  | c :: r => if tS t c = 5 ∧ X (tV t c) = true then krow t κ (fun y => X y && !(y == tV t c)) r else kbo (κ c) (krow t κ X r)
/-- the KIND of a PART of a SWITCH on the variables X -/
def kkn (t : tr) (κ : Nat → Nat) (X : Nat → Bool) (p : Nat) : Nat := if tS t p = 5 ∧ X (tV t p) = true then 0 else if tS t p = 0 then krow t κ X (tC t p) else κ p
