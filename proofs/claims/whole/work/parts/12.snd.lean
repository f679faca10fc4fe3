/-! Each instruction of the abstract machine is one of the Statement's machine. -/
/-- D, array classes, base, the script (place, length, ints, cell); classes, their fields' types (1 long, 2 reference, 3 boolean, else int), array types, words of nest mates, classes of which there are arrays -/
abbrev mx_E : Type := (va_G × (Nat → ClassId) × Nat × Nat × Nat × (Nat → Int32) × Cell) × (List vw_C × (Nat → Nat → Nat) × List (FieldType × Nat) × List (String × Nat × MethodName × String) × List String)
abbrev eD (E : mx_E) : va_G := E.1.1
abbrev eA (E : mx_E) : Nat → ClassId := E.1.2.1
abbrev eB (E : mx_E) : Nat := E.1.2.2.1
abbrev eSb (E : mx_E) : Nat := E.1.2.2.2.1
abbrev eSL (E : mx_E) : Nat := E.1.2.2.2.2.1
abbrev eSx (E : mx_E) : Nat → Int32 := E.1.2.2.2.2.2.1
abbrev eSc (E : mx_E) : Cell := E.1.2.2.2.2.2.2
abbrev eC (E : mx_E) : List vw_C := E.2.1
abbrev eF (E : mx_E) : Nat → Nat → Nat := E.2.2.1
abbrev eT (E : mx_E) : List (FieldType × Nat) := E.2.2.2.1
abbrev eN (E : mx_E) : List (String × Nat × MethodName × String) := E.2.2.2.2.1
abbrev eO (E : mx_E) : List String := E.2.2.2.2.2
def mx_at (E : mx_E) (h : mx_H) (H : Heap) (a : Nat) (t : mx_K) : Prop := match t with
  | .inl ci => ∃ r : vw_C, (eC E)[ci]? = some r ∧ t_OB a ((eD E).1 ci) r.2.2 ((eD E).2 ci) H (fun k => hpV h a (eF E ci k) k)
  | .inr (t, n) => ∃ r : FieldType × Nat, (eT E)[t]? = some r ∧ H[a]? = some (arrV (eA E t) n (fun k => hpV h a r.2 k))
def mx_Rep (E : mx_E) (h : mx_H) (H : Heap) : Prop := H.size = hpZ h ∧ (eB E ≤ hpZ h ∧ eSb E < eB E ∧ H[eSb E]? = some (eSc E)) ∧ ∀ (a : Nat) (t : mx_K), hpK h a = some t → eB E ≤ a ∧ mx_at E h H a t
def mx_Kn (E : mx_E) (s : State) : Prop := (∀ (c : Nat) (q : vw_C), (eC E)[c]? = some q → u_Kn s q.1 q.2.1 q.2.2 ((eD E).1 c) ((eD E).2 c)) ∧ (∀ (t : Nat) (q : FieldType × Nat), (eT E)[t]? = some q → ArrOfT s (eA E t) q.1 ∧ va_RA s (eA E t) q.1) ∧ (∀ q ∈ eN E, va_Nw (.methodLinkNest q.1 q.2.1 q.2.2.1 q.2.2.2) s) ∧ (∀ C ∈ eO E, va_AO C s) ∧ s.isArrayOf (eSc E) .int ∧ (eSc E).vm ≠ .unknown ∧ (eSc E).slots.size = eSL E ∧ ∀ j : Nat, j < eSL E → (eSc E).slots[j]? = some (.int (eSx E j))
theorem mx_Kn.moved {E : mx_E} {s U : State} (hW : s.WarmedH U.vm) (h : mx_Kn E s) : mx_Kn E U :=
  ⟨fun c q hq => u_Kn_moved hW.alike (h.1 c q hq), fun t q hq => ⟨arrOfT_moved hW.alike (h.2.1 t q hq).1, (h.2.1 t q hq).2.moved hW.alike⟩, fun q hq => va_Nw.warmM hW (h.2.2.1 q hq), fun C hC => va_AO.moved hW.alike (h.2.2.2.1 C hC), State.isArrayOf_alike hW.alike h.2.2.2.2.1, h.2.2.2.2.2⟩
theorem mx_Kn.same {E : mx_E} {s U : State} (hv : s.vm = U.vm) (h : mx_Kn E s) : mx_Kn E U := by
  have ha : s.vm.Alike U.vm := by rw [hv]; exact Vm.Alike.refl _
  exact ⟨fun c q hq => u_Kn_moved ha (h.1 c q hq), fun t q hq => ⟨arrOfT_moved ha (h.2.1 t q hq).1, (h.2.1 t q hq).2.moved ha⟩, fun q hq => va_Nw.same rfl hv (h.2.2.1 q hq), fun C hC => va_AO.moved ha (h.2.2.2.1 C hC), State.isArrayOf_alike ha h.2.2.2.2.1, h.2.2.2.2.2⟩
abbrev mx_A (E : mx_E) : Nat → Prop := fun q => eB E ≤ q
theorem mx_at.lt {E : mx_E} {h : mx_H} {H : Heap} {a : Nat} {t : mx_K} (hh : mx_at E h H a t) : a < H.size := by
  rcases t with ci | ⟨t, n⟩
  · obtain ⟨r, -, cell, h2, -⟩ := hh
    exact (Array.getElem?_eq_some_iff.mp h2).1
  · obtain ⟨r, -, h2⟩ := hh
    exact (Array.getElem?_eq_some_iff.mp h2).1
/-- a cell that isn't written stays -/
theorem mx_at.kept {E : mx_E} {h h' : mx_H} {H H' : Heap} {a : Nat} {t : mx_K} (hh : mx_at E h H a t) (hH : H'[a]? = H[a]?) (hV : ∀ ty k, hpV h' a ty k = hpV h a ty k) : mx_at E h' H' a t := by
  rcases t with ci | ⟨t, n⟩
  · obtain ⟨r, h1, h2⟩ := hh
    exact ⟨r, h1, (h2.kept hH).to (fun k _ => (hV _ k).symm)⟩
  · obtain ⟨r, h1, h2⟩ := hh
    exact ⟨r, h1, by rw [hH, h2]; congr 2; funext k; exact (hV _ k).symm⟩
/-- one cell is written -/
theorem mx_Rep.put {E : mx_E} {h h' : mx_H} {H H' : Heap} {a : Nat} {t : mx_K} (hh : mx_Rep E h H) (hz : H'.size = H.size) (ho : ∀ q, q ≠ a → H'[q]? = H[q]?) (hZ : hpZ h' = hpZ h) (hK : ∀ b, hpK h' b = hpK h b) (hV : ∀ b ty k, b ≠ a → hpV h' b ty k = hpV h b ty k) (ha : hpK h a = some t) (hat : mx_at E h' H' a t) : mx_Rep E h' H' := by
  have hlt := (hh.2.2 a t ha).1
  refine ⟨by rw [hz, hZ]; exact hh.1, ⟨by rw [hZ]; exact hh.2.1.1, hh.2.1.2.1, by rw [ho _ (fun e => by have := hh.2.1.2.1; omega)]; exact hh.2.1.2.2⟩, fun b u hb => ?_⟩
  rw [hK] at hb
  refine ⟨(hh.2.2 b u hb).1, ?_⟩
  by_cases e : b = a
  · subst e
    cases ha.symm.trans hb
    exact hat
  · exact (hh.2.2 b u hb).2.kept (ho b e) (fun ty k => hV b ty k e)
/-- a cell is made -/
theorem mx_Rep.made {E : mx_E} {h : mx_H} {H H' : Heap} {t : mx_K} {n : Nat} (hh : mx_Rep E h H) (hz : H'.size = H.size + 1) (ho : ∀ q, q < H.size → H'[q]? = H[q]?) (hat : mx_at E (hnw h t n) H' (hpZ h) t) : mx_Rep E (hnw h t n) H' := by
  refine ⟨by rw [hz, hh.1]; rfl, ⟨Nat.le_succ_of_le hh.2.1.1, hh.2.1.2.1, by rw [ho _ (by have := hh.2.1; rw [hh.1]; omega)]; exact hh.2.1.2.2⟩, fun b u hb => ?_⟩
  rw [hpK_nw] at hb
  by_cases e : b = hpZ h
  · rw [if_pos e] at hb
    cases hb
    subst e
    exact ⟨hh.2.1.1, hat⟩
  · rw [if_neg e] at hb
    have h1 := hh.2.2 b u hb
    refine ⟨h1.1, h1.2.kept (ho b h1.2.lt) (fun ty k => ?_)⟩
    unfold hpV
    rw [hpI_nw, hpL_nw, hpR_nw, if_neg e, if_neg e, if_neg e]
def mx_Snd (E : mx_E) (cc : ByteArray) (nL : Nat) (own : String) (ini : Bool) (pcs : Nat → Nat) (Ts : List Cond) (i : Nat) (f : mx_S → Option mx_S) : Prop :=
  (∀ (ls : mx_L) (st : List mx_V) (h : mx_H) (q' : mx_S), f (i, ls, st, h) = some q' → hpZ h ≤ hpZ q'.2.2.2 ∧ hpU h ≤ hpU q'.2.2.2) ∧
  ∀ (p : Program) (l : Launch) (e : Env) (R : Room) (s : State) (m : MethodId) (args : Array Value) (below : List Frame) (meth : Method) (c : Code) (Q : State → Prop),
    p.tables.exec = Jvm.exec → c.code = cc → c.maxLocals = nL → s.vm.findClass own = some m.cls → (∀ w ∈ Ts, w.before args s = true) → mx_Kn E s → (ini = true → meth.name = "<init>") → (1 ≤ R.frames ∧ 21 ≤ R.locals) →
    ∀ (sz us : Nat) (ls : mx_L) (st : List mx_V) (h : mx_H) (q' : mx_S) (H : Heap) (locs : List Loc) (arr : Array Slot),
      f (i, ls, st, h) = some q' → sz ≤ hpZ h → us ≤ hpU h → mx_Rep E h H → ml_has arr nL ls → va_S (mx_A E) s.heap H locs →
      hpZ q'.2.2.2 - sz ≤ R.cells → hpU q'.2.2.2 - us ≤ R.slots →
        (∀ (H' : Heap) (locs' : List Loc) (arr' : Array Slot), mx_Rep E q'.2.2.2 H' → ml_has arr' nL q'.2.1 → va_S (mx_A E) s.heap H' locs' → W p l e R s m args below meth c H' locs' (hpZ q'.2.2.2 - sz) (hpU q'.2.2.2 - us) Q (F0 m (pcs q'.1) arr' (q'.2.2.1.map mx_v))) →
        W p l e R s m args below meth c H locs (hpZ h - sz) (hpU h - us) Q (F0 m (pcs i) arr (st.map mx_v))
/-- an instruction that leaves the heap alone -/
theorem sn_keep {E : mx_E} {cc : ByteArray} {nL : Nat} {own : String} {ini : Bool} {pcs : Nat → Nat} {Ts : List Cond} {i : Nat} {f : mx_S → Option mx_S}
    (H1 : ∀ (ls : mx_L) (st : List mx_V) (h : mx_H) (q' : mx_S), f (i, ls, st, h) = some q' → q'.2.2.2 = h)
    (H2 : ∀ (p : Program) (l : Launch) (e : Env) (R : Room) (s : State) (m : MethodId) (args : Array Value) (below : List Frame) (meth : Method) (c : Code) (Q : State → Prop) (H : Heap) (locs : List Loc) (cells slots : Nat) (arr : Array Slot) (ls : mx_L) (st : List mx_V) (h : mx_H) (q' : mx_S),
      p.tables.exec = Jvm.exec → c.code = cc → c.maxLocals = nL → s.vm.findClass own = some m.cls → (∀ w ∈ Ts, w.before args s = true) → (1 ≤ R.frames ∧ 21 ≤ R.locals) → ml_has arr nL ls → f (i, ls, st, h) = some q' →
      (∀ arr' : Array Slot, ml_has arr' nL q'.2.1 → W p l e R s m args below meth c H locs cells slots Q (F0 m (pcs q'.1) arr' (q'.2.2.1.map mx_v))) →
      W p l e R s m args below meth c H locs cells slots Q (F0 m (pcs i) arr (st.map mx_v))) : mx_Snd E cc nL own ini pcs Ts i f := by
  refine ⟨fun ls st h q' hf => by rw [H1 ls st h q' hf]; exact ⟨Nat.le_refl _, Nat.le_refl _⟩, ?_⟩
  intro p l e R s m args below meth c Q hx hb hml hown hts hKn hin hR sz us ls st h q' H locs arr hf hz hu hrep hl hS _ _ k
  have hh := H1 ls st h q' hf
  refine H2 p l e R s m args below meth c Q H locs _ _ arr ls st h q' hx hb hml hown hts hR hl hf (fun arr' hl' => ?_)
  have := k H locs arr' (by rw [hh]; exact hrep) hl' hS
  rw [hh] at this
  exact this
section
variable {E : mx_E} {cc : ByteArray} {nL : Nat} {own : String} {ini : Bool} {pcs : Nat → Nat} {Ts : List Cond} {i n : Nat}
theorem sn_ic1 {k : Int} {z : Int32} (hd : decode cc (pcs i) = .ok (.iconst k, 1)) (hn : pcs n = pcs i + 1) (hz : Int32.ofInt k = z) : mx_Snd E cc nL own ini pcs Ts i (x_ic n z) := by
  refine sn_keep ?_ ?_
  · intro ls st h q' hf
    simp only [x_ic] at hf
    cases hf; rfl
  · intro p l e R s m args below meth c Q H locs cells slots arr ls st h q' hx hb hml hown hts hR hl hf kk
    simp only [x_ic] at hf
    cases hf
    exact lv_iconst hx hb hd hz (by rw [← hn]; exact kk arr hl)
theorem sn_ic2 {k : Int} {z : Int32} (hd : decode cc (pcs i) = .ok (.bipush k, 2)) (hn : pcs n = pcs i + 2) (hz : (Int8.ofInt k).toInt32 = z) : mx_Snd E cc nL own ini pcs Ts i (x_ic n z) := by
  refine sn_keep ?_ ?_
  · intro ls st h q' hf
    simp only [x_ic] at hf
    cases hf; rfl
  · intro p l e R s m args below meth c Q H locs cells slots arr ls st h q' hx hb hml hown hts hR hl hf kk
    simp only [x_ic] at hf
    cases hf
    exact lv_bipush hx hb hd hz (by rw [← hn]; exact kk arr hl)
theorem sn_ic3 {k : Int} {z : Int32} (hd : decode cc (pcs i) = .ok (.sipush k, 3)) (hn : pcs n = pcs i + 3) (hz : (Int16.ofInt k).toInt32 = z) : mx_Snd E cc nL own ini pcs Ts i (x_ic n z) := by
  refine sn_keep ?_ ?_
  · intro ls st h q' hf
    simp only [x_ic] at hf
    cases hf; rfl
  · intro p l e R s m args below meth c Q H locs cells slots arr ls st h q' hx hb hml hown hts hR hl hf kk
    simp only [x_ic] at hf
    cases hf
    exact lv_sipush hx hb hd hz (by rw [← hn]; exact kk arr hl)
theorem sn_lc {k : Fin 2} {z : Int64} (hd : decode cc (pcs i) = .ok (.lconst k, 1)) (hn : pcs n = pcs i + 1) (hz : Int64.ofNat (k : Nat) = z) : mx_Snd E cc nL own ini pcs Ts i (x_lc n z) := by
  refine sn_keep ?_ ?_
  · intro ls st h q' hf
    simp only [x_lc] at hf
    cases hf; rfl
  · intro p l e R s m args below meth c Q H locs cells slots arr ls st h q' hx hb hml hown hts hR hl hf kk
    simp only [x_lc] at hf
    cases hf
    exact lv_lconst hx hb hd hz (by rw [← hn]; exact kk arr hl)
theorem sn_lc2 {k : Nat} {z : Int64} (hd : decode cc (pcs i) = .ok (.ldc2_w k, 3)) (hn : pcs n = pcs i + 3) (hw : Jvm.Cond.constantLong own k z ∈ Ts) : mx_Snd E cc nL own ini pcs Ts i (x_lc n z) := by
  refine sn_keep ?_ ?_
  · intro ls st h q' hf
    simp only [x_lc] at hf
    cases hf; rfl
  · intro p l e R s m args below meth c Q H locs cells slots arr ls st h q' hx hb hml hown hts hR hl hf kk
    simp only [x_lc] at hf
    cases hf
    exact lv_ldc2 hx hb hown (hts _ hw) hd (by rw [← hn]; exact kk arr hl)
theorem sn_nul (hd : decode cc (pcs i) = .ok (.aconst_null, 1)) (hn : pcs n = pcs i + 1) : mx_Snd E cc nL own ini pcs Ts i (x_nul n) := by
  refine sn_keep ?_ ?_
  · intro ls st h q' hf
    simp only [x_nul] at hf
    cases hf; rfl
  · intro p l e R s m args below meth c Q H locs cells slots arr ls st h q' hx hb hml hown hts hR hl hf k
    simp only [x_nul] at hf
    cases hf
    exact lv_null hx hb hd (by rw [← hn]; exact k arr hl)
theorem sn_ildn {k : Fin 4} {j : Nat} (hd : decode cc (pcs i) = .ok (.iload_n k, 1)) (hn : pcs n = pcs i + 1) (hk : (k : Nat) = j) : mx_Snd E cc nL own ini pcs Ts i (x_ild n j) := by
  refine sn_keep ?_ ?_
  · intro ls st h q' hf
    simp only [x_ild] at hf
    cases hg : ml_get j ls with
    | none => rw [hg] at hf; cases hf
    | some v =>
      rw [hg] at hf
      rcases v with x | x | x <;> simp only [reduceCtorEq] at hf
      cases hf
      rfl
  · intro p l e R s m args below meth c Q H locs cells slots arr ls st h q' hx hb hml hown hts hR hl hf kk
    simp only [x_ild] at hf
    cases hg : ml_get j ls with
    | none => rw [hg] at hf; cases hf
    | some v =>
      rw [hg] at hf
      rcases v with x | x | x <;> simp only [reduceCtorEq] at hf
      cases hf
      exact lv_iload_n hx hb hd hk (ml_has_get hl hg) (by rw [← hn]; exact kk arr hl)
theorem sn_ild {j : Nat} (hd : decode cc (pcs i) = .ok (.iload j, 2)) (hn : pcs n = pcs i + 2) : mx_Snd E cc nL own ini pcs Ts i (x_ild n j) := by
  refine sn_keep ?_ ?_
  · intro ls st h q' hf
    simp only [x_ild] at hf
    cases hg : ml_get j ls with
    | none => rw [hg] at hf; cases hf
    | some v =>
      rw [hg] at hf
      rcases v with x | x | x <;> simp only [reduceCtorEq] at hf
      cases hf
      rfl
  · intro p l e R s m args below meth c Q H locs cells slots arr ls st h q' hx hb hml hown hts hR hl hf kk
    simp only [x_ild] at hf
    cases hg : ml_get j ls with
    | none => rw [hg] at hf; cases hf
    | some v =>
      rw [hg] at hf
      rcases v with x | x | x <;> simp only [reduceCtorEq] at hf
      cases hf
      exact lv_iload hx hb hd (ml_has_get hl hg) (by rw [← hn]; exact kk arr hl)
theorem sn_lldn {k : Fin 4} {j : Nat} (hd : decode cc (pcs i) = .ok (.lload_n k, 1)) (hn : pcs n = pcs i + 1) (hk : (k : Nat) = j) : mx_Snd E cc nL own ini pcs Ts i (x_lld n j) := by
  refine sn_keep ?_ ?_
  · intro ls st h q' hf
    simp only [x_lld] at hf
    cases hg : ml_get j ls with
    | none => rw [hg] at hf; cases hf
    | some v =>
      rw [hg] at hf
      rcases v with x | x | x <;> simp only [reduceCtorEq] at hf
      cases hf
      rfl
  · intro p l e R s m args below meth c Q H locs cells slots arr ls st h q' hx hb hml hown hts hR hl hf kk
    simp only [x_lld] at hf
    cases hg : ml_get j ls with
    | none => rw [hg] at hf; cases hf
    | some v =>
      rw [hg] at hf
      rcases v with x | x | x <;> simp only [reduceCtorEq] at hf
      cases hf
      exact lv_lload_n hx hb hd hk (ml_has_get hl hg) (by rw [← hn]; exact kk arr hl)
theorem sn_lld {j : Nat} (hd : decode cc (pcs i) = .ok (.lload j, 2)) (hn : pcs n = pcs i + 2) : mx_Snd E cc nL own ini pcs Ts i (x_lld n j) := by
  refine sn_keep ?_ ?_
  · intro ls st h q' hf
    simp only [x_lld] at hf
    cases hg : ml_get j ls with
    | none => rw [hg] at hf; cases hf
    | some v =>
      rw [hg] at hf
      rcases v with x | x | x <;> simp only [reduceCtorEq] at hf
      cases hf
      rfl
  · intro p l e R s m args below meth c Q H locs cells slots arr ls st h q' hx hb hml hown hts hR hl hf kk
    simp only [x_lld] at hf
    cases hg : ml_get j ls with
    | none => rw [hg] at hf; cases hf
    | some v =>
      rw [hg] at hf
      rcases v with x | x | x <;> simp only [reduceCtorEq] at hf
      cases hf
      exact lv_lload hx hb hd (ml_has_get hl hg) (by rw [← hn]; exact kk arr hl)
theorem sn_aldn {k : Fin 4} {j : Nat} (hd : decode cc (pcs i) = .ok (.aload_n k, 1)) (hn : pcs n = pcs i + 1) (hk : (k : Nat) = j) : mx_Snd E cc nL own ini pcs Ts i (x_ald n j) := by
  refine sn_keep ?_ ?_
  · intro ls st h q' hf
    simp only [x_ald] at hf
    cases hg : ml_get j ls with
    | none => rw [hg] at hf; cases hf
    | some v =>
      rw [hg] at hf
      rcases v with x | x | x <;> simp only [reduceCtorEq] at hf
      cases hf
      rfl
  · intro p l e R s m args below meth c Q H locs cells slots arr ls st h q' hx hb hml hown hts hR hl hf kk
    simp only [x_ald] at hf
    cases hg : ml_get j ls with
    | none => rw [hg] at hf; cases hf
    | some v =>
      rw [hg] at hf
      rcases v with x | x | x <;> simp only [reduceCtorEq] at hf
      cases hf
      cases x with
      | none => exact lv_aload_nN hx hb hd hk (ml_has_get hl hg) (by rw [← hn]; exact kk arr hl)
      | some x => exact lv_aload_n hx hb hd hk (ml_has_get hl hg) (by rw [← hn]; exact kk arr hl)
theorem sn_ald {j : Nat} (hd : decode cc (pcs i) = .ok (.aload j, 2)) (hn : pcs n = pcs i + 2) : mx_Snd E cc nL own ini pcs Ts i (x_ald n j) := by
  refine sn_keep ?_ ?_
  · intro ls st h q' hf
    simp only [x_ald] at hf
    cases hg : ml_get j ls with
    | none => rw [hg] at hf; cases hf
    | some v =>
      rw [hg] at hf
      rcases v with x | x | x <;> simp only [reduceCtorEq] at hf
      cases hf
      rfl
  · intro p l e R s m args below meth c Q H locs cells slots arr ls st h q' hx hb hml hown hts hR hl hf kk
    simp only [x_ald] at hf
    cases hg : ml_get j ls with
    | none => rw [hg] at hf; cases hf
    | some v =>
      rw [hg] at hf
      rcases v with x | x | x <;> simp only [reduceCtorEq] at hf
      cases hf
      cases x with
      | none => exact lv_aloadN hx hb hd (ml_has_get hl hg) (by rw [← hn]; exact kk arr hl)
      | some x => exact lv_aload hx hb hd (ml_has_get hl hg) (by rw [← hn]; exact kk arr hl)
theorem sn_istn {k : Fin 4} {j : Nat} (hd : decode cc (pcs i) = .ok (.istore_n k, 1)) (hn : pcs n = pcs i + 1) (hk : (k : Nat) = j) (hj : j < nL) : mx_Snd E cc nL own ini pcs Ts i (x_ist n j) := by
  refine sn_keep ?_ ?_
  · intro ls st h q' hf
    rcases st with _ | ⟨x | x | x, st⟩ <;> simp only [x_ist, reduceCtorEq] at hf
    cases hf
    rfl
  · intro p l e R s m args below meth c Q H locs cells slots arr ls st h q' hx hb hml hown hts hR hl hf kk
    rcases st with _ | ⟨x | x | x, st⟩ <;> simp only [x_ist, reduceCtorEq] at hf
    cases hf
    exact lv_istore_n hx hb hd hk hl hj rfl (fun arr' hl' => by rw [← hn]; exact kk arr' (ml_has_set1 (v := .inl x) hl'))
theorem sn_ist {j : Nat} (hd : decode cc (pcs i) = .ok (.istore j, 2)) (hn : pcs n = pcs i + 2) (hj : j < nL) : mx_Snd E cc nL own ini pcs Ts i (x_ist n j) := by
  refine sn_keep ?_ ?_
  · intro ls st h q' hf
    rcases st with _ | ⟨x | x | x, st⟩ <;> simp only [x_ist, reduceCtorEq] at hf
    cases hf
    rfl
  · intro p l e R s m args below meth c Q H locs cells slots arr ls st h q' hx hb hml hown hts hR hl hf kk
    rcases st with _ | ⟨x | x | x, st⟩ <;> simp only [x_ist, reduceCtorEq] at hf
    cases hf
    exact lv_istore hx hb hd hl hj rfl (fun arr' hl' => by rw [← hn]; exact kk arr' (ml_has_set1 (v := .inl x) hl'))
theorem sn_lstn {k : Fin 4} {j : Nat} (hd : decode cc (pcs i) = .ok (.lstore_n k, 1)) (hn : pcs n = pcs i + 1) (hk : (k : Nat) = j) (hj : j + 1 < nL) : mx_Snd E cc nL own ini pcs Ts i (x_lst n j) := by
  refine sn_keep ?_ ?_
  · intro ls st h q' hf
    rcases st with _ | ⟨x | x | x, st⟩ <;> simp only [x_lst, reduceCtorEq] at hf
    cases hf
    rfl
  · intro p l e R s m args below meth c Q H locs cells slots arr ls st h q' hx hb hml hown hts hR hl hf kk
    rcases st with _ | ⟨x | x | x, st⟩ <;> simp only [x_lst, reduceCtorEq] at hf
    cases hf
    exact lv_lstore_n hx hb hd hk hl hj rfl (fun arr' hl' => by rw [← hn]; exact kk arr' (ml_has_set2 hl'))
theorem sn_lst {j : Nat} (hd : decode cc (pcs i) = .ok (.lstore j, 2)) (hn : pcs n = pcs i + 2) (hj : j + 1 < nL) : mx_Snd E cc nL own ini pcs Ts i (x_lst n j) := by
  refine sn_keep ?_ ?_
  · intro ls st h q' hf
    rcases st with _ | ⟨x | x | x, st⟩ <;> simp only [x_lst, reduceCtorEq] at hf
    cases hf
    rfl
  · intro p l e R s m args below meth c Q H locs cells slots arr ls st h q' hx hb hml hown hts hR hl hf kk
    rcases st with _ | ⟨x | x | x, st⟩ <;> simp only [x_lst, reduceCtorEq] at hf
    cases hf
    exact lv_lstore hx hb hd hl hj rfl (fun arr' hl' => by rw [← hn]; exact kk arr' (ml_has_set2 hl'))
theorem sn_astn {k : Fin 4} {j : Nat} (hd : decode cc (pcs i) = .ok (.astore_n k, 1)) (hn : pcs n = pcs i + 1) (hk : (k : Nat) = j) (hj : j < nL) : mx_Snd E cc nL own ini pcs Ts i (x_ast n j) := by
  refine sn_keep ?_ ?_
  · intro ls st h q' hf
    rcases st with _ | ⟨x | x | x, st⟩ <;> simp only [x_ast, reduceCtorEq] at hf
    cases hf
    rfl
  · intro p l e R s m args below meth c Q H locs cells slots arr ls st h q' hx hb hml hown hts hR hl hf kk
    rcases st with _ | ⟨x | x | x, st⟩ <;> simp only [x_ast, reduceCtorEq] at hf
    cases hf
    cases x with
    | none => exact lv_astore_nN hx hb hd hk hl hj rfl (fun arr' hl' => by rw [← hn]; exact kk arr' (ml_has_set1 (v := .inr (.inr none)) hl'))
    | some x => exact lv_astore_n hx hb hd hk hl hj rfl (fun arr' hl' => by rw [← hn]; exact kk arr' (ml_has_set1 (v := .inr (.inr (some x))) hl'))
theorem sn_ast {j : Nat} (hd : decode cc (pcs i) = .ok (.astore j, 2)) (hn : pcs n = pcs i + 2) (hj : j < nL) : mx_Snd E cc nL own ini pcs Ts i (x_ast n j) := by
  refine sn_keep ?_ ?_
  · intro ls st h q' hf
    rcases st with _ | ⟨x | x | x, st⟩ <;> simp only [x_ast, reduceCtorEq] at hf
    cases hf
    rfl
  · intro p l e R s m args below meth c Q H locs cells slots arr ls st h q' hx hb hml hown hts hR hl hf kk
    rcases st with _ | ⟨x | x | x, st⟩ <;> simp only [x_ast, reduceCtorEq] at hf
    cases hf
    cases x with
    | none => exact lv_astoreN hx hb hd hl hj rfl (fun arr' hl' => by rw [← hn]; exact kk arr' (ml_has_set1 (v := .inr (.inr none)) hl'))
    | some x => exact lv_astore hx hb hd hl hj rfl (fun arr' hl' => by rw [← hn]; exact kk arr' (ml_has_set1 (v := .inr (.inr (some x))) hl'))
theorem sn_inc {j : Nat} {k : Int} {z : Int32} (hd : decode cc (pcs i) = .ok (.iinc j k, 3)) (hn : pcs n = pcs i + 3) (hz : Int32.ofInt k = z) : mx_Snd E cc nL own ini pcs Ts i (x_inc n j z) := by
  refine sn_keep ?_ ?_
  · intro ls st h q' hf
    simp only [x_inc] at hf
    cases hg : ml_get j ls with
    | none => rw [hg] at hf; cases hf
    | some v =>
      rw [hg] at hf
      rcases v with x | x | x <;> simp only [reduceCtorEq] at hf
      cases hf
      rfl
  · intro p l e R s m args below meth c Q H locs cells slots arr ls st h q' hx hb hml hown hts hR hl hf kk
    simp only [x_inc] at hf
    cases hg : ml_get j ls with
    | none => rw [hg] at hf; cases hf
    | some v =>
      rw [hg] at hf
      rcases v with x | x | x <;> simp only [reduceCtorEq] at hf
      cases hf
      have hm : (j, Value.int x) ∈ ml_as 0 ls := ml_as_mem.mpr ⟨j, .inl x, by simp [mx_v], ml_get_eq hg⟩
      obtain ⟨k0, hk0⟩ := List.getElem?_of_mem hm
      subst hz
      exact lv_iinc hx hb hd hl hk0 rfl (ml_has_lt hl hg) rfl (fun arr' hl' => by rw [← hn]; exact kk arr' (ml_has_set1 (v := .inl (x + Int32.ofInt k)) hl'))
theorem sn_iadd (hd : decode cc (pcs i) = .ok (.iadd, 1)) (hn : pcs n = pcs i + 1) : mx_Snd E cc nL own ini pcs Ts i (x_iadd n) := by
  refine sn_keep ?_ ?_
  · intro ls st h q' hf
    rcases st with _ | ⟨y | y | y, _ | ⟨x | x | x, st⟩⟩ <;> simp only [x_iadd, reduceCtorEq] at hf
    cases hf; rfl
  · intro p l e R s m args below meth c Q H locs cells slots arr ls st h q' hx hb hml hown hts hR hl hf k
    rcases st with _ | ⟨y | y | y, _ | ⟨x | x | x, st⟩⟩ <;> simp only [x_iadd, reduceCtorEq] at hf
    cases hf
    exact lv_iadd hx hb hd (by rw [← hn]; exact k arr hl)
theorem sn_isub (hd : decode cc (pcs i) = .ok (.isub, 1)) (hn : pcs n = pcs i + 1) : mx_Snd E cc nL own ini pcs Ts i (x_isub n) := by
  refine sn_keep ?_ ?_
  · intro ls st h q' hf
    rcases st with _ | ⟨y | y | y, _ | ⟨x | x | x, st⟩⟩ <;> simp only [x_isub, reduceCtorEq] at hf
    cases hf; rfl
  · intro p l e R s m args below meth c Q H locs cells slots arr ls st h q' hx hb hml hown hts hR hl hf k
    rcases st with _ | ⟨y | y | y, _ | ⟨x | x | x, st⟩⟩ <;> simp only [x_isub, reduceCtorEq] at hf
    cases hf
    exact lv_isub hx hb hd (by rw [← hn]; exact k arr hl)
theorem sn_imul (hd : decode cc (pcs i) = .ok (.imul, 1)) (hn : pcs n = pcs i + 1) : mx_Snd E cc nL own ini pcs Ts i (x_imul n) := by
  refine sn_keep ?_ ?_
  · intro ls st h q' hf
    rcases st with _ | ⟨y | y | y, _ | ⟨x | x | x, st⟩⟩ <;> simp only [x_imul, reduceCtorEq] at hf
    cases hf; rfl
  · intro p l e R s m args below meth c Q H locs cells slots arr ls st h q' hx hb hml hown hts hR hl hf k
    rcases st with _ | ⟨y | y | y, _ | ⟨x | x | x, st⟩⟩ <;> simp only [x_imul, reduceCtorEq] at hf
    cases hf
    exact lv_imul hx hb hd (by rw [← hn]; exact k arr hl)
theorem sn_iand (hd : decode cc (pcs i) = .ok (.iand, 1)) (hn : pcs n = pcs i + 1) : mx_Snd E cc nL own ini pcs Ts i (x_iand n) := by
  refine sn_keep ?_ ?_
  · intro ls st h q' hf
    rcases st with _ | ⟨y | y | y, _ | ⟨x | x | x, st⟩⟩ <;> simp only [x_iand, reduceCtorEq] at hf
    cases hf; rfl
  · intro p l e R s m args below meth c Q H locs cells slots arr ls st h q' hx hb hml hown hts hR hl hf k
    rcases st with _ | ⟨y | y | y, _ | ⟨x | x | x, st⟩⟩ <;> simp only [x_iand, reduceCtorEq] at hf
    cases hf
    exact lv_iand hx hb hd (by rw [← hn]; exact k arr hl)
theorem sn_ior (hd : decode cc (pcs i) = .ok (.ior, 1)) (hn : pcs n = pcs i + 1) : mx_Snd E cc nL own ini pcs Ts i (x_ior n) := by
  refine sn_keep ?_ ?_
  · intro ls st h q' hf
    rcases st with _ | ⟨y | y | y, _ | ⟨x | x | x, st⟩⟩ <;> simp only [x_ior, reduceCtorEq] at hf
    cases hf; rfl
  · intro p l e R s m args below meth c Q H locs cells slots arr ls st h q' hx hb hml hown hts hR hl hf k
    rcases st with _ | ⟨y | y | y, _ | ⟨x | x | x, st⟩⟩ <;> simp only [x_ior, reduceCtorEq] at hf
    cases hf
    exact lv_ior hx hb hd (by rw [← hn]; exact k arr hl)
theorem sn_ixor (hd : decode cc (pcs i) = .ok (.ixor, 1)) (hn : pcs n = pcs i + 1) : mx_Snd E cc nL own ini pcs Ts i (x_ixor n) := by
  refine sn_keep ?_ ?_
  · intro ls st h q' hf
    rcases st with _ | ⟨y | y | y, _ | ⟨x | x | x, st⟩⟩ <;> simp only [x_ixor, reduceCtorEq] at hf
    cases hf; rfl
  · intro p l e R s m args below meth c Q H locs cells slots arr ls st h q' hx hb hml hown hts hR hl hf k
    rcases st with _ | ⟨y | y | y, _ | ⟨x | x | x, st⟩⟩ <;> simp only [x_ixor, reduceCtorEq] at hf
    cases hf
    exact lv_ixor hx hb hd (by rw [← hn]; exact k arr hl)
theorem sn_ladd (hd : decode cc (pcs i) = .ok (.ladd, 1)) (hn : pcs n = pcs i + 1) : mx_Snd E cc nL own ini pcs Ts i (x_ladd n) := by
  refine sn_keep ?_ ?_
  · intro ls st h q' hf
    rcases st with _ | ⟨y | y | y, _ | ⟨x | x | x, st⟩⟩ <;> simp only [x_ladd, reduceCtorEq] at hf
    cases hf; rfl
  · intro p l e R s m args below meth c Q H locs cells slots arr ls st h q' hx hb hml hown hts hR hl hf k
    rcases st with _ | ⟨y | y | y, _ | ⟨x | x | x, st⟩⟩ <;> simp only [x_ladd, reduceCtorEq] at hf
    cases hf
    exact lv_ladd hx hb hd (by rw [← hn]; exact k arr hl)
theorem sn_lsub (hd : decode cc (pcs i) = .ok (.lsub, 1)) (hn : pcs n = pcs i + 1) : mx_Snd E cc nL own ini pcs Ts i (x_lsub n) := by
  refine sn_keep ?_ ?_
  · intro ls st h q' hf
    rcases st with _ | ⟨y | y | y, _ | ⟨x | x | x, st⟩⟩ <;> simp only [x_lsub, reduceCtorEq] at hf
    cases hf; rfl
  · intro p l e R s m args below meth c Q H locs cells slots arr ls st h q' hx hb hml hown hts hR hl hf k
    rcases st with _ | ⟨y | y | y, _ | ⟨x | x | x, st⟩⟩ <;> simp only [x_lsub, reduceCtorEq] at hf
    cases hf
    exact lv_lsub hx hb hd (by rw [← hn]; exact k arr hl)
theorem sn_land (hd : decode cc (pcs i) = .ok (.land, 1)) (hn : pcs n = pcs i + 1) : mx_Snd E cc nL own ini pcs Ts i (x_land n) := by
  refine sn_keep ?_ ?_
  · intro ls st h q' hf
    rcases st with _ | ⟨y | y | y, _ | ⟨x | x | x, st⟩⟩ <;> simp only [x_land, reduceCtorEq] at hf
    cases hf; rfl
  · intro p l e R s m args below meth c Q H locs cells slots arr ls st h q' hx hb hml hown hts hR hl hf k
    rcases st with _ | ⟨y | y | y, _ | ⟨x | x | x, st⟩⟩ <;> simp only [x_land, reduceCtorEq] at hf
    cases hf
    exact lv_land hx hb hd (by rw [← hn]; exact k arr hl)
theorem sn_lor (hd : decode cc (pcs i) = .ok (.lor, 1)) (hn : pcs n = pcs i + 1) : mx_Snd E cc nL own ini pcs Ts i (x_lor n) := by
  refine sn_keep ?_ ?_
  · intro ls st h q' hf
    rcases st with _ | ⟨y | y | y, _ | ⟨x | x | x, st⟩⟩ <;> simp only [x_lor, reduceCtorEq] at hf
    cases hf; rfl
  · intro p l e R s m args below meth c Q H locs cells slots arr ls st h q' hx hb hml hown hts hR hl hf k
    rcases st with _ | ⟨y | y | y, _ | ⟨x | x | x, st⟩⟩ <;> simp only [x_lor, reduceCtorEq] at hf
    cases hf
    exact lv_lor hx hb hd (by rw [← hn]; exact k arr hl)
theorem sn_lxor (hd : decode cc (pcs i) = .ok (.lxor, 1)) (hn : pcs n = pcs i + 1) : mx_Snd E cc nL own ini pcs Ts i (x_lxor n) := by
  refine sn_keep ?_ ?_
  · intro ls st h q' hf
    rcases st with _ | ⟨y | y | y, _ | ⟨x | x | x, st⟩⟩ <;> simp only [x_lxor, reduceCtorEq] at hf
    cases hf; rfl
  · intro p l e R s m args below meth c Q H locs cells slots arr ls st h q' hx hb hml hown hts hR hl hf k
    rcases st with _ | ⟨y | y | y, _ | ⟨x | x | x, st⟩⟩ <;> simp only [x_lxor, reduceCtorEq] at hf
    cases hf
    exact lv_lxor hx hb hd (by rw [← hn]; exact k arr hl)
theorem sn_lshl (hd : decode cc (pcs i) = .ok (.lshl, 1)) (hn : pcs n = pcs i + 1) : mx_Snd E cc nL own ini pcs Ts i (x_lshl n) := by
  refine sn_keep ?_ ?_
  · intro ls st h q' hf
    rcases st with _ | ⟨y | y | y, _ | ⟨x | x | x, st⟩⟩ <;> simp only [x_lshl, reduceCtorEq] at hf
    cases hf; rfl
  · intro p l e R s m args below meth c Q H locs cells slots arr ls st h q' hx hb hml hown hts hR hl hf k
    rcases st with _ | ⟨y | y | y, _ | ⟨x | x | x, st⟩⟩ <;> simp only [x_lshl, reduceCtorEq] at hf
    cases hf
    exact lv_lshl hx hb hd rfl (by rw [← hn]; exact k arr hl)
theorem sn_lushr (hd : decode cc (pcs i) = .ok (.lushr, 1)) (hn : pcs n = pcs i + 1) : mx_Snd E cc nL own ini pcs Ts i (x_lushr n) := by
  refine sn_keep ?_ ?_
  · intro ls st h q' hf
    rcases st with _ | ⟨y | y | y, _ | ⟨x | x | x, st⟩⟩ <;> simp only [x_lushr, reduceCtorEq] at hf
    cases hf; rfl
  · intro p l e R s m args below meth c Q H locs cells slots arr ls st h q' hx hb hml hown hts hR hl hf k
    rcases st with _ | ⟨y | y | y, _ | ⟨x | x | x, st⟩⟩ <;> simp only [x_lushr, reduceCtorEq] at hf
    cases hf
    exact lv_lushr hx hb hd rfl (by rw [← hn]; exact k arr hl)
theorem sn_lcmp (hd : decode cc (pcs i) = .ok (.lcmp, 1)) (hn : pcs n = pcs i + 1) : mx_Snd E cc nL own ini pcs Ts i (x_lcmp n) := by
  refine sn_keep ?_ ?_
  · intro ls st h q' hf
    rcases st with _ | ⟨y | y | y, _ | ⟨x | x | x, st⟩⟩ <;> simp only [x_lcmp, reduceCtorEq] at hf
    cases hf; rfl
  · intro p l e R s m args below meth c Q H locs cells slots arr ls st h q' hx hb hml hown hts hR hl hf k
    rcases st with _ | ⟨y | y | y, _ | ⟨x | x | x, st⟩⟩ <;> simp only [x_lcmp, reduceCtorEq] at hf
    cases hf
    exact W.lcmp hx hb hd (by rw [← hn]; exact k arr hl)
theorem sn_i2l (hd : decode cc (pcs i) = .ok (.i2l, 1)) (hn : pcs n = pcs i + 1) : mx_Snd E cc nL own ini pcs Ts i (x_i2l n) := by
  refine sn_keep ?_ ?_
  · intro ls st h q' hf
    rcases st with _ | ⟨x | x | x, st⟩ <;> simp only [x_i2l, reduceCtorEq] at hf
    cases hf; rfl
  · intro p l e R s m args below meth c Q H locs cells slots arr ls st h q' hx hb hml hown hts hR hl hf k
    rcases st with _ | ⟨x | x | x, st⟩ <;> simp only [x_i2l, reduceCtorEq] at hf
    cases hf
    exact lv_i2l hx hb hd rfl (by rw [← hn]; exact k arr hl)
theorem sn_dup (hd : decode cc (pcs i) = .ok (.dup, 1)) (hn : pcs n = pcs i + 1) : mx_Snd E cc nL own ini pcs Ts i (x_dup n) := by
  refine sn_keep ?_ ?_
  · intro ls st h q' hf
    rcases st with _ | ⟨v, st⟩ <;> simp only [x_dup, reduceCtorEq] at hf
    split at hf <;> cases hf
    rfl
  · intro p l e R s m args below meth c Q H locs cells slots arr ls st h q' hx hb hml hown hts hR hl hf k
    rcases st with _ | ⟨v, st⟩ <;> simp only [x_dup, reduceCtorEq] at hf
    split at hf <;> cases hf
    rename_i hc
    exact lv_dup hx hb hd ((mx_cat_eq v).trans hc) (by rw [← hn]; exact k arr hl)
theorem sn_pop (hd : decode cc (pcs i) = .ok (.pop, 1)) (hn : pcs n = pcs i + 1) : mx_Snd E cc nL own ini pcs Ts i (x_pop n) := by
  refine sn_keep ?_ ?_
  · intro ls st h q' hf
    rcases st with _ | ⟨v, st⟩ <;> simp only [x_pop, reduceCtorEq] at hf
    split at hf <;> cases hf
    rfl
  · intro p l e R s m args below meth c Q H locs cells slots arr ls st h q' hx hb hml hown hts hR hl hf k
    rcases st with _ | ⟨v, st⟩ <;> simp only [x_pop, reduceCtorEq] at hf
    split at hf <;> cases hf
    rename_i hc
    exact lv_pop hx hb hd ((mx_cat_eq v).trans hc) (by rw [← hn]; exact k arr hl)
theorem sn_dupx1 (hd : decode cc (pcs i) = .ok (.dup_x1, 1)) (hn : pcs n = pcs i + 1) : mx_Snd E cc nL own ini pcs Ts i (x_dupx1 n) := by
  refine sn_keep ?_ ?_
  · intro ls st h q' hf
    rcases st with _ | ⟨v, _ | ⟨w, st⟩⟩ <;> simp only [x_dupx1, reduceCtorEq] at hf
    split at hf <;> cases hf
    rfl
  · intro p l e R s m args below meth c Q H locs cells slots arr ls st h q' hx hb hml hown hts hR hl hf k
    rcases st with _ | ⟨v, _ | ⟨w, st⟩⟩ <;> simp only [x_dupx1, reduceCtorEq] at hf
    split at hf <;> cases hf
    rename_i hc
    exact lv_dup_x1 hx hb hd ((mx_cat_eq v).trans hc.1) ((mx_cat_eq w).trans hc.2) (by rw [← hn]; exact k arr hl)
theorem sn_dup2 (hd : decode cc (pcs i) = .ok (.dup2, 1)) (hn : pcs n = pcs i + 1) : mx_Snd E cc nL own ini pcs Ts i (x_dup2 n) := by
  refine sn_keep ?_ ?_
  · intro ls st h q' hf
    rcases st with _ | ⟨v, _ | ⟨w, st⟩⟩ <;> simp only [x_dup2, reduceCtorEq] at hf
    split at hf <;> cases hf
    rfl
  · intro p l e R s m args below meth c Q H locs cells slots arr ls st h q' hx hb hml hown hts hR hl hf k
    rcases st with _ | ⟨v, _ | ⟨w, st⟩⟩ <;> simp only [x_dup2, reduceCtorEq] at hf
    split at hf <;> cases hf
    rename_i hc
    exact lv_dup2_11 hx hb hd ((mx_cat_eq v).trans hc.1) ((mx_cat_eq w).trans hc.2) (by rw [← hn]; exact k arr hl)
theorem sn_ifeq {t tg : Nat} {off : Int} (hd : decode cc (pcs i) = .ok (.ifCond .eq off, 3)) (hn : pcs n = pcs i + 3) (ht : pcs t = tg) (hto : (pcs i : Int) + off = (tg : Int)) : mx_Snd E cc nL own ini pcs Ts i (x_ifeq n t) := by
  refine sn_keep ?_ ?_
  · intro ls st h q' hf
    rcases st with _ | ⟨x | x | x, st⟩ <;> simp only [x_ifeq, reduceCtorEq] at hf
    cases hf
    rfl
  · intro p l e R s m args below meth c Q H locs cells slots arr ls st h q' hx hb hml hown hts hR hl hf k
    rcases st with _ | ⟨x | x | x, st⟩ <;> simp only [x_ifeq, reduceCtorEq] at hf
    cases hf
    exact lv_if_eq (tgt := tg) hx hb hd hto (fun hc => by have := k arr hl; simp only [if_pos hc] at this; rw [← ht]; exact this) (fun hc => by have := k arr hl; simp only [if_neg hc] at this; rw [← hn]; exact this)
theorem sn_ceq {t tg : Nat} {off : Int} (hd : decode cc (pcs i) = .ok (.if_icmp .eq off, 3)) (hn : pcs n = pcs i + 3) (ht : pcs t = tg) (hto : (pcs i : Int) + off = (tg : Int)) : mx_Snd E cc nL own ini pcs Ts i (x_ceq n t) := by
  refine sn_keep ?_ ?_
  · intro ls st h q' hf
    rcases st with _ | ⟨y | y | y, _ | ⟨x | x | x, st⟩⟩ <;> simp only [x_ceq, reduceCtorEq] at hf
    cases hf
    rfl
  · intro p l e R s m args below meth c Q H locs cells slots arr ls st h q' hx hb hml hown hts hR hl hf k
    rcases st with _ | ⟨y | y | y, _ | ⟨x | x | x, st⟩⟩ <;> simp only [x_ceq, reduceCtorEq] at hf
    cases hf
    exact lv_icmp_eq (tgt := tg) hx hb hd hto (fun hc => by have := k arr hl; simp only [if_pos hc] at this; rw [← ht]; exact this) (fun hc => by have := k arr hl; simp only [if_neg hc] at this; rw [← hn]; exact this)
theorem sn_ifne {t tg : Nat} {off : Int} (hd : decode cc (pcs i) = .ok (.ifCond .ne off, 3)) (hn : pcs n = pcs i + 3) (ht : pcs t = tg) (hto : (pcs i : Int) + off = (tg : Int)) : mx_Snd E cc nL own ini pcs Ts i (x_ifne n t) := by
  refine sn_keep ?_ ?_
  · intro ls st h q' hf
    rcases st with _ | ⟨x | x | x, st⟩ <;> simp only [x_ifne, reduceCtorEq] at hf
    cases hf
    rfl
  · intro p l e R s m args below meth c Q H locs cells slots arr ls st h q' hx hb hml hown hts hR hl hf k
    rcases st with _ | ⟨x | x | x, st⟩ <;> simp only [x_ifne, reduceCtorEq] at hf
    cases hf
    exact lv_if_ne (tgt := tg) hx hb hd hto (fun hc => by have := k arr hl; simp only [if_neg hc] at this; rw [← ht]; exact this) (fun hc => by have := k arr hl; simp only [if_pos hc] at this; rw [← hn]; exact this)
theorem sn_cne {t tg : Nat} {off : Int} (hd : decode cc (pcs i) = .ok (.if_icmp .ne off, 3)) (hn : pcs n = pcs i + 3) (ht : pcs t = tg) (hto : (pcs i : Int) + off = (tg : Int)) : mx_Snd E cc nL own ini pcs Ts i (x_cne n t) := by
  refine sn_keep ?_ ?_
  · intro ls st h q' hf
    rcases st with _ | ⟨y | y | y, _ | ⟨x | x | x, st⟩⟩ <;> simp only [x_cne, reduceCtorEq] at hf
    cases hf
    rfl
  · intro p l e R s m args below meth c Q H locs cells slots arr ls st h q' hx hb hml hown hts hR hl hf k
    rcases st with _ | ⟨y | y | y, _ | ⟨x | x | x, st⟩⟩ <;> simp only [x_cne, reduceCtorEq] at hf
    cases hf
    exact lv_icmp_ne (tgt := tg) hx hb hd hto (fun hc => by have := k arr hl; simp only [if_neg hc] at this; rw [← ht]; exact this) (fun hc => by have := k arr hl; simp only [if_pos hc] at this; rw [← hn]; exact this)
theorem sn_iflt {t tg : Nat} {off : Int} (hd : decode cc (pcs i) = .ok (.ifCond .lt off, 3)) (hn : pcs n = pcs i + 3) (ht : pcs t = tg) (hto : (pcs i : Int) + off = (tg : Int)) : mx_Snd E cc nL own ini pcs Ts i (x_iflt n t) := by
  refine sn_keep ?_ ?_
  · intro ls st h q' hf
    rcases st with _ | ⟨x | x | x, st⟩ <;> simp only [x_iflt, reduceCtorEq] at hf
    cases hf
    rfl
  · intro p l e R s m args below meth c Q H locs cells slots arr ls st h q' hx hb hml hown hts hR hl hf k
    rcases st with _ | ⟨x | x | x, st⟩ <;> simp only [x_iflt, reduceCtorEq] at hf
    cases hf
    exact lv_if_lt (tgt := tg) hx hb hd hto (fun hc => by have := k arr hl; simp only [if_pos hc] at this; rw [← ht]; exact this) (fun hc => by have := k arr hl; simp only [if_neg hc] at this; rw [← hn]; exact this)
theorem sn_clt {t tg : Nat} {off : Int} (hd : decode cc (pcs i) = .ok (.if_icmp .lt off, 3)) (hn : pcs n = pcs i + 3) (ht : pcs t = tg) (hto : (pcs i : Int) + off = (tg : Int)) : mx_Snd E cc nL own ini pcs Ts i (x_clt n t) := by
  refine sn_keep ?_ ?_
  · intro ls st h q' hf
    rcases st with _ | ⟨y | y | y, _ | ⟨x | x | x, st⟩⟩ <;> simp only [x_clt, reduceCtorEq] at hf
    cases hf
    rfl
  · intro p l e R s m args below meth c Q H locs cells slots arr ls st h q' hx hb hml hown hts hR hl hf k
    rcases st with _ | ⟨y | y | y, _ | ⟨x | x | x, st⟩⟩ <;> simp only [x_clt, reduceCtorEq] at hf
    cases hf
    exact lv_icmp_lt (tgt := tg) hx hb hd hto (fun hc => by have := k arr hl; simp only [if_pos hc] at this; rw [← ht]; exact this) (fun hc => by have := k arr hl; simp only [if_neg hc] at this; rw [← hn]; exact this)
theorem sn_ifge {t tg : Nat} {off : Int} (hd : decode cc (pcs i) = .ok (.ifCond .ge off, 3)) (hn : pcs n = pcs i + 3) (ht : pcs t = tg) (hto : (pcs i : Int) + off = (tg : Int)) : mx_Snd E cc nL own ini pcs Ts i (x_ifge n t) := by
  refine sn_keep ?_ ?_
  · intro ls st h q' hf
    rcases st with _ | ⟨x | x | x, st⟩ <;> simp only [x_ifge, reduceCtorEq] at hf
    cases hf
    rfl
  · intro p l e R s m args below meth c Q H locs cells slots arr ls st h q' hx hb hml hown hts hR hl hf k
    rcases st with _ | ⟨x | x | x, st⟩ <;> simp only [x_ifge, reduceCtorEq] at hf
    cases hf
    exact lv_if_ge (tgt := tg) hx hb hd hto (fun hc => by have := k arr hl; simp only [if_pos hc] at this; rw [← ht]; exact this) (fun hc => by have := k arr hl; simp only [if_neg hc] at this; rw [← hn]; exact this)
theorem sn_cge {t tg : Nat} {off : Int} (hd : decode cc (pcs i) = .ok (.if_icmp .ge off, 3)) (hn : pcs n = pcs i + 3) (ht : pcs t = tg) (hto : (pcs i : Int) + off = (tg : Int)) : mx_Snd E cc nL own ini pcs Ts i (x_cge n t) := by
  refine sn_keep ?_ ?_
  · intro ls st h q' hf
    rcases st with _ | ⟨y | y | y, _ | ⟨x | x | x, st⟩⟩ <;> simp only [x_cge, reduceCtorEq] at hf
    cases hf
    rfl
  · intro p l e R s m args below meth c Q H locs cells slots arr ls st h q' hx hb hml hown hts hR hl hf k
    rcases st with _ | ⟨y | y | y, _ | ⟨x | x | x, st⟩⟩ <;> simp only [x_cge, reduceCtorEq] at hf
    cases hf
    exact lv_icmp_ge (tgt := tg) hx hb hd hto (fun hc => by have := k arr hl; simp only [if_pos hc] at this; rw [← ht]; exact this) (fun hc => by have := k arr hl; simp only [if_neg hc] at this; rw [← hn]; exact this)
theorem sn_ifgt {t tg : Nat} {off : Int} (hd : decode cc (pcs i) = .ok (.ifCond .gt off, 3)) (hn : pcs n = pcs i + 3) (ht : pcs t = tg) (hto : (pcs i : Int) + off = (tg : Int)) : mx_Snd E cc nL own ini pcs Ts i (x_ifgt n t) := by
  refine sn_keep ?_ ?_
  · intro ls st h q' hf
    rcases st with _ | ⟨x | x | x, st⟩ <;> simp only [x_ifgt, reduceCtorEq] at hf
    cases hf
    rfl
  · intro p l e R s m args below meth c Q H locs cells slots arr ls st h q' hx hb hml hown hts hR hl hf k
    rcases st with _ | ⟨x | x | x, st⟩ <;> simp only [x_ifgt, reduceCtorEq] at hf
    cases hf
    exact lv_if_gt (tgt := tg) hx hb hd hto (fun hc => by have := k arr hl; simp only [if_pos hc] at this; rw [← ht]; exact this) (fun hc => by have := k arr hl; simp only [if_neg hc] at this; rw [← hn]; exact this)
theorem sn_cgt {t tg : Nat} {off : Int} (hd : decode cc (pcs i) = .ok (.if_icmp .gt off, 3)) (hn : pcs n = pcs i + 3) (ht : pcs t = tg) (hto : (pcs i : Int) + off = (tg : Int)) : mx_Snd E cc nL own ini pcs Ts i (x_cgt n t) := by
  refine sn_keep ?_ ?_
  · intro ls st h q' hf
    rcases st with _ | ⟨y | y | y, _ | ⟨x | x | x, st⟩⟩ <;> simp only [x_cgt, reduceCtorEq] at hf
    cases hf
    rfl
  · intro p l e R s m args below meth c Q H locs cells slots arr ls st h q' hx hb hml hown hts hR hl hf k
    rcases st with _ | ⟨y | y | y, _ | ⟨x | x | x, st⟩⟩ <;> simp only [x_cgt, reduceCtorEq] at hf
    cases hf
    exact lv_icmp_gt (tgt := tg) hx hb hd hto (fun hc => by have := k arr hl; simp only [if_pos hc] at this; rw [← ht]; exact this) (fun hc => by have := k arr hl; simp only [if_neg hc] at this; rw [← hn]; exact this)
theorem sn_ifle {t tg : Nat} {off : Int} (hd : decode cc (pcs i) = .ok (.ifCond .le off, 3)) (hn : pcs n = pcs i + 3) (ht : pcs t = tg) (hto : (pcs i : Int) + off = (tg : Int)) : mx_Snd E cc nL own ini pcs Ts i (x_ifle n t) := by
  refine sn_keep ?_ ?_
  · intro ls st h q' hf
    rcases st with _ | ⟨x | x | x, st⟩ <;> simp only [x_ifle, reduceCtorEq] at hf
    cases hf
    rfl
  · intro p l e R s m args below meth c Q H locs cells slots arr ls st h q' hx hb hml hown hts hR hl hf k
    rcases st with _ | ⟨x | x | x, st⟩ <;> simp only [x_ifle, reduceCtorEq] at hf
    cases hf
    exact lv_if_le (tgt := tg) hx hb hd hto (fun hc => by have := k arr hl; simp only [if_pos hc] at this; rw [← ht]; exact this) (fun hc => by have := k arr hl; simp only [if_neg hc] at this; rw [← hn]; exact this)
theorem sn_cle {t tg : Nat} {off : Int} (hd : decode cc (pcs i) = .ok (.if_icmp .le off, 3)) (hn : pcs n = pcs i + 3) (ht : pcs t = tg) (hto : (pcs i : Int) + off = (tg : Int)) : mx_Snd E cc nL own ini pcs Ts i (x_cle n t) := by
  refine sn_keep ?_ ?_
  · intro ls st h q' hf
    rcases st with _ | ⟨y | y | y, _ | ⟨x | x | x, st⟩⟩ <;> simp only [x_cle, reduceCtorEq] at hf
    cases hf
    rfl
  · intro p l e R s m args below meth c Q H locs cells slots arr ls st h q' hx hb hml hown hts hR hl hf k
    rcases st with _ | ⟨y | y | y, _ | ⟨x | x | x, st⟩⟩ <;> simp only [x_cle, reduceCtorEq] at hf
    cases hf
    exact lv_icmp_le (tgt := tg) hx hb hd hto (fun hc => by have := k arr hl; simp only [if_pos hc] at this; rw [← ht]; exact this) (fun hc => by have := k arr hl; simp only [if_neg hc] at this; rw [← hn]; exact this)
theorem sn_aeq {t tg : Nat} {off : Int} (hd : decode cc (pcs i) = .ok (.if_acmp .eq off, 3)) (hn : pcs n = pcs i + 3) (ht : pcs t = tg) (hto : (pcs i : Int) + off = (tg : Int)) : mx_Snd E cc nL own ini pcs Ts i (x_aeq n t) := by
  refine sn_keep ?_ ?_
  · intro ls st h q' hf
    rcases st with _ | ⟨y | y | y, _ | ⟨x | x | x, st⟩⟩ <;> simp only [x_aeq, reduceCtorEq] at hf
    cases hf
    rfl
  · intro p l e R s m args below meth c Q H locs cells slots arr ls st h q' hx hb hml hown hts hR hl hf k
    rcases st with _ | ⟨y | y | y, _ | ⟨x | x | x, st⟩⟩ <;> simp only [x_aeq, reduceCtorEq] at hf
    cases hf
    exact lv_acmp_eq (tgt := tg) hx hb hd hto (fun hc => by have := k arr hl; simp only [if_pos hc] at this; rw [← ht]; exact this) (fun hc => by have := k arr hl; simp only [if_neg hc] at this; rw [← hn]; exact this)
theorem sn_ane {t tg : Nat} {off : Int} (hd : decode cc (pcs i) = .ok (.if_acmp .ne off, 3)) (hn : pcs n = pcs i + 3) (ht : pcs t = tg) (hto : (pcs i : Int) + off = (tg : Int)) : mx_Snd E cc nL own ini pcs Ts i (x_ane n t) := by
  refine sn_keep ?_ ?_
  · intro ls st h q' hf
    rcases st with _ | ⟨y | y | y, _ | ⟨x | x | x, st⟩⟩ <;> simp only [x_ane, reduceCtorEq] at hf
    cases hf
    rfl
  · intro p l e R s m args below meth c Q H locs cells slots arr ls st h q' hx hb hml hown hts hR hl hf k
    rcases st with _ | ⟨y | y | y, _ | ⟨x | x | x, st⟩⟩ <;> simp only [x_ane, reduceCtorEq] at hf
    cases hf
    exact lv_acmp_ne (tgt := tg) hx hb hd hto (fun hc => by have := k arr hl; simp only [if_neg hc] at this; rw [← ht]; exact this) (fun hc => by have := k arr hl; simp only [if_pos hc] at this; rw [← hn]; exact this)
theorem sn_inul {t tg : Nat} {off : Int} (hd : decode cc (pcs i) = .ok (.ifnull off, 3)) (hn : pcs n = pcs i + 3) (ht : pcs t = tg) (hto : (pcs i : Int) + off = (tg : Int)) : mx_Snd E cc nL own ini pcs Ts i (x_inul n t) := by
  refine sn_keep ?_ ?_
  · intro ls st h q' hf
    rcases st with _ | ⟨x | x | x, st⟩ <;> simp only [x_inul, reduceCtorEq] at hf
    cases hf
    rfl
  · intro p l e R s m args below meth c Q H locs cells slots arr ls st h q' hx hb hml hown hts hR hl hf k
    rcases st with _ | ⟨x | x | x, st⟩ <;> simp only [x_inul, reduceCtorEq] at hf
    cases hf
    cases x with
    | none => exact lv_ifnullN (tgt := tg) hx hb hd hto (by have := k arr hl; simp only [if_true] at this; rw [← ht]; exact this)
    | some x => exact lv_ifnull hx hb hd (by have := k arr hl; simp only [reduceCtorEq, if_false] at this; rw [← hn]; exact this)
theorem sn_inn {t tg : Nat} {off : Int} (hd : decode cc (pcs i) = .ok (.ifnonnull off, 3)) (hn : pcs n = pcs i + 3) (ht : pcs t = tg) (hto : (pcs i : Int) + off = (tg : Int)) : mx_Snd E cc nL own ini pcs Ts i (x_inn n t) := by
  refine sn_keep ?_ ?_
  · intro ls st h q' hf
    rcases st with _ | ⟨x | x | x, st⟩ <;> simp only [x_inn, reduceCtorEq] at hf
    cases hf
    rfl
  · intro p l e R s m args below meth c Q H locs cells slots arr ls st h q' hx hb hml hown hts hR hl hf k
    rcases st with _ | ⟨x | x | x, st⟩ <;> simp only [x_inn, reduceCtorEq] at hf
    cases hf
    cases x with
    | none => exact lv_ifnonnullN hx hb hd (by have := k arr hl; simp only [if_true] at this; rw [← hn]; exact this)
    | some x => exact lv_ifnonnull (tgt := tg) hx hb hd hto (by have := k arr hl; simp only [reduceCtorEq, if_false] at this; rw [← ht]; exact this)
theorem sn_goto {t tg : Nat} {off : Int} (hd : decode cc (pcs i) = .ok (.goto off, 3)) (ht : pcs t = tg) (hto : (pcs i : Int) + off = (tg : Int)) : mx_Snd E cc nL own ini pcs Ts i (x_goto t) := by
  refine sn_keep ?_ ?_
  · intro ls st h q' hf
    simp only [x_goto] at hf
    cases hf; rfl
  · intro p l e R s m args below meth c Q H locs cells slots arr ls st h q' hx hb hml hown hts hR hl hf k
    simp only [x_goto] at hf
    cases hf
    exact lv_goto (tgt := tg) hx hb hd hto (by rw [← ht]; exact k arr hl)
end
