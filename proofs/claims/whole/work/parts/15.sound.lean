/-! A run of the abstract machine is a run of the Statement's machine. -/
/-- a method: its name, bytes, places for locals, answer's type, the place of each instruction in the bytes, its code -/
abbrev mx_M : Type := MethodName × ByteArray × Nat × Option FieldType × (Nat → Nat) × (Nat → mx_I)
abbrev mY (M : mx_M) : MethodName := M.1
abbrev mB (M : mx_M) : ByteArray := M.2.1
abbrev mL (M : mx_M) : Nat := M.2.2.1
abbrev mR (M : mx_M) : Option FieldType := M.2.2.2.1
abbrev mP (M : mx_M) : Nat → Nat := M.2.2.2.2.1
abbrev mI (M : mx_M) : Nat → mx_I := M.2.2.2.2.2
def mW (Tg : List Cond) (M : mx_M) : List Cond := Cond.code (mY M) (mB M) (mL M) (mR M) :: Tg
def mx_link (E : mx_E) (Ts : List Cond) (own : String) (idx : Nat) (y : MethodName) : Prop := Cond.methodLink own idx y ∈ Ts ∨ ∃ host, (own, idx, y, host) ∈ eN E
/-- what a call's instruction needs: Ts the words at hand -/
def mx_Cal (E : mx_E) (Ts : List Cond) (own : String) (cc : ByteArray) (pcs : Nat → Nat) (y : MethodName) (ret : Option FieldType) (i k nxt kind : Nat) : Prop :=
  pcs nxt = pcs i + 3 ∧ Cond.initialized y.cls ∈ Ts ∧ (y.cls ≠ "java/lang/invoke/MethodHandle" ∧ y.cls ≠ "java/lang/invoke/VarHandle") ∧ match kind with
  | 0 => (parseMethodDescriptor y.desc).map (fun d => d.parameters.length) = some k ∧ Cond.static y ∈ Ts ∧ ∃ idx, mx_link E Ts own idx y ∧ decode cc (pcs i) = .ok (.invokestatic idx, 3)
  | 1 => (parseMethodDescriptor y.desc).map (fun d => d.parameters.length + 1) = some k ∧ ret = none ∧ y.name = "<init>" ∧ Cond.instanceMethod y ∈ Ts ∧ ∃ idx, mx_link E Ts own idx y ∧ decode cc (pcs i) = .ok (.invokespecial idx, 3)
  | ci + 2 => (parseMethodDescriptor y.desc).map (fun d => d.parameters.length + 1) = some k ∧ Cond.instanceMethod y ∈ Ts ∧ Cond.selects y.cls y y ∈ Ts ∧ (∃ (T : u_T) (N : Nat), (eC E)[ci]? = some (y.cls, T, N)) ∧ ∃ idx, mx_link E Ts own idx y ∧ decode cc (pcs i) = .ok (.invokevirtual idx, 3)
def mx_rets (cc : ByteArray) (pcs : Nat → Nat) (ret : Option FieldType) (i t : Nat) : Prop := match t with
  | 0 => decode cc (pcs i) = .ok (.ireturn, 1) ∧ ret = some .int
  | 1 => decode cc (pcs i) = .ok (.lreturn, 1) ∧ ret = some .long
  | 2 => decode cc (pcs i) = .ok (.areturn, 1) ∧ ∃ rt, ret = some rt ∧ ((∃ n, rt = .object n) ∨ ∃ t, rt = .array t)
  | 3 => decode cc (pcs i) = .ok (.ireturn, 1) ∧ ret = some .boolean
  | _ => decode cc (pcs i) = .ok (.return_, 1) ∧ ret = none
def mx_Ok (E : mx_E) (mt : Nat → mx_M) (Ts : List Cond) (own : String) (ini : Bool) (cc : ByteArray) (nL : Nat) (pcs : Nat → Nat) (i : Nat) (I : mx_I) : Prop := match I with
  | .inl f => mx_Snd E cc nL own ini pcs Ts i f
  | .inr (.inl (j, k, nxt, kind)) => mx_Cal E Ts own cc pcs (mY (mt j)) (mR (mt j)) i k nxt kind
  | .inr (.inr _) => True
def mx_Pc (E : mx_E) (as : List mx_V) (h : mx_H) : Array Value → State → Prop := fun v U => v = (as.map mx_v).toArray ∧ mx_Rep E h U.heap ∧ mx_Kn E U
def mx_Qc (E : mx_E) (r : Option mx_V) (h' : mx_H) : Array Value → State → Outcome → State → Prop := fun _ st oc t => oc = .returned (r.map mx_v) ∧ mx_Rep E h' t.heap ∧ va_F (mx_A E) st t
theorem mx_Pc_blind {E : mx_E} {as : List mx_V} {h : mx_H} : FrameBlind (mx_Pc E as h) := fun _ _ _ _ q => ⟨q.1, q.2.1, mx_Kn.same rfl q.2.2⟩
def mx_rm (d : Nat) (h h' : mx_H) : Room := { frames := d, cells := hpZ h' - hpZ h, slots := hpU h' - hpU h, locals := 36 * d }
/-- the contracts of all methods, d frames deep, as a relation C of the abstract machine has them -/
def mx_CS (l : Launch) (E : mx_E) (mt : Nat → mx_M) (Tg : List Cond) (d : Nat) (C : mx_C) : Prop := ∀ (j : Nat) (as : List mx_V) (h : mx_H) (r : Option mx_V) (h' : mx_H), C j as h r h' →
  (hpZ h ≤ hpZ h' ∧ hpU h ≤ hpU h') ∧ Met l (mY (mt j)) (mW Tg (mt j)) (mx_rm d h h') (mx_Pc E as h) (mx_Qc E r h') (hpZ h' - hpZ h) (hpU h' - hpU h) (mx_A E)
theorem mx_mono {E : mx_E} {mt : Nat → mx_M} {Ts Tg : List Cond} {own : String} {ini : Bool} {cc : ByteArray} {nL : Nat} {pcs : Nat → Nat} {code : Nat → mx_I} {l : Launch} {d : Nat} {C : mx_C} (hok : ∀ i, mx_Ok E mt Ts own ini cc nL pcs i (code i)) (hC : mx_CS l E mt Tg d C) :
    ∀ (n : Nat) (q : mx_S) (r : Option mx_V) (h' : mx_H), mx_Run C code n q r h' → hpZ q.2.2.2 ≤ hpZ h' ∧ hpU q.2.2.2 ≤ hpU h' := by
  intro n
  induction n with
  | zero => intro q r h' h; exact absurd h (by simp [mx_Run])
  | succ n ih =>
    intro q r h' h
    obtain ⟨i, ls, st, hp⟩ := q
    have ho := hok i
    simp only [mx_Run] at h
    generalize hcode : code i = I at ho h
    rcases I with f | ⟨j, k, nxt, kind⟩ | t
    · obtain ⟨q', h1, h2⟩ := h
      have e1 := ho.1 ls st hp q' h1
      have e2 := ih q' r h' h2
      exact ⟨Nat.le_trans e1.1 e2.1, Nat.le_trans e1.2 e2.2⟩
    · obtain ⟨as, rest, r1, h1, -, -, -, -, hc, h2⟩ := h
      have e1 := (hC j as hp r1 h1 hc).1
      have e2 := ih _ r h' h2
      exact ⟨Nat.le_trans e1.1 e2.1, Nat.le_trans e1.2 e2.2⟩
    · rw [h.2]; exact ⟨Nat.le_refl _, Nat.le_refl _⟩
section
variable {p : Program} {l : Launch} {e : Env} {R : Room} {s : State} {m : MethodId} {args : Array Value} {below : List Frame} {meth : Method} {c : Code} {Q : State → Prop}
theorem sw_run {E : mx_E} {Ts Tg : List Cond} {own : String} {cc : ByteArray} {nL : Nat} {pcs : Nat → Nat} {M : mx_M} {i k nxt kind d : Nat} (hx : p.tables.exec = Jvm.exec) (hb : c.code = cc) (hml : c.maxLocals = nL) (hown : s.vm.findClass own = some m.cls) (hts : ∀ w ∈ Ts, w.before args s = true) (hKn : mx_Kn E s)
    (hG : GoodIn Ts (mW Tg M)) (hcal : mx_Cal E Ts own cc pcs (mY M) (mR M) i k nxt kind) {as rest : List mx_V} {r1 : Option mx_V} {h h1 : mx_H} {H : Heap} {locs : List Loc} {cells slots : Nat} {arr : Array Slot} (hk : as.length = k) (hcat : mx_cats rest ≤ 8) (hrcv : mx_rcv kind as h) (hrep : mx_Rep E h H) (hsize : arr.size = nL)
    (hM : Met l (mY M) (mW Tg M) (mx_rm d h h1) (mx_Pc E as h) (mx_Qc E r1 h1) (hpZ h1 - hpZ h) (hpU h1 - hpU h) (mx_A E)) (hR : d + 1 ≤ R.frames ∧ 8 + (mL M + 11) + 36 * d ≤ R.locals) (hf : cells + (hpZ h1 - hpZ h) ≤ R.cells ∧ slots + (hpU h1 - hpU h) ≤ R.slots) :
    va_Run p l e R s m args below meth c H locs cells slots (hpZ h1 - hpZ h) (hpU h1 - hpU h) (F0 m (pcs i) arr ((as.reverse ++ rest).map mx_v)) (rest.map mx_v) (mx_Qc E r1 h1 (as.map mx_v).toArray) (mx_A E) := by
  obtain ⟨hnx, hini, hmh, hcal⟩ := hcal
  have hst : (as.reverse ++ rest).map mx_v = (as.map mx_v).reverse ++ rest.map mx_v := by rw [List.map_append, List.map_reverse]
  have hW : 2 * (F0 m (pcs i) arr ((as.map mx_v).reverse ++ rest.map mx_v)).monitorRoom + ((rest.map mx_v).map fun v => v.category).sum ≤ 8 := by
    rw [mx_cats_eq]
    show 2 * 0 + _ ≤ 8
    omega
  rw [hst]
  have hpre : ∀ U : State, U.heap = H → s.WarmedH U.vm → mx_Pc E as h (as.map mx_v).toArray U := fun U hU hWm => ⟨rfl, by rw [hU]; exact hrep, hKn.moved hWm⟩
  match kind, hcal, hrcv with
  | 0, ⟨hpar, hstat, idx, hlk, hdg⟩, _ =>
    have hlen : (as.map mx_v).length = k := by rw [List.length_map]; exact hk
    rcases hlk with hlk | ⟨host, hlk⟩
    · exact va_runS ⟨hx, hb, hml, hown, hts⟩ hM ⟨callB_of k hts hG rfl rfl rfl (hts _ hini) (hts _ hlk) ⟨hmh.1, hmh.2, hpar⟩ hR, hts _ hstat⟩ ⟨mx_Pc_blind, hpre⟩ rfl hlen hsize rfl hW hdg hf
    · exact va_runSN ⟨hx, hb, hml, hown, hts⟩ hM ⟨va_cnB k hts hG rfl rfl rfl (hKn.2.2.1 _ hlk) (hts _ hini) ⟨hmh.1, hmh.2, hpar⟩ hR, hts _ hstat, trivial⟩ ⟨mx_Pc_blind, hpre⟩ rfl hlen hsize rfl hW hdg hf
  | 1, ⟨hpar, hret, hnm, hinst, idx, hlk, hdg⟩, ⟨b, hbb⟩ =>
    obtain ⟨as', rfl⟩ : ∃ as', as = .inr (.inr (some b)) :: as' := by
      cases as with
      | nil => simp at hbb
      | cons v t => simp at hbb; exact ⟨t, by rw [hbb]⟩
    have hpar' : (parseMethodDescriptor (mY M).desc).map (fun d => d.parameters.length) = some (as'.map mx_v).length := by
      cases hq : parseMethodDescriptor (mY M).desc with
      | none => rw [hq] at hpar; simp at hpar
      | some z => rw [hq] at hpar; simp only [Option.map_some, Option.some.injEq] at hpar ⊢; simp at hk ⊢; omega
    have hst2 : ((.inr (.inr (some b)) :: as' : List mx_V).map mx_v).reverse ++ rest.map mx_v = (as'.map mx_v).reverse ++ .ref b :: rest.map mx_v := by
      simp [mx_v, va_rf]
    rw [hst2] at hW ⊢
    rcases hlk with hlk | ⟨host, hlk⟩
    · exact va_runI ⟨hx, hb, hml, hown, hts⟩ hM ⟨callB_of _ hts hG (show mW Tg M = Cond.code (mY M) (mB M) (mL M) none :: Tg by unfold mW; rw [hret]) rfl rfl (hts _ hini) (hts _ hlk) ⟨hmh.1, hmh.2, hpar'⟩ hR, hnm, hts _ hinst⟩ ⟨mx_Pc_blind, hpre⟩ rfl rfl hsize rfl hW hdg hf
    · exact va_runIN ⟨hx, hb, hml, hown, hts⟩ hM ⟨va_cnB _ hts hG (show mW Tg M = Cond.code (mY M) (mB M) (mL M) none :: Tg by unfold mW; rw [hret]) rfl rfl (hKn.2.2.1 _ hlk) (hts _ hini) ⟨hmh.1, hmh.2, hpar'⟩ hR, hnm, hts _ hinst⟩ ⟨mx_Pc_blind, hpre⟩ rfl rfl hsize rfl hW hdg hf
  | ci + 2, ⟨hpar, hinst, hsel, ⟨T, N, hcl⟩, idx, hlk, hdg⟩, ⟨b, hbb, hkb⟩ =>
    obtain ⟨as', rfl⟩ : ∃ as', as = .inr (.inr (some b)) :: as' := by
      cases as with
      | nil => simp at hbb
      | cons v t => simp at hbb; exact ⟨t, by rw [hbb]⟩
    have hpar' : (parseMethodDescriptor (mY M).desc).map (fun d => d.parameters.length) = some (as'.map mx_v).length := by
      cases hq : parseMethodDescriptor (mY M).desc with
      | none => rw [hq] at hpar; simp at hpar
      | some z => rw [hq] at hpar; simp only [Option.map_some, Option.some.injEq] at hpar ⊢; simp at hk ⊢; omega
    have hst2 : ((.inr (.inr (some b)) :: as' : List mx_V).map mx_v).reverse ++ rest.map mx_v = (as'.map mx_v).reverse ++ .ref b :: rest.map mx_v := by
      simp [mx_v, va_rf]
    rw [hst2] at hW ⊢
    obtain ⟨-, r, g1, cell, g2, g3, g4, -⟩ := hrep.2.2 b _ hkb
    have hrc : ∃ cellB : Cell, H[b]? = some cellB ∧ cellB.vm.isStatics = false ∧ s.vm.findClass (mY M).cls = some cellB.cls := ⟨cell, g2, by rw [g4]; rfl, by rw [g3]; exact (hKn.1 ci _ hcl).2.1⟩
    rcases hlk with hlk | ⟨host, hlk⟩
    · exact va_runV ⟨hx, hb, hml, hown, hts⟩ hM ⟨callB_of _ hts hG rfl rfl rfl (hts _ hini) (hts _ hlk) ⟨hmh.1, hmh.2, hpar'⟩ hR, hts _ hinst, hts _ hsel⟩ ⟨mx_Pc_blind, hrc, hpre⟩ rfl rfl hsize rfl hW hdg hf
    · exact va_runVN ⟨hx, hb, hml, hown, hts⟩ hM ⟨va_cnB _ hts hG rfl rfl rfl (hKn.2.2.1 _ hlk) (hts _ hini) ⟨hmh.1, hmh.2, hpar'⟩ hR, hts _ hinst, hts _ hsel⟩ ⟨mx_Pc_blind, hrc, hpre⟩ rfl rfl hsize rfl hW hdg hf
end
theorem mx_walk {E : mx_E} {mt : Nat → mx_M} {Ts Tg : List Cond} {own : String} {ini : Bool} {cc : ByteArray} {nL : Nat} {pcs : Nat → Nat} {code : Nat → mx_I} {p : Program} {l : Launch} {e : Env} {R : Room} {s : State} {m : MethodId} {args : Array Value} {below : List Frame} {meth : Method} {c : Code} {Q : State → Prop} {d sz us : Nat} {C : mx_C} {r : Option mx_V} {h' : mx_H}
    (hx : p.tables.exec = Jvm.exec) (hb : c.code = cc) (hml : c.maxLocals = nL) (hown : s.vm.findClass own = some m.cls) (hts : ∀ w ∈ Ts, w.before args s = true) (hKn : mx_Kn E s) (hin : ini = true → meth.name = "<init>") (hR : d + 1 ≤ R.frames ∧ 36 * (d + 1) ≤ R.locals) (hRc : hpZ h' - sz ≤ R.cells) (hRs : hpU h' - us ≤ R.slots)
    (hok : ∀ i, mx_Ok E mt Ts own ini cc nL pcs i (code i)) (hC : mx_CS l E mt Tg d C) (hG : ∀ j, GoodIn Ts (mW Tg (mt j))) (hmL : ∀ j, mL (mt j) ≤ 17)
    (hend : ∀ (i t : Nat) (st : List mx_V) (H : Heap) (locs : List Loc) (arr : Array Slot), code i = .inr (.inr t) → mx_ret t st r → mx_Rep E h' H → va_S (mx_A E) s.heap H locs → W p l e R s m args below meth c H locs (hpZ h' - sz) (hpU h' - us) Q (F0 m (pcs i) arr (st.map mx_v))) :
    ∀ (n : Nat) (q : mx_S) (H : Heap) (locs : List Loc) (arr : Array Slot), mx_Run C code n q r h' → sz ≤ hpZ q.2.2.2 → us ≤ hpU q.2.2.2 → mx_Rep E q.2.2.2 H → ml_has arr nL q.2.1 → va_S (mx_A E) s.heap H locs →
      W p l e R s m args below meth c H locs (hpZ q.2.2.2 - sz) (hpU q.2.2.2 - us) Q (F0 m (pcs q.1) arr (q.2.2.1.map mx_v)) := by
  intro n
  induction n with
  | zero => intro q H locs arr h; exact absurd h (by simp [mx_Run])
  | succ n ih =>
    intro q H locs arr h hz hu hrep hl hS
    obtain ⟨i, ls, st, hp⟩ := q
    have ho := hok i
    simp only [mx_Run] at h
    dsimp only at hz hu hrep hl ⊢
    generalize hcode : code i = I at ho h
    rcases I with f | ⟨j, k, nxt, kind⟩ | t
    · obtain ⟨q', h1, h2⟩ := h
      have e1 := ho.1 ls st hp q' h1
      have e2 := mx_mono hok hC n q' r h' h2
      refine ho.2 p l e R s m args below meth c Q hx hb hml hown hts hKn hin ⟨by omega, by omega⟩ sz us ls st hp q' H locs arr h1 hz hu hrep hl hS (by omega) (by omega) (fun H' locs' arr' hr' hl' hS' => ?_)
      exact ih q' H' locs' arr' h2 (by omega) (by omega) hr' hl' hS'
    · obtain ⟨as, rest, r1, h1, hst, hk, hcat, hrcv, hc, h2⟩ := h
      obtain ⟨hm, hM⟩ := hC j as hp r1 h1 hc
      have e2 := mx_mono hok hC n _ r h' h2
      dsimp only at e2 hst hrcv
      subst hst
      have hL := hmL j
      have hrun := sw_run (e := e) (R := R) (below := below) (meth := meth) (locs := locs) (cells := hpZ hp - sz) (slots := hpU hp - us) hx hb hml hown hts hKn (hG j) ho hk hcat hrcv hrep hl.1 hM ⟨hR.1, by omega⟩ ⟨by omega, by omega⟩
      intro T hT X
      obtain ⟨v, st₀, t, T', L, g0, X', hL', g1, g2, ⟨hv, hr1, hF⟩, stp⟩ := hrun T hT X
      cases hv
      have hS' : va_S (mx_A E) s.heap T'.heap (locs ++ L) := by
        refine ⟨Nat.le_trans hS.1 (by rw [g1, ← g0]; exact hF.1), fun q q1 q2 => ?_, fun q hq => ?_⟩
        · have q3 : q < H.size := Nat.lt_of_lt_of_le q1 hS.1
          rw [g1, hF.2 q (by rw [g0]; exact q3) q2, g0]
          exact hS.2.1 q q1 q2
        · rcases List.mem_append.mp hq with z | z
          · exact hS.2.2 q z
          · exact hL' q z
      have hnx := ho.1
      have key := ih (nxt, ls, r1.toList ++ rest, h1) T'.heap (locs ++ L) arr h2 (by dsimp only; omega) (by dsimp only; omega) (by dsimp only; rw [g1]; exact hr1) hl hS'
      dsimp only at key
      have ec : hpZ hp - sz + (hpZ h1 - hpZ hp) = hpZ h1 - sz := by omega
      have es : hpU hp - us + (hpU h1 - hpU hp) = hpU h1 - us := by omega
      rw [ec, es] at X'
      obtain ⟨t2, a1, b1⟩ := key T' rfl X'
      refine ⟨t2, stp t2 ?_, b1⟩
      have ev : (r1.map mx_v).toList ++ rest.map mx_v = (r1.toList ++ rest).map mx_v := by cases r1 <;> simp
      rw [show (F0 m (pcs i) arr ((as.reverse ++ rest).map mx_v)).pc + 3 = pcs nxt from hnx.symm, ev]
      exact a1
    · obtain ⟨h1, h2⟩ := h
      subst h2
      exact hend i t st H locs arr hcode h1 hrep hS
/-- all calls of the abstract machine are calls of the Statement's -/
theorem mx_sound {E : mx_E} {mt : Nat → mx_M} {Tg : List Cond} {l : Launch} {prog : Nat → Nat × (Nat → mx_I)} (hprog : ∀ j, prog j = (mL (mt j), mI (mt j)))
    (hok : ∀ j i, mx_Ok E mt (mW Tg (mt j)) (mY (mt j)).cls (decide ((mY (mt j)).name = "<init>")) (mB (mt j)) (mL (mt j)) (mP (mt j)) i (mI (mt j) i)) (hret : ∀ j i t, mI (mt j) i = .inr (.inr t) → mx_rets (mB (mt j)) (mP (mt j)) (mR (mt j)) i t)
    (hg : ∀ w ∈ Tg, (w.onTables && w.keeps) = true ∨ ∃ ty, w = .arrayClass ty) (hcd : ∀ j, Cond.code (mY (mt j)) (mB (mt j)) (mL (mt j)) (mR (mt j)) ∈ Tg) (hmL : ∀ j, mL (mt j) ≤ 17) (hpl : ∀ j, plainName (mY (mt j)).cls = true) (hp0 : ∀ j, mP (mt j) 0 = 0) :
    ∀ d, mx_CS l E mt Tg d (mx_Call prog d) := by
  have hG : ∀ i j, GoodIn (mW Tg (mt i)) (mW Tg (mt j)) := by
    intro i j w hw
    have hin : w ∈ Tg := by
      rcases List.mem_cons.mp hw with h | h
      · rw [h]; exact hcd j
      · exact h
    exact ⟨List.mem_cons_of_mem _ hin, hg w hin⟩
  intro d
  induction d with
  | zero => intro j as h r h' hc; exact absurd hc (by simp [mx_Call])
  | succ d ih =>
    intro j as h r h' hc
    obtain ⟨hfit, n, hrun⟩ := hc
    rw [hprog] at hrun hfit
    dsimp only at hrun hfit
    refine ⟨mx_mono (hok j) ih n _ r h' hrun, ?_⟩
    refine Met.ofW (cc := mB (mt j)) (maxL := mL (mt j)) (ret := mR (mt j)) (hpl j) rfl ?_
    intro p e s m args below meth c s₁ B hml hv
    obtain ⟨rfl, hrep, hKn⟩ := hv
    have hx := B.exec
    have hb := B.bytes
    have hr := B.returns
    have hts := atoms_spec (ws := mW Tg (mt j)) B.pre
    have hown : s.vm.findClass (mY (mt j)).cls = some m.cls := findClass_of_methodNamed B.named
    have hlocks := B.notSynchronized
    have hin : decide ((mY (mt j)).name = "<init>") = true → meth.name = "<init>" := fun hd => by
      rw [(name_of_methodNamed B.named B.method).1]; exact of_decide_eq_true hd
    have hlen : (lg_sl (as.map mx_v)).length ≤ mL (mt j) := by
      rw [mx_len]; exact hfit
    have hl := lv_entry (as.map mx_v) (n := mL (mt j)) hlen
    rw [lg_entry_eq]
    generalize (lg_sl (as.map mx_v) ++ List.replicate (mL (mt j) - (lg_sl (as.map mx_v)).length) Slot.unset).toArray = ls at hl ⊢
    have hl' : ml_has ls (mL (mt j)) (ml_pad (mL (mt j)) (ml_args as)) := ml_entry hl
    have key := mx_walk (e := e) (below := below) (sz := hpZ h) (us := hpU h) (R := mx_rm (d + 1) h h') (Q := MQ below (mx_Qc E r h') (as.map mx_v).toArray s (hpZ h' - hpZ h) (hpU h' - hpU h) (mx_A E)) hx hb hml hown hts hKn hin ⟨Nat.le_refl _, Nat.le_refl _⟩ (Nat.le_refl _) (Nat.le_refl _) (hok j) ih (hG j) hmL ?_ n _ s.heap [] ls hrun (Nat.le_refl _) (Nat.le_refl _) hrep hl' va_S.rf
    · dsimp only at key
      rw [Nat.sub_self, Nat.sub_self, hp0] at key
      exact key
    · intro i t st H locs arr hcode hret' hrep' hS'
      have hq : ∀ t : State, t.heap = H → s.WarmedH t.vm → ∀ o, o = .returned (r.map mx_v) → mx_Qc E r h' (as.map mx_v).toArray s o t := fun t ht _ o ho => ⟨ho, by rw [ht]; exact hrep', hS'.F ht⟩
      have hrt := hret j i t hcode
      match t, hret', hrt with
      | 0, ⟨x, e1, e2⟩, ⟨hd, he⟩ => subst e1; subst e2; exact W.iret hx hb (hr.trans he) (fun t ht hW => hq t ht hW _ rfl) hS'.2.2 hd
      | 1, ⟨x, e1, e2⟩, ⟨hd, he⟩ => subst e1; subst e2; exact W.lret hx hb (hr.trans he) (fun t ht hW => hq t ht hW _ rfl) hS'.2.2 hd
      | 2, ⟨x, e1, e2⟩, ⟨hd, rt, he, hrt⟩ => subst e1; subst e2; exact W.aret hx hb (hr.trans he) hrt (by cases x with | none => exact Or.inl rfl | some a => exact Or.inr ⟨a, rfl⟩) (fun t ht hW => hq t ht hW _ rfl) hS'.2.2 hd
      | 3, ⟨x, e1, e2, h01⟩, ⟨hd, he⟩ => subst e1; subst e2; exact W.zret hx hb (hr.trans he) (by rcases h01 with rfl | rfl <;> rfl) (fun t ht hW => hq t ht hW _ rfl) hS'.2.2 hd
      | t + 4, ⟨e1, e2⟩, ⟨hd, he⟩ => subst e1; subst e2; exact W.vret hx hb (hr.trans he) (fun t ht hW => hq t ht hW _ rfl) hS'.2.2 hd
