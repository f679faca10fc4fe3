-- ===== end of PART A; then your names; then what follows =====
/-! THE CLAIM OUT OF ONE WALK OF THE LAW'S BODY. Your part is whole_start (and what it stands on); all else here is the same for every law, but numbers. -/
def R_law : String := "CountDeskLaw"
def lw_P (b : Addr) (xs : List Int32) (args : Array Value) (s : State) : Prop := args = #[.ref b] ∧ s.IntsAt b xs ∧ xs.length ≤ 2560 ∧ (Jvm.Cond.and given_1 narrow_1).before args s = true
def lw_Q (_ : Array Value) (s : State) (o : Outcome) (t : State) : Prop := o = .returned (some (.int 1)) ∧ Framed s o t [] 600000 7302250
def lw_Z (below : List Frame) (a : Array Value) (s : State) : State → Prop := fun t => ∃ o, t.status = .running ∧ Ended t below o ∧ lw_Q a s o t
/-- the law's own end, with 1 on the stack, nothing written that was there before, its room as the claim has it -/
theorem lw_ret {p : Program} {l : Launch} {e : Env} {s : State} {m : MethodId} {below : List Frame} {meth : Method} {c : Code} {b : Nat} (hx : p.tables.exec = Jvm.exec) (hb : c.code = code) (hr : meth.sig.returnType = ret) (hlocks : meth.locks = false) {pc : Nat} {H : Heap} {ls : Array Slot} (hdg : decode code pc = .ok (.ireturn, 1)) : W p l e room_1 s m #[Value.ref b] below meth c H [] 600000 7302250 (lw_Z below #[Value.ref b] s) (F0 m pc ls [.int 1]) := by
  intro T hT X
  obtain ⟨fs, hret, hrun, hended, hW, hframe⟩ := X.leave (v := some (.int 1)) (hlocks := hlocks) (fun h => by rw [hr] at h; cases h)
  have hmeth' : T.vm.method? m = some meth := X.method'
  refine ⟨T.setFrames fs, ?_, .returned (some (.int 1)), hrun, hended, rfl, ⟨_, rfl⟩, hW, hframe⟩
  jvm_step X.here [X.here.top, hx, hb, hdg, hmeth', hr, ret, narrow_b1]
  (try refine ⟨rfl, ?_⟩); (try refine ⟨rfl, ?_⟩)
  first | (intro acts; rw [hret _ acts rfl rfl rfl]) | rw [hret _ _ rfl rfl rfl]
  exact Steps.refl _
/-- what holds at the law's entry: the machine, the code, the tables' words (any of lw_tbl by 'hts w (by decide +kernel)'), the script of L ints xs at the cell b, what the Statement gives of the start (any of its parts by flat_of_before) -/
def lw_At (p : Program) (s : State) (m : MethodId) (meth : Method) (c : Code) (b L : Nat) (xs : Nat → Int32) : Prop :=
  p.tables.exec = Jvm.exec ∧ c.code = code ∧ meth.sig.returnType = ret ∧ c.maxLocals = 4 ∧ s.vm.findClass R_law = some m.cls ∧ (∀ w ∈ lw_tbl, w.before #[Value.ref b] s = true) ∧ va_X b L xs s s.heap ∧ b < s.heap.size ∧ meth.locks = false ∧ (Jvm.Cond.and given_1 narrow_1).before #[Value.ref b] s = true
/-! The claim out of one run of the law's code on the abstract machine. -/
def lw_h0 (base : Nat) : mx_H := (fun _ => none, fun _ _ => 0, fun _ _ => 0, fun _ _ => none, base, 0)
/-- what is wanted of the abstract machine: the law's run ends with 1, in its room -/
def lw_Run (X : mx_X0) : Prop := mx_W (mx_Call mx_prog 8) (mx_nth (cd_L_law X)) (0, [some (.inr (.inr (some (eSb (mE X))))), none, none, none], [], lw_h0 (eB (mE X))) (fun r h' => r = some (.inl 1) ∧ hpZ h' - eB (mE X) ≤ 600000 ∧ hpU h' ≤ 7302250)
theorem lw_good (j : Nat) : GoodIn lw_tbl (mW mTg (mt j)) := by
  intro w hw
  have hin : w ∈ mTg := by
    rcases List.mem_cons.mp hw with h | h
    · rw [h]; exact (mg_mt ((fun _ => 0, fun _ _ => 0), fun _ => 0, 0, 0, 0, fun _ => 0, default) j).2.2.1
    · exact h
  exact ⟨tl hin, good_of_word (List.mem_filter.mp hin).2⟩
theorem lw_arr {s : State} {args : Array Value} {ty : FieldType} (hp : ty = .int ∨ ty = .long) (h : (Cond.arrayClass ty).before args s = true) : ∃ cA : ClassId, ArrOfT s cA ty ∧ va_RA s cA ty := by
  obtain ⟨cA, kA, comp, h1, h2, h3⟩ := Cond.arrayClass_spec h
  refine ⟨cA, fun n z => ⟨fun k h => (by cases h), kA, h2, comp, h3⟩, ?_⟩
  rcases hp with rfl | rfl <;> exact h1
theorem lw_ovr {s : State} {C : String} (h : va_AO C s) : ∃ cA : ClassId, ArrOfT s cA (.object C) ∧ va_RA s cA (.object C) := by
  obtain ⟨comp, cA, kA, h1, h2, h3, h4, h5⟩ := Cond.arrayOver_spec h
  exact ⟨cA, fun n z => ⟨fun k h => (by cases h), kA, h3, comp, h4⟩, kA, comp, h3, h4, h1, h5⟩
set_option maxRecDepth 100000 in
set_option maxHeartbeats 4000000 in
theorem lw_start_of (hrun : ∀ X : mx_X0, eSL (mE X) ≤ 2560 → eSb (mE X) < eB (mE X) → lw_Run X) {p : Program} {e : Env} {s : State} {m : MethodId} {below : List Frame} {meth : Method} {c : Code} (l : Launch) {b L : Nat} {xs : Nat → Int32} (hL : L ≤ 2560) (C0 : lw_At p s m meth c b L xs) : W p l e room_1 s m #[Value.ref b] below meth c s.heap [] 0 0 (lw_Z below #[Value.ref b] s) (entryFrame m ([Value.ref b] : List Value).toArray 4) := by
  obtain ⟨hx, hb, hr, hml, hown, hts, hX, hbl, hlocks, hgv⟩ := id C0
  obtain ⟨scr, x1, x2, x3, x4, x5⟩ := hX
  obtain ⟨c0, i0, K0⟩ := u_known (C := "CountDesk$Arm") (T := tb_0) (N := 11) hts (fun w hw => tl (mc_0 w hw)) (hts (.instantiable "CountDesk$Arm" 11) (by decide +kernel))
  obtain ⟨c1, i1, K1⟩ := u_known (C := "CountDesk$Node") (T := tb_1) (N := 15) hts (fun w hw => tl (mc_1 w hw)) (hts (.instantiable "CountDesk$Node" 15) (by decide +kernel))
  obtain ⟨c2, i2, K2⟩ := u_known (C := "CountDesk$Splitter") (T := tb_2) (N := 3) hts (fun w hw => tl (mc_2 w hw)) (hts (.instantiable "CountDesk$Splitter" 3) (by decide +kernel))
  obtain ⟨c3, i3, K3⟩ := u_known (C := "CountDesk") (T := tb_3) (N := 5) hts (fun w hw => tl (mc_3 w hw)) (hts (.instantiable "CountDesk" 5) (by decide +kernel))
  obtain ⟨c4, i4, K4⟩ := u_known (C := "CountDeskModel") (T := tb_4) (N := 29) hts (fun w hw => tl (mc_4 w hw)) (hts (.instantiable "CountDeskModel" 29) (by decide +kernel))
  have o0 : va_AO "CountDesk$Node" s := va_AO.of (hts (.arrayOver (.object "CountDesk$Node")) (by decide +kernel))
  have o1 : va_AO "CountDesk$Arm" s := va_AO.of (hts (.arrayOver (.object "CountDesk$Arm")) (by decide +kernel))
  obtain ⟨a0, A0⟩ := lw_arr (Or.inl rfl) (hts (.arrayClass .int) (by decide +kernel))
  obtain ⟨a1, A1⟩ := lw_arr (Or.inr rfl) (hts (.arrayClass .long) (by decide +kernel))
  obtain ⟨a2, A2⟩ := lw_ovr o0
  obtain ⟨a3, A3⟩ := lw_ovr o1
  obtain ⟨X, hXe⟩ : ∃ X : mx_X0, X = ((fun k => match k with | 0 => c0 | 1 => c1 | 2 => c2 | 3 => c3 | _ => c4, fun k => match k with | 0 => i0 | 1 => i1 | 2 => i2 | 3 => i3 | _ => i4), fun t => match t with | 0 => a0 | 1 => a1 | 2 => a2 | _ => a3, s.heap.size, b, L, xs, scr) := ⟨_, rfl⟩
  have hKn : mx_Kn (mE X) s := by
    subst hXe
    refine ⟨?_, ?_, ?_, ?_, x2, x3, x4, x5⟩
    · intro k q hq
      match k, hq with
      | 0, hq => cases hq; exact K0
      | 1, hq => cases hq; exact K1
      | 2, hq => cases hq; exact K2
      | 3, hq => cases hq; exact K3
      | 4, hq => cases hq; exact K4
      | k + 5, hq => exact absurd (show mx_cls[k + 5]? = some q from hq) (by simp [mx_cls])
    · intro k q hq
      match k, hq with
      | 0, hq => cases hq; exact A0
      | 1, hq => cases hq; exact A1
      | 2, hq => cases hq; exact A2
      | 3, hq => cases hq; exact A3
      | k + 4, hq => exact absurd (show mx_aty[k + 4]? = some q from hq) (by simp [mx_aty])
    · intro q hq
      have hq' : q ∈ mx_nst := hq
      have hall : ∀ q ∈ mx_nst, Cond.methodLinkNest q.1 q.2.1 q.2.2.1 q.2.2.2 ∈ lw_tbl := by decide +kernel
      exact va_Nw.of rfl (hts _ (hall q hq'))
    · intro C hC
      have hC' : C ∈ mx_ovr := hC
      rcases List.mem_cons.mp hC' with h | h
      · rw [h]; exact o0
      · rcases List.mem_cons.mp h with h | h
        · rw [h]; exact o1
        · cases h
  have eb : eSb (mE X) = b := by subst hXe; rfl
  have eB' : eB (mE X) = s.heap.size := by subst hXe; rfl
  have eL' : eSL (mE X) = L := by subst hXe; rfl
  have eS' : eSc (mE X) = scr := by subst hXe; rfl
  obtain ⟨n, r, h', hrn, rfl, hz, hu⟩ := hrun X (by rw [eL']; exact hL) (by rw [eb, eB']; exact hbl)
  have hl := lv_entry ([.ref b]) (n := 4) (Nat.le_of_ble_eq_true rfl)
  rw [lg_entry_eq]
  generalize (lg_sl ([.ref b]) ++ List.replicate (4 - (lg_sl ([.ref b])).length) Slot.unset).toArray = ls at hl ⊢
  have hrep : mx_Rep (mE X) (lw_h0 (eB (mE X))) s.heap := ⟨by show _ = eB (mE X); rw [eB'], ⟨Nat.le_refl _, by rw [eb, eB']; exact hbl, by rw [eb, eS']; exact x1⟩, fun a t h => (by cases h)⟩
  have hl' : ml_has ls 4 [some (.inr (.inr (some (eSb (mE X))))), none, none, none] := by rw [eb]; exact hl
  have key := mx_walk (e := e) (below := below) (meth := meth) (R := room_1) (sz := eB (mE X)) (us := 0) (own := "CountDeskLaw") (ini := false) (nL := 4) (args := #[Value.ref b]) (Q := lw_Z below #[Value.ref b] s) hx hb hml hown hts hKn (fun h => (by cases h)) ⟨Nat.le_refl _, Nat.le_of_ble_eq_true rfl⟩ hz (show hpU h' - 0 ≤ _ from hu) (ok_L_law X) (pg_sound l X 8) lw_good (fun j => (mg_mt X j).2.2.2.1) ?_ n _ s.heap [] ls hrn (Nat.le_refl _) (Nat.le_refl _) hrep hl' va_S.rf
  · dsimp only at key
    have e1 : hpZ (lw_h0 (eB (mE X))) - eB (mE X) = 0 := Nat.sub_self _
    rw [e1] at key
    exact key
  · intro i t st H locs arr hcode hret hrep' hS'
    have hrt := rt_L_law X i t hcode
    refine va_forget (fun q hq => ?_) ?_
    · have := hS'.2.2 q hq
      rw [← eB']; exact this
    · refine W.widen (k := 600000) (n := 7302250) hz (show hpU h' - 0 ≤ _ from hu) ?_
      match t, hret, hrt with
      | 0, ⟨x, e1, e2⟩, ⟨hd, he⟩ => cases e2; subst e1; exact lw_ret hx hb hr hlocks hd
      | 1, ⟨x, e1, e2⟩, _ => cases e2
      | 2, ⟨x, e1, e2⟩, _ => cases e2
      | 3, ⟨x, e1, e2, _⟩, ⟨hd, he⟩ => cases e2; subst e1; exact lw_ret hx hb hr hlocks hd
      | t + 4, ⟨e1, e2⟩, _ => cases e2
