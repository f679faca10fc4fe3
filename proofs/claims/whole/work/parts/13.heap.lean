/-! Fields, new cells, arrays, switches. -/
section
variable {E : mx_E} {cc : ByteArray} {nL : Nat} {own : String} {ini : Bool} {pcs : Nat → Nat} {Ts : List Cond} {i n : Nat}
/-- a field is read -/
theorem sw_get {c k idx : Nat} {C : String} {T : u_T} {N : Nat} (hd : decode cc (pcs i) = .ok (.getfield idx, 3)) (hn : pcs n = pcs i + 3) (hc : (eC E)[c]? = some (C, T, N)) (hws : ∀ w ∈ u_ws C T N, w ∈ Ts) (hk : k < N) (hlk : Cond.fieldLink own idx (T k).1 (T k).2.1 (T k).2.2.1 ∈ Ts)
    {p : Program} {l : Launch} {e : Env} {R : Room} {s : State} {m : MethodId} {args : Array Value} {below : List Frame} {meth : Method} {cd : Code} {Q : State → Prop} (hx : p.tables.exec = Jvm.exec) (hb : cd.code = cc) (hown : s.vm.findClass own = some m.cls) (hts : ∀ w ∈ Ts, w.before args s = true) (hKn : mx_Kn E s)
    {h : mx_H} {H : Heap} {locs : List Loc} {cells slots : Nat} {arr : Array Slot} {a : Nat} {rest : List Value} (hrep : mx_Rep E h H) (ha : hpK h a = some (.inl c))
    (kk : W p l e R s m args below meth cd H locs cells slots Q (F0 m (pcs n) arr (hpV h a (eF E c k) k :: rest))) : W p l e R s m args below meth cd H locs cells slots Q (F0 m (pcs i) arr (.ref a :: rest)) := by
  obtain ⟨-, r, h1, cell, q1, q2, q3, q4⟩ := hrep.2.2 a _ ha
  have hr : r = (C, T, N) := Option.some.inj (h1.symm.trans hc)
  subst hr
  obtain ⟨hS, hfc, kC, hkC, hkind⟩ := hKn.1 c _ hc
  obtain ⟨cf, kf, fi, f, hi, hsl⟩ := hS k hk
  refine W.getf hx hb hown (hts _ hlk) hi (u_facts hfc hkC (u_lays hts hws hk) hi).1 q1 (by rw [q3]; exact fun h => by cases h) (v := hpV h a (eF E c k) k) ?_ rfl rfl hd (by rw [hn] at kk; exact kk)
  rw [hsl, q4 k hk]
theorem sn_gI {c k idx : Nat} {C : String} {T : u_T} {N : Nat} (hd : decode cc (pcs i) = .ok (.getfield idx, 3)) (hn : pcs n = pcs i + 3) (hc : (eC E)[c]? = some (C, T, N)) (hws : ∀ w ∈ u_ws C T N, w ∈ Ts) (hk : k < N) (hlk : Cond.fieldLink own idx (T k).1 (T k).2.1 (T k).2.2.1 ∈ Ts) (hty : eF E c k = 0 ∨ eF E c k = 3) : mx_Snd E cc nL own ini pcs Ts i (x_gI n c k) := by
  refine ⟨fun ls st h q' hf => ?_, ?_⟩
  · rcases st with _ | ⟨x | x | (_ | a), st⟩ <;> simp only [x_gI, reduceCtorEq] at hf
    split at hf <;> cases hf
    rename_i ha
    exact ⟨Nat.le_refl _, Nat.le_refl _⟩
  intro p l e R s m args below meth cd Q hx hb hml hown hts hKn hin hR sz us ls st h q' H locs arr hf hz hu hrep hl hS hcs hss kk
  rcases st with _ | ⟨x | x | (_ | a), st⟩ <;> simp only [x_gI, reduceCtorEq] at hf
  split at hf <;> cases hf
  rename_i ha
  refine sw_get hd hn hc hws hk hlk hx hb hown hts hKn hrep ha ?_
  have := kk H locs arr hrep hl hS
  have e1 : hpV h a (eF E c k) k = .int (hpI h a k) := by rcases hty with e | e <;> rw [e] <;> rfl
  rw [e1]; exact this
theorem sn_gL {c k idx : Nat} {C : String} {T : u_T} {N : Nat} (hd : decode cc (pcs i) = .ok (.getfield idx, 3)) (hn : pcs n = pcs i + 3) (hc : (eC E)[c]? = some (C, T, N)) (hws : ∀ w ∈ u_ws C T N, w ∈ Ts) (hk : k < N) (hlk : Cond.fieldLink own idx (T k).1 (T k).2.1 (T k).2.2.1 ∈ Ts) (hty : eF E c k = 1) : mx_Snd E cc nL own ini pcs Ts i (x_gL n c k) := by
  refine ⟨fun ls st h q' hf => ?_, ?_⟩
  · rcases st with _ | ⟨x | x | (_ | a), st⟩ <;> simp only [x_gL, reduceCtorEq] at hf
    split at hf <;> cases hf
    rename_i ha
    exact ⟨Nat.le_refl _, Nat.le_refl _⟩
  intro p l e R s m args below meth cd Q hx hb hml hown hts hKn hin hR sz us ls st h q' H locs arr hf hz hu hrep hl hS hcs hss kk
  rcases st with _ | ⟨x | x | (_ | a), st⟩ <;> simp only [x_gL, reduceCtorEq] at hf
  split at hf <;> cases hf
  rename_i ha
  refine sw_get hd hn hc hws hk hlk hx hb hown hts hKn hrep ha ?_
  have := kk H locs arr hrep hl hS
  have e1 : hpV h a (eF E c k) k = .long (hpL h a k) := by rw [hty]; rfl
  rw [e1]; exact this
theorem sn_gR {c k idx : Nat} {C : String} {T : u_T} {N : Nat} (hd : decode cc (pcs i) = .ok (.getfield idx, 3)) (hn : pcs n = pcs i + 3) (hc : (eC E)[c]? = some (C, T, N)) (hws : ∀ w ∈ u_ws C T N, w ∈ Ts) (hk : k < N) (hlk : Cond.fieldLink own idx (T k).1 (T k).2.1 (T k).2.2.1 ∈ Ts) (hty : eF E c k = 2) : mx_Snd E cc nL own ini pcs Ts i (x_gR n c k) := by
  refine ⟨fun ls st h q' hf => ?_, ?_⟩
  · rcases st with _ | ⟨x | x | (_ | a), st⟩ <;> simp only [x_gR, reduceCtorEq] at hf
    split at hf <;> cases hf
    rename_i ha
    exact ⟨Nat.le_refl _, Nat.le_refl _⟩
  intro p l e R s m args below meth cd Q hx hb hml hown hts hKn hin hR sz us ls st h q' H locs arr hf hz hu hrep hl hS hcs hss kk
  rcases st with _ | ⟨x | x | (_ | a), st⟩ <;> simp only [x_gR, reduceCtorEq] at hf
  split at hf <;> cases hf
  rename_i ha
  refine sw_get hd hn hc hws hk hlk hx hb hown hts hKn hrep ha ?_
  have := kk H locs arr hrep hl hS
  have e1 : hpV h a (eF E c k) k = va_rf (hpR h a k) := by rw [hty]; rfl
  rw [e1]; exact this
/-- a field is written: fin: it is final, in a constructor of its class -/
theorem sw_put {fin : Bool} {c k idx : Nat} {C : String} {T : u_T} {N : Nat} {tf : Nat → FieldType} (hd : decode cc (pcs i) = .ok (.putfield idx, 3)) (hn : pcs n = pcs i + 3) (hc : (eC E)[c]? = some (C, T, N)) (hws : ∀ w ∈ u_ws C T N, w ∈ Ts) (hk : k < N) (hlk : Cond.fieldLink own idx (T k).1 (T k).2.1 (T k).2.2.1 ∈ Ts)
    (htf : ∀ k, k < N → parseFieldDescriptor (T k).2.2.1 = some (tf k)) (hnm : ∀ a, a < N → ∀ b, b < N → a ≠ b → (T a).2.1 ≠ (T b).2.1) (hfin : (T k).2.2.2 = fin) (hfo : fin = true → (T k).1 = own ∧ ini = true)
    {p : Program} {l : Launch} {e : Env} {R : Room} {s : State} {m : MethodId} {args : Array Value} {below : List Frame} {meth : Method} {cd : Code} {Q : State → Prop} (hx : p.tables.exec = Jvm.exec) (hb : cd.code = cc) (hown : s.vm.findClass own = some m.cls) (hts : ∀ w ∈ Ts, w.before args s = true) (hKn : mx_Kn E s) (hin : ini = true → meth.name = "<init>")
    {h h' : mx_H} {H : Heap} {locs : List Loc} {cells slots : Nat} {arr : Array Slot} {a : Nat} {rest : List Value} {v : Value} (hrep : mx_Rep E h H) (hS0 : va_S (mx_A E) s.heap H locs) (ha : hpK h a = some (.inl c)) (hnar : narrow (tf k) v = v) (hfit : fits (tf k) v = true)
    (hZ : hpZ h' = hpZ h) (hK : ∀ b, hpK h' b = hpK h b) (hV1 : ∀ b ty j, b ≠ a → hpV h' b ty j = hpV h b ty j) (hV2 : ∀ j, j < N → hpV h' a (eF E c j) j = if j = k then v else hpV h a (eF E c j) j)
    (kk : ∀ (H' : Heap) (locs' : List Loc), mx_Rep E h' H' → va_S (mx_A E) s.heap H' locs' → W p l e R s m args below meth cd H' locs' cells slots Q (F0 m (pcs n) arr rest)) : W p l e R s m args below meth cd H locs cells slots Q (F0 m (pcs i) arr (v :: .ref a :: rest)) := by
  obtain ⟨hba, r, h1, cell, q1, q2, q3, q4⟩ := hrep.2.2 a _ ha
  have hr : r = (C, T, N) := Option.some.inj (h1.symm.trans hc)
  subst hr
  obtain ⟨hS, hfc, kC, hkC, hkind⟩ := hKn.1 c _ hc
  have hap : ∀ x y, x < N → y < N → x ≠ y → ((eD E).2 c) x ≠ ((eD E).2 c) y := by
    intro x y hxN hyN hne
    obtain ⟨_, _, _, fa, hia, ea⟩ := hS x hxN
    obtain ⟨_, _, _, fb, hib, eb⟩ := hS y hyN
    rw [← ea, ← eb]
    refine u_apart (u_lays hts hws hxN) (u_lays hts hws hyN) hia hib ?_
    rw [(State.fieldFound?_type hia (htf x hxN)).1, (State.fieldFound?_type hib (htf y hyN)).1]
    exact hnm x hxN y hyN hne
  obtain ⟨cf, kf, fi, f, hi, hsl⟩ := hS k hk
  have hlay := hts _ (hws _ (u_in_lay hk))
  have hst := (u_facts hfc hkC (u_lays hts hws hk) hi).1
  have fin' : ∀ H' : Heap, H'[a]? = some (cell.setSlot f.slot v) → H'.size = H.size → (∀ q, q ≠ a → H'[q]? = H[q]?) → W p l e R s m args below meth cd H' (locs ++ [⟨a, f.slot⟩]) cells slots Q (F0 m (pcs i + 3) arr rest) := by
    intro H' e1 e2 e3
    rw [← hn]
    refine kk H' _ (hrep.put e2 e3 hZ hK hV1 ha ?_) (hS0.put e2 e3 hba)
    rw [hsl] at e1
    exact ⟨(C, T, N), hc, _, e1, q2, q3, fun j hj => by rw [t_set q4 hap hk v j hj]; show some _ = some (hpV h' a (eF E c j) j); rw [hV2 j hj]; rfl⟩
  cases fin with
  | false =>
    unfold u_lay at hlay
    rw [if_neg (by rw [hfin]; decide)] at hlay
    have h6 := u_store hfc hkC hkind hlay hi (htf k hk) hnar hfit
    exact W.putK hx hb (f := f) ⟨hown, hts _ hlk, ⟨_, _, _, hi⟩, hst⟩ (by rw [q2]; exact h6) q1 q3 (by rw [hsl]; exact k2_hasslot (q4 k hk)) rfl rfl hd fin'
  | true =>
    obtain ⟨ho, hi0⟩ := hfo rfl
    unfold u_lay at hlay
    rw [if_pos hfin] at hlay
    have hcf : m.cls = cf := by
      obtain ⟨_, _, c', _, _, _, -, -, hf', -, -, -, hown2, -⟩ := Cond.laysFinal_spec hlay
      have e1 : c' = cf := by have := hi.symm.trans hf'; simp at this; exact this.1.symm
      rw [ho] at hown2
      rw [← e1]; exact Option.some.inj (hown.symm.trans hown2)
    have h6 := u_fits hfc hkC hkind (Or.inr hlay) hi (htf k hk) hnar hfit
    exact W.putFinK hx hb hown (hts _ hlk) hi hst hcf (hin hi0) (by rw [q2]; exact h6) q1 q3 (by rw [hsl]; exact k2_hasslot (q4 k hk)) rfl rfl hd fin'
theorem sn_pI (fin : Bool) {c k idx : Nat} {C : String} {T : u_T} {N : Nat} {tf : Nat → FieldType} (hd : decode cc (pcs i) = .ok (.putfield idx, 3)) (hn : pcs n = pcs i + 3) (hc : (eC E)[c]? = some (C, T, N)) (hws : ∀ w ∈ u_ws C T N, w ∈ Ts) (hk : k < N) (hlk : Cond.fieldLink own idx (T k).1 (T k).2.1 (T k).2.2.1 ∈ Ts)
    (htf : ∀ k, k < N → parseFieldDescriptor (T k).2.2.1 = some (tf k)) (hnm : ∀ a, a < N → ∀ b, b < N → a ≠ b → (T a).2.1 ≠ (T b).2.1) (hfin : (T k).2.2.2 = fin) (hfo : fin = true → (T k).1 = own ∧ ini = true) (hty : eF E c k = 0 ∧ tf k = .int) : mx_Snd E cc nL own ini pcs Ts i (x_pI n c k) := by
  refine ⟨fun ls st h q' hf => ?_, ?_⟩
  · rcases st with _ | ⟨x | x | x, _ | ⟨y | y | (_ | a), st⟩⟩ <;> simp only [x_pI, reduceCtorEq] at hf
    split at hf <;> cases hf
    rename_i ha
    exact ⟨Nat.le_refl _, Nat.le_refl _⟩
  intro p l e R s m args below meth cd Q hx hb hml hown hts hKn hin hR sz us ls st h q' H locs arr hf hz hu hrep hl hS hcs hss kk
  rcases st with _ | ⟨x | x | x, _ | ⟨y | y | (_ | a), st⟩⟩ <;> simp only [x_pI, reduceCtorEq] at hf
  split at hf <;> cases hf
  rename_i ha
  refine sw_put (h' := hwI h a k x) (tf := tf) hd hn hc hws hk hlk htf hnm hfin hfo hx hb hown hts hKn hin hrep hS ha (by rw [hty.2]; rfl) (by rw [hty.2]; rfl) rfl (fun _ => rfl) ?_ ?_ (fun H' locs' hr' hS' => kk H' locs' arr hr' hl hS')
  · intro b ty j hne
    unfold hpV
    rw [hpI_wI, if_neg (fun q => hne q.1)]
    rfl
  · intro j hj
    by_cases e : j = k
    · subst e
      rw [if_pos rfl, hty.1]
      show Value.int (hpI (hwI h a j x) a j) = _
      rw [hpI_wI, if_pos ⟨rfl, rfl⟩]; rfl
    · rw [if_neg e]
      unfold hpV
      rw [hpI_wI, if_neg (fun q => e q.2)]
      rfl
theorem sn_pZ (fin : Bool) {c k idx : Nat} {C : String} {T : u_T} {N : Nat} {tf : Nat → FieldType} (hd : decode cc (pcs i) = .ok (.putfield idx, 3)) (hn : pcs n = pcs i + 3) (hc : (eC E)[c]? = some (C, T, N)) (hws : ∀ w ∈ u_ws C T N, w ∈ Ts) (hk : k < N) (hlk : Cond.fieldLink own idx (T k).1 (T k).2.1 (T k).2.2.1 ∈ Ts)
    (htf : ∀ k, k < N → parseFieldDescriptor (T k).2.2.1 = some (tf k)) (hnm : ∀ a, a < N → ∀ b, b < N → a ≠ b → (T a).2.1 ≠ (T b).2.1) (hfin : (T k).2.2.2 = fin) (hfo : fin = true → (T k).1 = own ∧ ini = true) (hty : eF E c k = 3 ∧ tf k = .boolean) : mx_Snd E cc nL own ini pcs Ts i (x_pZ n c k) := by
  refine ⟨fun ls st h q' hf => ?_, ?_⟩
  · rcases st with _ | ⟨x | x | x, _ | ⟨y | y | (_ | a), st⟩⟩ <;> simp only [x_pZ, reduceCtorEq] at hf
    split at hf <;> cases hf
    rename_i ha
    obtain ⟨ha, hb01⟩ := ha
    exact ⟨Nat.le_refl _, Nat.le_refl _⟩
  intro p l e R s m args below meth cd Q hx hb hml hown hts hKn hin hR sz us ls st h q' H locs arr hf hz hu hrep hl hS hcs hss kk
  rcases st with _ | ⟨x | x | x, _ | ⟨y | y | (_ | a), st⟩⟩ <;> simp only [x_pZ, reduceCtorEq] at hf
  split at hf <;> cases hf
  rename_i ha
  obtain ⟨ha, hb01⟩ := ha
  refine sw_put (h' := hwI h a k x) (tf := tf) hd hn hc hws hk hlk htf hnm hfin hfo hx hb hown hts hKn hin hrep hS ha (by rw [hty.2]; rcases hb01 with rfl | rfl <;> rfl) (by rw [hty.2]; rcases hb01 with rfl | rfl <;> rfl) rfl (fun _ => rfl) ?_ ?_ (fun H' locs' hr' hS' => kk H' locs' arr hr' hl hS')
  · intro b ty j hne
    unfold hpV
    rw [hpI_wI, if_neg (fun q => hne q.1)]
    rfl
  · intro j hj
    by_cases e : j = k
    · subst e
      rw [if_pos rfl, hty.1]
      show Value.int (hpI (hwI h a j x) a j) = _
      rw [hpI_wI, if_pos ⟨rfl, rfl⟩]; rfl
    · rw [if_neg e]
      unfold hpV
      rw [hpI_wI, if_neg (fun q => e q.2)]
      rfl
theorem sn_pL (fin : Bool) {c k idx : Nat} {C : String} {T : u_T} {N : Nat} {tf : Nat → FieldType} (hd : decode cc (pcs i) = .ok (.putfield idx, 3)) (hn : pcs n = pcs i + 3) (hc : (eC E)[c]? = some (C, T, N)) (hws : ∀ w ∈ u_ws C T N, w ∈ Ts) (hk : k < N) (hlk : Cond.fieldLink own idx (T k).1 (T k).2.1 (T k).2.2.1 ∈ Ts)
    (htf : ∀ k, k < N → parseFieldDescriptor (T k).2.2.1 = some (tf k)) (hnm : ∀ a, a < N → ∀ b, b < N → a ≠ b → (T a).2.1 ≠ (T b).2.1) (hfin : (T k).2.2.2 = fin) (hfo : fin = true → (T k).1 = own ∧ ini = true) (hty : eF E c k = 1 ∧ tf k = .long) : mx_Snd E cc nL own ini pcs Ts i (x_pL n c k) := by
  refine ⟨fun ls st h q' hf => ?_, ?_⟩
  · rcases st with _ | ⟨x | x | x, _ | ⟨y | y | (_ | a), st⟩⟩ <;> simp only [x_pL, reduceCtorEq] at hf
    split at hf <;> cases hf
    rename_i ha
    exact ⟨Nat.le_refl _, Nat.le_refl _⟩
  intro p l e R s m args below meth cd Q hx hb hml hown hts hKn hin hR sz us ls st h q' H locs arr hf hz hu hrep hl hS hcs hss kk
  rcases st with _ | ⟨x | x | x, _ | ⟨y | y | (_ | a), st⟩⟩ <;> simp only [x_pL, reduceCtorEq] at hf
  split at hf <;> cases hf
  rename_i ha
  refine sw_put (h' := hwL h a k x) (tf := tf) hd hn hc hws hk hlk htf hnm hfin hfo hx hb hown hts hKn hin hrep hS ha (by rw [hty.2]; rfl) (by rw [hty.2]; rfl) rfl (fun _ => rfl) ?_ ?_ (fun H' locs' hr' hS' => kk H' locs' arr hr' hl hS')
  · intro b ty j hne
    unfold hpV
    rw [hpL_wL, if_neg (fun q => hne q.1)]
    rfl
  · intro j hj
    by_cases e : j = k
    · subst e
      rw [if_pos rfl, hty.1]
      show Value.long (hpL (hwL h a j x) a j) = _
      rw [hpL_wL, if_pos ⟨rfl, rfl⟩]; rfl
    · rw [if_neg e]
      unfold hpV
      rw [hpL_wL, if_neg (fun q => e q.2)]
      rfl
theorem sn_pR (fin : Bool) {c k idx : Nat} {C : String} {T : u_T} {N : Nat} {tf : Nat → FieldType} (hd : decode cc (pcs i) = .ok (.putfield idx, 3)) (hn : pcs n = pcs i + 3) (hc : (eC E)[c]? = some (C, T, N)) (hws : ∀ w ∈ u_ws C T N, w ∈ Ts) (hk : k < N) (hlk : Cond.fieldLink own idx (T k).1 (T k).2.1 (T k).2.2.1 ∈ Ts)
    (htf : ∀ k, k < N → parseFieldDescriptor (T k).2.2.1 = some (tf k)) (hnm : ∀ a, a < N → ∀ b, b < N → a ≠ b → (T a).2.1 ≠ (T b).2.1) (hfin : (T k).2.2.2 = fin) (hfo : fin = true → (T k).1 = own ∧ ini = true) (hty : eF E c k = 2) (htr : (tf k).isReference = true) : mx_Snd E cc nL own ini pcs Ts i (x_pR n c k) := by
  refine ⟨fun ls st h q' hf => ?_, ?_⟩
  · rcases st with _ | ⟨x | x | x, _ | ⟨y | y | (_ | a), st⟩⟩ <;> simp only [x_pR, reduceCtorEq] at hf
    split at hf <;> cases hf
    rename_i ha
    exact ⟨Nat.le_refl _, Nat.le_refl _⟩
  intro p l e R s m args below meth cd Q hx hb hml hown hts hKn hin hR sz us ls st h q' H locs arr hf hz hu hrep hl hS hcs hss kk
  rcases st with _ | ⟨x | x | x, _ | ⟨y | y | (_ | a), st⟩⟩ <;> simp only [x_pR, reduceCtorEq] at hf
  split at hf <;> cases hf
  rename_i ha
  refine sw_put (h' := hwR h a k x) (tf := tf) (v := va_rf x) hd hn hc hws hk hlk htf hnm hfin hfo hx hb hown hts hKn hin hrep hS ha (by cases x <;> cases tf k <;> rfl) (by generalize tf k = z at htr; cases x <;> cases z <;> first | rfl | cases htr) rfl (fun _ => rfl) ?_ ?_ (fun H' locs' hr' hS' => kk H' locs' arr hr' hl hS')
  · intro b ty j hne
    unfold hpV
    rw [hpR_wR, if_neg (fun q => hne q.1)]
    rfl
  · intro j hj
    by_cases e : j = k
    · subst e
      rw [if_pos rfl, hty]
      show va_rf (hpR (hwR h a j x) a j) = _
      rw [hpR_wR, if_pos ⟨rfl, rfl⟩]
    · rw [if_neg e]
      unfold hpV
      rw [hpR_wR, if_neg (fun q => e q.2)]
      rfl
def mx_dv (ty : Nat) : Value := match ty with
  | 1 => .long 0
  | 2 => .null
  | _ => .int 0
theorem hpV_nw {h : mx_H} {t : mx_K} {n ty k : Nat} : hpV (hnw h t n) (hpZ h) ty k = mx_dv ty := by
  unfold hpV mx_dv
  rw [hpI_nw, hpL_nw, hpR_nw, if_pos rfl, if_pos rfl, if_pos rfl]
  rfl
theorem va_S.made {A : Nat → Prop} {H0 H H1 : Heap} {locs : List Loc} (h : va_S A H0 H locs) (z : H1.size = H.size + 1) (o : ∀ q : Nat, q < H.size → H1[q]? = H[q]?) : va_S A H0 H1 locs :=
  ⟨Nat.le_trans h.1 (by omega), fun x h1 h2 => (o x (Nat.lt_of_lt_of_le h1 h.1)).trans (h.2.1 x h1 h2), h.2.2⟩
theorem sn_new {c idx : Nat} {C : String} {T : u_T} {N : Nat} {tf : Nat → FieldType} (hd : decode cc (pcs i) = .ok (.new idx, 3)) (hn : pcs n = pcs i + 3) (hc : (eC E)[c]? = some (C, T, N)) (hws : ∀ w ∈ u_ws C T N, w ∈ Ts) (hlk : Cond.classLink own idx C ∈ Ts) (hins : Cond.instantiable C N ∈ Ts) (hini : Cond.initialized C ∈ Ts)
    (htf : ∀ k, k < N → parseFieldDescriptor (T k).2.2.1 = some (tf k)) (hdv : ∀ k, k < N → defaultValue (tf k) = mx_dv (eF E c k)) : mx_Snd E cc nL own ini pcs Ts i (x_new n c N) := by
  refine ⟨fun ls st h q' hf => ?_, ?_⟩
  · simp only [x_new] at hf
    cases hf
    exact ⟨Nat.le_succ _, Nat.le_add_right _ _⟩
  intro p l e R s m args below meth cd Q hx hb hml hown hts hKn hin hR sz us ls st h q' H locs arr hf hz hu hrep hl hS hcs hss kk
  simp only [x_new] at hf
  cases hf
  have hKc := hKn.1 c _ hc
  dsimp only at hcs hss kk
  rw [hpZ_nw] at hcs
  rw [hpU_nw] at hss
  refine W.newcK hx hb hown (hts _ hlk) (hts _ hins) (hts _ hini) rfl hd (by omega) (by omega) hKc.2.1 hrep.1 fun H1 kC hkC e1 z1 o1 => ?_
  have hz1 : H1.size = H.size + 1 := by rw [z1, hrep.1]
  have o1' : ∀ q : Nat, q < H.size → H1[q]? = H[q]? := fun q hq => o1 q (by rw [hrep.1] at hq; exact hq)
  have := kk H1 locs arr (hrep.made hz1 o1' ⟨(C, T, N), hc, (u_born tf hts hws hKc hkC e1 htf).to (fun k hk => by rw [hpV_nw, hdv k hk])⟩) hl (hS.made hz1 o1')
  rw [hpZ_nw, hpU_nw] at this
  rw [show hpZ h - sz + 1 = hpZ h + 1 - sz by omega, show hpU h - us + N = hpU h + N - us by omega, ← hn]
  exact this
theorem sn_oin {idx : Nat} (hd : decode cc (pcs i) = .ok (.invokespecial idx, 3)) (hn : pcs n = pcs i + 3) (h1 : Cond.methodLink own idx Lib.objectInit ∈ Ts) (h2 : Cond.instanceMethod Lib.objectInit ∈ Ts) (h3 : Cond.code Lib.objectInit ⟨#[0xb1]⟩ 1 none ∈ Ts) : mx_Snd E cc nL own ini pcs Ts i (x_oin n) := by
  refine sn_keep ?_ ?_
  · intro ls st h q' hf
    rcases st with _ | ⟨x | x | (_ | a), st⟩ <;> simp only [x_oin, reduceCtorEq] at hf
    split at hf <;> cases hf
    rfl
  · intro p l e R s m args below meth c Q H locs cells slots arr ls st h q' hx hb hml hown hts hR hl hf k
    rcases st with _ | ⟨x | x | (_ | a), st⟩ <;> simp only [x_oin, reduceCtorEq] at hf
    split at hf <;> cases hf
    rename_i hcat
    refine W.objInit hx hb hown (hts _ h1) (hts _ h2) (hts _ h3) rfl (by rw [hml]; exact hl.1) rfl hd hR.1 ?_ (by rw [← hn]; exact k arr hl)
    have := mx_cats_eq st
    show 2 * 0 + _ + 12 ≤ R.locals
    rw [this]
    omega
/-- a table of cases: lo, lo + 1 .. -/
theorem sw_at_mem {ps : List (Int32 × Nat)} {d : Nat} {x : Int32} : (∃ t, (x, t) ∈ ps ∧ sw_at ps d x = t) ∨ ((∀ t, (x, t) ∉ ps) ∧ sw_at ps d x = d) := by
  induction ps with
  | nil => right; exact ⟨fun t h => (by cases h), rfl⟩
  | cons q r ih =>
    obtain ⟨k, t⟩ := q
    by_cases e : x = k
    · left; exact ⟨t, by rw [e]; exact List.mem_cons_self, by simp [sw_at, e]⟩
    · rcases ih with ⟨u, h1, h2⟩ | ⟨h1, h2⟩
      · left; exact ⟨u, List.mem_cons_of_mem _ h1, by simp [sw_at, e, h2]⟩
      · right
        refine ⟨fun u hu => ?_, by simp [sw_at, e, h2]⟩
        rcases List.mem_cons.mp hu with h | h
        · cases h; exact e rfl
        · exact h1 u h
end
