/-! Arrays and switches. -/
section
variable {E : mx_E} {cc : ByteArray} {nL : Nat} {own : String} {ini : Bool} {pcs : Nat → Nat} {Ts : List Cond} {i n : Nat}
theorem sn_alen (hd : decode cc (pcs i) = .ok (.arraylength, 1)) (hn : pcs n = pcs i + 1) : mx_Snd E cc nL own ini pcs Ts i (x_alen n) := by
  refine ⟨fun ls st h q' hf => ?_, ?_⟩
  · rcases st with _ | ⟨x | x | (_ | a), st⟩ <;> simp only [x_alen, reduceCtorEq] at hf
    split at hf <;> cases hf
    exact ⟨Nat.le_refl _, Nat.le_refl _⟩
  intro p l e R s m args below meth cd Q hx hb hml hown hts hKn hin hR sz us ls st h q' H locs arr hf hz hu hrep hl hS hcs hss kk
  rcases st with _ | ⟨x | x | (_ | a), st⟩ <;> simp only [x_alen, reduceCtorEq] at hf
  split at hf <;> cases hf
  rename_i t len ha
  obtain ⟨-, r, h1, h2⟩ := hrep.2.2 a _ ha
  refine W.alen (n := Int32.ofNat len) hx hb h2 ((hKn.2.1 t r h1).1 len _) (by rw [arrV_size] <;> rfl) rfl rfl hd ?_
  have := kk H locs arr hrep hl hS
  rw [hn] at this
  exact this
theorem sn_ial {t : Nat} (ht : (eT E)[t]? = some (.int, 0)) (hd : decode cc (pcs i) = .ok (.iaload, 1)) (hn : pcs n = pcs i + 1) : mx_Snd E cc nL own ini pcs Ts i (x_ial n t) := by
  refine ⟨fun ls st h q' hf => ?_, ?_⟩
  · rcases st with _ | ⟨j | j | j, _ | ⟨x | x | (_ | a), st⟩⟩ <;> simp only [x_ial, reduceCtorEq] at hf
    split at hf <;> try cases hf
    split at hf <;> cases hf
    exact ⟨Nat.le_refl _, Nat.le_refl _⟩
  intro p l e R s m args below meth cd Q hx hb hml hown hts hKn hin hR sz us ls st h q' H locs arr hf hz hu hrep hl hS hcs hss kk
  rcases st with _ | ⟨j | j | j, _ | ⟨x | x | (_ | a), st⟩⟩ <;> simp only [x_ial, reduceCtorEq] at hf
  split at hf <;> try cases hf
  split at hf <;> cases hf
  rename_i u len ha hc
  obtain ⟨rfl, hin2⟩ := hc
  obtain ⟨-, r, h1, h2⟩ := hrep.2.2 a _ ha
  cases ht.symm.trans h1
  have hlt : j.toNatClampNeg < len := Nat.not_le.mp fun q => hin2 (Or.inr q)
  refine W.iald (v := .int (hpI h a j.toNatClampNeg)) hx hb h2 ((hKn.2.1 _ _ h1).1 len _) (fun q => by cases q) (by rw [arrV_size]; exact hin2) (by rw [arrV_read _ _ hlt]; rfl) rfl rfl hd ?_
  have := kk H locs arr hrep hl hS
  rw [hn] at this
  exact this
theorem sn_aal {t : Nat} {C : String} (ht : (eT E)[t]? = some (.object C, 2)) (hd : decode cc (pcs i) = .ok (.aaload, 1)) (hn : pcs n = pcs i + 1) : mx_Snd E cc nL own ini pcs Ts i (x_aal n t) := by
  refine ⟨fun ls st h q' hf => ?_, ?_⟩
  · rcases st with _ | ⟨j | j | j, _ | ⟨x | x | (_ | a), st⟩⟩ <;> simp only [x_aal, reduceCtorEq] at hf
    split at hf <;> try cases hf
    split at hf <;> cases hf
    exact ⟨Nat.le_refl _, Nat.le_refl _⟩
  intro p l e R s m args below meth cd Q hx hb hml hown hts hKn hin hR sz us ls st h q' H locs arr hf hz hu hrep hl hS hcs hss kk
  rcases st with _ | ⟨j | j | j, _ | ⟨x | x | (_ | a), st⟩⟩ <;> simp only [x_aal, reduceCtorEq] at hf
  split at hf <;> try cases hf
  split at hf <;> cases hf
  rename_i u len ha hc
  obtain ⟨rfl, hin2⟩ := hc
  obtain ⟨-, r, h1, h2⟩ := hrep.2.2 a _ ha
  cases ht.symm.trans h1
  have hlt : j.toNatClampNeg < len := Nat.not_le.mp fun q => hin2 (Or.inr q)
  refine W.aald (v := va_rf (hpR h a j.toNatClampNeg)) (ty := .object C) hx hb h2 ((hKn.2.1 _ _ h1).1 len _) rfl (fun q => by cases q) (by rw [arrV_size]; exact hin2) (by rw [arrV_read _ _ hlt]; rfl) rfl rfl hd ?_
  have := kk H locs arr hrep hl hS
  rw [hn] at this
  exact this
theorem sn_ias {t : Nat} (ht : (eT E)[t]? = some (.int, 0)) (hd : decode cc (pcs i) = .ok (.iastore, 1)) (hn : pcs n = pcs i + 1) : mx_Snd E cc nL own ini pcs Ts i (x_ias n t) := by
  refine ⟨fun ls st h q' hf => ?_, ?_⟩
  · rcases st with _ | ⟨v | v | v, _ | ⟨j | j | j, _ | ⟨x | x | (_ | a), st⟩⟩⟩ <;> simp only [x_ias, reduceCtorEq] at hf
    split at hf <;> try cases hf
    split at hf <;> cases hf
    exact ⟨Nat.le_refl _, Nat.le_refl _⟩
  intro p l e R s m args below meth cd Q hx hb hml hown hts hKn hin hR sz us ls st h q' H locs arr hf hz hu hrep hl hS hcs hss kk
  rcases st with _ | ⟨v | v | v, _ | ⟨j | j | j, _ | ⟨x | x | (_ | a), st⟩⟩⟩ <;> simp only [x_ias, reduceCtorEq] at hf
  split at hf <;> try cases hf
  split at hf <;> cases hf
  rename_i u len ha hc
  obtain ⟨rfl, hin2⟩ := hc
  obtain ⟨hba, r, h1, h2⟩ := hrep.2.2 a _ ha
  cases ht.symm.trans h1
  refine W.iast hx hb h2 ((hKn.2.1 _ _ h1).1 len _) (fun q => by cases q) (by rw [arrV_size]; exact hin2) rfl rfl hd fun H1 e1 z1 o1 => ?_
  rw [← hn]
  refine kk H1 _ arr (hrep.put z1 o1 rfl (fun _ => rfl) (fun b ty k hne => ?_) ha ⟨_, h1, ?_⟩) hl (hS.put z1 o1 hba)
  · unfold hpV
    rw [hpI_wI, if_neg (fun q => hne q.1)]
    rfl
  · rw [e1, arrV_store]
    congr 2
    funext k
    by_cases e : k = j.toNatClampNeg
    · subst e
      show _ = Value.int _
      rw [hpI_wI, if_pos ⟨rfl, rfl⟩]
      simp [updV]
    · show _ = Value.int _
      rw [hpI_wI, if_neg (fun q => e q.2)]
      simp [updV, e]
      rfl
theorem sn_aas {t c : Nat} {C : String} {T : u_T} {N : Nat} (ht : (eT E)[t]? = some (.object C, 2)) (hcl : (eC E)[c]? = some (C, T, N)) (hd : decode cc (pcs i) = .ok (.aastore, 1)) (hn : pcs n = pcs i + 1) : mx_Snd E cc nL own ini pcs Ts i (x_aas n t c) := by
  refine ⟨fun ls st h q' hf => ?_, ?_⟩
  · rcases st with _ | ⟨v | v | v, _ | ⟨j | j | j, _ | ⟨x | x | (_ | a), st⟩⟩⟩ <;> simp only [x_aas, reduceCtorEq] at hf
    split at hf <;> try cases hf
    split at hf <;> cases hf
    exact ⟨Nat.le_refl _, Nat.le_refl _⟩
  intro p l e R s m args below meth cd Q hx hb hml hown hts hKn hin hR sz us ls st h q' H locs arr hf hz hu hrep hl hS hcs hss kk
  rcases st with _ | ⟨v | v | v, _ | ⟨j | j | j, _ | ⟨x | x | (_ | a), st⟩⟩⟩ <;> simp only [x_aas, reduceCtorEq] at hf
  split at hf <;> try cases hf
  split at hf <;> cases hf
  rename_i u len ha hc
  obtain ⟨rfl, hin2, hokr⟩ := hc
  obtain ⟨hba, r, h1, h2⟩ := hrep.2.2 a _ ha
  cases ht.symm.trans h1
  have hlt : j.toNatClampNeg < len := Nat.not_le.mp fun q => hin2 (Or.inr q)
  have h0 : ¬ j < 0 := fun q => hin2 (Or.inl q)
  have fin : ∀ H1 : Heap, H1[a]? = some ((arrV (eA E u) len (fun k => hpV h a 2 k)).setSlot j.toNatClampNeg (va_rf v)) → H1.size = H.size → (∀ q, q ≠ a → H1[q]? = H[q]?) → W p l e R s m args below meth cd H1 (locs ++ [⟨a, j.toNatClampNeg⟩]) (hpZ h - sz) (hpU h - us) Q (F0 m (pcs i + 1) arr (st.map mx_v)) := by
    intro H1 e1 z1 o1
    rw [← hn]
    refine kk H1 _ arr (hrep.put z1 o1 rfl (fun _ => rfl) (fun b ty k hne => ?_) ha ⟨_, h1, ?_⟩) hl (hS.put z1 o1 hba)
    · unfold hpV
      rw [hpR_wR, if_neg (fun q => hne q.1)]
      rfl
    · rw [e1, arrV_store]
      congr 2
      funext k
      by_cases e : k = j.toNatClampNeg
      · subst e
        show _ = va_rf _
        rw [hpR_wR, if_pos ⟨rfl, rfl⟩]
        simp [updV]
      · show _ = va_rf _
        rw [hpR_wR, if_neg (fun q => e q.2)]
        simp [updV, e]
        rfl
  cases v with
  | none => exact va_WaastN (C := C) hx hb h2 ((hKn.2.1 _ _ h1).1 len _) (fun h => by cases h) (by rw [arrV_size]; exact hin2) rfl rfl hd fin
  | some b =>
    have hkb : hpK h b = some (.inl c) := of_decide_eq_true hokr
    obtain ⟨-, r, g1, cellV, g2, g3, g4, -⟩ := hrep.2.2 b _ hkb
    have hcls := (hKn.1 c _ hcl).2
    obtain ⟨kA, comp, k1, k2, k3, -⟩ := (hKn.2.1 _ _ h1).2
    have hcomp : comp = (eD E).1 c := Option.some.inj (k3.symm.trans hcls.1)
    subst hcomp
    obtain ⟨kC, hkC, -⟩ := id hcls.2
    exact W.aast hx hb h2 (fun q h => by cases h) (fun h => by cases h) k1 k2 rfl hkC ⟨h0, by rw [arrV_size]; exact hlt⟩ g2 (fun q h => by rw [g4] at h; cases h) (by rw [g3]; exact hkC) (by rw [g3]; exact va_assign hcls) rfl rfl hd fin
theorem sn_nai {t : Nat} (ht : (eT E)[t]? = some (.int, 0)) (hd : decode cc (pcs i) = .ok (.newarray .int, 2)) (hn : pcs n = pcs i + 2) (hw : Cond.arrayClass .int ∈ Ts) : mx_Snd E cc nL own ini pcs Ts i (x_nar n t) := by
  refine ⟨fun ls st h q' hf => ?_, ?_⟩
  · rcases st with _ | ⟨x | x | x, st⟩ <;> simp only [x_nar, reduceCtorEq] at hf
    split at hf <;> cases hf
    exact ⟨Nat.le_succ _, Nat.le_add_right _ _⟩
  intro p l e R s m args below meth cd Q hx hb hml hown hts hKn hin hR sz us ls st h q' H locs arr hf hz hu hrep hl hS hcs hss kk
  rcases st with _ | ⟨x | x | x, st⟩ <;> simp only [x_nar, reduceCtorEq] at hf
  split at hf <;> cases hf
  rename_i hc
  dsimp only at hcs hss kk
  rw [hpZ_nw] at hcs
  rw [hpU_nw] at hss
  refine va_newaK (atype := .int) hx hb (hts _ hw) rfl hd rfl hc.1 rfl (by have := hc.2; show _ * 4 ≤ _; omega) (by omega) (by omega) hrep.1 fun H1 cA e1 z1 o1 hAr hNm => ?_
  have hcA : cA = eA E t := by
    have := (hKn.2.1 t _ ht).2
    exact Option.some.inj (hNm.symm.trans this)
  subst hcA
  have hz1 : H1.size = H.size + 1 := by rw [z1, hrep.1]
  have o1' : ∀ q : Nat, q < H.size → H1[q]? = H[q]? := fun q hq => o1 q (by rw [hrep.1] at hq; exact hq)
  have := kk H1 locs arr (hrep.made hz1 o1' ⟨_, ht, by rw [e1]; congr 2; funext k; rw [hpV_nw]; rfl⟩) hl (hS.made hz1 o1')
  rw [hpZ_nw, hpU_nw] at this
  rw [show hpZ h - sz + 1 = hpZ h + 1 - sz by omega, show hpU h - us + x.toNatClampNeg = hpU h + x.toNatClampNeg - us by omega, ← hn]
  exact this
theorem sn_naq {t idx : Nat} {C : String} (ht : (eT E)[t]? = some (.object C, 2)) (hd : decode cc (pcs i) = .ok (.anewarray idx, 3)) (hn : pcs n = pcs i + 3) (hlk : Cond.classLink own idx C ∈ Ts) (ho : C ∈ eO E) : mx_Snd E cc nL own ini pcs Ts i (x_nar n t) := by
  refine ⟨fun ls st h q' hf => ?_, ?_⟩
  · rcases st with _ | ⟨x | x | x, st⟩ <;> simp only [x_nar, reduceCtorEq] at hf
    split at hf <;> cases hf
    exact ⟨Nat.le_succ _, Nat.le_add_right _ _⟩
  intro p l e R s m args below meth cd Q hx hb hml hown hts hKn hin hR sz us ls st h q' H locs arr hf hz hu hrep hl hS hcs hss kk
  rcases st with _ | ⟨x | x | x, st⟩ <;> simp only [x_nar, reduceCtorEq] at hf
  split at hf <;> cases hf
  rename_i hc
  dsimp only at hcs hss kk
  rw [hpZ_nw] at hcs
  rw [hpU_nw] at hss
  refine W.anew hx hb hown (hts _ hlk) (va_AO.use (hKn.2.2.2.1 C ho)) rfl hd rfl hc.1 (by have := hc.2; omega) (by omega) (by omega) fun cA kA comp f1 f2 f3 f4 => ?_
  have hcA : cA = eA E t := by
    obtain ⟨kA', comp', -, -, -, g4⟩ := (hKn.2.1 t _ ht).2
    exact Option.some.inj (f1.symm.trans g4)
  subst hcA
  generalize hH1 : H.push ({ cls := eA E t, slots := Array.replicate x.toNatClampNeg .null, vm := .none } : Cell) = H1
  have z1 : H1.size = H.size + 1 := by rw [← hH1, Array.size_push]
  have e1 : H1[hpZ h]? = some (arrV (eA E t) x.toNatClampNeg (fun _ => .null)) := by rw [← hH1, ← hrep.1, Array.getElem?_push_size, ← arrV_new]
  have o1 : ∀ q : Nat, q < H.size → H1[q]? = H[q]? := fun q hq => by rw [← hH1, Array.getElem?_push, if_neg (Nat.ne_of_lt hq)]
  have := kk H1 locs arr (hrep.made z1 o1 ⟨_, ht, by rw [e1]; congr 2; funext k; rw [hpV_nw]; rfl⟩) hl (hS.made z1 o1)
  rw [hpZ_nw, hpU_nw] at this
  rw [show hpZ h - sz + 1 = hpZ h + 1 - sz by omega, show hpU h - us + x.toNatClampNeg = hpU h + x.toNatClampNeg - us by omega, hrep.1, ← hn]
  exact this
theorem sn_tsw {ps : List (Int32 × Nat)} {d len : Nat} {dflt lo hi : Int} {offs : Array Int} (hd : decode cc (pcs i) = .ok (.tableswitch dflt lo hi offs, len)) (hdf : (pcs i : Int) + dflt = (pcs d : Int))
    (hps : ∀ q ∈ ps, lo ≤ q.1.toInt ∧ q.1.toInt ≤ hi ∧ (offs[(q.1.toInt - lo).toNat]?).map (fun o => (pcs i : Int) + o) = some (pcs q.2 : Int)) (hcov : ∀ j, j < (hi - lo + 1).toNat → ∃ q ∈ ps, q.1.toInt = lo + (j : Int)) : mx_Snd E cc nL own ini pcs Ts i (x_sw ps d) := by
  refine sn_keep ?_ ?_
  · intro ls st h q' hf
    rcases st with _ | ⟨x | x | x, st⟩ <;> simp only [x_sw, reduceCtorEq] at hf
    cases hf; rfl
  · intro p l e R s m args below meth c Q H locs cells slots arr ls st h q' hx hb hml hown hts hR hl hf k
    rcases st with _ | ⟨x | x | x, st⟩ <;> simp only [x_sw, reduceCtorEq] at hf
    cases hf
    have kk := k arr hl
    dsimp only at kk
    rcases sw_at_mem (ps := ps) (d := d) (x := x) with ⟨t, h1, h2⟩ | ⟨h1, h2⟩
    · rw [h2] at kk
      obtain ⟨g1, g2, g3⟩ := hps _ h1
      dsimp only at g1 g2 g3
      cases ho : offs[(x.toInt - lo).toNat]? with
      | none => rw [ho] at g3; simp at g3
      | some o =>
        rw [ho] at g3
        simp only [Option.map_some, Option.some.injEq] at g3
        exact lv_tableIn hx hb hd (by omega) (by omega) ho g3 kk
    · rw [h2] at kk
      refine lv_tableOut hx hb hd ?_ hdf kk
      by_cases hlo : x.toInt < lo
      · exact Or.inl hlo
      · right
        refine Int.not_le.mp fun hle => ?_
        obtain ⟨q, hq, e1⟩ := hcov (x.toInt - lo).toNat (by omega)
        have e2 : q.1 = x := Int32.toInt_inj.mp (by rw [e1]; omega)
        exact h1 q.2 (by rw [← e2]; exact hq)
def sw_ok (pc : Nat) (pcs : Nat → Nat) (L : List (Int × Int)) (ps : List (Int32 × Nat)) : Bool := match L, ps with
  | [], [] => true
  | (k, o) :: L, (k', t) :: ps => decide (k'.toInt = k) && decide ((pc : Int) + o = (pcs t : Int)) && sw_ok pc pcs L ps
  | _, _ => false
theorem sw_off {pc d : Nat} {pcs : Nat → Nat} {dflt : Int} {x : Int32} (hdf : (pc : Int) + dflt = (pcs d : Int)) : ∀ {L : List (Int × Int)} {ps : List (Int32 × Nat)}, sw_ok pc pcs L ps = true → (pc : Int) + Op.lookupswitch.offset L dflt x.toInt = (pcs (sw_at ps d x) : Int) := by
  intro L
  induction L with
  | nil => intro ps h; cases ps <;> simp [sw_ok] at h; exact hdf
  | cons q L ih =>
    intro ps h
    obtain ⟨k, o⟩ := q
    cases ps with
    | nil => simp [sw_ok] at h
    | cons q ps =>
      obtain ⟨k', t⟩ := q
      simp only [sw_ok, Bool.and_eq_true, decide_eq_true_eq] at h
      obtain ⟨⟨h1, h2⟩, h3⟩ := h
      rw [Op.lookupswitch.offset_cons]
      by_cases e : x = k'
      · rw [if_pos (by rw [e, h1])]
        simp [sw_at, e, h2]
      · rw [if_neg (fun z => e (Int32.toInt_inj.mp (by rw [h1]; exact z.symm)))]
        simp only [sw_at, if_neg e]
        exact ih h3
theorem sn_lsw {ps : List (Int32 × Nat)} {d len : Nat} {dflt : Int} {L : Array (Int × Int)} (hd : decode cc (pcs i) = .ok (.lookupswitch dflt L, len)) (hdf : (pcs i : Int) + dflt = (pcs d : Int)) (hp : (L.toList.zip (L.toList.drop 1)).all (fun (a, next) => a.1 < next.1) = true) (hps : sw_ok (pcs i) pcs L.toList ps = true) : mx_Snd E cc nL own ini pcs Ts i (x_sw ps d) := by
  refine sn_keep ?_ ?_
  · intro ls st h q' hf
    rcases st with _ | ⟨x | x | x, st⟩ <;> simp only [x_sw, reduceCtorEq] at hf
    cases hf; rfl
  · intro p l e R s m args below meth c Q H locs cells slots arr ls st h q' hx hb hml hown hts hR hl hf k
    rcases st with _ | ⟨x | x | x, st⟩ <;> simp only [x_sw, reduceCtorEq] at hf
    cases hf
    exact lv_lookup hx hb hd hp rfl (sw_off hdf hps) (k arr hl)
theorem sn_idiv (hd : decode cc (pcs i) = .ok (.idiv, 1)) (hn : pcs n = pcs i + 1) : mx_Snd E cc nL own ini pcs Ts i (x_idiv n) := by
  refine sn_keep ?_ ?_
  · intro ls st h q' hf
    rcases st with _ | ⟨y | y | y, _ | ⟨x | x | x, st⟩⟩ <;> simp only [x_idiv, reduceCtorEq] at hf
    split at hf <;> cases hf
    rfl
  · intro p l e R s m args below meth c Q H locs cells slots arr ls st h q' hx hb hml hown hts hR hl hf k
    rcases st with _ | ⟨y | y | y, _ | ⟨x | x | x, st⟩⟩ <;> simp only [x_idiv, reduceCtorEq] at hf
    split at hf <;> cases hf
    rename_i hne
    exact lv_idiv hx hb hd hne (by rw [← hn]; exact k arr hl)
theorem sn_irem (hd : decode cc (pcs i) = .ok (.irem, 1)) (hn : pcs n = pcs i + 1) : mx_Snd E cc nL own ini pcs Ts i (x_irem n) := by
  refine sn_keep ?_ ?_
  · intro ls st h q' hf
    rcases st with _ | ⟨y | y | y, _ | ⟨x | x | x, st⟩⟩ <;> simp only [x_irem, reduceCtorEq] at hf
    split at hf <;> cases hf
    rfl
  · intro p l e R s m args below meth c Q H locs cells slots arr ls st h q' hx hb hml hown hts hR hl hf k
    rcases st with _ | ⟨y | y | y, _ | ⟨x | x | x, st⟩⟩ <;> simp only [x_irem, reduceCtorEq] at hf
    split at hf <;> cases hf
    rename_i hne
    exact lv_irem hx hb hd hne (by rw [← hn]; exact k arr hl)
theorem sn_lshr (hd : decode cc (pcs i) = .ok (.lshr, 1)) (hn : pcs n = pcs i + 1) : mx_Snd E cc nL own ini pcs Ts i (x_lshr n) := by
  refine sn_keep ?_ ?_
  · intro ls st h q' hf
    rcases st with _ | ⟨y | y | y, _ | ⟨x | x | x, st⟩⟩ <;> simp only [x_lshr, reduceCtorEq] at hf
    cases hf
    rfl
  · intro p l e R s m args below meth c Q H locs cells slots arr ls st h q' hx hb hml hown hts hR hl hf k
    rcases st with _ | ⟨y | y | y, _ | ⟨x | x | x, st⟩⟩ <;> simp only [x_lshr, reduceCtorEq] at hf
    cases hf
    exact lv_lshr hx hb hd rfl (by rw [← hn]; exact k arr hl)
theorem sn_pop2 (hd : decode cc (pcs i) = .ok (.pop2, 1)) (hn : pcs n = pcs i + 1) : mx_Snd E cc nL own ini pcs Ts i (x_pop2 n) := by
  refine sn_keep ?_ ?_
  · intro ls st h q' hf
    rcases st with _ | ⟨x | x | x, st⟩ <;> simp only [x_pop2, reduceCtorEq] at hf
    cases hf
    rfl
  · intro p l e R s m args below meth c Q H locs cells slots arr ls st h q' hx hb hml hown hts hR hl hf k
    rcases st with _ | ⟨x | x | x, st⟩ <;> simp only [x_pop2, reduceCtorEq] at hf
    cases hf
    exact lv_pop2_2 hx hb hd rfl (by rw [← hn]; exact k arr hl)
theorem sn_max {idx : Nat} (hd : decode cc (pcs i) = .ok (.invokestatic idx, 3)) (hn : pcs n = pcs i + 3) (h1 : Cond.methodLink own idx Lib.Math.max.name ∈ Ts) (h2 : Cond.static Lib.Math.max.name ∈ Ts) (h3 : Cond.initialized "java/lang/Math" ∈ Ts) (h4 : Cond.code Lib.Math.max.name Lib.Math.max.code 2 (some .int) ∈ Ts) : mx_Snd E cc nL own ini pcs Ts i (x_max n) := by
  refine ⟨fun ls st h q' hf => ?_, ?_⟩
  · rcases st with _ | ⟨y | y | y, _ | ⟨x | x | x, st⟩⟩ <;> simp only [x_max, reduceCtorEq] at hf
    split at hf <;> cases hf
    exact ⟨Nat.le_refl _, Nat.le_refl _⟩
  intro p l e R s m args below meth cd Q hx hb hml hown hts hKn hin hR sz us ls st h q' H locs arr hf hz hu hrep hl hS hcs hss kk
  rcases st with _ | ⟨y | y | y, _ | ⟨x | x | x, st⟩⟩ <;> simp only [x_max, reduceCtorEq] at hf
  split at hf <;> cases hf
  rename_i hcat
  have hsum := mx_cats_eq st
  refine va_mmax hx hb (by rw [hml]; exact hl.1.symm) hown (hts _ h1) (hts _ h2) (hts _ h3) (hts _ h4) hR.1 (by rw [hsum]; omega) hcs hss hd ?_
  have := kk H locs arr hrep hl hS
  rw [hn] at this
  exact this
theorem sn_sld (hd : decode cc (pcs i) = .ok (.iaload, 1)) (hn : pcs n = pcs i + 1) : mx_Snd E cc nL own ini pcs Ts i (x_sld n (eSb E) (eSL E) (eSx E)) := by
  refine ⟨fun ls st h q' hf => ?_, ?_⟩
  · rcases st with _ | ⟨j | j | j, _ | ⟨x | x | (_ | a), st⟩⟩ <;> simp only [x_sld, reduceCtorEq] at hf
    split at hf <;> cases hf
    exact ⟨Nat.le_refl _, Nat.le_refl _⟩
  intro p l e R s m args below meth cd Q hx hb hml hown hts hKn hin hR sz us ls st h q' H locs arr hf hz hu hrep hl hS hcs hss kk
  rcases st with _ | ⟨j | j | j, _ | ⟨x | x | (_ | a), st⟩⟩ <;> simp only [x_sld, reduceCtorEq] at hf
  split at hf <;> cases hf
  rename_i hc
  obtain ⟨rfl, hin2⟩ := hc
  obtain ⟨k1, k2, k3, k4⟩ := hKn.2.2.2.2
  have hlt : j.toNatClampNeg < eSL E := Nat.not_le.mp fun q => hin2 (Or.inr q)
  refine W.iald (v := .int (eSx E j.toNatClampNeg)) hx hb hrep.2.1.2.2 k1 k2 (by rw [k3]; exact hin2) (k4 _ hlt) rfl rfl hd ?_
  have := kk H locs arr hrep hl hS
  rw [hn] at this
  exact this
theorem sn_sln (hd : decode cc (pcs i) = .ok (.arraylength, 1)) (hn : pcs n = pcs i + 1) : mx_Snd E cc nL own ini pcs Ts i (x_sln n (eSb E) (eSL E)) := by
  refine ⟨fun ls st h q' hf => ?_, ?_⟩
  · rcases st with _ | ⟨x | x | (_ | a), st⟩ <;> simp only [x_sln, reduceCtorEq] at hf
    split at hf <;> cases hf
    exact ⟨Nat.le_refl _, Nat.le_refl _⟩
  intro p l e R s m args below meth cd Q hx hb hml hown hts hKn hin hR sz us ls st h q' H locs arr hf hz hu hrep hl hS hcs hss kk
  rcases st with _ | ⟨x | x | (_ | a), st⟩ <;> simp only [x_sln, reduceCtorEq] at hf
  split at hf <;> cases hf
  rename_i hc
  subst hc
  obtain ⟨k1, k2, k3, k4⟩ := hKn.2.2.2.2
  refine W.alen (n := Int32.ofNat (eSL E)) hx hb hrep.2.1.2.2 k1 (by rw [k3] <;> rfl) rfl rfl hd ?_
  have := kk H locs arr hrep hl hS
  rw [hn] at this
  exact this
theorem sn_lal {t : Nat} (ht : (eT E)[t]? = some (.long, 1)) (hd : decode cc (pcs i) = .ok (.laload, 1)) (hn : pcs n = pcs i + 1) : mx_Snd E cc nL own ini pcs Ts i (x_lal n t) := by
  refine ⟨fun ls st h q' hf => ?_, ?_⟩
  · rcases st with _ | ⟨j | j | j, _ | ⟨x | x | (_ | a), st⟩⟩ <;> simp only [x_lal, reduceCtorEq] at hf
    split at hf <;> try cases hf
    split at hf <;> cases hf
    exact ⟨Nat.le_refl _, Nat.le_refl _⟩
  intro p l e R s m args below meth cd Q hx hb hml hown hts hKn hin hR sz us ls st h q' H locs arr hf hz hu hrep hl hS hcs hss kk
  rcases st with _ | ⟨j | j | j, _ | ⟨x | x | (_ | a), st⟩⟩ <;> simp only [x_lal, reduceCtorEq] at hf
  split at hf <;> try cases hf
  split at hf <;> cases hf
  rename_i u len ha hc
  obtain ⟨rfl, hin2⟩ := hc
  obtain ⟨-, r, h1, h2⟩ := hrep.2.2 a _ ha
  cases ht.symm.trans h1
  have hlt : j.toNatClampNeg < len := Nat.not_le.mp fun q => hin2 (Or.inr q)
  refine W.lald (v := .long (hpL h a j.toNatClampNeg)) hx hb h2 ((hKn.2.1 _ _ h1).1 len _) (fun q => by cases q) (by rw [arrV_size]; exact hin2) (by rw [arrV_read _ _ hlt]; rfl) rfl rfl hd ?_
  have := kk H locs arr hrep hl hS
  rw [hn] at this
  exact this
theorem sn_las {t : Nat} (ht : (eT E)[t]? = some (.long, 1)) (hd : decode cc (pcs i) = .ok (.lastore, 1)) (hn : pcs n = pcs i + 1) : mx_Snd E cc nL own ini pcs Ts i (x_las n t) := by
  refine ⟨fun ls st h q' hf => ?_, ?_⟩
  · rcases st with _ | ⟨v | v | v, _ | ⟨j | j | j, _ | ⟨x | x | (_ | a), st⟩⟩⟩ <;> simp only [x_las, reduceCtorEq] at hf
    split at hf <;> try cases hf
    split at hf <;> cases hf
    exact ⟨Nat.le_refl _, Nat.le_refl _⟩
  intro p l e R s m args below meth cd Q hx hb hml hown hts hKn hin hR sz us ls st h q' H locs arr hf hz hu hrep hl hS hcs hss kk
  rcases st with _ | ⟨v | v | v, _ | ⟨j | j | j, _ | ⟨x | x | (_ | a), st⟩⟩⟩ <;> simp only [x_las, reduceCtorEq] at hf
  split at hf <;> try cases hf
  split at hf <;> cases hf
  rename_i u len ha hc
  obtain ⟨rfl, hin2⟩ := hc
  obtain ⟨hba, r, h1, h2⟩ := hrep.2.2 a _ ha
  cases ht.symm.trans h1
  refine W.last hx hb h2 ((hKn.2.1 _ _ h1).1 len _) (fun q => by cases q) (by rw [arrV_size]; exact hin2) rfl rfl hd fun H1 e1 z1 o1 => ?_
  rw [← hn]
  refine kk H1 _ arr (hrep.put z1 o1 rfl (fun _ => rfl) (fun b ty k hne => ?_) ha ⟨_, h1, ?_⟩) hl (hS.put z1 o1 hba)
  · unfold hpV
    rw [hpL_wL, if_neg (fun q => hne q.1)]
    rfl
  · rw [e1, arrV_store]
    congr 2
    funext k
    by_cases e : k = j.toNatClampNeg
    · subst e
      show _ = Value.long _
      rw [hpL_wL, if_pos ⟨rfl, rfl⟩]
      simp [updV]
    · show _ = Value.long _
      rw [hpL_wL, if_neg (fun q => e q.2)]
      simp [updV, e]
      rfl
theorem sn_nal {t : Nat} (ht : (eT E)[t]? = some (.long, 1)) (hd : decode cc (pcs i) = .ok (.newarray .long, 2)) (hn : pcs n = pcs i + 2) (hw : Cond.arrayClass .long ∈ Ts) : mx_Snd E cc nL own ini pcs Ts i (x_nar n t) := by
  refine ⟨fun ls st h q' hf => ?_, ?_⟩
  · rcases st with _ | ⟨x | x | x, st⟩ <;> simp only [x_nar, reduceCtorEq] at hf
    split at hf <;> cases hf
    exact ⟨Nat.le_succ _, Nat.le_add_right _ _⟩
  intro p l e R s m args below meth cd Q hx hb hml hown hts hKn hin hR sz us ls st h q' H locs arr hf hz hu hrep hl hS hcs hss kk
  rcases st with _ | ⟨x | x | x, st⟩ <;> simp only [x_nar, reduceCtorEq] at hf
  split at hf <;> cases hf
  rename_i hc
  dsimp only at hcs hss kk
  rw [hpZ_nw] at hcs
  rw [hpU_nw] at hss
  refine va_newaK (atype := .long) hx hb (hts _ hw) rfl hd rfl hc.1 rfl (by have := hc.2; show _ * 8 ≤ _; omega) (by omega) (by omega) hrep.1 fun H1 cA e1 z1 o1 hAr hNm => ?_
  have hcA : cA = eA E t := by
    have := (hKn.2.1 t _ ht).2
    exact Option.some.inj (hNm.symm.trans this)
  subst hcA
  have hz1 : H1.size = H.size + 1 := by rw [z1, hrep.1]
  have o1' : ∀ q : Nat, q < H.size → H1[q]? = H[q]? := fun q hq => o1 q (by rw [hrep.1] at hq; exact hq)
  have := kk H1 locs arr (hrep.made hz1 o1' ⟨_, ht, by rw [e1]; congr 2; funext k; rw [hpV_nw]; rfl⟩) hl (hS.made hz1 o1')
  rw [hpZ_nw, hpU_nw] at this
  rw [show hpZ h - sz + 1 = hpZ h + 1 - sz by omega, show hpU h - us + x.toNatClampNeg = hpU h + x.toNatClampNeg - us by omega, ← hn]
  exact this
end
