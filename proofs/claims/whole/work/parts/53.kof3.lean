/-! Splitter: kindOf, its second loop, and kindOf. -/
def F2 (tp : Nat) (aa : Nat → Nat) (M : Nat) (h h' : mx_H) : Prop := (∀ b, hpK h' b = hpK h b) ∧ hpZ h' = hpZ h ∧ hpU h' = hpU h ∧ ∀ b, (∀ j, j ≤ M → b ≠ adr tp aa j) → ∀ k, hpI h' b k = hpI h b k ∧ hpL h' b k = hpL h b k ∧ hpR h' b k = hpR h b k
theorem F2.trans {tp : Nat} {aa : Nat → Nat} {M : Nat} {h h1 h2 : mx_H} (a : F2 tp aa M h h1) (b : F2 tp aa M h1 h2) : F2 tp aa M h h2 :=
  ⟨fun x => (b.1 x).trans (a.1 x), b.2.1.trans a.2.1, b.2.2.1.trans a.2.2.1, fun x hx k => ⟨(b.2.2.2 x hx k).1.trans (a.2.2.2 x hx k).1, (b.2.2.2 x hx k).2.1.trans (a.2.2.2 x hx k).2.1, (b.2.2.2 x hx k).2.2.trans (a.2.2.2 x hx k).2.2⟩⟩
section
variable {na : Nat → Nat} {t : tr} {κ : Nat → Nat} {s tp oa : Nat} {ps0 : List Nat}
theorem hHe_K (h : mx_H) (a : Nat) (cf : Bool) (mo b : Nat) : hpK (hHe h a cf mo) b = hpK h b := rfl
theorem hHe_I (h : mx_H) (a : Nat) (cf : Bool) (mo b k : Nat) : hpI (hHe h a cf mo) b k = if b = a ∧ k = 10 then nI mo else if b = a ∧ k = 9 then bI cf else hpI h b k := by
  unfold hHe; rw [hpI_wI, hpI_wI]
theorem pI_hear {h : mx_H} {aa : Nat → Nat} {M c : Nat} {L : List rc} {e : rc} (T : tOk t) (d : Nat) (hps0 : ∀ p ∈ ps0, p < tN t) (I : pI na t κ s tp oa h aa M L (c + 1)) (he : L[c]? = some e) (hc : 0 < c)
    (k3 : ∀ j e, L[j]? = some e → (∀ p ∈ rP e, p ∈ ps0) ∧ (rP e).Nodup ∧ (0 < j → rF e < j)) (k5 : ∀ j e, L[j]? = some e → (L.drop 1).filter (fun c => rF c == j) = rch t j e) :
    ∃ h', cl (d + 2) j_A_hear [.inr (.inr (some (adr tp aa (rF e)))), .inl (nI (rV t κ e))] h none h' ∧ pI na t κ s tp oa h' aa M L c ∧ F2 tp aa M h h' := by
  obtain ⟨P, i5, H, arms⟩ := I
  have hcl : c < L.length := (List.getElem?_eq_some_iff.mp he).1
  have hj := (k3 c e he).2.2 hc
  obtain ⟨j, ej⟩ : ∃ j, j = rF e := ⟨_, rfl⟩
  rw [← ej] at hj ⊢
  obtain ⟨e1, he1⟩ : ∃ e1, L[j]? = some e1 := ⟨L[j], List.getElem?_eq_getElem (by omega)⟩
  have hin : e ∈ rch t j e1 := by
    rw [← k5 j e1 he1]
    refine List.mem_filter.mpr ⟨?_, by rw [← ej]; simp⟩
    refine List.mem_of_getElem? (i := c - 1) ?_
    rw [List.getElem?_drop, show 1 + (c - 1) = c by omega]
    exact he
  have A := arms j e1 he1
  cases hf : fsw t (rW e1) (rP e1) with
  | none => unfold rch at hin; rw [hf] at hin; cases hin
  | some q =>
    obtain ⟨x, v⟩ := q
    rw [hf] at A
    dsimp only at A
    obtain ⟨b1, b2, b3, b4, b5, b6, b7, b8⟩ := id A
    have hV : rV t κ e < 5 := kc_lt _ _ _ _
    obtain ⟨h', eh'⟩ : ∃ h', h' = hHe h (adr tp aa j) ((hrd t κ L j (c + 1)).any kf || kf (rV t κ e)) (if kmx (hrd t κ L j (c + 1)) < km (rV t κ e) then km (rV t κ e) else kmx (hrd t κ L j (c + 1))) := ⟨_, rfl⟩
    have hcall := A_hear_ok d h b1 hV b7 b8 (kmx_lt _)
    rw [← eh'] at hcall
    refine ⟨h', hcall, ?_, ?_⟩
    · have K' : ∀ b, hpK h' b = hpK h b := fun b => by rw [eh', hHe_K]
      have R' : ∀ b k, hpR h' b k = hpR h b k := fun b k => by rw [eh']; rfl
      have L' : ∀ b k, hpL h' b k = hpL h b k := fun b k => by rw [eh']; rfl
      have I' : ∀ b k, hpI h' b k = if b = adr tp aa j ∧ k = 10 then nI (if kmx (hrd t κ L j (c + 1)) < km (rV t κ e) then km (rV t κ e) else kmx (hrd t κ L j (c + 1))) else if b = adr tp aa j ∧ k = 9 then bI ((hrd t κ L j (c + 1)).any kf || kf (rV t κ e)) else hpI h b k := fun b k => by rw [eh', hHe_I]
      clear eh'
      have In : ∀ b k, b ≠ adr tp aa j → hpI h' b k = hpI h b k := fun b k hb => by rw [I', if_neg (fun z => hb z.1), if_neg (fun z => hb z.1)]
      obtain ⟨p1, p2, p3, p4, p5, p6, p7, p8, p9⟩ := id P
      have kj := b1
      refine ⟨⟨by rw [K']; exact p1, by rw [R']; exact p2, by rw [R']; exact p3, by rw [K']; exact p4, by rw [K']; exact p5, p6, fun k hk => ⟨by rw [R']; exact (p7 k hk).1, by rw [K']; exact (p7 k hk).2.1, (p7 k hk).2.2⟩, p8, fun k z1 z2 => by rw [R']; exact p9 k z1 z2⟩, i5, ?_, ?_⟩
      · refine nAll_congr H (fun q hq => ⟨K' _, fun k => In _ k (fun z => ?_), L' _ _, fun k _ => R' _ _⟩) T
        have := (H q hq).K
        rw [z, kj] at this; cases this
      · intro k ek hk
        have B := arms k ek hk
        have hkl := (List.getElem?_eq_some_iff.mp hk).1
        by_cases hkj : k = j
        · subst hkj
          cases he1.symm.trans hk
          rw [hf]
          dsimp only
          refine ⟨by rw [K']; exact b1, by rw [R']; exact b2, by rw [L']; exact b3, by rw [I', if_neg (by omega), if_neg (by omega)]; exact b4, by rw [I', if_neg (by omega), if_neg (by omega)]; exact b5, by rw [I', if_neg (by omega), if_neg (by omega)]; exact b6, ?_, ?_⟩
          · rw [I', if_neg (by omega), if_pos ⟨rfl, rfl⟩, hrd_step he, if_pos ej.symm, List.any_cons, Bool.or_comm]
          · rw [I', if_pos ⟨rfl, rfl⟩, hrd_step he, if_pos ej.symm]; rfl
        · have hne : adr tp aa k ≠ adr tp aa j := fun z => hkj (kI_adr P (by omega) (by omega) z)
          have hh : hrd t κ L k c = hrd t κ L k (c + 1) := by rw [hrd_step he, if_neg (fun z => hkj (z.symm.trans ej.symm))]
          cases hfk : fsw t (rW ek) (rP ek) with
          | none =>
            rw [hfk] at B
            exact aF_congr B (K' _) (fun z => ⟨In _ z hne, L' _ _, R' _ _⟩) (fun q hq => R' _ _)
          | some q =>
            obtain ⟨x', v'⟩ := q
            rw [hfk] at B
            dsimp only at B ⊢
            rw [hh]
            exact aS_congr B (K' _) (fun z => ⟨In _ z hne, L' _ _, R' _ _⟩)
    · rw [eh']
      refine ⟨fun b => rfl, rfl, rfl, fun b hb k => ⟨?_, rfl, rfl⟩⟩
      have hne := hb j (by omega)
      rw [hHe_I, if_neg (fun z => hne z.1), if_neg (fun z => hne z.1)]
theorem S_kindOf_loop2 {d : Nat} {Q : Option mx_V → mx_H → Prop} (T : tOk t) (hκ : ∀ i, i < tN t → κ i < 5 ∧ (tS t i = 4 → κ i = tV t i)) (hps0 : ∀ p ∈ ps0, p < tN t) (u : Option Nat) {aa : Nat → Nat} {M : Nat} {L : List rc} {e0 : rc} (h00 : L[0]? = some e0)
    (k3 : ∀ j e, L[j]? = some e → (∀ p ∈ rP e, p ∈ ps0) ∧ (rP e).Nodup ∧ (0 < j → rF e < j)) (k5 : ∀ j e, L[j]? = some e → (L.drop 1).filter (fun c => rF c == j) = rch t j e) (hL : L.length ≤ 251) :
    ∀ (c : Nat) (h : mx_H) (z : Option mx_V), c < L.length → hpI h s 2 = nI (L.length - 1) → pI na t κ s tp oa h aa M L (c + 1) → (∀ h', F2 tp aa M h h' → nAll na t κ h' → sP h' s tp oa aa M → Q (some (.inl (nI (rV t κ e0)))) h') →
      mx_W (mx_Call mx_prog (d + 4)) (mx_nth cd_S_kindOf) (34, [some (.inr (.inr (some s))), some (.inr (.inr u)), some (.inl (nI c - 1)), z], [], h) Q := by
  intro c
  induction c with
  | zero =>
    intro h z hc hm I k
    obtain ⟨P, i5, H, arms⟩ := id I
    obtain ⟨p1, p2, p3, p4, p5, p6, p7, p8, p9⟩ := id P
    iterate 2 refine mw_go rfl rfl ?_
    refine mw_ifT (by decide) ?_
    refine mw_go rfl rfl ?_
    refine mv_gR rfl rfl p1 p2 ?_
    have hcall := pI_kind d T hκ hps0 I h00 k3 k5 (by omega)
    refine mw_cv hcall rfl rfl rfl (Nat.le_of_ble_eq_true rfl) ⟨_, rfl, p4⟩ ?_
    exact mw_r0 rfl (k h ⟨fun _ => rfl, rfl, rfl, fun _ _ _ => ⟨rfl, rfl, rfl⟩⟩ H P)
  | succ c ih =>
    intro h z hc hm I k
    obtain ⟨P, i5, H, arms⟩ := id I
    obtain ⟨p1, p2, p3, p4, p5, p6, p7, p8, p9⟩ := id P
    rw [nI_pred]
    obtain ⟨e, he⟩ : ∃ e, L[c + 1]? = some e := ⟨L[c + 1], List.getElem?_eq_getElem hc⟩
    iterate 2 refine mw_go rfl rfl ?_
    refine mw_ifF (nI_pos (by omega)) ?_
    iterate 2 refine mw_go rfl rfl ?_
    refine mw_cv (S_openedAt_ok (d + 3) P hm i5 (i := c) (by omega)) rfl rfl rfl (Nat.le_of_ble_eq_true rfl) ⟨_, rfl, p1⟩ ?_
    have ka : hpK h (aa c) = some (.inl 0) := (p7 c (by omega)).2.1
    have hfr : hpR h (aa c) 0 = some (adr tp aa (rF e)) := by
      have A := arms (c + 1) e he
      have e1 : rfr tp aa (c + 1) e = some (adr tp aa (rF e)) := by rw [rfr, if_neg (by omega)]
      cases hf : fsw t (rW e) (rP e) with
      | none => rw [hf] at A; rw [← e1]; exact A.2.1
      | some q => obtain ⟨x, v⟩ := q; rw [hf] at A; rw [← e1]; exact A.2.1
    iterate 3 refine mw_go rfl rfl ?_
    refine mw_ifF (by simp) ?_
    refine mw_go rfl rfl ?_
    refine mv_gR rfl rfl ka hfr ?_
    refine mw_go rfl rfl ?_
    refine mw_ifF (by simp) ?_
    refine mw_go rfl rfl ?_
    refine mv_gR rfl rfl ka hfr ?_
    refine mw_go rfl rfl ?_
    have hcall := pI_kind d T hκ hps0 I he k3 k5 (by omega)
    refine mw_cv hcall rfl rfl rfl (Nat.le_of_ble_eq_true rfl) ⟨_, rfl, ka⟩ ?_
    obtain ⟨h', c1, c2, c3⟩ := pI_hear T (d + 2) hps0 I he (by omega) k3 k5
    have kw : hpK h (adr tp aa (rF e)) = some (.inl 0) := by
      have := (k3 (c + 1) e he).2.2 (by omega)
      exact kI_adrK P (by omega)
    refine mw_cn c1 rfl rfl rfl (Nat.le_of_ble_eq_true rfl) ⟨_, rfl, kw⟩ ?_
    iterate 2 refine mw_go rfl rfl ?_
    have hm' : hpI h' s 2 = nI (L.length - 1) := by
      rw [(c3.2.2.2 s (fun j hj e' => by have := kI_adrK P hj; rw [← e', p1] at this; cases this) 2).1]; exact hm
    have em : nI c + (-1) = nI c - 1 := by rw [Int32.sub_eq_add_neg]
    show mx_W _ _ (34, [some (.inr (.inr (some s))), some (.inr (.inr u)), some (.inl (nI c + (-1))), some (.inr (.inr (some (aa c))))], [], h') _
    rw [em]
    exact ih h' _ (by omega) hm' c2 (fun h'' f1 f2 f3 => k h'' (c3.trans f1) f2 f3)
/-- kindOf: the KIND of a CHOICE by itself; what may have changed -/
def kFr (na : Nat → Nat) (t : tr) (κ : Nat → Nat) (s tp oa : Nat) (ps0 : List Nat) (h0 : mx_H) (aa0 : Nat → Nat) (M0 : Nat) (h : mx_H) (aa : Nat → Nat) (M : Nat) : Prop :=
  sP h s tp oa aa M ∧ hOk h ∧ M0 ≤ M ∧ nAll na t κ h ∧ hpZ h = hpZ h0 + (M - M0) ∧ hpU h = hpU h0 + 11 * (M - M0) ∧
  (∀ c, hpK h0 c ≠ none → hpK h c = hpK h0 c ∧ ∀ k, c ≠ tp → (∀ j, j < M0 → c ≠ aa0 j) → ¬ (c = s ∧ k = 2) → c ≠ oa → ¬ ((k = 13 ∨ k = 14) ∧ ∃ p ∈ ps0, c = na p) → hpI h c k = hpI h0 c k ∧ hpL h c k = hpL h0 c k ∧ hpR h c k = hpR h0 c k)
theorem kI_start {h0 h1 : mx_H} {aa0 : Nat → Nat} {M0 i : Nat} (T : tOk t) (hi : i < tN t) (P : sP h0 s tp oa aa0 M0) (hok : hOk h0) (H0 : nAll na t κ h0) (G : gaI na t κ s tp (tC t i) h0 h1 (tC t i)) : kI na t κ s tp oa (tC t i) h0 aa0 M0 h1 aa0 M0 [((0, 0, 0, tC t i) : rc)] 0 := by
  obtain ⟨A, H, g3, g4, g5, g6, g7, g8⟩ := G
  obtain ⟨p1, p2, p3, p4, p5, p6, p7, p8, p9⟩ := id P
  have Ti := T.at hi
  have hst : s ≠ tp := fun e => by rw [e, p4] at p1; cases p1
  have hot : oa ≠ tp := fun e => by rw [e, p4] at p5; cases p5
  have hos : oa ≠ s := fun e => by rw [e, p1] at p5; cases p5
  have nS : ∀ q ∈ tC t i, s ≠ na q := fun q hq e => by have := (H0 q (Ti.2.2.1 q hq).2.1).K; rw [← e, p1] at this; cases this
  have nO : ∀ q ∈ tC t i, oa ≠ na q := fun q hq e => by have := (H0 q (Ti.2.2.1 q hq).2.1).K; rw [← e, p5] at this; cases this
  have rS : ∀ k, k ≠ 2 → hpR h1 s k = hpR h0 s k := fun k hk => (g8 s k hst (fun z => hk z.2) (fun ⟨_, q, hq, e⟩ => nS q hq e)).2.2
  have rO : ∀ k, hpR h1 oa k = hpR h0 oa k := fun k => (g8 oa k hot (fun z => hos z.1) (fun ⟨_, q, hq, e⟩ => nO q hq e)).2.2
  refine ⟨⟨⟨by rw [g6]; exact p1, by rw [rS 0 (by decide)]; exact p2, by rw [rS 1 (by decide)]; exact p3, by rw [g6]; exact p4, by rw [g6]; exact p5, p6, fun k hk => ⟨by rw [rO]; exact (p7 k hk).1, by rw [g6]; exact (p7 k hk).2.1, (p7 k hk).2.2⟩, p8, fun k z1 z2 => by rw [rO]; exact p9 k z1 z2⟩, fun c hc => by rw [g6]; rw [g4] at hc; exact hok c hc, g7, by simp, by simp, Nat.le_refl _, fun _ _ => rfl, H, g3⟩, ?_, ?_, ?_, ⟨?_, ?_⟩, ?_, ⟨by omega, by omega, fun j z1 z2 => by omega⟩, fun c hc => ⟨g6 c, fun k n1 _ n3 _ n5 => g8 c k n1 n3 n5⟩⟩
  · intro j e hj
    cases j with
    | zero =>
      simp at hj
      subst hj
      unfold aR
      cases hf : fsw t (rW ((0, 0, 0, tC t i) : rc)) (rP ((0, 0, 0, tC t i) : rc)) with
      | none => exact A
      | some q => exact A
    | succ j => simp at hj
  · intro j e hj
    cases j with
    | zero =>
      simp at hj
      subst hj
      exact ⟨fun p hp => hp, Ti.2.2.2.1, fun z => by omega⟩
    | succ j => simp at hj
  · intro j k ej ek hj hk hjk
    have h1 := (List.getElem?_eq_some_iff.mp hj).1
    have h2 := (List.getElem?_eq_some_iff.mp hk).1
    simp at h1 h2
    omega
  · intro j e _ hj; omega
  · intro j _; rfl
  · have := sA_250 T (w := 0) hi
    simpa using this
theorem S_kindOf_ok {h0 : mx_H} {aa0 : Nat → Nat} {M0 i : Nat} (d : Nat) (T : tOk t) (hκ : ∀ i, i < tN t → κ i < 5 ∧ (tS t i = 4 → κ i = tV t i)) (hinj : ∀ i j, i < tN t → j < tN t → na i = na j → i = j) (hi : i < tN t) (P : sP h0 s tp oa aa0 M0) (hok : hOk h0) (H0 : nAll na t κ h0) :
    ∃ h' aa' M', cl (d + 5) j_S_kindOf [.inr (.inr (some s)), .inr (.inr (some (na i)))] h0 (some (.inl (nI (kc t κ 0 (tC t i))))) h' ∧ kFr na t κ s tp oa (tC t i) h0 aa0 M0 h' aa' M' := by
  have Ti := T.at hi
  have hps0 : ∀ p ∈ tC t i, p < tN t := fun p hp => (Ti.2.2.1 p hp).2.1
  have walk : mx_W (mx_Call mx_prog (d + 4)) (mx_nth cd_S_kindOf) (0, [some (.inr (.inr (some s))), some (.inr (.inr (some (na i)))), none, none], [], h0) (fun r1 h' => r1 = some (.inl (nI (kc t κ 0 (tC t i)))) ∧ ∃ aa' M', kFr na t κ s tp oa (tC t i) h0 aa0 M0 h' aa' M') := by
    iterate 2 refine mw_go rfl rfl ?_
    obtain ⟨h1, c1, G⟩ := S_gather_ok (d + 1) T H0 hκ hinj hi P.1 P.2.1 P.2.2.2.1
    refine mw_cn c1 rfl rfl rfl (Nat.le_of_ble_eq_true rfl) ⟨_, rfl, P.1⟩ ?_
    have I0 := kI_start T hi P hok H0 G
    have P1 := I0.1.1
    iterate 2 refine mw_go rfl rfl ?_
    refine mv_gR rfl rfl P1.1 P1.2.1 ?_
    obtain ⟨h2, aa2, M2, c2, I2⟩ := kI_split d T hps0 hinj I0 (e := (0, 0, 0, tC t i)) rfl
    refine mw_cn c2 rfl rfl rfl (Nat.le_of_ble_eq_true rfl) ⟨_, rfl, P1.1⟩ ?_
    iterate 2 refine mw_go rfl rfl ?_
    refine S_kindOf_loop1 T hps0 hinj _ (e0 := (0, 0, 0, tC t i)) 251 0 h2 aa2 M2 _ _ rfl (by simp) I2 (by simp) ?_
    intro h3 aa3 M3 L y z3 I3 h00
    obtain ⟨⟨P3, i2, i3, i4, i5, i6, i7, H3, i9⟩, k2, k3, k4, ⟨k5, k6⟩, k7, ⟨k8a, k8b, k8c⟩, k9⟩ := I3
    refine mw_go rfl rfl ?_
    refine mv_gI rfl rfl P3.1 i3 ?_
    iterate 3 refine mw_go rfl rfl ?_
    have hk5 : ∀ j e, L[j]? = some e → (L.drop 1).filter (fun c => rF c == j) = rch t j e := fun j e hj => k5 j e hj (List.getElem?_eq_some_iff.mp hj).1
    refine S_kindOf_loop2 (na := na) (tp := tp) (oa := oa) (aa := aa3) (M := M3) T hκ hps0 _ h00 k3 hk5 (by omega) (L.length - 1) h3 _ (by omega) i3 ?_ ?_
    · refine ⟨P3, i5, H3, fun j e hj => ?_⟩
      have A := k2 j e hj
      have hjl := (List.getElem?_eq_some_iff.mp hj).1
      unfold aR at A
      have hd : hrd t κ L j (L.length - 1 + 1) = [] := by
        unfold hrd
        rw [List.drop_eq_nil_of_le (by omega)]
        rfl
      cases hf : fsw t (rW e) (rP e) with
      | none => rw [hf] at A; exact A
      | some q =>
        obtain ⟨x, v⟩ := q
        rw [hf] at A
        dsimp only at A ⊢
        rw [if_pos hjl] at A
        rw [hd]
        exact A
    · intro h4 F4 H4 P4
      refine ⟨rfl, aa3, M3, P4, fun c hc => by rw [F4.1]; rw [F4.2.1] at hc; exact i2 c hc, i6, H4, by rw [F4.2.1]; exact k8a, by rw [F4.2.2.1]; exact k8b, fun c hc => ⟨by rw [F4.1]; exact (k9 c hc).1, fun k n1 n2 n3 n4 n5 => ?_⟩⟩
      obtain ⟨g1, g2, g3⟩ := (k9 c hc).2 k n1 n2 n3 n4 n5
      obtain ⟨f1, f2, f3⟩ := F4.2.2.2 c (fun j hj e => by
        cases j with
        | zero => exact n1 e
        | succ j =>
          by_cases hlt : j < M0
          · exact n2 j hlt (by rw [e]; exact i7 j hlt)
          · exact hc (by rw [e]; exact k8c j (by omega) (by omega))) k
      exact ⟨f1.trans g1, f2.trans g2, f3.trans g3⟩
  obtain ⟨r, h', hcl, rfl, aa', M', K⟩ := mc_of (prog := mx_prog) (j := j_S_kindOf) (as := [.inr (.inr (some s)), .inr (.inr (some (na i)))]) (Nat.le_of_ble_eq_true rfl) walk
  exact ⟨h', aa', M', hcl, K⟩
end
