/-! hang, from a NODE just made. -/
theorem hAp_off {h : mx_H} {a f c : Nat} (h1 : c ≠ a) (h2 : c ≠ f) (h3 : ∀ q, hpR h a 11 = some q → c ≠ q) (k : Nat) : hpI (hAp h a f) c k = hpI h c k ∧ hpL (hAp h a f) c k = hpL h c k ∧ hpR (hAp h a f) c k = hpR h c k := by
  refine ⟨by rw [hAp_I, if_neg (fun q => h1 q.1), if_neg (fun q => h2 q.1)], hAp_L _ _ _ _ _, ?_⟩
  rw [hAp_R, if_neg (fun q => h1 q.1)]
  cases hq : hpR h a 11 with
  | none => dsimp only; rw [if_neg (fun q => h1 q.1), if_neg (fun q => h2 q.1)]
  | some q => dsimp only; rw [if_neg (fun z => h3 q hq z.1), if_neg (fun q => h2 q.1)]
/-- all cells that were there stand -/
def hEx (h h2 : mx_H) : Prop := ∀ c, hpK h c ≠ none → hpK h2 c = hpK h c ∧ ∀ k, hpI h2 c k = hpI h c k ∧ hpL h2 c k = hpL h c k ∧ hpR h2 c k = hpR h c k
theorem hEx_cFr {h h2 : mx_H} (E : hEx h h2) : cFr h h2 := fun c hc => E c (mK_ne hc).1
theorem sP_ex {h h2 : mx_H} {s tp oa M : Nat} {aa : Nat → Nat} (P : sP h s tp oa aa M) (E : hEx h h2) : sP h2 s tp oa aa M := by
  obtain ⟨p1, p2, p3, p4, p5, p6, p7, p8, p9⟩ := P
  have es := E s (by rw [p1]; simp)
  have et := E tp (by rw [p4]; simp)
  have eo := E oa (by rw [p5]; simp)
  refine ⟨es.1.trans p1, (es.2 0).2.2.trans p2, (es.2 1).2.2.trans p3, et.1.trans p4, eo.1.trans p5, p6, fun k hk => ?_, p8, fun k h1 h2 => (eo.2 k).2.2.trans (p9 k h1 h2)⟩
  obtain ⟨q1, q2, q3⟩ := p7 k hk
  exact ⟨(eo.2 k).2.2.trans q1, (E _ (by rw [q2]; simp)).1.trans q2, q3⟩
/-- a NODE was made in the next cell, and only there was written -/
def frN (h h2 : mx_H) : Prop := hpZ h2 = hpZ h + 1 ∧ hpU h2 = hpU h + 15 ∧ (∀ c, c ≠ hpZ h → hpK h2 c = hpK h c ∧ ∀ k, hpI h2 c k = hpI h c k ∧ hpL h2 c k = hpL h c k ∧ hpR h2 c k = hpR h c k) ∧ hpK h2 (hpZ h) = some (.inl 1)
theorem frN_nw (h : mx_H) : frN h (hnw h (.inl 1) 15) := by
  refine ⟨rfl, rfl, fun c hc => ⟨by rw [hpK_nw, if_neg hc], fun k => ⟨by rw [hpI_nw, if_neg hc], by rw [hpL_nw, if_neg hc], by rw [hpR_nw, if_neg hc]⟩⟩, by rw [hpK_nw, if_pos rfl]⟩
theorem frN_wI {h h2 : mx_H} (F : frN h h2) (k : Nat) (x : Int32) : frN h (hwI h2 (hpZ h) k x) := by
  obtain ⟨f1, f2, f3, f4⟩ := F
  refine ⟨f1, f2, fun c hc => ⟨(f3 c hc).1, fun j => ⟨?_, ((f3 c hc).2 j).2.1, ((f3 c hc).2 j).2.2⟩⟩, f4⟩
  rw [hpI_wI, if_neg (fun q => hc q.1)]; exact ((f3 c hc).2 j).1
theorem frN_wL {h h2 : mx_H} (F : frN h h2) (k : Nat) (x : Int64) : frN h (hwL h2 (hpZ h) k x) := by
  obtain ⟨f1, f2, f3, f4⟩ := F
  refine ⟨f1, f2, fun c hc => ⟨(f3 c hc).1, fun j => ⟨((f3 c hc).2 j).1, ?_, ((f3 c hc).2 j).2.2⟩⟩, f4⟩
  rw [hpL_wL, if_neg (fun q => hc q.1)]; exact ((f3 c hc).2 j).2.1
theorem frN_ni {h h2 : mx_H} (F : frN h h2) (s : Int32) (m : Int64) : frN h (hNi h2 (hpZ h) s m) := frN_wL (frN_wI (frN_wI (frN_wI (frN_wI F _ _) _ _) _ _) _ _) _ _
theorem frN_ex {h h2 : mx_H} (F : frN h h2) (hok : hOk h) : hEx h h2 := fun c hc => F.2.2.1 c (fun e => hc (by rw [e]; exact hok _ (Nat.le_refl _)))
theorem frN_ok {h h2 : mx_H} (F : frN h h2) (hok : hOk h) : hOk h2 := by
  obtain ⟨f1, f2, f3, f4⟩ := F
  intro b hb
  rw [f1] at hb
  rw [(f3 b (by omega)).1]
  exact hok b (by omega)
section
variable {D ar s tp oa z u : Nat} {G : mx_H} {w : Int64} {r : Int32} {h : mx_H} {aa : Nat → Nat} {M : Nat} {na : Nat → Nat} {t : tr} {κ : Nat → Nat}
theorem dW_ex {h2 : mx_H} {z2 u2 : Nat} (T : tOk t) (W : dW D ar s tp oa z u G w r h aa M na t κ) (E : hEx h h2) (hok : hOk h2) (hz : hpZ h2 ≤ z2 + M) (hu : hpU h2 ≤ u2 + 11 * M) : dW D ar s tp oa z2 u2 G w r h2 aa M na t κ := by
  obtain ⟨⟨w1, w2, w3, w4, w5, w6, w7, w8, w9⟩, w10, w11, w12, w13, w14⟩ := W
  have eD := E D (by rw [w1]; simp)
  have ea := E ar (by rw [w4]; simp)
  refine ⟨⟨eD.1.trans w1, (eD.2 0).2.2.trans w2, (eD.2 1).2.2.trans w3, ea.1.trans w4, sP_ex w5 E, hok, (eD.2 2).1.trans w7, fun i hi => (ea.2 i).2.2.trans (w8 i hi), nAll_congr w9 (fun i hi => ?_) T⟩, (eD.2 3).2.1.trans w10, (eD.2 4).1.trans w11, hz, hu, cFr_tr w14 (hEx_cFr E)⟩
  have e := E (na i) (by rw [(w9 i hi).K]; simp)
  exact ⟨e.1, fun k => (e.2 k).1, (e.2 1).2.1, fun k _ => (e.2 k).2.2⟩
theorem dW_fr {h2 : mx_H} (T : tOk t) (W : dW D ar s tp oa z u G w r h aa M na t κ) (F : frN h h2) : dW D ar s tp oa (z + 1) (u + 15) G w r h2 aa M na t κ ∧ ∀ i, i < tN t → na i ≠ hpZ h := by
  have hok := W.1.2.2.2.2.2.1
  have hz := W.2.2.2.1
  have hu := W.2.2.2.2.1
  refine ⟨dW_ex T W (frN_ex F hok) (frN_ok F hok) (by rw [F.1]; omega) (by rw [F.2.1]; omega), fun i hi e => ?_⟩
  have := (W.1.2.2.2.2.2.2.2.2 i hi).K
  rw [e, hok _ (Nat.le_refl _)] at this
  cases this
theorem dW_ap (T : tOk t) (W : dW D ar s tp oa z u G w r h aa M na t κ) {p f s' v g a k0 : Nat} {m : Int64} (hp : p < tN t) (hN : tN t < 250) (F : nFr h f s' v g a m k0 0) (hf : ∀ i, i < tN t → na i ≠ f) : dW D ar s tp oa z u G w r (hAp (hwI (hwR (hwI h f 2 (nI (tN t))) ar (tN t) (some f)) D 2 (nI (tN t + 1))) (na p) f) aa M (fun i => if i = tN t then f else na i) (tAd t p s' v g a m) (fun i => if i = tN t then k0 else κ i) := by
  obtain ⟨⟨w1, w2, w3, w4, w5, w6, w7, w8, w9⟩, w10, w11, w12, w13, w14⟩ := W
  obtain ⟨f1, f2, f3, f4, f5, f6, f7, f8, f9, f10, f11, f12⟩ := F
  have nfD : f ≠ D := fun e => by rw [e, w1] at f1; cases f1
  have nfa : f ≠ ar := fun e => by rw [e, w4] at f1; cases f1
  have nDa : D ≠ ar := fun e => by rw [e, w4] at w1; cases w1
  have niD : ∀ i, i < tN t → na i ≠ D := fun i hi e => by have := (w9 i hi).K; rw [e, w1] at this; cases this
  have nia : ∀ i, i < tN t → na i ≠ ar := fun i hi e => by have := (w9 i hi).K; rw [e, w4] at this; cases this
  obtain ⟨h3, e3⟩ : ∃ h3, h3 = hwI (hwR (hwI h f 2 (nI (tN t))) ar (tN t) (some f)) D 2 (nI (tN t + 1)) := ⟨_, rfl⟩
  rw [← e3]
  have K3 : ∀ c, hpK h3 c = hpK h c := fun c => by rw [e3]; rfl
  have L3 : ∀ c k, hpL h3 c k = hpL h c k := fun c k => by rw [e3]; rfl
  have I3 : ∀ c k, hpI h3 c k = if c = D ∧ k = 2 then nI (tN t + 1) else if c = f ∧ k = 2 then nI (tN t) else hpI h c k := fun c k => by rw [e3]; rfl
  have R3 : ∀ c k, hpR h3 c k = if c = ar ∧ k = tN t then some f else hpR h c k := fun c k => by rw [e3]; rfl
  have Z3 : hpZ h3 = hpZ h ∧ hpU h3 = hpU h := by rw [e3]; exact ⟨rfl, rfl⟩
  have C3 : cFr h h3 := by
    rw [e3]
    exact cFr_tr (cFr_tr (cFr_wI f1 mK_n1) (cFr_wR (h := hwI h f 2 (nI (tN t))) w4 (mK_a2 _))) (cFr_wI (h := hwR (hwI h f 2 (nI (tN t))) ar (tN t) (some f)) w1 mK_n3)
  clear e3
  have H3 : nAll na t κ h3 := nAll_congr w9 (fun i hi => ⟨K3 _, fun k => by rw [I3, if_neg (fun q => niD i hi q.1), if_neg (fun q => hf i hi q.1)], L3 _ _, fun k _ => by rw [R3, if_neg (fun q => nia i hi q.1)]⟩) T
  have F3 : nFr h3 f s' v g a m k0 (tN t) := by
    refine ⟨(K3 f).trans f1, ?_, (L3 f 1).trans f3, ?_, ?_, ?_, ?_, ?_, ?_, ?_, ?_, ?_⟩
    · rw [I3, if_neg (fun q => nfD q.1), if_neg (fun q => absurd q.2 (by decide))]; exact f2
    · rw [I3, if_neg (fun q => nfD q.1), if_pos ⟨rfl, rfl⟩]
    · rw [I3, if_neg (fun q => nfD q.1), if_neg (fun q => absurd q.2 (by decide))]; exact f5
    · rw [I3, if_neg (fun q => nfD q.1), if_neg (fun q => absurd q.2 (by decide))]; exact f6
    · rw [I3, if_neg (fun q => nfD q.1), if_neg (fun q => absurd q.2 (by decide))]; exact f7
    · rw [I3, if_neg (fun q => nfD q.1), if_neg (fun q => absurd q.2 (by decide))]; exact f8
    · rw [I3, if_neg (fun q => nfD q.1), if_neg (fun q => absurd q.2 (by decide))]; exact f9
    · rw [R3, if_neg (fun q => nfa q.1)]; exact f10
    · rw [R3, if_neg (fun q => nfa q.1)]; exact f11
    · rw [R3, if_neg (fun q => nfa q.1)]; exact f12
  have hl : ∀ q, hpR h3 (na p) 11 = some q → ∃ i, i < tN t ∧ q = na i := by
    intro q hq
    rw [(H3 p hp).l] at hq
    cases hz : (tC t p).getLast? with
    | none => rw [hz] at hq; cases hq
    | some y => rw [hz] at hq; exact ⟨y, ((T.at hp).2.2.1 y (List.mem_of_getLast? hz)).2.1, (Option.some.inj hq).symm⟩
  have hlK : ∀ q, hpR h3 (na p) 11 = some q → hpK h3 q = some (.inl 1) := by
    intro q hq
    obtain ⟨i, hi, e⟩ := hl q hq
    rw [e]; exact (H3 i hi).K
  have off : ∀ c q, hpK h c = some q → q ≠ .inl 1 → ∀ k, hpI (hAp h3 (na p) f) c k = hpI h3 c k ∧ hpL (hAp h3 (na p) f) c k = hpL h3 c k ∧ hpR (hAp h3 (na p) f) c k = hpR h3 c k := by
    intro c q hc hq
    refine hAp_off (fun e => ?_) (fun e => ?_) (fun y hy e => ?_)
    · rw [e, (w9 p hp).K] at hc; exact hq (Option.some.inj hc).symm
    · rw [e, f1] at hc; exact hq (Option.some.inj hc).symm
    · have := hlK y hy
      rw [← e, K3, hc] at this; exact hq (Option.some.inj this)
  obtain ⟨p1, p2, p3, p4, p5, p6, p7, p8, p9⟩ := w5
  have nsa : s ≠ ar := fun e => by rw [e, w4] at p1; cases p1
  have noa : oa ≠ ar := fun e => by rw [e, w4] at p5; cases p5
  have os := off s _ p1 (by simp)
  have oo := off oa _ p5 (by simp)
  have oD := off D _ w1 (by simp)
  have oar := off ar _ w4 (by simp)
  refine ⟨⟨(hAp_K _ _ _ _).trans ((K3 D).trans w1), ?_, ?_, (hAp_K _ _ _ _).trans ((K3 ar).trans w4), ⟨(hAp_K _ _ _ _).trans ((K3 s).trans p1), ?_, ?_, (hAp_K _ _ _ _).trans ((K3 tp).trans p4), (hAp_K _ _ _ _).trans ((K3 oa).trans p5), p6, fun k hk => ?_, p8, fun k k1 k2 => ?_⟩, fun b hb => ?_, ?_, fun i hi => ?_, nAll_ad T H3 hp F3 hf⟩, ?_, ?_, ?_, ?_, cFr_tr w14 (cFr_tr C3 (hAp_cFr (H3 p hp).K ((K3 f).trans f1) hlK))⟩
  · rw [(oD 0).2.2, R3, if_neg (fun q => nDa q.1)]; exact w2
  · rw [(oD 1).2.2, R3, if_neg (fun q => nDa q.1)]; exact w3
  · rw [(os 0).2.2, R3, if_neg (fun q => nsa q.1)]; exact p2
  · rw [(os 1).2.2, R3, if_neg (fun q => nsa q.1)]; exact p3
  · obtain ⟨q1, q2, q3⟩ := p7 k hk
    exact ⟨by rw [(oo k).2.2, R3, if_neg (fun q => noa q.1)]; exact q1, (hAp_K _ _ _ _).trans ((K3 _).trans q2), q3⟩
  · rw [(oo k).2.2, R3, if_neg (fun q => noa q.1)]; exact p9 k k1 k2
  · rw [(hAp_Z _ _ _).1, Z3.1] at hb
    rw [hAp_K, K3]; exact w6 b hb
  · rw [(oD 2).1, I3, if_pos ⟨rfl, rfl⟩]; rfl
  · have hi : i < tN t + 1 := hi
    rw [(oar i).2.2, R3]
    by_cases e : i = tN t
    · rw [if_pos ⟨rfl, e⟩]; dsimp only; rw [if_pos e]
    · rw [if_neg (fun q => e q.2)]; dsimp only; rw [if_neg e]; exact w8 i (by omega)
  · rw [(oD 3).2.1, L3]; exact w10
  · rw [(oD 4).1, I3, if_neg (fun q => absurd q.2 (by decide)), if_neg (fun q => absurd q.2 (by decide))]; exact w11
  · rw [(hAp_Z _ _ _).1, Z3.1]; exact w12
  · rw [(hAp_Z _ _ _).2, Z3.2]; exact w13
theorem D_hang_ok (d : Nat) (T : tOk t) (W : dW D ar s tp oa z u G w r h aa M na t κ) (B : kB t κ) (K : kOk t κ) {p f s' v g a k0 : Nat} {m : Int64} (hp : p < tN t) (hN : tN t < 250) (hr : trm t p = true) (hs : s' < 6) (h4 : s' = 4 → v < 5 ∧ k0 = v) (h5 : s' = 5 → (v < 60 ∧ g < 100 ∧ a ≤ 100) ∧ k0 = if a = 1 then 0 else 1) (hk0 : k0 < 5) (F : nFr h f s' v g a m k0 0) (hf : ∀ i, i < tN t → na i ≠ f) :
    ∃ h' aa' M' na' κ', cl (d + 6) j_D_hang [.inr (.inr (some D)), .inr (.inr (some (na p))), .inr (.inr (some f))] h (some (.inl (nI (tN t)))) h' ∧ dW D ar s tp oa z u G w r h' aa' M' na' (tAd t p s' v g a m) κ' ∧ kB (tAd t p s' v g a m) κ' ∧ kOk (tAd t p s' v g a m) κ' := by
  have T' : tOk (tAd t p s' v g a m) := tOk_ad (m := m) T hN hp hr hs (fun e => (h4 e).1) (fun e => (h5 e).1)
  have W' := dW_ap (m := m) T W hp hN F hf
  have hnf : tN t < tN (tAd t p s' v g a m) := Nat.lt_succ_self _
  have eS : tS (tAd t p s' v g a m) (tN t) = s' := by rw [tS, tAd_n]
  have eV : tV (tAd t p s' v g a m) (tN t) = v := by rw [tV, tAd_n]
  have eA : tA (tAd t p s' v g a m) (tN t) = a := by rw [tA, tAd_n]
  have B' : kB (tAd t p s' v g a m) (fun i => if i = tN t then k0 else κ i) := by
    intro i hi
    have hi : i < tN t + 1 := hi
    by_cases e : i = tN t
    · dsimp only
      rw [if_pos e, e, eS, eV]
      exact ⟨hk0, fun q => (h4 q).2⟩
    · dsimp only
      obtain ⟨o1, o2, o3, -⟩ := tAd_o (p := p) (s := s') (v := v) (g := g) (a := a) (m := m) e
      rw [if_neg e, o1, o3]
      exact B i (by omega)
  have walk : mx_W (mx_Call mx_prog (d + 5)) (mx_nth cd_D_hang) (0, [some (.inr (.inr (some D))), some (.inr (.inr (some (na p)))), some (.inr (.inr (some f))), none], [], h) (fun r1 h' => r1 = some (.inl (nI (tN t))) ∧ ∃ aa' M' na' κ', dW D ar s tp oa z u G w r h' aa' M' na' (tAd t p s' v g a m) κ' ∧ kB (tAd t p s' v g a m) κ' ∧ kOk (tAd t p s' v g a m) κ') := by
    obtain ⟨⟨w1, w2, w3, w4, w5, w6, w7, w8, w9⟩, w10, w11, w12, w13, w14⟩ := id W
    have f1 := F.1
    have nfD : f ≠ D := fun e => by rw [e, w1] at f1; cases f1
    have nfa : f ≠ ar := fun e => by rw [e, w4] at f1; cases f1
    have nDa : D ≠ ar := fun e => by rw [e, w4] at w1; cases w1
    refine mw_go rfl rfl ?_
    refine mv_gI rfl rfl w1 w7 ?_
    refine mw_go rfl rfl ?_
    refine mv_gR rfl rfl w1 w2 ?_
    refine mw_alen rfl rfl w4 ?_
    refine mw_go rfl rfl ?_
    refine mw_ifT ((nI_ltI (by omega) (by omega)).mpr hN) ?_
    iterate 2 refine mw_go rfl rfl ?_
    refine mv_gI rfl rfl w1 w7 ?_
    refine mw_pI rfl rfl f1 ?_
    refine mw_go rfl rfl ?_
    refine mv_gR rfl rfl w1 w2 ?_
    refine mw_go rfl rfl ?_
    refine mv_gI (x := nI (tN t)) rfl rfl w1 (by rw [hpI_wI, if_neg (fun q => nfD q.1.symm)]; exact w7) ?_
    refine mw_go rfl rfl ?_
    refine mw_aas rfl rfl w4 rfl hN (by decide) (fun b hb => by cases hb; exact f1) ?_
    iterate 2 refine mw_go rfl rfl ?_
    refine mv_gI (x := nI (tN t)) rfl rfl w1 (by rw [hpI_wR, hpI_wI, if_neg (fun q => nfD q.1.symm)]; exact w7) ?_
    iterate 2 refine mw_go rfl rfl ?_
    refine mw_pI rfl rfl w1 ?_
    rw [show nI (tN t) + 1 = nI (tN t + 1) from nI_1 _]
    iterate 2 refine mw_go rfl rfl ?_
    have hlK : ∀ q, hpR (hwI (hwR (hwI h f 2 (nI (tN t))) ar (tN t) (some f)) D 2 (nI (tN t + 1))) (na p) 11 = some q → hpK h q = some (.inl 1) := by
      intro q hq
      rw [hpR_wI, hpR_wR, if_neg (fun e => absurd (w9 p hp).K (by rw [e.1, w4]; simp))] at hq
      rw [hpR_wI, (w9 p hp).l] at hq
      cases hz : (tC t p).getLast? with
      | none => rw [hz] at hq; cases hq
      | some y => rw [hz] at hq; rw [← Option.some.inj hq]; exact (w9 y ((T.at hp).2.2.1 y (List.mem_of_getLast? hz)).2.1).K
    refine mw_cn (N_append_ok (d + 4) _ (a := na p) (f := f) (w9 p hp).K f1 (hf p hp) hlK) rfl rfl rfl (Nat.le_of_ble_eq_true rfl) ⟨_, rfl, (w9 p hp).K⟩ ?_
    iterate 2 refine mw_go rfl rfl ?_
    have key := D_hang_loop (d := d) (Q := (fun r1 h' => r1 = some (.inl (nI (tN t))) ∧ ∃ aa' M' na' κ', dW D ar s tp oa z u G w r h' aa' M' na' (tAd t p s' v g a m) κ' ∧ kB (tAd t p s' v g a m) κ' ∧ kOk (tAd t p s' v g a m) κ')) T' hnf (some (.inr (.inr (some (na p))))) (fun h' aa' M' κ' W2 B2 K2 => ⟨rfl, aa', M', _, κ', W2, B2, K2⟩) (tN t) hnf _ aa M _ W' B' (fun j hj h3 => ?_) (fun j hj hs' => ?_)
    · rw [if_pos rfl] at key
      exact key
    · have hj : j < tN t + 1 := hj
      by_cases e : j = tN t
      · skip
        subst e
        rw [if_pos rfl]
        rw [eS] at h3
        unfold stp
        rw [eS, eV, eA, if_neg (by omega), if_neg (by omega), if_neg (by omega), if_neg (by omega)]
        by_cases e4 : s' = 4
        · rw [if_pos e4]; exact (h4 e4).2
        · rw [if_neg e4]; exact (h5 (by omega)).2
      · obtain ⟨o1, o2, o3, o4, o5, o6, o7⟩ := tAd_o (p := p) (s := s') (v := v) (g := g) (a := a) (m := m) e
        rw [o1] at h3
        skip
        rw [if_neg e, K j (by omega)]
        unfold stp
        have n0 : ¬ tS t j = 0 := by omega
        have n1 : ¬ tS t j = 1 := by omega
        have n2 : ¬ tS t j = 2 := by omega
        have n3 : ¬ tS t j = 3 := by omega
        rw [o1, o3, o5, if_neg n0, if_neg n1, if_neg n2, if_neg n3, if_neg n0, if_neg n1, if_neg n2, if_neg n3]
    · have hj : j < tN t + 1 := hj
      have ej : j ≠ tN t := fun e => hs' (by rw [e]; exact Sub_rf _)
      have hjp : j ≠ p := by
        intro e
        apply hs'
        refine Sub_ch (d := tN t) ?_ (Sub_rf _)
        rw [tAd_C ej, if_pos e]; simp
      have eC : tC (tAd t p s' v g a m) j = tC t j := by rw [tAd_C ej, if_neg hjp]
      obtain ⟨o1, o2, o3, o4, o5, o6, o7⟩ := tAd_o (p := p) (s := s') (v := v) (g := g) (a := a) (m := m) ej
      skip
      rw [if_neg ej, K j (by omega)]
      refine (stp_cg ⟨o1, o3, o5, eC⟩ (fun c hc => ?_)).symm
      have hc' := (T.at (show j < tN t by omega)).2.2.1 c hc
      have ec : c ≠ tN t := by omega
      have hcp : c ≠ p := by
        intro e
        apply hs'
        refine Sub_ch (d := c) (by rw [eC]; exact hc) (Sub_ch (d := tN t) ?_ (Sub_rf _))
        rw [tAd_C ec, if_pos e]; simp
      obtain ⟨q1, q2, q3, q4, q5, q6, q7⟩ := tAd_o (p := p) (s := s') (v := v) (g := g) (a := a) (m := m) ec
      refine ⟨⟨q1, q3, q4, q5, q6⟩, if_neg ec, by rw [tAd_C ec, if_neg hcp], fun e he => ?_⟩
      have he' := (T.at hc'.2.1).2.2.1 e he
      have ee : e ≠ tN t := by omega
      obtain ⟨x1, x2, x3, x4, x5, x6, x7⟩ := tAd_o (p := p) (s := s') (v := v) (g := g) (a := a) (m := m) ee
      exact ⟨⟨x1, x3, x4, x5, x6⟩, if_neg ee⟩
  obtain ⟨r1, h', hcl, rfl, aa', M', na', κ', K'⟩ := mc_of (prog := mx_prog) (j := j_D_hang) (as := [.inr (.inr (some D)), .inr (.inr (some (na p))), .inr (.inr (some f))]) (Nat.le_of_ble_eq_true rfl) walk
  exact ⟨h', aa', M', na', κ', hcl, K'⟩
end
