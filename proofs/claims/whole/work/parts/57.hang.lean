/-! The class at work: what its cells hold; hang. -/
section
variable {na : Nat → Nat} {t : tr} {κ : Nat → Nat} {h : mx_H}
theorem nAll_inj (T : tOk t) (H : nAll na t κ h) : ∀ i j, i < tN t → j < tN t → na i = na j → i = j := by
  intro i j hi hj e
  have h1 := (H i hi).N
  rw [e, (H j hj).N] at h1
  have := T.2.1
  exact ((nI_eq (by omega) (by omega)).mp h1).symm
theorem Chn_na {na' : Nat → Nat} {f : Nat} : ∀ {l : List Nat} {r : Option Nat}, (∀ c ∈ l, na' c = na c) → Chn na h f r l → Chn na' h f r l := by
  intro l
  induction l with
  | nil => intro r _ h; exact h
  | cons c l ih =>
    intro r hc hh
    obtain ⟨h1, h2⟩ := hh
    refine ⟨by rw [hc c List.mem_cons_self]; exact h1, ?_⟩
    rw [hc c List.mem_cons_self]
    exact ih (fun z hz => hc z (List.mem_cons_of_mem _ hz)) h2
/-- a NODE just made, not yet in the tree -/
def nFr (h : mx_H) (f s v g a : Nat) (m : Int64) (k0 n : Nat) : Prop :=
  hpK h f = some (.inl 1) ∧ hpI h f 0 = nI s ∧ hpL h f 1 = m ∧ hpI h f 2 = nI n ∧ hpI h f 4 = nI k0 ∧ hpI h f 5 = oI (s == 5) v ∧ hpI h f 6 = oI (s == 5) g ∧ hpI h f 7 = oI (s == 5) a ∧ hpI h f 8 = 0 ∧ hpR h f 10 = none ∧ hpR h f 11 = none ∧ hpR h f 12 = none
theorem nAll_ad (T : tOk t) (H : nAll na t κ h) {p f s v g a k0 : Nat} {m : Int64} (hp : p < tN t) (F : nFr h f s v g a m k0 (tN t)) (hf : ∀ i, i < tN t → na i ≠ f) : nAll (fun i => if i = tN t then f else na i) (tAd t p s v g a m) (fun i => if i = tN t then k0 else κ i) (hAp h (na p) f) := by
  obtain ⟨f1, f2, f3, f4, f5, f6, f7, f8, f9, f10, f11, f12⟩ := F
  have inj := nAll_inj T H
  have hpf := hf p hp
  have Hp := H p hp
  have Tp := T.at hp
  have hRf : ∀ k, k ≠ 9 → hpR (hAp h (na p) f) f k = hpR h f k := by
    intro k hk
    rw [hAp_R, if_neg (fun q => hpf q.1.symm), Hp.l]
    cases hz : (tC t p).getLast? with
    | none => dsimp only [Option.map]; rw [if_neg (fun q => hpf q.1.symm), if_neg (fun q => hk q.2)]
    | some z => dsimp only [Option.map]; rw [if_neg (fun q => hf z ((Tp.2.2.1 z (List.mem_of_getLast? hz)).2.1) q.1.symm), if_neg (fun q => hk q.2)]
  have hR : ∀ i k, i < tN t → (i = p → k ≠ 10 ∧ k ≠ 11) → (k = 12 → (tC t p).getLast? ≠ some i) → hpR (hAp h (na p) f) (na i) k = hpR h (na i) k := by
    intro i k hi h1 h2
    rw [hAp_R, if_neg (fun q => (h1 (inj _ _ hi hp q.1)).2 q.2), Hp.l]
    cases hz : (tC t p).getLast? with
    | none => dsimp only [Option.map]; rw [if_neg (fun q => (h1 (inj _ _ hi hp q.1)).1 q.2), if_neg (fun q => hf i hi q.1)]
    | some z =>
      dsimp only [Option.map]
      have hzl := (Tp.2.2.1 z (List.mem_of_getLast? hz)).2.1
      rw [if_neg (fun q => h2 q.2 (by rw [hz, inj _ _ hi hzl q.1])), if_neg (fun q => hf i hi q.1)]
  intro i hi
  have hi : i < tN t + 1 := hi
  by_cases e : i = tN t
  · subst e
    unfold nAt
    dsimp only
    rw [if_pos rfl, if_pos rfl, tS, tM, tD, tV, tG, tA, tC, tP, tAd_n]
    dsimp only
    refine ⟨by rw [hAp_K]; exact f1, ?_, by rw [hAp_L]; exact f3, ?_, ?_, ?_, ?_, ?_, ?_, ?_, ?_, ?_, ?_⟩
    · rw [hAp_I, if_neg (fun q => hpf q.1.symm), if_neg (fun q => absurd q.2 (by decide))]; exact f2
    · rw [hAp_I, if_neg (fun q => hpf q.1.symm), if_neg (fun q => absurd q.2 (by decide))]; exact f4
    · rw [hAp_I, if_neg (fun q => hpf q.1.symm), if_pos ⟨rfl, rfl⟩, Hp.D, nI_1]
    · rw [hAp_I, if_neg (fun q => hpf q.1.symm), if_neg (fun q => absurd q.2 (by decide))]; exact f5
    · rw [hAp_I, if_neg (fun q => hpf q.1.symm), if_neg (fun q => absurd q.2 (by decide))]; exact f6
    · rw [hAp_I, if_neg (fun q => hpf q.1.symm), if_neg (fun q => absurd q.2 (by decide))]; exact f7
    · rw [hAp_I, if_neg (fun q => hpf q.1.symm), if_neg (fun q => absurd q.2 (by decide))]; exact f8
    · rw [hAp_I, if_neg (fun q => hpf q.1.symm), if_neg (fun q => absurd q.2 (by decide))]; exact f9
    · rw [hAp_R, if_neg (fun q => hpf q.1.symm), if_neg (show ¬ tN t = 0 by omega), if_neg (show ¬ p = tN t by omega), Hp.l]
      cases hz : (tC t p).getLast? with
      | none => dsimp only [Option.map]; rw [if_neg (fun q => hpf q.1.symm), if_pos ⟨rfl, rfl⟩]
      | some z => dsimp only [Option.map]; rw [if_neg (fun q => absurd q.2 (by decide)), if_pos ⟨rfl, rfl⟩]
    · show hpR _ f 10 = none
      rw [hRf 10 (by decide)]; exact f10
    · rw [hRf 11 (by decide)]; exact f11
  · have hi' : i < tN t := by omega
    have Hi := H i hi'
    have Ti := T.at hi'
    obtain ⟨o1, o2, o3, o4, o5, o6, o7⟩ := tAd_o (p := p) (s := s) (v := v) (g := g) (a := a) (m := m) e
    have hI : ∀ k, (i = p → k ≠ 8) → hpI (hAp h (na p) f) (na i) k = hpI h (na i) k := by
      intro k hk
      rw [hAp_I, if_neg (fun q => hk (inj _ _ hi' hp q.1) q.2), if_neg (fun q => hf i hi' q.1)]
    unfold nAt
    dsimp only
    rw [if_neg e, if_neg e, o1, o2, o3, o4, o5, o6, o7, tAd_C e]
    refine ⟨by rw [hAp_K]; exact Hi.K, by rw [hI 0 (fun _ => by decide)]; exact Hi.S, by rw [hAp_L]; exact Hi.M, by rw [hI 2 (fun _ => by decide)]; exact Hi.N, by rw [hI 3 (fun _ => by decide)]; exact Hi.D, by rw [hI 4 (fun _ => by decide)]; exact Hi.k, by rw [hI 5 (fun _ => by decide)]; exact Hi.V, by rw [hI 6 (fun _ => by decide)]; exact Hi.G, by rw [hI 7 (fun _ => by decide)]; exact Hi.A, ?_, ?_, ?_, ?_⟩
    · by_cases ep : i = p
      · subst ep
        rw [if_pos rfl, hAp_I, if_pos ⟨rfl, rfl⟩, Hi.c, nI_1, List.length_append]; rfl
      · rw [if_neg ep, hI 8 (fun q => absurd q ep)]; exact Hi.c
    · rw [hR i 9 hi' (fun _ => ⟨by decide, by decide⟩) (fun q => absurd q (by decide)), Hi.P]
      by_cases e0 : i = 0
      · rw [if_pos e0, if_pos e0]
      · have := Ti.2.2.2.2.2.2.2.2.2 (by omega)
        rw [if_neg e0, if_neg e0, if_neg (show ¬ tP t i = tN t by omega)]
    · have hch := Chn_na (na' := fun i => if i = tN t then f else na i) (fun c hc => by have := (Ti.2.2.1 c hc).2.1; exact if_neg (show ¬ c = tN t by omega)) Hi.C
      by_cases ep : i = p
      · subst ep
        rw [if_pos rfl]
        cases hz : (tC t i).getLast? with
        | none =>
          have h0 : tC t i = [] := List.getLast?_eq_none_iff.mp hz
          rw [h0]
          show Chn _ _ 12 _ [tN t]
          refine ⟨?_, ?_⟩
          · rw [hAp_R, if_neg (fun q => absurd q.2 (by decide)), Hi.l, hz]
            dsimp only [Option.map]
            rw [if_pos ⟨rfl, rfl⟩, if_pos rfl]
          · show hpR _ (if tN t = tN t then f else na (tN t)) 12 = none
            rw [if_pos rfl, hRf 12 (by decide)]; exact f12
        | some z =>
          have hzm := List.mem_of_getLast? hz
          have hzl := (Ti.2.2.1 z hzm).2.1
          have e10 : hpR (hAp h (na i) f) (na i) 10 = hpR h (na i) 10 := by
            rw [hAp_R, if_neg (fun q => absurd q.2 (by decide)), Hi.l, hz]
            dsimp only [Option.map]
            rw [if_neg (fun q => absurd q.2 (by decide)), if_neg (fun q => hpf q.1)]
          rw [e10]
          refine Chn_snoc hch hz Ti.2.2.2.1 (fun c hc hne => ?_) ?_ ?_
          · have hcl := (Ti.2.2.1 c hc).2.1
            skip
            rw [if_neg (show ¬ c = tN t by omega)]
            exact hR c 12 hcl (fun _ => ⟨by decide, by decide⟩) (fun _ q => hne (by rw [hz] at q; exact (Option.some.inj q).symm))
          · skip
            rw [if_neg (show ¬ z = tN t by omega), if_pos rfl, hAp_R, if_neg (fun q => absurd q.2 (by decide)), Hi.l, hz]
            dsimp only [Option.map]
            rw [if_pos ⟨rfl, rfl⟩]
          · skip
            rw [if_pos rfl, hRf 12 (by decide)]; exact f12
      · rw [if_neg ep, hR i 10 hi' (fun q => absurd q ep) (fun q => absurd q (by decide))]
        refine Chn_congr (fun c hc => ?_) hch
        obtain ⟨-, c2, c3⟩ := Ti.2.2.1 c hc
        skip
        rw [if_neg (show ¬ c = tN t by omega)]
        exact hR c 12 c2 (fun _ => ⟨by decide, by decide⟩) (fun _ q => ep (by rw [← c3]; exact (Tp.2.2.1 c (List.mem_of_getLast? q)).2.2))
    · by_cases ep : i = p
      · subst ep
        rw [if_pos rfl, hAp_R, if_pos ⟨rfl, rfl⟩, List.getLast?_append]
        simp
      · rw [if_neg ep, hR i 11 hi' (fun q => absurd q ep) (fun q => absurd q (by decide)), Hi.l]
        cases hz : (tC t i).getLast? with
        | none => rfl
        | some z =>
          have := (Ti.2.2.1 z (List.mem_of_getLast? hz)).2.1
          dsimp only [Option.map]
          rw [if_neg (show ¬ z = tN t by omega)]
end
/-- a cell of the reference -/
def mK (o : Option mx_K) : Prop := o = some (.inl 4) ∨ ∃ n, o = some (.inr (0, n)) ∨ o = some (.inr (1, n))
def cFr (G h : mx_H) : Prop := ∀ c, mK (hpK G c) → hpK h c = hpK G c ∧ ∀ k, hpI h c k = hpI G c k ∧ hpL h c k = hpL G c k ∧ hpR h c k = hpR G c k
theorem cFr_rf (h : mx_H) : cFr h h := fun _ _ => ⟨rfl, fun _ => ⟨rfl, rfl, rfl⟩⟩
theorem cFr_tr {G h h' : mx_H} (a : cFr G h) (b : cFr h h') : cFr G h' := by
  intro c hc
  obtain ⟨a1, a2⟩ := a c hc
  obtain ⟨b1, b2⟩ := b c (by rw [a1]; exact hc)
  exact ⟨b1.trans a1, fun k => ⟨(b2 k).1.trans (a2 k).1, (b2 k).2.1.trans (a2 k).2.1, (b2 k).2.2.trans (a2 k).2.2⟩⟩
theorem mK_ne {o : Option mx_K} (h : mK o) : o ≠ none ∧ o ≠ some (.inl 0) ∧ o ≠ some (.inl 1) ∧ o ≠ some (.inl 2) ∧ o ≠ some (.inl 3) ∧ (∀ n, o ≠ some (.inr (2, n))) ∧ (∀ n, o ≠ some (.inr (3, n))) := by
  rcases h with h | ⟨n, h | h⟩ <;> subst h <;> refine ⟨(by simp), (by simp), (by simp), (by simp), (by simp), fun n => (by simp), fun n => (by simp)⟩
theorem cFr_wI {h : mx_H} {a k : Nat} {x : Int32} {q : mx_K} (hk : hpK h a = some q) (hm : ¬ mK (some q)) : cFr h (hwI h a k x) := by
  intro c hc
  refine ⟨rfl, fun j => ⟨?_, rfl, rfl⟩⟩
  rw [hpI_wI, if_neg]
  rintro ⟨e, -⟩
  rw [e, hk] at hc; exact hm hc
theorem cFr_wL {h : mx_H} {a k : Nat} {x : Int64} {q : mx_K} (hk : hpK h a = some q) (hm : ¬ mK (some q)) : cFr h (hwL h a k x) := by
  intro c hc
  refine ⟨rfl, fun j => ⟨rfl, ?_, rfl⟩⟩
  rw [hpL_wL, if_neg]
  rintro ⟨e, -⟩
  rw [e, hk] at hc; exact hm hc
theorem cFr_wR {h : mx_H} {a k : Nat} {x : Option Nat} {q : mx_K} (hk : hpK h a = some q) (hm : ¬ mK (some q)) : cFr h (hwR h a k x) := by
  intro c hc
  refine ⟨rfl, fun j => ⟨rfl, rfl, ?_⟩⟩
  rw [hpR_wR, if_neg]
  rintro ⟨e, -⟩
  rw [e, hk] at hc; exact hm hc
theorem cFr_nw {h : mx_H} (hok : hOk h) (q : mx_K) (n : Nat) : cFr h (hnw h q n) := by
  intro c hc
  have hne : c ≠ hpZ h := fun e => (mK_ne hc).1 (by rw [e]; exact hok _ (Nat.le_refl _))
  exact ⟨by rw [hpK_nw, if_neg hne], fun k => ⟨by rw [hpI_nw, if_neg hne], by rw [hpL_nw, if_neg hne], by rw [hpR_nw, if_neg hne]⟩⟩
theorem mK_n0 : ¬ mK (some (.inl 0)) := fun h => (mK_ne h).2.1 rfl
theorem mK_n1 : ¬ mK (some (.inl 1)) := fun h => (mK_ne h).2.2.1 rfl
theorem mK_n2 : ¬ mK (some (.inl 2)) := fun h => (mK_ne h).2.2.2.1 rfl
theorem mK_n3 : ¬ mK (some (.inl 3)) := fun h => (mK_ne h).2.2.2.2.1 rfl
theorem mK_a2 (n : Nat) : ¬ mK (some (.inr (2, n))) := fun h => (mK_ne h).2.2.2.2.2.1 n rfl
theorem mK_a3 (n : Nat) : ¬ mK (some (.inr (3, n))) := fun h => (mK_ne h).2.2.2.2.2.2 n rfl
theorem hAp_cFr {h : mx_H} {a f : Nat} (hk : hpK h a = some (.inl 1)) (hf : hpK h f = some (.inl 1)) (hl : ∀ q, hpR h a 11 = some q → hpK h q = some (.inl 1)) : cFr h (hAp h a f) := by
  intro c hc
  have n1 : c ≠ a := fun e => (mK_ne hc).2.2.1 (by rw [e]; exact hk)
  have n2 : c ≠ f := fun e => (mK_ne hc).2.2.1 (by rw [e]; exact hf)
  refine ⟨hAp_K _ _ _ _, fun k => ⟨by rw [hAp_I, if_neg (fun q => n1 q.1), if_neg (fun q => n2 q.1)], hAp_L _ _ _ _ _, ?_⟩⟩
  rw [hAp_R, if_neg (fun q => n1 q.1)]
  cases hq : hpR h a 11 with
  | none => dsimp only; rw [if_neg (fun q => n1 q.1), if_neg (fun q => n2 q.1)]
  | some q =>
    have n3 : c ≠ q := fun e => (mK_ne hc).2.2.1 (by rw [e]; exact hl q hq)
    dsimp only; rw [if_neg (fun q => n3 q.1), if_neg (fun q => n2 q.1)]
