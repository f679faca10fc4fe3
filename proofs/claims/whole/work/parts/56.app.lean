/-! A new NODE: its constructor, append, partNumber. -/
def hNi (h : mx_H) (a : Nat) (s : Int32) (m : Int64) : mx_H := hwL (hwI (hwI (hwI (hwI h a 5 (-1)) a 6 (-1)) a 7 (-1)) a 0 s) a 1 m
theorem N_init_ok (d : Nat) (h : mx_H) {a : Nat} (hk : hpK h a = some (.inl 1)) (s : Int32) (m : Int64) : cl (d + 1) j_N_init [.inr (.inr (some a)), .inl s, .inr (.inl m)] h none (hNi h a s m) := by
  refine cl_of (Nat.le_of_ble_eq_true rfl) ?_
  show mx_W _ (mx_nth cd_N_init) (0, [some (.inr (.inr (some a))), some (.inl s), some (.inr (.inl m)), none], [], h) _
  iterate 4 refine mw_go rfl rfl ?_
  refine mw_pI rfl rfl hk ?_
  iterate 2 refine mw_go rfl rfl ?_
  refine mw_pI rfl rfl hk ?_
  iterate 2 refine mw_go rfl rfl ?_
  refine mw_pI rfl rfl hk ?_
  iterate 2 refine mw_go rfl rfl ?_
  refine mw_pI rfl rfl hk ?_
  iterate 2 refine mw_go rfl rfl ?_
  refine mw_pL rfl rfl hk ?_
  exact mw_r4 rfl ⟨rfl, rfl⟩
def hAp (h : mx_H) (a f : Nat) : mx_H := hwI (hwR (match hpR h a 11 with
  | none => hwR (hwI (hwR h f 9 (some a)) f 3 (hpI h a 3 + 1)) a 10 (some f)
  | some q => hwR (hwI (hwR h f 9 (some a)) f 3 (hpI h a 3 + 1)) q 12 (some f)) a 11 (some f)) a 8 (hpI h a 8 + 1)
theorem N_append_ok (d : Nat) (h : mx_H) {a f : Nat} (hk : hpK h a = some (.inl 1)) (hf : hpK h f = some (.inl 1)) (hne : a ≠ f) (hl : ∀ q, hpR h a 11 = some q → hpK h q = some (.inl 1)) : cl (d + 1) j_N_append [.inr (.inr (some a)), .inr (.inr (some f))] h none (hAp h a f) := by
  refine cl_of (Nat.le_of_ble_eq_true rfl) ?_
  show mx_W _ (mx_nth cd_N_append) (0, [some (.inr (.inr (some a))), some (.inr (.inr (some f)))], [], h) _
  iterate 2 refine mw_go rfl rfl ?_
  refine mw_pR rfl rfl hf ?_
  iterate 2 refine mw_go rfl rfl ?_
  refine mv_gI (x := hpI h a 3) rfl rfl hk rfl ?_
  iterate 2 refine mw_go rfl rfl ?_
  refine mw_pI rfl rfl hf ?_
  refine mw_go rfl rfl ?_
  refine mv_gR (x := hpR h a 11) rfl rfl hk (by rw [hpR_wI, hpR_wR, if_neg (fun q => hne q.1)]) ?_
  refine mw_go rfl rfl ?_
  have fin : ∀ h2, h2 = (match hpR h a 11 with
      | none => hwR (hwI (hwR h f 9 (some a)) f 3 (hpI h a 3 + 1)) a 10 (some f)
      | some q => hwR (hwI (hwR h f 9 (some a)) f 3 (hpI h a 3 + 1)) q 12 (some f)) → hpK h2 a = some (.inl 1) → hpI h2 a 8 = hpI h a 8 → mx_W (mx_Call mx_prog d) (mx_nth cd_N_append) (20, [some (.inr (.inr (some a))), some (.inr (.inr (some f)))], [], h2) (fun r1 h1 => r1 = none ∧ h1 = hAp h a f) := by
    intro h2 e2 k2 i2
    iterate 2 refine mw_go rfl rfl ?_
    refine mw_pR rfl rfl k2 ?_
    iterate 2 refine mw_go rfl rfl ?_
    refine mv_gI (x := hpI h a 8) rfl rfl k2 i2 ?_
    iterate 2 refine mw_go rfl rfl ?_
    refine mw_pI rfl rfl k2 ?_
    refine mw_r4 rfl ⟨rfl, ?_⟩
    rw [e2]; rfl
  cases hla : hpR h a 11 with
  | none =>
    rw [hla] at fin
    refine mw_ifT rfl ?_
    iterate 2 refine mw_go rfl rfl ?_
    refine mw_pR rfl rfl hk ?_
    refine mw_go rfl rfl ?_
    exact fin _ rfl hk (by rw [hpI_wR, hpI_wI, if_neg (fun q => absurd q.2 (by decide))]; rfl)
  | some q =>
    rw [hla] at fin
    refine mw_ifF (by simp) ?_
    refine mw_go rfl rfl ?_
    refine mv_gR (x := some q) rfl rfl hk (by rw [hpR_wI, hpR_wR, if_neg (fun q => hne q.1)]; exact hla) ?_
    refine mw_go rfl rfl ?_
    refine mw_pR rfl rfl (hl q hla) ?_
    exact fin _ rfl hk (by rw [hpI_wR, hpI_wI, if_neg (fun q => absurd q.2 (by decide))]; rfl)
theorem hAp_K (h : mx_H) (a f b : Nat) : hpK (hAp h a f) b = hpK h b := by unfold hAp; cases hpR h a 11 <;> rfl
theorem hAp_Z (h : mx_H) (a f : Nat) : hpZ (hAp h a f) = hpZ h ∧ hpU (hAp h a f) = hpU h := by unfold hAp; cases hpR h a 11 <;> exact ⟨rfl, rfl⟩
theorem hAp_L (h : mx_H) (a f b k : Nat) : hpL (hAp h a f) b k = hpL h b k := by unfold hAp; cases hpR h a 11 <;> rfl
theorem hAp_I (h : mx_H) (a f b k : Nat) : hpI (hAp h a f) b k = if b = a ∧ k = 8 then hpI h a 8 + 1 else if b = f ∧ k = 3 then hpI h a 3 + 1 else hpI h b k := by unfold hAp; cases hpR h a 11 <;> rfl
theorem hAp_R (h : mx_H) (a f b k : Nat) : hpR (hAp h a f) b k = if b = a ∧ k = 11 then some f else (match hpR h a 11 with
    | none => if b = a ∧ k = 10 then some f else if b = f ∧ k = 9 then some a else hpR h b k
    | some q => if b = q ∧ k = 12 then some f else if b = f ∧ k = 9 then some a else hpR h b k) := by unfold hAp; cases hpR h a 11 <;> rfl
theorem nI_dec (v : Nat) : nI (v + 1) + -1 = nI v := by
  rw [← nI_1, Int32.add_assoc, show (1 : Int32) + -1 = 0 by decide, Int32.add_zero]
section
variable {na : Nat → Nat} {t : tr} {κ : Nat → Nat} {h : mx_H}
theorem N_part_loop {C : mx_C} {Q : Option mx_V → mx_H → Prop} (H : nAll na t κ h) (u : Option Nat) (k : Int32) : ∀ (l : List Nat) (r : Option Nat) (v : Nat), v < 2 ^ 31 → Chn na h 12 r l → (∀ c ∈ l, c < tN t) → Q (some (.inl (iO (l[v]?)))) h →
    mx_W C (mx_nth cd_N_partNumber) (5, [some (.inr (.inr u)), some (.inl k), some (.inl (nI v)), some (.inr (.inr r))], [], h) Q := by
  intro l
  induction l with
  | nil =>
    intro r v _ hr _ hq
    have hr : r = none := hr
    subst hr
    iterate 2 refine mw_go rfl rfl ?_
    refine mw_ifT rfl ?_
    refine mw_go rfl rfl ?_
    refine mw_r0 rfl ?_
    exact hq
  | cons c l ih =>
    intro r v hv hr hl hq
    obtain ⟨rfl, hch⟩ := hr
    have Hc := H c (hl c List.mem_cons_self)
    iterate 2 refine mw_go rfl rfl ?_
    refine mw_ifF (by simp) ?_
    iterate 2 refine mw_go rfl rfl ?_
    cases v with
    | zero =>
      refine mw_ifT rfl ?_
      refine mw_go rfl rfl ?_
      refine mv_gI rfl rfl Hc.K Hc.N ?_
      exact mw_r0 rfl hq
    | succ v =>
      refine mw_ifF (nI_ne0 (by omega) hv) ?_
      refine mw_go rfl rfl ?_
      refine mw_go rfl rfl ?_
      refine mw_gR rfl rfl Hc.K ?_
      iterate 2 refine mw_go rfl rfl ?_
      show mx_W _ _ (5, [some (.inr (.inr u)), some (.inl k), some (.inl (nI (v + 1) + -1)), some (.inr (.inr (hpR h (na c) 12)))], [], h) _
      rw [nI_dec]
      exact ih _ v (by omega) hch (fun z hz => hl z (List.mem_cons_of_mem _ hz)) (by rw [List.getElem?_cons_succ] at hq; exact hq)
theorem N_part_ok (d : Nat) (T : tOk t) (H : nAll na t κ h) {p v : Nat} (hp : p < tN t) (hv : v < 2 ^ 31) : cl (d + 1) j_N_partNumber [.inr (.inr (some (na p))), .inl (nI v)] h (some (.inl (iO ((tC t p)[v]?)))) h := by
  refine cl_of (Nat.le_of_ble_eq_true rfl) ?_
  show mx_W _ (mx_nth cd_N_partNumber) (0, [some (.inr (.inr (some (na p)))), some (.inl (nI v)), none, none], [], h) _
  have Hp := H p hp
  iterate 3 refine mw_go rfl rfl ?_
  refine mw_gR rfl rfl Hp.K ?_
  refine mw_go rfl rfl ?_
  exact N_part_loop H _ _ _ _ v hv Hp.C (fun c hc => ((T.at hp).2.2.1 c hc).2.1) ⟨rfl, rfl⟩
end
/-- one NODE more: the last PART of p -/
def tAd (t : tr) (p s v g a : Nat) (m : Int64) : tr := (tN t + 1, fun i => if i = tN t then (s, p, [], v, g, a, m, tD t p + 1) else if i = p then (tS t p, tP t p, tC t p ++ [tN t], tV t p, tG t p, tA t p, tM t p, tD t p) else t.2 i)
section
variable {t : tr} {p s v g a : Nat} {m : Int64}
theorem tAd_n : (tAd t p s v g a m).2 (tN t) = (s, p, [], v, g, a, m, tD t p + 1) := by unfold tAd; simp
theorem tAd_e {i : Nat} (hi : i ≠ tN t) : (tAd t p s v g a m).2 i = if i = p then (tS t p, tP t p, tC t p ++ [tN t], tV t p, tG t p, tA t p, tM t p, tD t p) else t.2 i := if_neg hi
theorem tAd_o {i : Nat} (hi : i ≠ tN t) : tS (tAd t p s v g a m) i = tS t i ∧ tP (tAd t p s v g a m) i = tP t i ∧ tV (tAd t p s v g a m) i = tV t i ∧ tG (tAd t p s v g a m) i = tG t i ∧ tA (tAd t p s v g a m) i = tA t i ∧ tM (tAd t p s v g a m) i = tM t i ∧ tD (tAd t p s v g a m) i = tD t i := by
  have h := tAd_e (p := p) (s := s) (v := v) (g := g) (a := a) (m := m) hi
  by_cases e : i = p
  · subst e
    rw [if_pos rfl] at h
    exact ⟨congrArg (fun z => z.1) h, congrArg (fun z => z.2.1) h, congrArg (fun z => z.2.2.2.1) h, congrArg (fun z => z.2.2.2.2.1) h, congrArg (fun z => z.2.2.2.2.2.1) h, congrArg (fun z => z.2.2.2.2.2.2.1) h, congrArg (fun z => z.2.2.2.2.2.2.2) h⟩
  · rw [if_neg e] at h
    exact ⟨congrArg (fun z => z.1) h, congrArg (fun z => z.2.1) h, congrArg (fun z => z.2.2.2.1) h, congrArg (fun z => z.2.2.2.2.1) h, congrArg (fun z => z.2.2.2.2.2.1) h, congrArg (fun z => z.2.2.2.2.2.2.1) h, congrArg (fun z => z.2.2.2.2.2.2.2) h⟩
theorem tAd_C {i : Nat} (hi : i ≠ tN t) : tC (tAd t p s v g a m) i = if i = p then tC t p ++ [tN t] else tC t i := by
  have h := tAd_e (p := p) (s := s) (v := v) (g := g) (a := a) (m := m) hi
  by_cases e : i = p
  · rw [if_pos e] at h ⊢
    exact congrArg (fun z => z.2.2.1) h
  · rw [if_neg e] at h ⊢
    exact congrArg (fun z => z.2.2.1) h
theorem trm_spec (h : trm t p = true) : tD t p < 20 ∧ tS t p < 4 ∧ (tS t p = 2 → (tC t p).length < 1) ∧ (tS t p = 3 → (tC t p).length < 3) := by
  unfold trm at h
  rw [Bool.and_eq_true] at h
  obtain ⟨h1, h2⟩ := h
  simp only [Bool.or_eq_true, Bool.and_eq_true, beq_iff_eq, decide_eq_true_eq] at h1 h2
  refine ⟨h1, ?_, ?_, ?_⟩
  · omega
  · intro e; omega
  · intro e; omega
theorem tOk_ad (T : tOk t) (hN : tN t < 250) (hp : p < tN t) (hr : trm t p = true) (hs : s < 6) (h4 : s = 4 → v < 5) (h5 : s = 5 → v < 60 ∧ g < 100 ∧ a ≤ 100) : tOk (tAd t p s v g a m) := by
  obtain ⟨r1, r2, r3, r4⟩ := trm_spec hr
  refine ⟨by show 1 ≤ tN t + 1; omega, by show tN t + 1 ≤ 250; omega, fun i hi => ?_⟩
  have hi : i < tN t + 1 := hi
  by_cases e : i = tN t
  · subst e
    rw [tS, tD, tC, tV, tG, tA, tP, tAd_n]
    exact ⟨hs, by dsimp only; omega, fun c hc => (by cases hc), List.nodup_nil, fun _ => rfl, fun _ => by simp, fun _ => by simp, h4, h5, fun _ => hp⟩
  · obtain ⟨o1, o2, o3, o4, o5, o6, o7⟩ := tAd_o (p := p) (s := s) (v := v) (g := g) (a := a) (m := m) e
    obtain ⟨q1, q2, q3, q4, q5, q6, q7, q8, q9, q10⟩ := T.at (show i < tN t by omega)
    rw [o1, o2, o3, o4, o5, o7, tAd_C e]
    by_cases ep : i = p
    · subst ep
      rw [if_pos rfl]
      refine ⟨q1, q2, fun c hc => ?_, ?_, fun h => by omega, fun h => ?_, fun h => ?_, q8, q9, q10⟩
      · rcases List.mem_append.mp hc with hc | hc
        · have := q3 c hc
          rw [(tAd_o (show c ≠ tN t by omega)).2.1]
          exact ⟨this.1, by show c < tN t + 1; omega, this.2.2⟩
        · rw [List.mem_singleton.mp hc]
          refine ⟨by omega, by show tN t < tN t + 1; omega, ?_⟩
          rw [tP, tAd_n]
      · rw [List.nodup_append]
        refine ⟨q4, by simp, fun x hx y hy => ?_⟩
        have := q3 x hx
        rw [List.mem_singleton.mp hy]
        omega
      · rw [List.length_append]; have := r3 h; show (tC t i).length + 1 ≤ 1; omega
      · rw [List.length_append]; have := r4 h; show (tC t i).length + 1 ≤ 3; omega
    · rw [if_neg ep]
      refine ⟨q1, q2, fun c hc => ?_, q4, q5, q6, q7, q8, q9, q10⟩
      have := q3 c hc
      rw [(tAd_o (show c ≠ tN t by omega)).2.1]
      exact ⟨this.1, by show c < tN t + 1; omega, this.2.2⟩
end
