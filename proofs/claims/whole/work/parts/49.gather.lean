/-! Splitter: gather. -/
def gaI (na : Nat → Nat) (t : tr) (κ : Nat → Nat) (s tp : Nat) (ps : List Nat) (h0 h : mx_H) (ds : List Nat) : Prop :=
  aF na h tp none (-1) 0 ds ∧ nAll na t κ h ∧ (∀ p ∈ ds, hpL h (na p) 14 = thm t p) ∧ hpZ h = hpZ h0 ∧ hpU h = hpU h0 ∧ (∀ c, hpK h c = hpK h0 c) ∧ hpI h s 2 = nI 0 ∧
  (∀ c k, c ≠ tp → ¬ (c = s ∧ k = 2) → ¬ ((k = 13 ∨ k = 14) ∧ ∃ p ∈ ps, c = na p) → hpI h c k = hpI h0 c k ∧ hpL h c k = hpL h0 c k ∧ hpR h c k = hpR h0 c k)
section
variable {na : Nat → Nat} {t : tr} {κ : Nat → Nat} {s tp : Nat} {h0 : mx_H}
theorem hwL_ne {h : mx_H} {a k b j : Nat} {y : Int64} (hb : ¬ (b = a ∧ j = k)) : hpL (hwL h a k y) b j = hpL h b j := by rw [hpL_wL, if_neg hb]
theorem S_gather_loop {d : Nat} {Q : Option mx_V → mx_H → Prop} (T : tOk t) (hκ : ∀ i, i < tN t → κ i < 5 ∧ (tS t i = 4 → κ i = tV t i)) (hinj : ∀ i j, i < tN t → j < tN t → na i = na j → i = j) {ps : List Nat} (hps : ∀ p ∈ ps, p < tN t) (hn : ps.Nodup) (p1 : hpK h0 s = some (.inl 2)) (p2 : hpR h0 s 0 = some tp) (kt : hpK h0 tp = some (.inl 0)) (u : Option Nat) :
    ∀ (l ds : List Nat) (r : Option Nat) (h : mx_H), ds ++ l = ps → gaI na t κ s tp ps h0 h ds → Chn na h 12 r l → (∀ h', gaI na t κ s tp ps h0 h' ps → Q none h') →
      mx_W (mx_Call mx_prog (d + 2)) (mx_nth cd_S_gather) (11, [some (.inr (.inr (some s))), some (.inr (.inr u)), some (.inr (.inr r))], [], h) Q := by
  intro l
  induction l with
  | nil =>
    intro ds r h he I hch k
    have hr : r = none := hch
    subst hr
    rw [List.append_nil] at he
    subst he
    iterate 2 refine mw_go rfl rfl ?_
    refine mw_ifT rfl ?_
    exact mw_r4 rfl (k h I)
  | cons p l ih =>
    intro ds r h he I hch k
    obtain ⟨rfl, hch⟩ := hch
    obtain ⟨A, H, i3, i4, i5, i6, i7, i8⟩ := id I
    have hpp : p ∈ ps := by rw [← he]; simp
    have hp := hps p hpp
    have Hp := H p hp
    have hpd : p ∉ ds := by
      rw [← he] at hn
      intro hh
      exact (List.nodup_append.mp hn).2.2 p hh p List.mem_cons_self rfl
    have hdn : ds.Nodup := by rw [← he] at hn; exact (List.nodup_append.mp hn).1
    have hds : ∀ q ∈ ds, q ∈ ps := fun q hq => by rw [← he]; exact List.mem_append_left _ hq
    have hst : s ≠ tp := fun e => by rw [e, kt] at p1; cases p1
    have nT : ∀ q, q < tN t → na q ≠ tp := fun q hq e => by have := (H q hq).K; rw [e, i6, kt] at this; cases this
    have nS : ∀ q, q < tN t → na q ≠ s := fun q hq e => by have := (H q hq).K; rw [e, i6, p1] at this; cases this
    have ks : hpK h s = some (.inl 2) := by rw [i6]; exact p1
    have kr : hpR h s 0 = some tp := by rw [(i8 s 0 hst (by simp) (fun ⟨_, q, hq, e⟩ => nS q (hps q hq) e.symm)).2.2]; exact p2
    iterate 2 refine mw_go rfl rfl ?_
    refine mw_ifF (by simp) ?_
    iterate 2 refine mw_go rfl rfl ?_
    refine mw_cv (N_taken_ok d T H hκ hp) rfl rfl rfl (Nat.le_of_ble_eq_true rfl) ⟨_, rfl, Hp.K⟩ ?_
    refine mw_pL rfl rfl Hp.K ?_
    obtain ⟨h1, eh1⟩ : ∃ h1, h1 = hwL h (na p) 14 (thm t p) := ⟨_, rfl⟩
    rw [← eh1]
    have K1 : ∀ c, hpK h1 c = hpK h c := fun c => by rw [eh1]; rfl
    have I1 : ∀ c k, hpI h1 c k = hpI h c k := fun c k => by rw [eh1]; rfl
    have R1 : ∀ c k, hpR h1 c k = hpR h c k := fun c k => by rw [eh1]; rfl
    have L1 : ∀ c k, ¬ (c = na p ∧ k = 14) → hpL h1 c k = hpL h c k := fun c k hne => by rw [eh1]; exact hwL_ne hne
    have L1p : hpL h1 (na p) 14 = thm t p := by rw [eh1, hpL_wL, if_pos ⟨rfl, rfl⟩]
    have Z1 : hpZ h1 = hpZ h ∧ hpU h1 = hpU h := by rw [eh1]; exact ⟨rfl, rfl⟩
    clear eh1
    have H1 : nAll na t κ h1 := nAll_congr H (fun q hq => ⟨K1 _, fun k => I1 _ _, L1 _ _ (fun e => by omega), fun k _ => R1 _ _⟩) T
    have A1 : aF na h1 tp none (-1) 0 ds := aF_congr A (K1 _) (fun k => ⟨I1 _ _, L1 _ _ (fun e => nT p hp e.1.symm), R1 _ _⟩) (fun q _ => R1 _ _)
    have ks1 : hpK h1 s = some (.inl 2) := by rw [K1]; exact ks
    have kt1 : hpK h1 tp = some (.inl 0) := A1.1
    refine mw_go rfl rfl ?_
    refine mv_gR rfl rfl ks1 ((R1 s 0).trans kr) ?_
    refine mw_go rfl rfl ?_
    have hlast : ∀ q, hpR h1 tp 4 = some q → ∃ z ∈ ds, q = na z := by
      intro q hq
      rw [A1.2.2.2.2.2.2.2.2.2.2.2] at hq
      cases hz : ds.getLast? with
      | none => rw [hz] at hq; cases hq
      | some z => rw [hz] at hq; cases hq; exact ⟨z, List.mem_of_getLast? hz, rfl⟩
    refine mw_cn (A_enlist_ok (d + 1) h1 (a := tp) (pa := na p) kt1 (H1 p hp).K (fun q hq => by obtain ⟨z, hz, e⟩ := hlast q hq; rw [e]; exact (H1 z (hps z (hds z hz))).K)) rfl rfl rfl (Nat.le_of_ble_eq_true rfl) ⟨_, rfl, kt1⟩ ?_
    have K2 : hpK (hEn h1 tp (na p)) (na p) = some (.inl 1) := by rw [hEn_K]; exact (H1 p hp).K
    refine mw_go rfl rfl ?_
    refine mw_gR rfl rfl K2 ?_
    iterate 2 refine mw_go rfl rfl ?_
    rw [hEn_R _ _ _ _ _ (nT p hp) (by decide), R1]
    refine ih (ds ++ [p]) _ _ (by rw [List.append_assoc]; exact he) ?_ ?_ k
    · refine ⟨?_, ?_, ?_, by rw [(hEn_Z _ _ _).1, Z1.1]; exact i4, by rw [(hEn_Z _ _ _).2, Z1.2]; exact i5, fun c => by rw [hEn_K, K1]; exact i6 c, by rw [hEn_I _ _ _ _ _ (Or.inl hst), I1]; exact i7, ?_⟩
      · exact aF_enlist A1 (fun e => nT p hp e.symm) (fun q hq => nT q (hps q (hds q hq))) (fun q hq e => hinj q p (hps q (hds q hq)) hp e) (fun q hq z hz e => hinj q z (hps q (hds q hq)) (hps z (hds z hz)) e) hpd hdn
      · exact nAll_congr H1 (fun q hq => ⟨hEn_K _ _ _ _, fun k => hEn_I _ _ _ _ _ (Or.inl (nT q hq)), hEn_L _ _ _ _ _, fun k hk => hEn_R _ _ _ _ _ (nT q hq) hk⟩) T
      · intro q hq
        rw [hEn_L]
        rcases List.mem_append.mp hq with z | z
        · rw [L1 _ _ (fun e => hpd ((hinj q p (hps q (hds q z)) hp e.1) ▸ z))]
          exact i3 q z
        · rw [List.mem_singleton.mp z]; exact L1p
      · intro c k h1' h2 h3
        obtain ⟨e1, e2, e3⟩ := i8 c k h1' h2 h3
        refine ⟨by rw [hEn_I _ _ _ _ _ (Or.inl h1'), I1]; exact e1, by rw [hEn_L, L1 _ _ (fun e => h3 ⟨Or.inr e.2, p, hpp, e.1⟩)]; exact e2, ?_⟩
        by_cases e13 : k = 13
        · subst e13
          rw [hEn_13 _ _ _ _ h1', if_neg, if_neg, R1]
          · exact e3
          · intro e; exact h3 ⟨Or.inl rfl, p, hpp, e⟩
          · intro e; obtain ⟨z, hz, e⟩ := hlast _ e; exact h3 ⟨Or.inl rfl, z, hds z hz, e⟩
        · rw [hEn_R _ _ _ _ _ h1' e13, R1]; exact e3
    · refine Chn_congr (fun c hc => ?_) hch
      have hcN : c < tN t := hps c (by rw [← he]; exact List.mem_append_right _ (List.mem_cons_of_mem _ hc))
      rw [hEn_R _ _ _ _ _ (nT c hcN) (by decide), R1]
/-- gather: all PARTS of a CHOICE in the ARM for all -/
theorem S_gather_ok (d : Nat) (T : tOk t) (H : nAll na t κ h0) (hκ : ∀ i, i < tN t → κ i < 5 ∧ (tS t i = 4 → κ i = tV t i)) (hinj : ∀ i j, i < tN t → j < tN t → na i = na j → i = j) {i : Nat} (hi : i < tN t) (p1 : hpK h0 s = some (.inl 2)) (p2 : hpR h0 s 0 = some tp) (kt : hpK h0 tp = some (.inl 0)) :
    ∃ h', cl (d + 3) j_S_gather [.inr (.inr (some s)), .inr (.inr (some (na i)))] h0 none h' ∧ gaI na t κ s tp (tC t i) h0 h' (tC t i) := by
  have Ti := T.at hi
  have hps : ∀ p ∈ tC t i, p < tN t := fun p hp => (Ti.2.2.1 p hp).2.1
  have hst : s ≠ tp := fun e => by rw [e, kt] at p1; cases p1
  have nT : ∀ q, q < tN t → na q ≠ tp := fun q hq e => by have := (H q hq).K; rw [e, kt] at this; cases this
  have nS : ∀ q, q < tN t → na q ≠ s := fun q hq e => by have := (H q hq).K; rw [e, p1] at this; cases this
  have walk : mx_W (mx_Call mx_prog (d + 2)) (mx_nth cd_S_gather) (0, [some (.inr (.inr (some s))), some (.inr (.inr (some (na i)))), none], [], h0) (fun r1 h1 => r1 = none ∧ gaI na t κ s tp (tC t i) h0 h1 (tC t i)) := by
    iterate 2 refine mw_go rfl rfl ?_
    refine mw_pI rfl rfl p1 ?_
    refine mw_go rfl rfl ?_
    refine mv_gR rfl rfl p1 p2 ?_
    iterate 2 refine mw_go rfl rfl ?_
    obtain ⟨h1, eh1⟩ : ∃ h1, h1 = hwI h0 s 2 0 := ⟨_, rfl⟩
    rw [← eh1]
    have kt1 : hpK h1 tp = some (.inl 0) := by rw [eh1]; exact kt
    refine mw_cn (A_open_none (d + 1) h1 kt1 (-1)) rfl rfl rfl (Nat.le_of_ble_eq_true rfl) ⟨_, rfl, kt1⟩ ?_
    obtain ⟨h2, eh2⟩ : ∃ h2, h2 = hOp h1 tp none (-1) 0 := ⟨_, rfl⟩
    rw [← eh2]
    have K2 : ∀ c, hpK h2 c = hpK h0 c := fun c => by rw [eh2, hOp_K, eh1]; rfl
    have N2 : ∀ c k, c ≠ tp → ¬ (c = s ∧ k = 2) → hpI h2 c k = hpI h0 c k ∧ hpL h2 c k = hpL h0 c k ∧ hpR h2 c k = hpR h0 c k := by
      intro c k h1' h2'
      obtain ⟨e1, e2, e3⟩ := hOp_ne h1 none (-1) 0 h1' k
      rw [eh2, e1, e2, e3, eh1, hpI_wI, if_neg h2']
      exact ⟨rfl, rfl, rfl⟩
    have Z2 : hpZ h2 = hpZ h0 ∧ hpU h2 = hpU h0 := by rw [eh2, (hOp_Z _ _ _ _ _).1, (hOp_Z _ _ _ _ _).2, eh1]; exact ⟨rfl, rfl⟩
    have S2 : hpI h2 s 2 = nI 0 := by rw [eh2, (hOp_ne h1 none (-1) 0 hst 2).1, eh1, hpI_wI, if_pos ⟨rfl, rfl⟩]; rfl
    have A2 : aF na h2 tp none (-1) 0 [] := by rw [eh2]; exact aF_open _ kt1 _ _ _
    clear eh2 eh1
    have H2 : nAll na t κ h2 := nAll_congr H (fun q hq => ⟨K2 _, fun k => (N2 _ k (nT q hq) (fun e => nS q hq e.1)).1, (N2 _ 1 (nT q hq) (fun e => nS q hq e.1)).2.1, fun k _ => (N2 _ k (nT q hq) (fun e => nS q hq e.1)).2.2⟩) T
    refine mw_go rfl rfl ?_
    refine mw_gR rfl rfl (H2 i hi).K ?_
    refine mw_go rfl rfl ?_
    refine S_gather_loop T hκ hinj hps Ti.2.2.2.1 p1 p2 kt _ (tC t i) [] _ h2 rfl ⟨A2, H2, fun q hq => (by cases hq), Z2.1, Z2.2, K2, S2, fun c k q1 q2 _ => N2 c k q1 q2⟩ (H2 i hi).C (fun h' I => ⟨rfl, I⟩)
  obtain ⟨r, h', hcl, rfl, I⟩ := mc_of (prog := mx_prog) (j := j_S_gather) (as := [.inr (.inr (some s)), .inr (.inr (some (na i)))]) (Nat.le_of_ble_eq_true rfl) walk
  exact ⟨h', hcl, I⟩
end
