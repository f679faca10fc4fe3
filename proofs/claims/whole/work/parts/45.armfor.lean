/-! Splitter: openedFor, armFor. -/
/-- the Splitter s: its ARM for all, its row of ARMS, M of them made -/
def sP (h : mx_H) (s tp oa : Nat) (aa : Nat → Nat) (M : Nat) : Prop :=
  hpK h s = some (.inl 2) ∧ hpR h s 0 = some tp ∧ hpR h s 1 = some oa ∧ hpK h tp = some (.inl 0) ∧ hpK h oa = some (.inr (3, 250)) ∧ M ≤ 250 ∧ (∀ k, k < M → hpR h oa k = some (aa k) ∧ hpK h (aa k) = some (.inl 0) ∧ aa k ≠ tp) ∧ (∀ k l, k < M → l < M → aa k = aa l → k = l) ∧ (∀ k, M ≤ k → k < 250 → hpR h oa k = none)
def hOk (h : mx_H) : Prop := ∀ b, hpZ h ≤ b → hpK h b = none
def ofS (tg : Nat → Int32) (g : Int32) (i n : Nat) : Option Nat := match n with
  | 0 => none
  | n + 1 => if tg i = g then some i else ofS tg g (i + 1) n
section
variable {h : mx_H} {s tp oa M : Nat} {aa : Nat → Nat}
theorem S_openedAt_ok (d : Nat) (P : sP h s tp oa aa M) {m : Nat} (hm : hpI h s 2 = nI m) (hmM : m ≤ M) {i : Nat} (hi : i < m) : cl (d + 1) j_S_openedAt [.inr (.inr (some s)), .inl (nI i)] h (some (.inr (.inr (some (aa i))))) h := by
  obtain ⟨p1, p2, p3, p4, p5, p6, p7, p8, p9⟩ := P
  obtain ⟨q1, q2, q3⟩ := p7 i (by omega)
  refine cl_of (Nat.le_of_ble_eq_true rfl) ?_
  show mx_W _ (mx_nth cd_S_openedAt) (0, [some (.inr (.inr (some s))), some (.inl (nI i))], [], h) _
  iterate 2 refine mw_go rfl rfl ?_
  refine mw_ifF (nI_pos (by omega)) ?_
  iterate 2 refine mw_go rfl rfl ?_
  refine mv_gI rfl rfl p1 hm ?_
  refine mw_go rfl rfl ?_
  refine mw_ifF (fun q => absurd ((nI_leI (by omega) (by omega)).mp q) (by omega)) ?_
  iterate 2 refine mw_go rfl rfl ?_
  refine mv_gR rfl rfl p1 p3 ?_
  refine mw_alen rfl rfl p5 ?_
  refine mw_go rfl rfl ?_
  refine mw_ifT ((nI_ltI (by omega) (by omega)).mpr (by omega)) ?_
  refine mw_go rfl rfl ?_
  refine mv_gR rfl rfl p1 p3 ?_
  refine mw_go rfl rfl ?_
  refine mw_aal rfl rfl p5 rfl (show i < 250 by omega) (by decide) ?_
  rw [q1]
  exact mw_r2 rfl ⟨rfl, rfl⟩
theorem S_opened_loop {d : Nat} {Q : Option mx_V → mx_H → Prop} (P : sP h s tp oa aa M) {m : Nat} (hm : hpI h s 2 = nI m) (hmM : m ≤ M) (g : Int32) (f : Int32) : ∀ (n i : Nat) (z : Option mx_V), i + n = m → Q (some (.inr (.inr ((ofS (fun k => hpI h (aa k) 1) g i n).map aa)))) h →
    mx_W (mx_Call mx_prog (d + 1)) (mx_nth cd_S_openedFor) (2, [some (.inr (.inr (some s))), some (.inl g), some (.inl f), some (.inl (nI i)), z], [], h) Q := by
  have P0 := P
  obtain ⟨p1, p2, p3, p4, p5, p6, p7, p8, p9⟩ := P
  intro n
  induction n with
  | zero =>
    intro i z hi hq
    iterate 2 refine mw_go rfl rfl ?_
    refine mv_gI rfl rfl p1 hm ?_
    refine mw_go rfl rfl ?_
    refine mw_ifT ((nI_leI (by omega) (by omega)).mpr (by omega)) ?_
    refine mw_go rfl rfl ?_
    exact mw_r2 rfl hq
  | succ n ih =>
    intro i z hi hq
    rw [ofS] at hq
    obtain ⟨q1, q2, q3⟩ := p7 i (by omega)
    iterate 2 refine mw_go rfl rfl ?_
    refine mv_gI rfl rfl p1 hm ?_
    refine mw_go rfl rfl ?_
    refine mw_ifF (fun q => absurd ((nI_leI (by omega) (by omega)).mp q) (by omega)) ?_
    iterate 2 refine mw_go rfl rfl ?_
    refine mw_cv (S_openedAt_ok d P0 hm hmM (i := i) (by omega)) rfl rfl rfl (Nat.le_of_ble_eq_true rfl) ⟨_, rfl, p1⟩ ?_
    iterate 3 refine mw_go rfl rfl ?_
    refine mw_ifF (by simp) ?_
    refine mw_go rfl rfl ?_
    refine mw_gI rfl rfl q2 ?_
    iterate 2 refine mw_go rfl rfl ?_
    refine mw_if _ (fun hc => ?_) (fun hc => ?_)
    · rw [if_pos hc] at hq
      refine mw_go rfl rfl ?_
      exact mw_r2 rfl hq
    · rw [if_neg hc] at hq
      iterate 2 refine mw_go rfl rfl ?_
      show mx_W _ _ (2, [some (.inr (.inr (some s))), some (.inl g), some (.inl f), some (.inl (nI i + 1)), some (.inr (.inr (some (aa i))))], [], h) _
      rw [nI_1]
      exact ih (i + 1) _ (by omega) hq
theorem S_openedFor_ok (d : Nat) (P : sP h s tp oa aa M) {m : Nat} (hm : hpI h s 2 = nI m) (hmM : m ≤ M) (g : Int32) {f : Nat} (hf : f ≤ m) : cl (d + 2) j_S_openedFor [.inr (.inr (some s)), .inl g, .inl (nI f)] h (some (.inr (.inr ((ofS (fun k => hpI h (aa k) 1) g f (m - f)).map aa)))) h := by
  refine cl_of (Nat.le_of_ble_eq_true rfl) ?_
  show mx_W _ (mx_nth cd_S_openedFor) (0, [some (.inr (.inr (some s))), some (.inl g), some (.inl (nI f)), none, none], [], h) _
  iterate 2 refine mw_go rfl rfl ?_
  exact S_opened_loop P hm hmM g (nI f) (m - f) f none (by omega) ⟨rfl, rfl⟩
theorem A_init_ok (d : Nat) (h : mx_H) (a : Nat) : cl (d + 1) j_A_init [.inr (.inr (some a))] h none h := by
  refine cl_of (Nat.le_of_ble_eq_true rfl) ?_
  show mx_W _ (mx_nth cd_A_init) (0, [some (.inr (.inr (some a)))], [], h) _
  iterate 2 refine mw_go rfl rfl ?_
  exact mw_r4 rfl ⟨rfl, rfl⟩
theorem S_armFor_found (d : Nat) (P : sP h s tp oa aa M) {m : Nat} (hm : hpI h s 2 = nI m) (hmM : m ≤ M) (g : Int32) {f : Nat} (hf : f ≤ m) (b : Option Nat) {k : Nat} (hk : ofS (fun k => hpI h (aa k) 1) g f (m - f) = some k) : cl (d + 3) j_S_armFor [.inr (.inr (some s)), .inl g, .inl (nI f), .inr (.inr b)] h (some (.inr (.inr (some (aa k))))) h := by
  refine cl_of (Nat.le_of_ble_eq_true rfl) ?_
  show mx_W _ (mx_nth cd_S_armFor) (0, [some (.inr (.inr (some s))), some (.inl g), some (.inl (nI f)), some (.inr (.inr b)), none], [], h) _
  obtain ⟨p1, -⟩ := id P
  iterate 3 refine mw_go rfl rfl ?_
  have hc := S_openedFor_ok d P hm hmM g hf
  rw [hk] at hc
  refine mw_cv hc rfl rfl rfl (Nat.le_of_ble_eq_true rfl) ⟨_, rfl, p1⟩ ?_
  iterate 3 refine mw_go rfl rfl ?_
  refine mw_ifF (by simp) ?_
  refine mw_go rfl rfl ?_
  exact mw_r2 rfl ⟨rfl, rfl⟩
/-- a new ARM for the TAG: what is there behind it -/
def anw (na : Nat → Nat) (h h' : mx_H) (s tp oa : Nat) (aa aa' : Nat → Nat) (M M' m : Nat) (b : Nat) (g : Int32) (w : Int64) : Prop :=
  sP h' s tp oa aa' M' ∧ hOk h' ∧ m < M' ∧ M ≤ M' ∧ (∀ k, k < M → aa' k = aa k) ∧ hpI h' s 2 = nI (m + 1) ∧ aF na h' (aa' m) (some b) g w [] ∧ hpZ h' = hpZ h + (M' - M) ∧ hpU h' = hpU h + 11 * (M' - M) ∧ (M ≤ m → hpK h (aa' m) = none) ∧ (M' = M ∨ (M' = M + 1 ∧ M = m)) ∧
  (∀ c, hpK h c ≠ none → hpK h' c = hpK h c ∧ ∀ k, c ≠ aa' m → ¬ (c = s ∧ k = 2) → c ≠ oa → hpI h' c k = hpI h c k ∧ hpL h' c k = hpL h c k ∧ hpR h' c k = hpR h c k)
theorem S_armFor_new (na : Nat → Nat) (d : Nat) (P : sP h s tp oa aa M) (hok : hOk h) {m : Nat} (hm : hpI h s 2 = nI m) (hmM : m ≤ M) (hm250 : m < 250) (g : Int32) {f : Nat} (hf : f ≤ m) {b x : Nat} (hkb : hpK h b = some (.inl 0)) (hx : hpI h b 6 = nI x) (hbm : ∀ k, m ≤ k → k < M → b ≠ aa k) (hk : ofS (fun k => hpI h (aa k) 1) g f (m - f) = none) : ∃ h' aa' M', cl (d + 3) j_S_armFor [.inr (.inr (some s)), .inl g, .inl (nI f), .inr (.inr (some b))] h (some (.inr (.inr (some (aa' m))))) h' ∧ anw na h h' s tp oa aa aa' M M' m b g (hpL h b 2 ||| bL x) := by
  obtain ⟨p1, p2, p3, p4, p5, p6, p7, p8, p9⟩ := id P
  have hso : s ≠ oa := fun e => by rw [e, p5] at p1; cases p1
  have hst : s ≠ tp := fun e => by rw [e, p4] at p1; cases p1
  have hsb : s ≠ b := fun e => by rw [e, hkb] at p1; cases p1
  have hob : oa ≠ b := fun e => by rw [e, hkb] at p5; cases p5
  have hot : oa ≠ tp := fun e => by rw [e, p4] at p5; cases p5
  have start : ∀ (h' : mx_H) (z : Nat), mx_W (mx_Call mx_prog (d + 2)) (mx_nth cd_S_armFor) (15, [some (.inr (.inr (some s))), some (.inl g), some (.inl (nI f)), some (.inr (.inr (some b))), some (.inr (.inr none))], [], h) (fun r1 h1 => r1 = some (.inr (.inr (some z))) ∧ h1 = h') → cl (d + 3) j_S_armFor [.inr (.inr (some s)), .inl g, .inl (nI f), .inr (.inr (some b))] h (some (.inr (.inr (some z)))) h' := by
    intro h' z k
    refine cl_of (Nat.le_of_ble_eq_true rfl) ?_
    show mx_W _ (mx_nth cd_S_armFor) (0, [some (.inr (.inr (some s))), some (.inl g), some (.inl (nI f)), some (.inr (.inr (some b))), none], [], h) _
    iterate 3 refine mw_go rfl rfl ?_
    have hc := S_openedFor_ok d P hm hmM g hf
    rw [hk] at hc
    refine mw_cv hc rfl rfl rfl (Nat.le_of_ble_eq_true rfl) ⟨_, rfl, p1⟩ ?_
    iterate 3 refine mw_go rfl rfl ?_
    refine mw_ifT rfl ?_
    refine mw_go rfl rfl ?_
    refine mv_gI rfl rfl p1 hm ?_
    refine mw_go rfl rfl ?_
    refine mv_gR rfl rfl p1 p3 ?_
    refine mw_alen rfl rfl p5 ?_
    refine mw_go rfl rfl ?_
    refine mw_ifT ((nI_ltI (by omega) (by omega)).mpr hm250) ?_
    exact k
  have tail : ∀ (aa1 : Nat → Nat) (M1 : Nat) (h1 h' : mx_H) (z : Nat) (y : Option Nat), sP h1 s tp oa aa1 M1 → hpI h1 s 2 = nI m → hpK h1 z = some (.inl 0) → hpK h1 b = some (.inl 0) → hpI h1 b 6 = nI x → hpL h1 b 2 = hpL h b 2 → hpR h1 oa m = some z → h' = hOp (hwI h1 s 2 (nI (m + 1))) z (some b) g (hpL h b 2 ||| bL x) → mx_W (mx_Call mx_prog (d + 2)) (mx_nth cd_S_armFor) (29, [some (.inr (.inr (some s))), some (.inl g), some (.inl (nI f)), some (.inr (.inr (some b))), some (.inr (.inr y))], [], h1) (fun r2 h2 => r2 = some (.inr (.inr (some z))) ∧ h2 = h') := by
    intro aa1 M1 h1 h' z y P1 hm1 hkz hkb1 hx1 hw1 ho1 he
    obtain ⟨p1, p2, p3, p4, p5, p6, p7, p8, p9⟩ := id P1
    refine mw_go rfl rfl ?_
    refine mv_gR rfl rfl p1 p3 ?_
    refine mw_go rfl rfl ?_
    refine mv_gI rfl rfl p1 hm1 ?_
    refine mw_aal rfl rfl p5 rfl hm250 (by decide) ?_
    rw [ho1]
    iterate 3 refine mw_go rfl rfl ?_
    refine mv_gI rfl rfl p1 hm1 ?_
    iterate 2 refine mw_go rfl rfl ?_
    rw [nI_1]
    refine mw_pI rfl rfl p1 ?_
    iterate 3 refine mw_go rfl rfl ?_
    have hx2 : hpI (hwI h1 s 2 (nI (m + 1))) b 6 = nI x := by rw [hpI_wI, if_neg (fun q => hsb q.1.symm)]; exact hx1
    have hcall := A_open_some d (hwI h1 s 2 (nI (m + 1))) (a := z) (b := b) hkz hkb1 hx2 g
    rw [show hpL (hwI h1 s 2 (nI (m + 1))) b 2 = hpL h b 2 from hw1, ← he] at hcall
    refine mw_cn hcall rfl rfl rfl (Nat.le_of_ble_eq_true rfl) ⟨_, rfl, hkz⟩ ?_
    refine mw_go rfl rfl ?_
    exact mw_r2 rfl ⟨rfl, rfl⟩
  by_cases hlt : m < M
  · -- the ARM is there already
    obtain ⟨q1, q2, q3⟩ := p7 m hlt
    have hsz : s ≠ aa m := fun e => by rw [e, q2] at p1; cases p1
    have hoz : oa ≠ aa m := fun e => by rw [e, q2] at p5; cases p5
    obtain ⟨h', eh'⟩ : ∃ h', h' = hOp (hwI h s 2 (nI (m + 1))) (aa m) (some b) g (hpL h b 2 ||| bL x) := ⟨_, rfl⟩
    refine ⟨h', aa, M, ?_, ?_⟩
    · refine start _ _ ?_
      refine mw_go rfl rfl ?_
      refine mv_gR rfl rfl p1 p3 ?_
      refine mw_go rfl rfl ?_
      refine mv_gI rfl rfl p1 hm ?_
      refine mw_aal rfl rfl p5 rfl hm250 (by decide) ?_
      rw [q1]
      refine mw_go rfl rfl ?_
      refine mw_ifF (by simp) ?_
      exact tail aa M h _ (aa m) none P hm q2 hkb hx rfl q1 eh'
    · have K' : ∀ c, hpK h' c = hpK h c := fun c => by rw [eh', hOp_K, hpK_wI]
      have Z' : hpZ h' = hpZ h ∧ hpU h' = hpU h := by rw [eh']; exact hOp_Z _ _ _ _ _
      have A' : aF na h' (aa m) (some b) g (hpL h b 2 ||| bL x) [] := by rw [eh']; exact aF_open _ (by rw [hpK_wI]; exact q2) _ _ _
      have I' : hpI h' s 2 = nI (m + 1) := by rw [eh', (hOp_ne (hwI h s 2 (nI (m + 1))) (some b) g (hpL h b 2 ||| bL x) hsz 2).1, hpI_wI, if_pos ⟨rfl, rfl⟩]
      have hne : ∀ c, c ≠ aa m → ∀ k, ¬ (c = s ∧ k = 2) → hpI h' c k = hpI h c k ∧ hpL h' c k = hpL h c k ∧ hpR h' c k = hpR h c k := by
        intro c hc k hk2
        obtain ⟨e1, e2, e3⟩ := hOp_ne (hwI h s 2 (nI (m + 1))) (some b) g (hpL h b 2 ||| bL x) hc k
        rw [eh', e1, e2, e3, hpI_wI, if_neg hk2]
        exact ⟨rfl, rfl, rfl⟩
      clear eh'
      have Ph : sP h' s tp oa aa M := by
        refine ⟨by rw [K']; exact p1, by rw [(hne s hsz 0 (by simp)).2.2]; exact p2, by rw [(hne s hsz 1 (by simp)).2.2]; exact p3, by rw [K']; exact p4, by rw [K']; exact p5, p6, fun k hk => ⟨?_, by rw [K']; exact (p7 k hk).2.1, (p7 k hk).2.2⟩, p8, fun k h1 h2 => ?_⟩
        · rw [(hne oa hoz k (fun q => hso q.1.symm)).2.2]; exact (p7 k hk).1
        · rw [(hne oa hoz k (fun q => hso q.1.symm)).2.2]; exact p9 k h1 h2
      exact ⟨Ph, fun c hc => by rw [K']; rw [Z'.1] at hc; exact hok c hc, hlt, Nat.le_refl _, fun _ _ => rfl, I', A', by rw [Nat.sub_self]; exact Z'.1, by rw [Nat.sub_self]; exact Z'.2, fun h0 => absurd h0 (by omega), Or.inl rfl, fun c hc => ⟨K' c, fun k h1 h2 _ => hne c h1 k h2⟩⟩
  · -- it is made
    have hmM' : m = M := by omega
    have hz0 := hok (hpZ h) (Nat.le_refl _)
    have nez : ∀ c, hpK h c ≠ none → c ≠ hpZ h := fun c hc e => hc (by rw [e]; exact hz0)
    have hsz : s ≠ hpZ h := nez s (by rw [p1]; simp)
    have hoz : oa ≠ hpZ h := nez oa (by rw [p5]; simp)
    have htz : tp ≠ hpZ h := nez tp (by rw [p4]; simp)
    have hbz : b ≠ hpZ h := nez b (by rw [hkb]; simp)
    obtain ⟨h1, eh1⟩ : ∃ h1, h1 = hwR (hnw h (.inl 0) 11) oa m (some (hpZ h)) := ⟨_, rfl⟩
    have K1 : ∀ c, hpK h1 c = if c = hpZ h then some (.inl 0) else hpK h c := fun c => by rw [eh1]; rfl
    have R1 : ∀ c, hpK h c ≠ none → ∀ k, ¬ (c = oa ∧ k = m) → hpI h1 c k = hpI h c k ∧ hpL h1 c k = hpL h c k ∧ hpR h1 c k = hpR h c k := by
      intro c hc k hk2
      have e := nez c hc
      rw [eh1]
      refine ⟨?_, ?_, ?_⟩
      · rw [hpI_wR, hpI_nw, if_neg e]
      · rw [hpL_wR, hpL_nw, if_neg e]
      · rw [hpR_wR, if_neg hk2, hpR_nw, if_neg e]
    have sK : hpK h s ≠ none := by rw [p1]; simp
    have oK : hpK h oa ≠ none := by rw [p5]; simp
    obtain ⟨aa', am, ao⟩ : ∃ aa' : Nat → Nat, aa' m = hpZ h ∧ ∀ k, k ≠ m → aa' k = aa k := ⟨fun k => if k = m then hpZ h else aa k, if_pos rfl, fun k hk => if_neg hk⟩
    have P1 : sP h1 s tp oa aa' (M + 1) := by
      refine ⟨by rw [K1, if_neg hsz]; exact p1, by rw [(R1 s sK 0 (fun q => hso q.1)).2.2]; exact p2, by rw [(R1 s sK 1 (fun q => hso q.1)).2.2]; exact p3, by rw [K1, if_neg htz]; exact p4, by rw [K1, if_neg hoz]; exact p5, by omega, ?_, ?_, ?_⟩
      · intro k hk
        by_cases e : k = m
        · rw [e, am]
          refine ⟨by rw [eh1, hpR_wR, if_pos ⟨rfl, rfl⟩], by rw [K1, if_pos rfl], Ne.symm htz⟩
        · rw [ao k e]
          obtain ⟨q1, q2, q3⟩ := p7 k (by omega)
          exact ⟨by rw [(R1 oa oK k (fun q => e q.2)).2.2]; exact q1, by rw [K1, if_neg (nez _ (by rw [q2]; simp))]; exact q2, q3⟩
      · intro k l hk hl e
        by_cases e1 : k = m
        · by_cases e2 : l = m
          · omega
          · rw [e1, am, ao l e2] at e
            exact absurd e.symm (nez _ (by rw [(p7 l (by omega)).2.1]; simp))
        · by_cases e2 : l = m
          · rw [ao k e1, e2, am] at e
            exact absurd e (nez _ (by rw [(p7 k (by omega)).2.1]; simp))
          · rw [ao k e1, ao l e2] at e
            exact p8 k l (by omega) (by omega) e
      · intro k hk1 hk2
        rw [(R1 oa oK k (fun q => by omega)).2.2]
        exact p9 k (by omega) hk2
    have hm1 : hpI h1 s 2 = nI m := by rw [(R1 s sK 2 (fun q => hso q.1)).1]; exact hm
    have bK : hpK h b ≠ none := by rw [hkb]; simp
    obtain ⟨h', eh'⟩ : ∃ h', h' = hOp (hwI h1 s 2 (nI (m + 1))) (hpZ h) (some b) g (hpL h b 2 ||| bL x) := ⟨_, rfl⟩
    refine ⟨h', aa', M + 1, ?_, ?_⟩
    · rw [am]
      refine start _ _ ?_
      refine mw_go rfl rfl ?_
      refine mv_gR rfl rfl p1 p3 ?_
      refine mw_go rfl rfl ?_
      refine mv_gI rfl rfl p1 hm ?_
      refine mw_aal rfl rfl p5 rfl hm250 (by decide) ?_
      rw [p9 m (by omega) hm250]
      refine mw_go rfl rfl ?_
      refine mw_ifT rfl ?_
      refine mw_go rfl rfl ?_
      refine mv_gR rfl rfl p1 p3 ?_
      refine mw_go rfl rfl ?_
      refine mv_gI rfl rfl p1 hm ?_
      iterate 2 refine mw_go rfl rfl ?_
      refine mw_cn (A_init_ok (d + 1) _ (hpZ h)) rfl rfl rfl (Nat.le_of_ble_eq_true rfl) ⟨_, rfl⟩ ?_
      have kz : hpK (hnw h (.inl 0) 11) (hpZ h) = some (.inl 0) := by rw [hpK_nw, if_pos rfl]
      have ko : hpK (hnw h (.inl 0) 11) oa = some (.inr (3, 250)) := by rw [hpK_nw, if_neg hoz]; exact p5
      refine mw_aas rfl rfl ko rfl hm250 (by decide) (fun c hc => by cases hc; exact kz) ?_
      rw [← eh1]
      exact tail aa' (M + 1) h1 _ (hpZ h) none P1 hm1 (by rw [K1, if_pos rfl]) (by rw [K1, if_neg hbz]; exact hkb) (by rw [(R1 b bK 6 (fun q => hob q.1.symm)).1]; exact hx) (R1 b bK 2 (fun q => hob q.1.symm)).2.1 (by rw [eh1, hpR_wR, if_pos ⟨rfl, rfl⟩]) eh'
    · have K' : ∀ c, hpK h' c = hpK h1 c := fun c => by rw [eh', hOp_K, hpK_wI]
      have Z1 : hpZ h1 = hpZ h + 1 ∧ hpU h1 = hpU h + 11 := by rw [eh1]; exact ⟨rfl, rfl⟩
      have Z' : hpZ h' = hpZ h + 1 ∧ hpU h' = hpU h + 11 := by
        rw [eh', (hOp_Z _ _ _ _ _).1, (hOp_Z _ _ _ _ _).2, hpZ_wI, hpU_wI]; exact Z1
      have A' : aF na h' (hpZ h) (some b) g (hpL h b 2 ||| bL x) [] := by rw [eh']; exact aF_open _ (by rw [hpK_wI, K1, if_pos rfl]) _ _ _
      have I' : hpI h' s 2 = nI (m + 1) := by rw [eh', (hOp_ne (hwI h1 s 2 (nI (m + 1))) (some b) g (hpL h b 2 ||| bL x) hsz 2).1, hpI_wI, if_pos ⟨rfl, rfl⟩]
      have hne : ∀ c, hpK h c ≠ none → ∀ k, ¬ (c = s ∧ k = 2) → ¬ (c = oa ∧ k = m) → hpI h' c k = hpI h c k ∧ hpL h' c k = hpL h c k ∧ hpR h' c k = hpR h c k := by
        intro c hc k hk1 hk2
        obtain ⟨e1, e2, e3⟩ := hOp_ne (hwI h1 s 2 (nI (m + 1))) (some b) g (hpL h b 2 ||| bL x) (nez c hc) k
        obtain ⟨f1, f2, f3⟩ := R1 c hc k hk2
        rw [eh', e1, e2, e3, hpI_wI, if_neg hk1]
        exact ⟨f1, f2, f3⟩
      have hne1 : ∀ c, c ≠ hpZ h → ∀ k, hpR h' c k = hpR h1 c k := by
        intro c hc k
        rw [eh']
        exact (hOp_ne (hwI h1 s 2 (nI (m + 1))) (some b) g (hpL h b 2 ||| bL x) hc k).2.2
      clear eh'
      obtain ⟨r1, r2, r3, r4, r5, r6, r7, r8, r9⟩ := P1
      have Ph : sP h' s tp oa aa' (M + 1) := by
        refine ⟨by rw [K']; exact r1, by rw [hne1 s hsz 0]; exact r2, by rw [hne1 s hsz 1]; exact r3, by rw [K']; exact r4, by rw [K']; exact r5, r6, fun k hk => ⟨by rw [hne1 oa hoz k]; exact (r7 k hk).1, by rw [K']; exact (r7 k hk).2.1, (r7 k hk).2.2⟩, r8, fun k h1 h2 => by rw [hne1 oa hoz k]; exact r9 k h1 h2⟩
      refine ⟨Ph, ?_, by omega, by omega, fun k hk => ao k (by omega), I', by rw [am]; exact A', ?_, ?_, ?_, Or.inr ⟨rfl, hmM'.symm⟩, ?_⟩
      · intro c hc
        rw [Z'.1] at hc
        rw [K', K1, if_neg (by omega)]
        exact hok c (by omega)
      · rw [show M + 1 - M = 1 by omega]; exact Z'.1
      · rw [show M + 1 - M = 1 by omega]; exact Z'.2
      · intro _; rw [am]; exact hz0
      · intro c hc
        refine ⟨?_, fun k _ h2 h3 => hne c hc k h2 (fun q => h3 q.1)⟩
        rw [K', K1, if_neg (nez c hc)]
end
