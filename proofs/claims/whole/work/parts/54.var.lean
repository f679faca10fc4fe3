/-! Splitter: variableOf, armsOf. -/
/-- the variable on which a CHOICE is a SWITCH -/
def swV (t : tr) (i : Nat) : Option Nat := (fsw t 0 (tC t i)).map (fun q => q.1)
/-- its ARMS -/
def swG (t : tr) (i : Nat) : List (Nat × List Nat) := match fsw t 0 (tC t i) with
  | none => []
  | some (x, _) => grp t x (tC t i)
def swN (t : tr) (i : Nat) (tag : Int32) : Nat := if tag = -1 then (swG t i).length else match (swG t i).find? (fun e => nI e.1 == tag) with
  | none => 0
  | some e => e.2.length
theorem ofS_find {tg : Nat → Int32} {g : Int32} : ∀ {G : List (Nat × List Nat)} {i : Nat}, (∀ k e, G[k]? = some e → tg (i + k) = nI e.1) → (∃ k e, G[k]? = some e ∧ ofS tg g i G.length = some (i + k) ∧ G.find? (fun e => nI e.1 == g) = some e) ∨ (ofS tg g i G.length = none ∧ G.find? (fun e => nI e.1 == g) = none) := by
  intro G
  induction G with
  | nil => intro i _; right; exact ⟨rfl, rfl⟩
  | cons a r ih =>
    intro i h
    have h0 : tg i = nI a.1 := by simpa using h 0 a rfl
    rw [List.length_cons, ofS]
    by_cases e : nI a.1 = g
    · left
      refine ⟨0, a, rfl, by rw [h0, if_pos e]; rfl, ?_⟩
      rw [List.find?_cons_of_pos (by simp [e])]
    · rw [h0, if_neg e, List.find?_cons_of_neg (by simp [e])]
      rcases ih (i := i + 1) (fun k e' hk => by rw [show i + 1 + k = i + (k + 1) by omega]; exact h (k + 1) e' (by simpa using hk)) with ⟨k, e', g1, g2, g3⟩ | ⟨g1, g2⟩
      · left
        exact ⟨k + 1, e', by simpa using g1, by rw [g2]; congr 1; omega, g3⟩
      · right; exact ⟨g1, g2⟩
section
variable {na : Nat → Nat} {t : tr} {κ : Nat → Nat} {s tp oa : Nat} {h0 : mx_H} {aa0 : Nat → Nat} {M0 i : Nat}
theorem kI_kFr {ps0 : List Nat} {h : mx_H} {aa : Nat → Nat} {M n : Nat} {L : List rc} (I : kI na t κ s tp oa ps0 h0 aa0 M0 h aa M L n) : kFr na t κ s tp oa ps0 h0 aa0 M0 h aa M := by
  obtain ⟨⟨P, i2, i3, i4, i5, i6, i7, H, i9⟩, k2, k3, k4, k5, k7, ⟨k8a, k8b, k8c⟩, k9⟩ := I
  exact ⟨P, i2, i6, H, k8a, k8b, k9⟩
theorem S_variableOf_ok (d : Nat) (T : tOk t) (hκ : ∀ i, i < tN t → κ i < 5 ∧ (tS t i = 4 → κ i = tV t i)) (hinj : ∀ i j, i < tN t → j < tN t → na i = na j → i = j) (hi : i < tN t) (P : sP h0 s tp oa aa0 M0) (hok : hOk h0) (H0 : nAll na t κ h0) :
    ∃ h', cl (d + 4) j_S_variableOf [.inr (.inr (some s)), .inr (.inr (some (na i)))] h0 (some (.inl (iO (swV t i)))) h' ∧ kFr na t κ s tp oa (tC t i) h0 aa0 M0 h' aa0 M0 := by
  have Ti := T.at hi
  have hps0 : ∀ p ∈ tC t i, p < tN t := fun p hp => (Ti.2.2.1 p hp).2.1
  have walk : mx_W (mx_Call mx_prog (d + 3)) (mx_nth cd_S_variableOf) (0, [some (.inr (.inr (some s))), some (.inr (.inr (some (na i))))], [], h0) (fun r1 h' => r1 = some (.inl (iO (swV t i))) ∧ kFr na t κ s tp oa (tC t i) h0 aa0 M0 h' aa0 M0) := by
    iterate 2 refine mw_go rfl rfl ?_
    obtain ⟨h1, c1, G⟩ := S_gather_ok d T H0 hκ hinj hi P.1 P.2.1 P.2.2.2.1
    refine mw_cn c1 rfl rfl rfl (Nat.le_of_ble_eq_true rfl) ⟨_, rfl, P.1⟩ ?_
    have I0 := kI_start T hi P hok H0 G
    obtain ⟨A, H, g3, -⟩ := id G
    obtain ⟨b1, b2, b3, b4, b5, b6, b7, b8, b9, b10, b11, b12⟩ := A
    obtain ⟨P1, j2, j3, j4, j5, j6, j7⟩ := kI_kFr I0
    have hL : (tC t i).length < 2 ^ 31 := by
      have := nodup_len (tN t) (tC t i) Ti.2.2.2.1 hps0
      have := T.2.1
      omega
    refine mw_go rfl rfl ?_
    refine mv_gR rfl rfl P1.1 P1.2.1 ?_
    have hcall := A_findSwitch_ok d T H b1 b6 b5 hL b11 (fun p hp => ⟨hps0 p hp, g3 p hp⟩)
    rw [b4] at hcall
    refine mw_cn hcall rfl rfl rfl (Nat.le_of_ble_eq_true rfl) ⟨_, rfl, b1⟩ ?_
    obtain ⟨h2, eh2⟩ : ∃ h2, h2 = fsH h1 tp (fsw t 0 (tC t i)) := ⟨_, rfl⟩
    rw [← eh2]
    have K2 : ∀ b, hpK h2 b = hpK h1 b := fun b => by rw [eh2]; exact fsH_K _ b
    have L2 : ∀ b k, hpL h2 b k = hpL h1 b k := fun b k => by rw [eh2]; exact fsH_L _ b k
    have R2 : ∀ b k, hpR h2 b k = hpR h1 b k := fun b k => by rw [eh2]; exact fsH_R _ b k
    have I2 : ∀ b k, b ≠ tp → hpI h2 b k = hpI h1 b k := fun b k hb => by rw [eh2]; exact fsH_ne _ hb k
    have Z2 : hpZ h2 = hpZ h1 ∧ hpU h2 = hpU h1 := by rw [eh2]; exact fsH_Z _
    have v2 : hpI h2 tp 6 = iO (swV t i) := by
      rw [eh2]
      unfold swV
      cases hf : fsw t 0 (tC t i) with
      | none => exact b6
      | some q => obtain ⟨x, v⟩ := q; simp [fsH, hpI_wI, iO]
    clear eh2
    refine mw_go rfl rfl ?_
    refine mv_gR rfl rfl (by rw [K2]; exact P1.1) ((R2 _ _).trans P1.2.1) ?_
    refine mv_gI rfl rfl (by rw [K2]; exact b1) v2 ?_
    refine mw_r0 rfl ⟨rfl, ?_⟩
    obtain ⟨p1, p2, p3, p4, p5, p6, p7, p8, p9⟩ := id P1
    refine ⟨⟨by rw [K2]; exact p1, by rw [R2]; exact p2, by rw [R2]; exact p3, by rw [K2]; exact p4, by rw [K2]; exact p5, p6, fun k hk => ⟨by rw [R2]; exact (p7 k hk).1, by rw [K2]; exact (p7 k hk).2.1, (p7 k hk).2.2⟩, p8, fun k z1 z2 => by rw [R2]; exact p9 k z1 z2⟩, fun c hc => by rw [K2]; rw [Z2.1] at hc; exact j2 c hc, Nat.le_refl _, ?_, by rw [Z2.1]; exact j5, by rw [Z2.2]; exact j6, fun c hc => ⟨by rw [K2]; exact (j7 c hc).1, fun k n1 n2 n3 n4 n5 => ?_⟩⟩
    · refine nAll_congr H (fun q hq => ⟨K2 _, fun k => I2 _ k (fun z => ?_), L2 _ _, fun k _ => R2 _ _⟩) T
      have := (H q hq).K
      rw [z, b1] at this; cases this
    · obtain ⟨f1, f2, f3⟩ := (j7 c hc).2 k n1 n2 n3 n4 n5
      exact ⟨by rw [I2 c k n1]; exact f1, by rw [L2]; exact f2, by rw [R2]; exact f3⟩
  obtain ⟨r, h', hcl, rfl, K⟩ := mc_of (prog := mx_prog) (j := j_S_variableOf) (as := [.inr (.inr (some s)), .inr (.inr (some (na i)))]) (Nat.le_of_ble_eq_true rfl) walk
  exact ⟨h', hcl, K⟩
theorem S_armsOf_ok (d : Nat) (T : tOk t) (hκ : ∀ i, i < tN t → κ i < 5 ∧ (tS t i = 4 → κ i = tV t i)) (hinj : ∀ i j, i < tN t → j < tN t → na i = na j → i = j) (hi : i < tN t) (P : sP h0 s tp oa aa0 M0) (hok : hOk h0) (H0 : nAll na t κ h0) (tag : Int32) :
    ∃ h' aa' M', cl (d + 5) j_S_armsOf [.inr (.inr (some s)), .inr (.inr (some (na i))), .inl tag] h0 (some (.inl (nI (swN t i tag)))) h' ∧ kFr na t κ s tp oa (tC t i) h0 aa0 M0 h' aa' M' := by
  have Ti := T.at hi
  have hps0 : ∀ p ∈ tC t i, p < tN t := fun p hp => (Ti.2.2.1 p hp).2.1
  have walk : mx_W (mx_Call mx_prog (d + 4)) (mx_nth cd_S_armsOf) (0, [some (.inr (.inr (some s))), some (.inr (.inr (some (na i)))), some (.inl tag), none], [], h0) (fun r1 h' => r1 = some (.inl (nI (swN t i tag))) ∧ ∃ aa' M', kFr na t κ s tp oa (tC t i) h0 aa0 M0 h' aa' M') := by
    iterate 2 refine mw_go rfl rfl ?_
    obtain ⟨h1, c1, G⟩ := S_gather_ok (d + 1) T H0 hκ hinj hi P.1 P.2.1 P.2.2.2.1
    refine mw_cn c1 rfl rfl rfl (Nat.le_of_ble_eq_true rfl) ⟨_, rfl, P.1⟩ ?_
    have I0 := kI_start T hi P hok H0 G
    have P1 := I0.1.1
    iterate 2 refine mw_go rfl rfl ?_
    refine mv_gR rfl rfl P1.1 P1.2.1 ?_
    obtain ⟨h2, aa2, M2, c2, I2⟩ := kI_split d T hps0 hinj I0 (e := (0, 0, 0, tC t i)) rfl
    refine mw_cn c2 rfl rfl rfl (Nat.le_of_ble_eq_true rfl) ⟨_, rfl, P1.1⟩ ?_
    have KF := kI_kFr I2
    obtain ⟨⟨P2, i2, i3, i4, i5, i6, i7, H2, i9⟩, k2, k3, -⟩ := id I2
    have hlen : ([((0, 0, 0, tC t i) : rc)] ++ rch t 0 (0, 0, 0, tC t i)).length - 1 = (swG t i).length := by
      unfold rch swG
      show _ = (match fsw t 0 (tC t i) with | none => [] | some (x, _) => grp t x (tC t i)).length
      cases hf : fsw t (rW ((0, 0, 0, tC t i) : rc)) (rP ((0, 0, 0, tC t i) : rc)) with
      | none => simp
      | some q => obtain ⟨x, v⟩ := q; simp
    rw [hlen] at i3 i5
    refine mw_go rfl rfl ?_
    iterate 2 refine mw_go rfl rfl ?_
    refine mw_if _ (fun ht => ?_) (fun ht => ?_)
    · refine mw_go rfl rfl ?_
      refine mv_gI rfl rfl P2.1 i3 ?_
      exact mw_r0 rfl ⟨by rw [swN, if_pos ht], aa2, M2, KF⟩
    · iterate 3 refine mw_go rfl rfl ?_
      have hcall := S_openedFor_ok (d + 2) P2 i3 i5 tag (f := 0) (Nat.zero_le _)
      rw [Nat.sub_zero] at hcall
      have hG : ∀ k e, (swG t i)[k]? = some e → hpI h2 (aa2 (0 + k)) 1 = nI e.1 ∧ hpI h2 (aa2 (0 + k)) 5 = nI e.2.length ∧ hpK h2 (aa2 (0 + k)) = some (.inl 0) := by
        intro k e hk
        rw [Nat.zero_add]
        unfold swG at hk
        cases hf : fsw t 0 (tC t i) with
        | none => rw [hf] at hk; simp at hk
        | some q =>
          obtain ⟨x, v⟩ := q
          rw [hf] at hk
          dsimp only at hk
          have hL : ([((0, 0, 0, tC t i) : rc)] ++ rch t 0 (0, 0, 0, tC t i))[k + 1]? = some ((0, e.1, (0 : Int64) ||| bL x, e.2) : rc) := by
            rw [List.getElem?_append_right (by simp)]
            unfold rch
            rw [show fsw t (rW ((0, 0, 0, tC t i) : rc)) (rP ((0, 0, 0, tC t i) : rc)) = some (x, v) from hf]
            dsimp only
            rw [List.getElem?_map, List.length_singleton, show k + 1 - 1 = k by omega, hk]
            rfl
          have B := aR_fr (Or.inl (by omega)) (k2 (k + 1) _ hL)
          exact ⟨B.2.2.1, B.2.2.2.2.1, B.1⟩
      rcases ofS_find (tg := fun k => hpI h2 (aa2 k) 1) (g := tag) (G := swG t i) (i := 0) (fun k e hk => (hG k e hk).1) with ⟨k, e, g1, g2, g3⟩ | ⟨g2, g3⟩
      · rw [g2] at hcall
        refine mw_cv hcall rfl rfl rfl (Nat.le_of_ble_eq_true rfl) ⟨_, rfl, P2.1⟩ ?_
        iterate 3 refine mw_go rfl rfl ?_
        refine mw_ifF (by simp) ?_
        refine mw_go rfl rfl ?_
        refine mv_gI rfl rfl (hG k e g1).2.2 (hG k e g1).2.1 ?_
        exact mw_r0 rfl ⟨by rw [swN, if_neg ht, g3], aa2, M2, KF⟩
      · rw [g2] at hcall
        refine mw_cv hcall rfl rfl rfl (Nat.le_of_ble_eq_true rfl) ⟨_, rfl, P2.1⟩ ?_
        iterate 3 refine mw_go rfl rfl ?_
        refine mw_ifT rfl ?_
        iterate 2 refine mw_go rfl rfl ?_
        exact mw_r0 rfl ⟨by rw [swN, if_neg ht, g3]; rfl, aa2, M2, KF⟩
  obtain ⟨r, h', hcl, rfl, aa', M', K⟩ := mc_of (prog := mx_prog) (j := j_S_armsOf) (as := [.inr (.inr (some s)), .inr (.inr (some (na i))), .inl tag]) (Nat.le_of_ble_eq_true rfl) walk
  exact ⟨h', aa', M', hcl, K⟩
end
