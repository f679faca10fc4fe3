/-! Splitter: kindOf. -/
section
variable {na : Nat → Nat} {t : tr} {κ : Nat → Nat} {s tp oa : Nat} {ps0 : List Nat} {h0 : mx_H} {aa0 : Nat → Nat} {M0 : Nat}
theorem kI_split {h : mx_H} {aa : Nat → Nat} {M i : Nat} {L : List rc} {e : rc} (d : Nat) (T : tOk t) (hps0 : ∀ p ∈ ps0, p < tN t) (hinj : ∀ i j, i < tN t → j < tN t → na i = na j → i = j) (I : kI na t κ s tp oa ps0 h0 aa0 M0 h aa M L i) (he : L[i]? = some e) :
    ∃ h' aa' M', cl (d + 4) j_S_split [.inr (.inr (some s)), .inr (.inr (some (adr tp aa i)))] h none h' ∧ kI na t κ s tp oa ps0 h0 aa0 M0 h' aa' M' (L ++ rch t i e) (i + 1) := by
  obtain ⟨⟨P, i2, i3, i4, i5, i6, i7, H, i9⟩, k2, k3, k4, ⟨k5, k6⟩, k7, k8, k9⟩ := id I
  have hil : i < L.length := (List.getElem?_eq_some_iff.mp he).1
  have A := aR_fr (Or.inl (Nat.le_refl i)) (k2 i e he)
  obtain ⟨b1, b2, b3, b4, b5, b6, b7, b8, b9, b10, b11, b12⟩ := id A
  have hps : ∀ p ∈ rP e, p < tN t ∧ hpL h (na p) 14 = thm t p := fun p hp => ⟨hps0 p ((k3 i e he).1 p hp), i9 p ((k3 i e he).1 p hp)⟩
  have hL : (rP e).length < 2 ^ 31 := by
    have := nodup_len (tN t) (rP e) (k3 i e he).2.1 (fun p hp => (hps p hp).1)
    have := T.2.1
    omega
  cases hf : fsw t (rW e) (rP e) with
  | none =>
    exact ⟨h, aa, M, S_split_none d T H P.1 b1 b6 b5 hL b11 hps (by rw [b4]; exact hf), kI_none I he hf⟩
  | some q =>
    obtain ⟨x, v⟩ := q
    have hB : L.length - 1 + (grp t x (rP e)).length ≤ 250 := by
      have h1 := rch_pot T i e (fun p hp => (hps p hp).1)
      rw [rch_len hf] at h1
      rw [drop_cons he] at k7
      simp only [List.map_cons, List.sum_cons] at k7
      omega
    obtain ⟨h2, aa', M', c1, c2, c3⟩ := S_split_some (v := v) (x := x) d T H hinj P i2 i3 i5 b1 b6 b5 hL b11 hps (k3 i e he).2.1 (fun j z1 z2 z3 => by
      have := kI_adr P (j := i) (k := j + 1) (by omega) (by omega) z3
      omega) (by rw [b4]; exact hf) hB
    rw [b4] at c2
    exact ⟨_, aa', M', c1, kI_some T hps0 hinj I he hf c2 c3⟩
theorem S_kindOf_loop1 {d : Nat} {Q : Option mx_V → mx_H → Prop} (T : tOk t) (hps0 : ∀ p ∈ ps0, p < tN t) (hinj : ∀ i j, i < tN t → j < tN t → na i = na j → i = j) (u : Option Nat) {e0 : rc} :
    ∀ (n i : Nat) (h : mx_H) (aa : Nat → Nat) (M : Nat) (L : List rc) (z : Option mx_V), i + n = 251 → i + 1 ≤ L.length → kI na t κ s tp oa ps0 h0 aa0 M0 h aa M L (i + 1) → L[0]? = some e0 →
      (∀ (h' : mx_H) (aa' : Nat → Nat) (M' : Nat) (L' : List rc) (y : Int32) (z : Option mx_V), kI na t κ s tp oa ps0 h0 aa0 M0 h' aa' M' L' L'.length → L'[0]? = some e0 → mx_W (mx_Call mx_prog (d + 4)) (mx_nth cd_S_kindOf) (29, [some (.inr (.inr (some s))), some (.inr (.inr u)), some (.inl y), z], [], h') Q) →
      mx_W (mx_Call mx_prog (d + 4)) (mx_nth cd_S_kindOf) (9, [some (.inr (.inr (some s))), some (.inr (.inr u)), some (.inl (nI i)), z], [], h) Q := by
  intro n
  induction n with
  | zero =>
    intro i h aa M L z hin hil I h00 k
    have h1 := I.2.2.2.2.2.1
    have h2 := I.1.2.2.2.2.1
    have h3 := I.1.1.2.2.2.2.2.1
    omega
  | succ n ih =>
    intro i h aa M L z hin hil I h00 k
    obtain ⟨⟨P, i2, i3, i4, i5, i6, i7, H, i9⟩, -⟩ := id I
    obtain ⟨p1, p2, p3, p4, p5, p6, p7, p8, p9⟩ := id P
    iterate 2 refine mw_go rfl rfl ?_
    refine mv_gI rfl rfl p1 i3 ?_
    refine mw_go rfl rfl ?_
    refine mw_ifP (nI_leI (by omega) (by omega)) (fun hc => ?_) (fun hc => ?_)
    · have : i + 1 = L.length := by omega
      rw [this] at I
      exact k h aa M L _ _ I h00
    · iterate 2 refine mw_go rfl rfl ?_
      refine mv_gR rfl rfl p1 p3 ?_
      refine mw_alen rfl rfl p5 ?_
      refine mw_go rfl rfl ?_
      refine mw_ifF (fun q => absurd ((nI_leI (by omega) (by omega)).mp q) (by omega)) ?_
      iterate 2 refine mw_go rfl rfl ?_
      refine mw_cv (S_openedAt_ok (d + 3) P i3 i5 (i := i) (by omega)) rfl rfl rfl (Nat.le_of_ble_eq_true rfl) ⟨_, rfl, p1⟩ ?_
      iterate 3 refine mw_go rfl rfl ?_
      refine mw_ifF (by simp) ?_
      iterate 2 refine mw_go rfl rfl ?_
      obtain ⟨e, he⟩ : ∃ e, L[i + 1]? = some e := ⟨L[i + 1], List.getElem?_eq_getElem (by omega)⟩
      obtain ⟨h', aa', M', c1, c2⟩ := kI_split d T hps0 hinj I he
      refine mw_cn c1 rfl rfl rfl (Nat.le_of_ble_eq_true rfl) ⟨_, rfl, p1⟩ ?_
      iterate 2 refine mw_go rfl rfl ?_
      show mx_W _ _ (9, [some (.inr (.inr (some s))), some (.inr (.inr u)), some (.inl (nI i + 1)), some (.inr (.inr (some (aa i))))], [], h') _
      rw [nI_1]
      refine ih (i + 1) h' aa' M' _ _ (by omega) (by rw [List.length_append]; omega) c2 ?_ k
      rw [List.getElem?_append_left (by omega)]
      exact h00
/-- what an ARM's KIND is -/
def rV (t : tr) (κ : Nat → Nat) (e : rc) : Nat := kc t κ (rW e) (rP e)
def hrd (t : tr) (κ : Nat → Nat) (L : List rc) (j c : Nat) : List Nat := ((L.drop c).filter (fun e => rF e == j)).map (rV t κ)
/-- in the second loop: the ARMS from the place c on have been heard -/
def pI (na : Nat → Nat) (t : tr) (κ : Nat → Nat) (s tp oa : Nat) (h : mx_H) (aa : Nat → Nat) (M : Nat) (L : List rc) (c : Nat) : Prop :=
  sP h s tp oa aa M ∧ L.length - 1 ≤ M ∧ nAll na t κ h ∧ ∀ j e, L[j]? = some e → match fsw t (rW e) (rP e) with
    | none => aF na h (adr tp aa j) (rfr tp aa j e) (rtg j e) (rW e) (rP e)
    | some (x, v) => aS h (adr tp aa j) (rfr tp aa j e) (rW e) x v (rch t j e).length ((hrd t κ L j c).any kf) (kmx (hrd t κ L j c))
theorem hrd_step {L : List rc} {c : Nat} {e : rc} (he : L[c]? = some e) (j : Nat) : hrd t κ L j c = if rF e = j then rV t κ e :: hrd t κ L j (c + 1) else hrd t κ L j (c + 1) := by
  unfold hrd
  rw [drop_cons he]
  by_cases h : rF e = j
  · rw [if_pos h, List.filter_cons_of_pos (by simp [h])]; rfl
  · rw [if_neg h, List.filter_cons_of_neg (by simp [h])]
theorem hrd_all {L : List rc} {c : Nat} (hF : ∀ j e, L[j]? = some e → 0 < j → rF e < j) : ∀ n, n ≤ c → hrd t κ L c (n + 1) = hrd t κ L c (c + 1) := by
  intro n
  -- from c down
  have : ∀ m n, n + m = c → hrd t κ L c (n + 1) = hrd t κ L c (c + 1) := by
    intro m
    induction m with
    | zero => intro n hn; rw [show n = c by omega]
    | succ m ih =>
      intro n hn
      rw [← ih (n + 1) (by omega)]
      cases he : L[n + 1]? with
      | none =>
        have hl := List.getElem?_eq_none_iff.mp he
        unfold hrd
        rw [List.drop_eq_nil_of_le hl, List.drop_eq_nil_of_le (by omega)]
      | some e =>
        rw [hrd_step he]
        have := hF (n + 1) e he (by omega)
        rw [if_neg (by omega)]
  intro hn
  exact this (c - n) n (by omega)
/-- the KIND of an ARM whose own ARMS have all been heard -/
theorem pI_kind {h : mx_H} {aa : Nat → Nat} {M c : Nat} {L : List rc} {e : rc} (d : Nat) (T : tOk t) (hκ : ∀ i, i < tN t → κ i < 5 ∧ (tS t i = 4 → κ i = tV t i)) (hps0 : ∀ p ∈ ps0, p < tN t) (I : pI na t κ s tp oa h aa M L (c + 1)) (he : L[c]? = some e)
    (k3 : ∀ j e, L[j]? = some e → (∀ p ∈ rP e, p ∈ ps0) ∧ (rP e).Nodup ∧ (0 < j → rF e < j)) (k5 : ∀ j e, L[j]? = some e → (L.drop 1).filter (fun c => rF c == j) = rch t j e) (hL : L.length < 2 ^ 31) :
    cl (d + 4) j_A_kindTogether [.inr (.inr (some (adr tp aa c)))] h (some (.inl (nI (rV t κ e)))) h := by
  obtain ⟨P, i5, H, arms⟩ := I
  have A := arms c e he
  cases hf : fsw t (rW e) (rP e) with
  | none =>
    rw [hf] at A
    obtain ⟨b1, b2, b3, b4, b5, b6, b7, b8, b9, b10, b11, b12⟩ := A
    have := A_together_plain d T H hκ b1 b6 b11 (fun p hp => hps0 p ((k3 c e he).1 p hp))
    rw [b4] at this
    rw [rV, kc_eq, hf]
    exact this
  | some q =>
    obtain ⟨x, v⟩ := q
    rw [hf] at A
    obtain ⟨b1, b2, b3, b4, b5, b6, b7, b8⟩ := A
    obtain ⟨-, s2, -, -, -, s6⟩ := fsw_spec T (fun p hp => hps0 p ((k3 c e he).1 p hp)) hf
    have hk : hrd t κ L c (c + 1) = (rch t c e).map (rV t κ) := by
      rw [← hrd_all (fun j e h => (k3 j e h).2.2) 0 (Nat.zero_le _)]
      unfold hrd
      rw [k5 c e he]
    have hrl : (rch t c e).length ≤ L.length := by
      rw [← k5 c e he]
      refine Nat.le_trans (List.length_filter_le _ _) ?_
      rw [List.length_drop]; omega
    have := A_together_switch (d + 2) b1 b4 s2 b5 s6 b6 (by omega) b7 b8 (kmx_lt _)
    rw [hk] at this
    have e1 : rV t κ e = kof (decide (v = 0) || ((rch t c e).map (rV t κ)).any kf || decide ((rch t c e).length < v)) (kmx ((rch t c e).map (rV t κ))) := by
      rw [rV, kc_eq, hf]
      dsimp only
      have e2 : (grp t x (rP e)).map (fun q => kc t κ (rW e ||| bL x) q.2) = (rch t c e).map (rV t κ) := by
        unfold rch
        rw [hf]
        dsimp only
        rw [List.map_map]
        rfl
      rw [e2, ksw, List.length_map]
    rw [e1]
    exact this
end
