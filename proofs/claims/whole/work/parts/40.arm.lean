/-! ARMS: what the class's Arm reads and writes. -/
def iO (o : Option Nat) : Int32 := match o with
  | none => -1
  | some v => nI v
theorem nI_m1 {v : Nat} (h : v < 2 ^ 31) : ¬ nI v = -1 := by
  intro e
  have := congrArg Int32.toInt e
  rw [nI_toInt h] at this
  have h2 : (-1 : Int32).toInt = -1 := by decide
  rw [h2] at this
  omega
theorem e_iO {o : Option Nat} (h : ∀ v, o = some v → v < 2 ^ 31) : iO o = -1 ↔ o = none := by
  cases o with
  | none => exact ⟨fun _ => rfl, fun _ => rfl⟩
  | some v => exact ⟨fun e => absurd e (nI_m1 (h v rfl)), fun e => by cases e⟩
theorem bI_and (a b : Bool) : bI a &&& bI b = bI (a && b) := by cases a <;> cases b <;> decide
/-- ALL and TAG that the PART p tells of x -/
def tka (t : tr) (p x : Nat) : Nat := match tk t p x with
  | none => 0
  | some c => tA t c
def tkg (t : tr) (p x : Nat) : Nat := match tk t p x with
  | none => 0
  | some c => tG t c
theorem tkl_spec {t : tr} {x : Nat} : ∀ {l : List Nat} {c : Nat}, tkl t x l = some c → tko t x l = some c ∧ c ∈ l ∧ tS t c = 5 ∧ tV t c = x := by
  intro l
  induction l with
  | nil => intro c h; simp [tkl] at h
  | cons a r ih =>
    intro c h
    rw [tkl] at h
    rw [tko]
    by_cases hs : thd t a = true
    · rw [if_pos hs] at h
      by_cases h5 : tS t a = 5 ∧ tV t a = x
      · rw [if_pos h5] at h ⊢
        cases h
        exact ⟨rfl, List.mem_cons_self, h5.1, h5.2⟩
      · rw [if_neg h5] at h ⊢
        by_cases hb : tb (tM t a) x = true
        · rw [if_pos hb] at h; cases h
        · rw [if_neg hb] at h
          obtain ⟨h1, h2, h3⟩ := ih h
          exact ⟨h1, List.mem_cons_of_mem _ h2, h3⟩
    · rw [if_neg hs] at h; cases h
theorem tk_spec {t : tr} (T : tOk t) {p x c : Nat} (hp : p < tN t) (h : tk t p x = some c) : (if tS t p = 5 then some p else tko t x (tC t p)) = some c ∧ c < tN t ∧ tS t c = 5 ∧ tV t c = x := by
  unfold tk at h
  by_cases h0 : tS t p = 0
  · rw [if_pos h0] at h
    obtain ⟨h1, h2, h3, h4⟩ := tkl_spec h
    exact ⟨by rw [if_neg (by omega)]; exact h1, ((T.at hp).2.2.1 c h2).2.1, h3, h4⟩
  · rw [if_neg h0] at h
    by_cases h5 : tS t p = 5 ∧ tV t p = x
    · rw [if_pos h5] at h
      cases h
      exact ⟨by rw [if_pos h5.1], hp, h5.1, h5.2⟩
    · rw [if_neg h5] at h; cases h
/-- commonAll's loop -/
def coL (t : tr) (x : Nat) (cm : Option Nat) (ps : List Nat) : Option Nat := match ps with
  | [] => cm
  | p :: r => match cm with
    | none => coL t x (some (tka t p x)) r
    | some v => if tka t p x = v then coL t x (some v) r else none
section
variable {na : Nat → Nat} {t : tr} {κ : Nat → Nat} {h : mx_H}
theorem A_common_loop {d : Nat} {Q : Option mx_V → mx_H → Prop} (T : tOk t) (H : nAll na t κ h) (u : Option Nat) {x : Nat} (hx : x < 60) : ∀ (l : List Nat) (r : Option Nat) (cm : Option Nat) (z : Option mx_V), Chn na h 13 r l → (∀ p ∈ l, p < tN t ∧ (tk t p x).isSome = true) → (∀ v, cm = some v → v ≤ 100) → Q (some (.inl (iO (coL t x cm l)))) h →
    mx_W (mx_Call mx_prog (d + 1)) (mx_nth cd_A_commonAll) (5, [some (.inr (.inr u)), some (.inl (nI x)), some (.inl (iO cm)), some (.inr (.inr r)), z], [], h) Q := by
  intro l
  induction l with
  | nil =>
    intro r cm z hr hl hcm hq
    have hr : r = none := hr
    subst hr
    iterate 2 refine mw_go rfl rfl ?_
    refine mw_ifT rfl ?_
    refine mw_go rfl rfl ?_
    exact mw_r0 rfl hq
  | cons p l ih =>
    intro r cm z hr hl hcm hq
    obtain ⟨rfl, hch⟩ := hr
    obtain ⟨hp, hsome⟩ := hl p List.mem_cons_self
    have Hp := H p hp
    obtain ⟨c, hc⟩ := Option.isSome_iff_exists.mp hsome
    obtain ⟨g1, g2, g3, g4⟩ := tk_spec T hp hc
    have Hc := H c g2
    have Tc := T.at g2
    have hA := (Tc.2.2.2.2.2.2.2.2.1 g3).2.2
    have eA : tka t p x = tA t c := by rw [tka, hc]
    iterate 2 refine mw_go rfl rfl ?_
    refine mw_ifF (by simp) ?_
    iterate 2 refine mw_go rfl rfl ?_
    have hcall := N_takeOf_ok d T H hp hx
    rw [g1] at hcall
    refine mw_cv hcall rfl rfl rfl (Nat.le_of_ble_eq_true rfl) ⟨_, rfl, Hp.K⟩ ?_
    iterate 3 refine mw_go rfl rfl ?_
    refine mw_ifF (by simp) ?_
    have next : ∀ o : Option Nat, mx_W (mx_Call mx_prog (d + 1)) (mx_nth cd_A_commonAll) (5, [some (.inr (.inr u)), some (.inl (nI x)), some (.inl (iO (some (tA t c)))), some (.inr (.inr (hpR h (na p) 13))), some (.inr (.inr (some (na c))))], [], h) Q → mx_W (mx_Call mx_prog (d + 1)) (mx_nth cd_A_commonAll) (22, [some (.inr (.inr u)), some (.inl (nI x)), some (.inl (iO o)), some (.inr (.inr (some (na p)))), some (.inr (.inr (some (na c))))], [], h) Q := by
      intro o k
      refine mw_go rfl rfl ?_
      refine mv_gI rfl rfl Hc.K (Hc.A5 g3) ?_
      iterate 2 refine mw_go rfl rfl ?_
      refine mw_gR rfl rfl Hp.K ?_
      iterate 2 refine mw_go rfl rfl ?_
      exact k
    have hrest := fun q hq => hl q (List.mem_cons_of_mem p hq)
    cases cm with
    | none =>
      iterate 3 refine mw_go rfl rfl ?_
      refine mw_ifT rfl ?_
      refine next none (ih _ _ _ hch hrest (fun v hv => by cases hv; exact hA) ?_)
      rw [coL, eA] at hq
      exact hq
    | some v =>
      have hv := hcm v rfl
      iterate 3 refine mw_go rfl rfl ?_
      refine mw_ifF (nI_m1 (by omega)) ?_
      refine mw_go rfl rfl ?_
      refine mv_gI rfl rfl Hc.K (Hc.A5 g3) ?_
      iterate 2 refine mw_go rfl rfl ?_
      rw [coL] at hq
      refine mw_ifP (nI_eq (by omega) (by omega)) (fun he => ?_) (fun he => ?_)
      · refine next (some v) (ih _ _ _ hch hrest (fun v hv => by cases hv; exact hA) ?_)
        rw [if_pos (by rw [eA]; exact he)] at hq
        rw [he]; exact hq
      · refine mw_go rfl rfl ?_
        rw [if_neg (by rw [eA]; exact he)] at hq
        exact mw_r0 rfl hq
theorem A_commonAll_ok (d : Nat) (T : tOk t) (H : nAll na t κ h) {a : Nat} (hka : hpK h a = some (.inl 0)) {x : Nat} (hx : x < 60) {ps : List Nat} (hch : Chn na h 13 (hpR h a 3) ps) (hps : ∀ p ∈ ps, p < tN t ∧ (tk t p x).isSome = true) : cl (d + 2) j_A_commonAll [.inr (.inr (some a)), .inl (nI x)] h (some (.inl (iO (coL t x none ps)))) h := by
  refine cl_of (Nat.le_of_ble_eq_true rfl) ?_
  show mx_W _ (mx_nth cd_A_commonAll) (0, [some (.inr (.inr (some a))), some (.inl (nI x)), none, none, none], [], h) _
  iterate 3 refine mw_go rfl rfl ?_
  refine mw_gR rfl rfl hka ?_
  refine mw_go rfl rfl ?_
  exact A_common_loop T H _ hx ps _ none none hch hps (fun v hv => by cases hv) ⟨rfl, rfl⟩
/-- a plain CHOICE of these PARTS -/
def plL (t : tr) (κ : Nat → Nat) (X : Nat → Bool) (cf : Bool) (mo : Nat) (ps : List Nat) : Nat := match ps with
  | [] => kof cf mo
  | p :: r => plL t κ X (cf && kf (kkn t κ X p)) (kcap (mo + km (kkn t κ X p))) r
theorem kkn_lt {t : tr} {κ : Nat → Nat} (T : tOk t) (hκ : ∀ i, i < tN t → κ i < 5 ∧ (tS t i = 4 → κ i = tV t i)) {X : Nat → Bool} {p : Nat} (hp : p < tN t) : kkn t κ X p < 5 := by
  unfold kkn
  split
  · omega
  · split
    · exact krow_lt (fun c hc => (hκ c ((T.at hp).2.2.1 c hc).2.1).1)
    · exact (hκ p hp).1
theorem kcap_add {a b : Nat} : kcap (a + b) < 3 := by unfold kcap; split <;> omega
theorem A_together_loop {d : Nat} {Q : Option mx_V → mx_H → Prop} (T : tOk t) (H : nAll na t κ h) (hκ : ∀ i, i < tN t → κ i < 5 ∧ (tS t i = 4 → κ i = tV t i)) {a : Nat} (hka : hpK h a = some (.inl 0)) : ∀ (l : List Nat) (r : Option Nat) (cf : Bool) (mo : Nat) (z : Option mx_V), Chn na h 13 r l → (∀ p ∈ l, p < tN t) → mo < 3 → Q (some (.inl (nI (plL t κ (tb (hpL h a 2)) cf mo l)))) h →
    mx_W (mx_Call mx_prog (d + 3)) (mx_nth cd_A_kindTogether) (29, [some (.inr (.inr (some a))), some (.inl (bI cf)), some (.inl (nI mo)), some (.inr (.inr r)), z], [], h) Q := by
  intro l
  induction l with
  | nil =>
    intro r cf mo z hr hl hm hq
    have hr : r = none := hr
    subst hr
    iterate 2 refine mw_go rfl rfl ?_
    refine mw_ifT rfl ?_
    iterate 2 refine mw_go rfl rfl ?_
    refine mw_cv (K_of_ok (d + 2) h cf hm) rfl rfl rfl (Nat.le_of_ble_eq_true rfl) trivial ?_
    exact mw_r0 rfl hq
  | cons p l ih =>
    intro r cf mo z hr hl hm hq
    obtain ⟨rfl, hch⟩ := hr
    have hp := hl p List.mem_cons_self
    have Hp := H p hp
    have hk := kkn_lt T hκ (X := tb (hpL h a 2)) hp
    rw [plL] at hq
    iterate 2 refine mw_go rfl rfl ?_
    refine mw_ifF (by simp) ?_
    iterate 2 refine mw_go rfl rfl ?_
    refine mw_gL rfl rfl hka ?_
    refine mw_cv (N_kindKnowing_ok d T H hκ hp (hpL h a 2)) rfl rfl rfl (Nat.le_of_ble_eq_true rfl) ⟨_, rfl, Hp.K⟩ ?_
    iterate 3 refine mw_go rfl rfl ?_
    refine mw_cv (K_canFail_ok (d + 2) h hk) rfl rfl rfl (Nat.le_of_ble_eq_true rfl) trivial ?_
    refine mw_go rfl rfl ?_
    rw [bI_and]
    iterate 3 refine mw_go rfl rfl ?_
    refine mw_cv (K_most_ok (d + 2) h hk) rfl rfl rfl (Nat.le_of_ble_eq_true rfl) trivial ?_
    refine mw_go rfl rfl ?_
    rw [nI_add]
    have hmm : mo + km (kkn t κ (tb (hpL h a 2)) p) < 5 := by have := km_lt (kkn t κ (tb (hpL h a 2)) p); omega
    refine mw_cv (K_capped_ok (d + 2) h hmm) rfl rfl rfl (Nat.le_of_ble_eq_true rfl) trivial ?_
    iterate 2 refine mw_go rfl rfl ?_
    refine mw_gR rfl rfl Hp.K ?_
    iterate 2 refine mw_go rfl rfl ?_
    exact ih _ _ _ _ hch (fun q hq => hl q (List.mem_cons_of_mem _ hq)) kcap_add hq
/-- kindTogether where there is no SWITCH -/
theorem A_together_plain (d : Nat) (T : tOk t) (H : nAll na t κ h) (hκ : ∀ i, i < tN t → κ i < 5 ∧ (tS t i = 4 → κ i = tV t i)) {a : Nat} (hka : hpK h a = some (.inl 0)) (hv : hpI h a 6 = -1) {ps : List Nat} (hch : Chn na h 13 (hpR h a 3) ps) (hps : ∀ p ∈ ps, p < tN t) : cl (d + 4) j_A_kindTogether [.inr (.inr (some a))] h (some (.inl (nI (plL t κ (tb (hpL h a 2)) true 0 ps)))) h := by
  refine cl_of (Nat.le_of_ble_eq_true rfl) ?_
  show mx_W _ (mx_nth cd_A_kindTogether) (0, [some (.inr (.inr (some a))), none, none, none, none], [], h) _
  refine mw_go rfl rfl ?_
  refine mv_gI rfl rfl hka hv ?_
  iterate 2 refine mw_go rfl rfl ?_
  refine mw_ifT rfl ?_
  iterate 5 refine mw_go rfl rfl ?_
  refine mw_gR rfl rfl hka ?_
  refine mw_go rfl rfl ?_
  exact A_together_loop T H hκ hka ps _ true 0 none hch hps (by decide) ⟨rfl, rfl⟩
/-- kindTogether of a SWITCH whose ARMS have been heard -/
theorem A_together_switch (d : Nat) {a x al ac mo : Nat} {cf : Bool} (hka : hpK h a = some (.inl 0)) (hv : hpI h a 6 = nI x) (hx : x < 60) (hal : hpI h a 7 = nI al) (hal2 : al ≤ 100) (hac : hpI h a 8 = nI ac) (hac2 : ac < 2 ^ 31) (hcf : hpI h a 9 = bI cf) (hmo : hpI h a 10 = nI mo) (hmo2 : mo < 3) : cl (d + 2) j_A_kindTogether [.inr (.inr (some a))] h (some (.inl (nI (kof (decide (al = 0) || cf || decide (ac < al)) mo)))) h := by
  refine cl_of (Nat.le_of_ble_eq_true rfl) ?_
  show mx_W _ (mx_nth cd_A_kindTogether) (0, [some (.inr (.inr (some a))), none, none, none, none], [], h) _
  refine mw_go rfl rfl ?_
  refine mv_gI rfl rfl hka hv ?_
  iterate 2 refine mw_go rfl rfl ?_
  refine mw_ifF (nI_m1 (by omega)) ?_
  have fin : ∀ f : Bool, f = (decide (al = 0) || cf || decide (ac < al)) → mx_W (mx_Call mx_prog (d + 1)) (mx_nth cd_A_kindTogether) (18, [some (.inr (.inr (some a))), none, none, none, none], [.inl (bI f)], h) (fun r1 h1 => r1 = some (.inl (nI (kof (decide (al = 0) || cf || decide (ac < al)) mo))) ∧ h1 = h) := by
    intro f hf
    refine mw_go rfl rfl ?_
    refine mv_gI rfl rfl hka hmo ?_
    refine mw_cv (K_of_ok d h f hmo2) rfl rfl rfl (Nat.le_of_ble_eq_true rfl) trivial ?_
    exact mw_r0 rfl ⟨by rw [hf], rfl⟩
  refine mw_go rfl rfl ?_
  refine mv_gI rfl rfl hka hal ?_
  refine mw_go rfl rfl ?_
  refine mw_ifP (e_lit (b := 0) rfl (by omega) (by omega)) (fun h0 => ?_) (fun h0 => ?_)
  · iterate 2 refine mw_go rfl rfl ?_
    exact fin true (by simp [h0])
  · refine mw_go rfl rfl ?_
    refine mv_gI rfl rfl hka hcf ?_
    refine mw_go rfl rfl ?_
    refine mw_ifP (e_bI _) (fun hf => ?_) (fun hf => ?_)
    · refine mw_go rfl rfl ?_
      refine mv_gI rfl rfl hka hac ?_
      refine mw_go rfl rfl ?_
      refine mv_gI rfl rfl hka hal ?_
      refine mw_go rfl rfl ?_
      refine mw_ifP (nI_leI (by omega) (by omega)) (fun hc => ?_) (fun hc => ?_)
      · refine mw_go rfl rfl ?_
        exact fin false (by simp [h0, hf]; omega)
      · iterate 2 refine mw_go rfl rfl ?_
        exact fin true (by simp [h0, hf]; omega)
    · iterate 2 refine mw_go rfl rfl ?_
      exact fin true (by cases cf with | true => simp | false => exact absurd rfl hf)
end
