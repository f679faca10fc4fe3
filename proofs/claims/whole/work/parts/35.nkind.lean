/-! The KIND of a NODE out of its PARTS', as the class computes it. -/
theorem fin5 {P : Nat → Prop} (h : ∀ a : Fin 5, P a.val) {a : Nat} (ha : a < 5) : P a := h ⟨a, ha⟩
theorem kf_alg : ∀ (cf : Bool) (mo : Fin 3) (a b : Fin 5), kbo (kof cf mo) (kbo a b) = kbo (kof (cf || kf a) (kcap (mo * km a))) b := by decide +kernel
theorem kf_0 : ∀ (cf : Bool) (mo : Fin 3), kbo (kof cf mo) 0 = kof cf mo := by decide +kernel
theorem kf_id : ∀ (a : Fin 5), kbo 0 a = a.val ∧ kof (kf a) (km a) = a.val := by decide +kernel
theorem kbo_lt : ∀ (a b : Fin 5), kbo a b < 5 := by decide +kernel
theorem kof_lt : ∀ (cf : Bool) (mo : Fin 3), kof cf mo < 5 := by decide +kernel
theorem km_lt (a : Nat) : km a < 3 := by unfold km; split <;> (try split) <;> omega
theorem kof_lt' (f : Bool) {m : Nat} (hm : m < 3) : kof f m < 5 := kof_lt f ⟨m, hm⟩
theorem kbo_lt' {a b : Nat} (ha : a < 5) (hb : b < 5) : kbo a b < 5 := kbo_lt ⟨a, ha⟩ ⟨b, hb⟩
theorem kcap_lt {a b : Nat} : kcap (a * b) < 3 := by unfold kcap; split <;> omega
theorem bI_or (a b : Bool) : bI a ||| bI b = bI (a || b) := by cases a <;> cases b <;> decide
theorem krow_lt {t : tr} {κ : Nat → Nat} : ∀ {l : List Nat} {X : Nat → Bool}, (∀ c ∈ l, κ c < 5) → krow t κ X l < 5 := by
  intro l
  induction l with
  | nil => intro X _; simp [krow]
  | cons c r ih =>
    intro X h
    rw [krow]
    split
    · exact ih (fun z hz => h z (List.mem_cons_of_mem _ hz))
    · exact kbo_lt' (h c List.mem_cons_self) (ih (fun z hz => h z (List.mem_cons_of_mem _ hz)))
theorem krow_congr {t : tr} {κ : Nat → Nat} : ∀ {l : List Nat} {X Y : Nat → Bool}, (∀ c ∈ l, tS t c = 5 → X (tV t c) = Y (tV t c)) → krow t κ X l = krow t κ Y l := by
  intro l
  induction l with
  | nil => intro X Y _; rfl
  | cons c r ih =>
    intro X Y h
    rw [krow, krow]
    by_cases h5 : tS t c = 5
    · rw [h c List.mem_cons_self h5]
      split
      · exact ih (fun z hz h5' => by rw [h z (List.mem_cons_of_mem _ hz) h5'])
      · rw [ih (fun z hz => h z (List.mem_cons_of_mem _ hz))]
    · rw [if_neg (fun q => h5 q.1), if_neg (fun q => h5 q.1), ih (fun z hz => h z (List.mem_cons_of_mem _ hz))]
/-- rowKind's loop -/
def rowL (t : tr) (κ : Nat → Nat) (w : Int64) (cf : Bool) (mo : Nat) (l : List Nat) : Nat := match l with
  | [] => kof cf mo
  | c :: r => if tS t c = 5 ∧ tb w (tV t c) = true then rowL t κ (w &&& (bL (tV t c) ^^^ (-1))) cf mo r else rowL t κ w (cf || kf (κ c)) (kcap (mo * km (κ c))) r
theorem rowL_eq {t : tr} {κ : Nat → Nat} (T : tOk t) : ∀ {l : List Nat} {w : Int64} {cf : Bool} {mo : Nat}, (∀ c ∈ l, c < tN t ∧ κ c < 5) → mo < 3 → rowL t κ w cf mo l = kbo (kof cf mo) (krow t κ (tb w) l) := by
  intro l
  induction l with
  | nil => intro w cf mo _ hm; exact (kf_0 cf ⟨mo, hm⟩).symm
  | cons c r ih =>
    intro w cf mo h hm
    rw [rowL, krow]
    have hc := h c List.mem_cons_self
    have hr := fun z hz => h z (List.mem_cons_of_mem c hz)
    by_cases h5 : tS t c = 5 ∧ tb w (tV t c) = true
    · rw [if_pos h5, if_pos h5, ih hr hm]
      congr 1
      refine krow_congr (fun z hz hz5 => ?_)
      have h1 := ((T.at hc.1).2.2.2.2.2.2.2.2.1 h5.1).1
      have h2 := ((T.at (hr z hz).1).2.2.2.2.2.2.2.2.1 hz5).1
      rw [tb_clr _ (by omega) (by omega)]
      by_cases e : tV t c = tV t z
      · simp [e]
      · have e' : ¬ tV t z = tV t c := fun q => e q.symm
        simp [e, e']
    · rw [if_neg h5, if_neg h5, ih hr kcap_lt]
      exact (kf_alg cf ⟨mo, hm⟩ ⟨κ c, hc.2⟩ ⟨krow t κ (tb w) r, krow_lt (fun z hz => (hr z hz).2)⟩).symm
section
variable {na : Nat → Nat} {t : tr} {κ : Nat → Nat} {h : mx_H}
theorem N_rowKind_loop {d : Nat} {Q : Option mx_V → mx_H → Prop} (T : tOk t) (H : nAll na t κ h) (hκ : ∀ i, i < tN t → κ i < 5 ∧ (tS t i = 4 → κ i = tV t i)) (u : Option Nat) (w0 : Int64) : ∀ (l : List Nat) (r : Option Nat) (w : Int64) (cf : Bool) (mo : Nat), Chn na h 12 r l → (∀ c ∈ l, c < tN t) → mo < 3 → Q (some (.inl (nI (rowL t κ w cf mo l)))) h →
    mx_W (mx_Call mx_prog (d + 1)) (mx_nth cd_N_rowKind) (9, [some (.inr (.inr u)), some (.inr (.inl w0)), none, some (.inl (bI cf)), some (.inl (nI mo)), some (.inr (.inl w)), none, some (.inr (.inr r))], [], h) Q := by
  intro l
  induction l with
  | nil =>
    intro r w cf mo hr hl hm hq
    have hr : r = none := hr
    subst hr
    iterate 2 refine mw_go rfl rfl ?_
    refine mw_ifT rfl ?_
    iterate 2 refine mw_go rfl rfl ?_
    refine mw_cv (K_of_ok d h cf hm) rfl rfl rfl (Nat.le_of_ble_eq_true rfl) trivial ?_
    exact mw_r0 rfl hq
  | cons c l ih =>
    intro r w cf mo hr hl hm hq
    obtain ⟨rfl, hch⟩ := hr
    have hc := hl c List.mem_cons_self
    have Hc := H c hc
    have Tc := T.at hc
    have hκc := hκ c hc
    rw [rowL] at hq
    iterate 2 refine mw_go rfl rfl ?_
    refine mw_ifF (by simp) ?_
    refine mw_go rfl rfl ?_
    refine mv_gI rfl rfl Hc.K Hc.S ?_
    iterate 2 refine mw_go rfl rfl ?_
    have next : ¬ (tS t c = 5 ∧ tb w (tV t c) = true) → mx_W (mx_Call mx_prog (d + 1)) (mx_nth cd_N_rowKind) (29, [some (.inr (.inr u)), some (.inr (.inl w0)), none, some (.inl (bI cf)), some (.inl (nI mo)), some (.inr (.inl w)), none, some (.inr (.inr (some (na c))))], [], h) Q := by
      intro hn
      rw [if_neg hn] at hq
      iterate 2 refine mw_go rfl rfl ?_
      refine mv_gI rfl rfl Hc.K Hc.k ?_
      refine mw_cv (K_canFail_ok d h hκc.1) rfl rfl rfl (Nat.le_of_ble_eq_true rfl) trivial ?_
      iterate 4 refine mw_go rfl rfl ?_
      refine mv_gI rfl rfl Hc.K Hc.k ?_
      refine mw_cv (K_most_ok d h hκc.1) rfl rfl rfl (Nat.le_of_ble_eq_true rfl) trivial ?_
      refine mw_go rfl rfl ?_
      rw [pk_mul, bI_or]
      have hmm : mo * km (κ c) < 5 := by
        have := km_lt (κ c)
        rcases k3 hm with e | e | e <;> rcases k3 this with e' | e' | e' <;> rw [e, e'] <;> decide
      refine mw_cv (K_capped_ok d h hmm) rfl rfl rfl (Nat.le_of_ble_eq_true rfl) trivial ?_
      iterate 2 refine mw_go rfl rfl ?_
      refine mw_gR rfl rfl Hc.K ?_
      iterate 2 refine mw_go rfl rfl ?_
      exact ih _ w (cf || kf (κ c)) (kcap (mo * km (κ c))) hch (fun z hz => hl z (List.mem_cons_of_mem _ hz)) kcap_lt hq
    refine mw_ifP (e_lit (b := 5) rfl (by omega) (by omega)) (fun h5 => ?_) (fun h5 => next (fun q => h5 q.1))
    have hv := (Tc.2.2.2.2.2.2.2.2.1 h5).1
    iterate 2 refine mw_go rfl rfl ?_
    refine mv_gI rfl rfl Hc.K (Hc.V5 h5) ?_
    refine mw_cv (N_has_ok d h w (x := tV t c) (by omega)) rfl rfl rfl (Nat.le_of_ble_eq_true rfl) trivial ?_
    refine mw_go rfl rfl ?_
    refine mw_ifP (e_bI _) (fun hb => next (fun q => by rw [hb] at q; exact absurd q.2 (by decide))) (fun hb => ?_)
    have hb : tb w (tV t c) = true := by cases hh : tb w (tV t c) with
      | true => rfl
      | false => exact absurd hh hb
    rw [if_pos ⟨h5, hb⟩] at hq
    iterate 2 refine mw_go rfl rfl ?_
    refine mv_gI rfl rfl Hc.K (Hc.V5 h5) ?_
    refine mw_cv (N_bit_ok d h (tV t c)) rfl rfl rfl (Nat.le_of_ble_eq_true rfl) trivial ?_
    iterate 6 refine mw_go rfl rfl ?_
    refine mw_gR rfl rfl Hc.K ?_
    iterate 2 refine mw_go rfl rfl ?_
    exact ih _ _ cf mo hch (fun z hz => hl z (List.mem_cons_of_mem _ hz)) hm hq
theorem N_rowKind_ok (d : Nat) (T : tOk t) (H : nAll na t κ h) (hκ : ∀ i, i < tN t → κ i < 5 ∧ (tS t i = 4 → κ i = tV t i)) {p : Nat} (hp : p < tN t) (w : Int64) : cl (d + 2) j_N_rowKind [.inr (.inr (some (na p))), .inr (.inl w)] h (some (.inl (nI (krow t κ (tb w) (tC t p))))) h := by
  refine cl_of (Nat.le_of_ble_eq_true rfl) ?_
  show mx_W _ (mx_nth cd_N_rowKind) (0, [some (.inr (.inr (some (na p)))), some (.inr (.inl w)), none, none, none, none, none, none], [], h) _
  have Hp := H p hp
  have Tp := T.at hp
  iterate 7 refine mw_go rfl rfl ?_
  refine mw_gR rfl rfl Hp.K ?_
  refine mw_go rfl rfl ?_
  refine N_rowKind_loop T H hκ _ w _ _ w false 1 Hp.C (fun c hc => (Tp.2.2.1 c hc).2.1) (by decide) ⟨?_, rfl⟩
  rw [rowL_eq T (fun c hc => ⟨(Tp.2.2.1 c hc).2.1, (hκ c (Tp.2.2.1 c hc).2.1).1⟩) (by decide)]
  have e : kof false 1 = 0 := by decide
  rw [e, (kf_id ⟨_, krow_lt (fun c hc => (hκ c (Tp.2.2.1 c hc).2.1).1)⟩).1]
theorem N_kindKnowing_ok (d : Nat) (T : tOk t) (H : nAll na t κ h) (hκ : ∀ i, i < tN t → κ i < 5 ∧ (tS t i = 4 → κ i = tV t i)) {p : Nat} (hp : p < tN t) (w : Int64) : cl (d + 3) j_N_kindKnowing [.inr (.inr (some (na p))), .inr (.inl w)] h (some (.inl (nI (kkn t κ (tb w) p)))) h := by
  refine cl_of (Nat.le_of_ble_eq_true rfl) ?_
  show mx_W _ (mx_nth cd_N_kindKnowing) (0, [some (.inr (.inr (some (na p)))), some (.inr (.inl w)), none], [], h) _
  have Hp := H p hp
  have Tp := T.at hp
  refine mw_go rfl rfl ?_
  refine mv_gI rfl rfl Hp.K Hp.S ?_
  iterate 2 refine mw_go rfl rfl ?_
  have next : ¬ (tS t p = 5 ∧ tb w (tV t p) = true) → mx_W (mx_Call mx_prog (d + 2)) (mx_nth cd_N_kindKnowing) (11, [some (.inr (.inr (some (na p)))), some (.inr (.inl w)), none], [], h) (fun r1 h1 => r1 = some (.inl (nI (kkn t κ (tb w) p))) ∧ h1 = h) := by
    intro hn
    refine mw_go rfl rfl ?_
    refine mv_gI rfl rfl Hp.K Hp.S ?_
    refine mw_go rfl rfl ?_
    refine mw_ifP (e_lit (b := 0) rfl (by omega) (by omega)) (fun h0 => ?_) (fun h0 => ?_)
    · iterate 2 refine mw_go rfl rfl ?_
      refine mw_cv (N_rowKind_ok d T H hκ hp w) rfl rfl rfl (Nat.le_of_ble_eq_true rfl) ⟨_, rfl, Hp.K⟩ ?_
      refine mw_go rfl rfl ?_
      exact mw_r0 rfl ⟨by rw [kkn, if_neg hn, if_pos h0], rfl⟩
    · refine mw_go rfl rfl ?_
      refine mv_gI rfl rfl Hp.K Hp.k ?_
      exact mw_r0 rfl ⟨by rw [kkn, if_neg hn, if_neg h0], rfl⟩
  refine mw_ifP (e_lit (b := 5) rfl (by omega) (by omega)) (fun h5 => ?_) (fun h5 => next (fun q => h5 q.1))
  have hv := (Tp.2.2.2.2.2.2.2.2.1 h5).1
  iterate 2 refine mw_go rfl rfl ?_
  refine mv_gI rfl rfl Hp.K (Hp.V5 h5) ?_
  refine mw_cv (N_has_ok (d + 1) h w (x := tV t p) (by omega)) rfl rfl rfl (Nat.le_of_ble_eq_true rfl) trivial ?_
  refine mw_go rfl rfl ?_
  refine mw_ifP (e_bI _) (fun hb => next (fun q => by rw [hb] at q; exact absurd q.2 (by decide))) (fun hb => ?_)
  have hb : tb w (tV t p) = true := by cases hh : tb w (tV t p) with
    | true => rfl
    | false => exact absurd hh hb
  refine mw_go rfl rfl ?_
  exact mw_r0 rfl ⟨by rw [kkn, if_pos ⟨h5, hb⟩]; rfl, rfl⟩
end
