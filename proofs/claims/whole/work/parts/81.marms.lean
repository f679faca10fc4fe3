/-! The reference's arms. -/
def agn (g : Nat → Nat) (v j : Nat) : Bool := match j with
  | 0 => false
  | j + 1 => agn g v j || decide (g j = v)
theorem agn_iff {g : Nat → Nat} {v : Nat} : ∀ {j : Nat}, agn g v j = true ↔ ∃ i, i < j ∧ g i = v := by
  intro j
  induction j with
  | zero => exact ⟨fun h => absurd h (by simp [agn]), fun ⟨i, h, _⟩ => by omega⟩
  | succ j ih =>
    rw [agn, Bool.or_eq_true, ih]
    constructor
    · rintro (⟨i, h1, h2⟩ | h)
      · exact ⟨i, by omega, h2⟩
      · exact ⟨j, by omega, of_decide_eq_true h⟩
    · rintro ⟨i, h1, h2⟩
      by_cases e : i = j
      · right; rw [e] at h2; exact decide_eq_true h2
      · left; exact ⟨i, by omega, h2⟩
theorem agn_ifL (g : Nat → Nat) (v k : Nat) : ifL g v 0 k = !agn g v k := by
  cases h : agn g v k with
  | true =>
    obtain ⟨i, h1, h2⟩ := agn_iff.mp h
    cases h' : ifL g v 0 k with
    | false => rfl
    | true => exact absurd h2 (ifL_iff.mp h' i (by omega) (by omega))
  | false =>
    refine ifL_iff.mpr (fun j _ hj e => ?_)
    have : agn g v k = true := agn_iff.mpr ⟨j, by omega, e⟩
    rw [h] at this; cases this
def arO (t : tr) (x : Nat) (ps : List Nat) (g : Int32) (k : Nat) : Nat := if g = -1 then (if agn (gt' t x ps) (gt' t x ps k) k = true then 0 else 1) else if nI (gt' t x ps k) = g then 1 else 0
def arT (t : tr) (x : Nat) (ps : List Nat) (g : Int32) (k n : Nat) : Nat := match n with
  | 0 => 0
  | n + 1 => arO t x ps g k + arT t x ps g (k + 1) n
section
variable {t : tr} {x : Nat} {ps : List Nat}
theorem arT_all : ∀ (n k : Nat), k + n = ps.length → arT t x ps (-1) k n = (nwk t x ps k).length := by
  intro n
  induction n with
  | zero =>
    intro k hk
    unfold nwk
    rw [List.drop_of_length_le (by omega)]
    rfl
  | succ n ih =>
    intro k hk
    obtain ⟨p, hp⟩ : ∃ p, ps[k]? = some p := ⟨ps[k]'(by omega), List.getElem?_eq_getElem (by omega)⟩
    rw [arT, ih (k + 1) (by omega), nwk_at hp, agn_ifL]
    unfold arO
    rw [if_pos rfl]
    cases agn (gt' t x ps) (gt' t x ps k) k with
    | true => simp
    | false => simp; omega
theorem arT_one {g : Int32} (hg : ¬ g = -1) : ∀ (n k : Nat), k + n = ps.length → arT t x ps g k n = ((ps.drop k).filter (fun p => nI (tkg t p x) == g)).length := by
  intro n
  induction n with
  | zero => intro k hk; rw [List.drop_of_length_le (by omega)]; rfl
  | succ n ih =>
    intro k hk
    obtain ⟨p, hp⟩ : ∃ p, ps[k]? = some p := ⟨ps[k]'(by omega), List.getElem?_eq_getElem (by omega)⟩
    rw [arT, ih (k + 1) (by omega), drop_at hp]
    unfold arO
    rw [if_neg hg]
    have e : gt' t x ps k = tkg t p x := by unfold gt'; rw [getD_of hp]
    rw [e]
    by_cases h : nI (tkg t p x) = g
    · rw [if_pos h, List.filter_cons_of_pos (by simp [h]), List.length_cons]; omega
    · rw [if_neg h, List.filter_cons_of_neg (by simp [h])]; omega
theorem nw_find {f : Nat → Nat} {g : Int32} : ∀ {l s : List Nat}, (∀ p ∈ l, f p < 100) → (match (nw f s l).find? (fun e => nI e.1 == g) with | none => 0 | some e => e.2.length) = (l.filter (fun p => nI (f p) == g && !decide (f p ∈ s))).length := by
  intro l
  induction l with
  | nil => intro s _; rfl
  | cons p r ih =>
    intro s h
    have hp := h p List.mem_cons_self
    have hr := fun z hz => h z (List.mem_cons_of_mem _ hz)
    rw [nw]
    by_cases hs : f p ∈ s
    · rw [if_pos hs, ih hr, List.filter_cons_of_neg (by simp [hs])]
    · rw [if_neg hs]
      by_cases hg : nI (f p) = g
      · rw [List.find?_cons_of_pos (by simp [hg]), List.filter_cons_of_pos (by simp [hg, hs])]
        dsimp only
        rw [List.length_cons, List.length_cons]
        congr 2
        apply List.filter_congr
        intro q hq
        have hq' := hr q hq
        by_cases e : f q = f p
        · simp [e, hg, hs]
        · have : ¬ nI (f q) = g := fun z => e ((nI_eq (by omega) (by omega)).mp (z.trans hg.symm))
          rw [beq_eq_false_iff_ne.mpr e, beq_eq_false_iff_ne.mpr this]; rfl
      · rw [List.find?_cons_of_neg (by simp [hg]), ih hr, List.filter_cons_of_neg (by simp [hg])]
        congr 1
        apply List.filter_congr
        intro q hq
        by_cases e : nI (f q) = g
        · have : ¬ f q = f p := fun z => hg (by rw [← z]; exact e)
          simp [e, this]
        · rw [beq_eq_false_iff_ne.mpr e]; rfl
theorem arT_swN {i v : Nat} (T : tOk t) (hi : i < tN t) (g : Int32) (hs : fsw t 0 (tC t i) = some (x, v)) : arT t x (tC t i) g 0 (tC t i).length = swN t i g := by
  have hps : ∀ p ∈ tC t i, p < tN t := fun p hp => ((T.at hi).2.2.1 p hp).2.1
  have f4 := (fsw_spec T hps hs).2.2.2.1
  have eG : swG t i = grp t x (tC t i) := by unfold swG; rw [hs]
  unfold swN
  rw [eG]
  by_cases hg : g = -1
  · rw [if_pos hg, hg, arT_all _ 0 (by omega), nwk_0]
  · rw [if_neg hg, arT_one hg _ 0 (by omega), grp_nw]
    have key := nw_find (f := fun p => tkg t p x) (g := g) (l := tC t i) (s := []) (fun p hp => by
      obtain ⟨c, hc⟩ := Option.isSome_iff_exists.mp (f4 p hp)
      unfold tkg
      rw [hc]
      exact (tk_5 T (hps p hp) hc).2.2.2)
    refine Eq.trans ?_ key.symm
    congr 1
    apply List.filter_congr
    intro q _
    simp
end
section
variable {m : Nat} {t : tr} {w : Int64} {r : Nat} {h : mx_H} {x n : Nat} {ps : List Nat}
theorem tag_at (T : tOk t) (H : mT m t h) (hps : ∀ p ∈ ps, p < tN t ∧ (tk t p x).isSome = true) {k p : Nat} (hk : ps[k]? = some p) : ∃ c, tk t p x = some c ∧ p < tN t ∧ c < 250 ∧ hpI h (m + 8) c = nI (gt' t x ps k) := by
  obtain ⟨h1, h2⟩ := hps p (List.mem_of_getElem? hk)
  obtain ⟨c, hc⟩ := Option.isSome_iff_exists.mp h2
  obtain ⟨c1, c2, c3, c4⟩ := tk_5 T h1 hc
  have hN := T.2.1
  refine ⟨c, hc, h1, by omega, ?_⟩
  rw [(H.2 c c1).G5 c2]
  unfold gt' tkg
  rw [getD_of hk, hc]
theorem M_arms_in {d : Nat} {Q : Option mx_V → mx_H → Prop} {g : Int32} {acc : Nat} (S : mS m h) (T : tOk t) (H : mT m t h) (hps : ∀ p ∈ ps, p < tN t ∧ (tk t p x).isSome = true) (hP : PA m h 0 ps) (hl : ps.length ≤ 250) (hx : x < 60) {k : Nat} (hk : k < ps.length) (K : mx_W (mx_Call mx_prog (d + 4)) (mx_nth cd_M_arms) (57, [some (.inr (.inr (some m))), some (.inl (nI n)), some (.inl g), some (.inl (nI x)), some (.inl (nI acc)), some (.inl (nI k)), some (.inl (nI (gt' t x ps k))), some (.inl (bI (agn (gt' t x ps) (gt' t x ps k) k))), some (.inl (nI k))], [], h) Q) :
    ∀ (q j : Nat), j + q = k → mx_W (mx_Call mx_prog (d + 4)) (mx_nth cd_M_arms) (34, [some (.inr (.inr (some m))), some (.inl (nI n)), some (.inl g), some (.inl (nI x)), some (.inl (nI acc)), some (.inl (nI k)), some (.inl (nI (gt' t x ps k))), some (.inl (bI (agn (gt' t x ps) (gt' t x ps k) j))), some (.inl (nI j))], [], h) Q := by
  intro q
  induction q with
  | zero =>
    intro j hj
    obtain rfl : j = k := by omega
    iterate 3 refine mw_go rfl rfl ?_
    refine mw_ifT ((nI_leI (by omega) (by omega)).mpr (by omega)) ?_
    exact K
  | succ q ih =>
    intro j hj
    have next : ∀ b, b = agn (gt' t x ps) (gt' t x ps k) (j + 1) → mx_W (mx_Call mx_prog (d + 4)) (mx_nth cd_M_arms) (54, [some (.inr (.inr (some m))), some (.inl (nI n)), some (.inl g), some (.inl (nI x)), some (.inl (nI acc)), some (.inl (nI k)), some (.inl (nI (gt' t x ps k))), some (.inl (bI (agn (gt' t x ps) (gt' t x ps k) j))), some (.inl (nI j))], [.inl (bI b)], h) Q := by
      intro b hb
      rw [hb]
      iterate 3 refine mw_go rfl rfl ?_
      show mx_W _ _ (34, [some (.inr (.inr (some m))), some (.inl (nI n)), some (.inl g), some (.inl (nI x)), some (.inl (nI acc)), some (.inl (nI k)), some (.inl (nI (gt' t x ps k))), some (.inl (bI (agn (gt' t x ps) (gt' t x ps k) (j + 1)))), some (.inl (nI j + 1))], [], h) _
      rw [nI_1]
      exact ih (j + 1) (by omega)
    have yes : agn (gt' t x ps) (gt' t x ps k) (j + 1) = true → mx_W (mx_Call mx_prog (d + 4)) (mx_nth cd_M_arms) (51, [some (.inr (.inr (some m))), some (.inl (nI n)), some (.inl g), some (.inl (nI x)), some (.inl (nI acc)), some (.inl (nI k)), some (.inl (nI (gt' t x ps k))), some (.inl (bI (agn (gt' t x ps) (gt' t x ps k) j))), some (.inl (nI j))], [], h) Q := by
      intro e
      iterate 2 refine mw_go rfl rfl ?_
      exact next true e.symm
    iterate 3 refine mw_go rfl rfl ?_
    refine mw_ifF (fun z => absurd ((nI_leI (by omega) (by omega)).mp z) (by omega)) ?_
    iterate 2 refine mw_go rfl rfl ?_
    refine mw_ifP (e_bI _) (fun h0 => ?_) (fun h0 => yes ?_)
    · obtain ⟨p, hp⟩ : ∃ p, ps[j]? = some p := ⟨ps[j]'(by omega), List.getElem?_eq_getElem (by omega)⟩
      obtain ⟨c, hc, hp1, hc1, hc2⟩ := tag_at T H hps hp
      refine mw_go rfl rfl ?_
      refine mv_gR rfl rfl S.1 (S.r 9 rfl) ?_
      iterate 2 refine mw_go rfl rfl ?_
      refine mv_gR rfl rfl S.1 (S.r 25 rfl) ?_
      refine mw_go rfl rfl ?_
      refine mv_ial (x := nI p) rfl rfl (S.a 25 rfl) rfl (show j < 6000 by omega) (by decide) (by have := hP j p hp; rwa [Nat.zero_add] at this) ?_
      refine mw_go rfl rfl ?_
      refine mw_cv (M_taking_ok (d + 3) S T H hp1 hx) rfl rfl rfl (Nat.le_of_ble_eq_true rfl) ⟨_, rfl, S.1⟩ ?_
      rw [hc]
      refine mv_ial rfl rfl (S.a 9 rfl) (show iO (some c) = nI c from rfl) hc1 (by decide) hc2 ?_
      iterate 2 refine mw_go rfl rfl ?_
      have g1 := gt_lt T hps (show j < ps.length by omega)
      have g2 := gt_lt T hps hk
      refine mw_ifP (nI_eq (by omega) (by omega)) (fun e => yes ?_) (fun e => ?_)
      · rw [agn, decide_eq_true e]; simp
      · refine mw_go rfl rfl ?_
        exact next false (by rw [agn, decide_eq_false e, h0]; rfl)
    · have h0 : agn (gt' t x ps) (gt' t x ps k) j = true := by
        cases hh : agn (gt' t x ps) (gt' t x ps k) j with
        | true => rfl
        | false => exact absurd hh h0
      rw [agn, h0]; rfl
theorem M_arms_loop {d : Nat} {Q : Option mx_V → mx_H → Prop} {g : Int32} (S : mS m h) (T : tOk t) (H : mT m t h) (hn : n < tN t) (hps' : tC t n = ps) (hps : ∀ p ∈ ps, p < tN t ∧ (tk t p x).isSome = true) (hP : PA m h 0 ps) (hl : ps.length ≤ 250) (hx : x < 60) : ∀ (q k acc : Nat) (z6 z7 z8 : Option mx_V), k + q = ps.length → Q (some (.inl (nI (acc + arT t x ps g k q)))) h →
    mx_W (mx_Call mx_prog (d + 4)) (mx_nth cd_M_arms) (13, [some (.inr (.inr (some m))), some (.inl (nI n)), some (.inl g), some (.inl (nI x)), some (.inl (nI acc)), some (.inl (nI k)), z6, z7, z8], [], h) Q := by
  have hN := T.2.1
  have hc : hpI h (m + 3) n = nI ps.length := by rw [(H.2 n hn).c, hps']
  intro q
  induction q with
  | zero =>
    intro k acc z6 z7 z8 hk hq
    iterate 2 refine mw_go rfl rfl ?_
    refine mv_gR rfl rfl S.1 (S.r 4 rfl) ?_
    refine mw_go rfl rfl ?_
    refine mv_ial rfl rfl (S.a 4 rfl) rfl (show n < 250 by omega) (by decide) hc ?_
    refine mw_go rfl rfl ?_
    refine mw_ifT ((nI_leI (by omega) (by omega)).mpr (by omega)) ?_
    refine mw_go rfl rfl ?_
    exact mw_r0 rfl hq
  | succ q ih =>
    intro k acc z6 z7 z8 hk hq
    obtain ⟨p, hp⟩ : ∃ p, ps[k]? = some p := ⟨ps[k]'(by omega), List.getElem?_eq_getElem (by omega)⟩
    obtain ⟨c, hcc, hp1, hc1, hc2⟩ := tag_at T H hps hp
    rw [arT, ← Nat.add_assoc] at hq
    iterate 2 refine mw_go rfl rfl ?_
    refine mv_gR rfl rfl S.1 (S.r 4 rfl) ?_
    refine mw_go rfl rfl ?_
    refine mv_ial rfl rfl (S.a 4 rfl) rfl (show n < 250 by omega) (by decide) hc ?_
    refine mw_go rfl rfl ?_
    refine mw_ifF (fun z => absurd ((nI_leI (by omega) (by omega)).mp z) (by omega)) ?_
    refine mw_go rfl rfl ?_
    refine mv_gR rfl rfl S.1 (S.r 9 rfl) ?_
    iterate 2 refine mw_go rfl rfl ?_
    refine mv_gR rfl rfl S.1 (S.r 25 rfl) ?_
    refine mw_go rfl rfl ?_
    refine mv_ial (x := nI p) rfl rfl (S.a 25 rfl) rfl (show k < 6000 by omega) (by decide) (by have := hP k p hp; rwa [Nat.zero_add] at this) ?_
    refine mw_go rfl rfl ?_
    refine mw_cv (M_taking_ok (d + 3) S T H hp1 hx) rfl rfl rfl (Nat.le_of_ble_eq_true rfl) ⟨_, rfl, S.1⟩ ?_
    rw [hcc]
    refine mv_ial rfl rfl (S.a 9 rfl) (show iO (some c) = nI c from rfl) hc1 (by decide) hc2 ?_
    iterate 5 refine mw_go rfl rfl ?_
    refine M_arms_in S T H hps hP hl hx (show k < ps.length by omega) ?_ k 0 (by omega)
    have fin : ∀ v, v = arO t x ps g k → mx_W (mx_Call mx_prog (d + 4)) (mx_nth cd_M_arms) (73, [some (.inr (.inr (some m))), some (.inl (nI n)), some (.inl g), some (.inl (nI x)), some (.inl (nI acc)), some (.inl (nI k)), some (.inl (nI (gt' t x ps k))), some (.inl (bI (agn (gt' t x ps) (gt' t x ps k) k))), some (.inl (nI k))], [.inl (nI v), .inl (nI acc)], h) Q := by
      intro v hv
      rw [hv]
      refine mw_go rfl rfl ?_
      rw [nI_add]
      iterate 3 refine mw_go rfl rfl ?_
      show mx_W _ _ (13, [some (.inr (.inr (some m))), some (.inl (nI n)), some (.inl g), some (.inl (nI x)), some (.inl (nI (acc + arO t x ps g k))), some (.inl (nI k + 1)), some (.inl (nI (gt' t x ps k))), some (.inl (bI (agn (gt' t x ps) (gt' t x ps k) k))), some (.inl (nI k))], [], h) _
      rw [nI_1]
      exact ih (k + 1) _ _ _ _ (by omega) hq
    iterate 4 refine mw_go rfl rfl ?_
    refine mw_if _ (fun hg => ?_) (fun hg => ?_)
    · iterate 2 refine mw_go rfl rfl ?_
      refine mw_ifP (e_bI _) (fun h0 => ?_) (fun h0 => ?_)
      · iterate 2 refine mw_go rfl rfl ?_
        exact fin 1 (by unfold arO; rw [if_pos hg, h0]; rfl)
      · iterate 2 refine mw_go rfl rfl ?_
        have h0 : agn (gt' t x ps) (gt' t x ps k) k = true := by
          cases hh : agn (gt' t x ps) (gt' t x ps k) k with
          | true => rfl
          | false => exact absurd hh h0
        exact fin 0 (by unfold arO; rw [if_pos hg, h0]; rfl)
    · iterate 3 refine mw_go rfl rfl ?_
      refine mw_if _ (fun he => ?_) (fun he => ?_)
      · iterate 2 refine mw_go rfl rfl ?_
        exact fin 1 (by unfold arO; rw [if_neg hg, if_pos he])
      · refine mw_go rfl rfl ?_
        exact fin 0 (by unfold arO; rw [if_neg hg, if_neg he])
theorem M_arms_ok (d : Nat) (T : tOk t) (y g : Int32) (I : mJ m t w r h) : ∃ h', cl (d + 5) j_M_arms [.inr (.inr (some m)), .inl y, .inl g] h (some (.inl (rA t y g))) h' ∧ mF m h h' ∧ mJ m t w r h' := by
  have hN := T.2.1
  have walk : mx_W (mx_Call mx_prog (d + 4)) (mx_nth cd_M_arms) (0, [some (.inr (.inr (some m))), some (.inl y), some (.inl g), none, none, none, none, none, none], [], h) (fun r1 h' => r1 = some (.inl (rA t y g)) ∧ mF m h h' ∧ mJ m t w r h') := by
    iterate 2 refine mw_go rfl rfl ?_
    obtain ⟨h1, k1, F1, I1, P1⟩ := M_switches_ok d T y I
    refine mw_cv k1 rfl rfl rfl (Nat.le_of_ble_eq_true rfl) ⟨_, rfl, I.1.1⟩ ?_
    iterate 4 refine mw_go rfl rfl ?_
    have no : rA t y g = 0 → ∀ z, mx_W (mx_Call mx_prog (d + 4)) (mx_nth cd_M_arms) (7, [some (.inr (.inr (some m))), some (.inl y), some (.inl g), z, none, none, none, none, none], [], h1) (fun r1 h' => r1 = some (.inl (rA t y g)) ∧ mF m h h' ∧ mJ m t w r h') := by
      intro e z
      refine mw_go rfl rfl ?_
      exact mw_r0 rfl ⟨by rw [e], F1, I1⟩
    rcases nd_cs t y with ⟨e, -⟩ | ⟨i, hi, hi2, rfl, e⟩
    · have ea : sA' t y = -1 := by unfold sA'; rw [e]
      rw [ea]
      refine mw_ifT rfl ?_
      exact no (by unfold rA; rw [e]) _
    · have Ti := T.at hi
      by_cases h1' : tS t i = 1
      · have ea : sA' t (nI i) = iO (swV t i) := by unfold sA'; rw [e]; dsimp only; rw [if_pos h1']
        have er : rA t (nI i) g = nI (swN t i g) := by unfold rA; rw [e]; dsimp only; rw [if_pos h1']
        have P1 := P1 i e h1'
        cases hs : fsw t 0 (tC t i) with
        | none =>
          have ev : swV t i = none := by unfold swV; rw [hs]; rfl
          rw [ea, ev]
          refine mw_ifT rfl ?_
          refine no ?_ _
          rw [er]
          unfold swN swG
          rw [hs]
          dsimp only
          split <;> rfl
        | some q =>
          obtain ⟨x, v⟩ := q
          have ev : swV t i = some x := by unfold swV; rw [hs]; rfl
          have hps : ∀ p ∈ tC t i, p < tN t := fun p hp => (Ti.2.2.1 p hp).2.1
          obtain ⟨f1, f2, f3, f4, f5, f6⟩ := fsw_spec T hps hs
          have hlen := nodup_len (tN t) (tC t i) Ti.2.2.2.1 hps
          rw [ea, ev]
          refine mw_ifF (show ¬ nI x = -1 from nI_m1 (by omega)) ?_
          iterate 4 refine mw_go rfl rfl ?_
          refine M_arms_loop I1.1 T I1.2.1 hi rfl (fun p hp => ⟨hps p hp, f4 p hp⟩) P1 (by omega) f2 (tC t i).length 0 0 none none none (by omega) ⟨?_, F1, I1⟩
          rw [er, Nat.zero_add, arT_swN T hi g hs]
      · have ea : sA' t (nI i) = -1 := by unfold sA'; rw [e]; dsimp only; rw [if_neg h1']
        rw [ea]
        refine mw_ifT rfl ?_
        exact no (by unfold rA; rw [e]; dsimp only; rw [if_neg h1']) _
  obtain ⟨r1, h', hcl, rfl, K'⟩ := mc_of (prog := mx_prog) (j := j_M_arms) (as := [.inr (.inr (some m)), .inl y, .inl g]) (Nat.le_of_ble_eq_true rfl) walk
  exact ⟨h', hcl, K'⟩
end
