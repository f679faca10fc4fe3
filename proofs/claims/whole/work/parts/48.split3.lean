/-! Splitter: split. -/
section
variable {na : Nat → Nat} {t : tr} {κ : Nat → Nat} {s tp oa a m x : Nat} {w : Int64} {ps : List Nat} {h0 : mx_H} {aa0 : Nat → Nat} {M0 : Nat}
theorem S_split_loop {d : Nat} {Q : Option mx_V → mx_H → Prop} (T : tOk t) (hinj : ∀ i j, i < tN t → j < tN t → na i = na j → i = j) (hps : ∀ p ∈ ps, p < tN t) (ha0 : ∀ j, m ≤ j → j < M0 → a ≠ aa0 j) (hx : x < 60) (ka : hpK h0 a = some (.inl 0)) (kx : hpI h0 a 6 = nI x) (kw : hpL h0 a 2 = w) :
    ∀ (l : List Nat) (r : Option Nat) (G : List (Nat × List Nat)) (h : mx_H) (aa : Nat → Nat) (M : Nat) (z3 : Option Nat) (z5 z6 : Option mx_V), spI na t κ s tp oa a m (w ||| bL x) ps h0 aa0 M0 h aa M G → gD G l ps → Chn na h 13 r l → (∀ p ∈ l, (tk t p x).isSome = true) → m + (grL t x G l).length ≤ 250 →
      (∀ (h' : mx_H) (aa' : Nat → Nat) (M' : Nat) (y3 : Option Nat) (y5 y6 : Option mx_V), spI na t κ s tp oa a m (w ||| bL x) ps h0 aa0 M0 h' aa' M' (grL t x G l) → gD (grL t x G l) [] ps → mx_W (mx_Call mx_prog (d + 3)) (mx_nth cd_S_split) (44, [some (.inr (.inr (some s))), some (.inr (.inr (some a))), some (.inl (nI m)), some (.inr (.inr y3)), some (.inr (.inr none)), y5, y6], [], h') Q) →
      mx_W (mx_Call mx_prog (d + 3)) (mx_nth cd_S_split) (15, [some (.inr (.inr (some s))), some (.inr (.inr (some a))), some (.inl (nI m)), some (.inr (.inr z3)), some (.inr (.inr r)), z5, z6], [], h) Q := by
  intro l
  induction l with
  | nil =>
    intro r G h aa M z3 z5 z6 I D hch hs hB k
    have hr : r = none := hch
    subst hr
    iterate 2 refine mw_go rfl rfl ?_
    refine mw_ifT rfl ?_
    exact k h aa M z3 z5 z6 I D
  | cons p l ih =>
    intro r G h aa M z3 z5 z6 I D hch hs hB k
    obtain ⟨rfl, hch⟩ := hch
    obtain ⟨P, i2, i3, i4, i5, i6, H, i8, i9, i10, i12, i11⟩ := id I
    obtain ⟨p1, p2, p3, p4, p5, p6, p7, p8, p9⟩ := id P
    obtain ⟨d1, d2, d3, d4, d5⟩ := id D
    have hp := d2 p List.mem_cons_self
    have hpN := hps p hp
    have Hp := H p hpN
    obtain ⟨c, hc⟩ := Option.isSome_iff_exists.mp (hs p List.mem_cons_self)
    obtain ⟨g1, g2, g3, g4⟩ := tk_spec T hpN hc
    have Hc := H c g2
    have hG : tG t c < 100 := ((T.at g2).2.2.2.2.2.2.2.2.1 g3).2.1
    have eG : tkg t p x = tG t c := by rw [tkg, hc]
    have aK0 : hpK h0 a ≠ none := by rw [ka]; simp
    obtain ⟨f1, f2⟩ := i11 a aK0
    have kah : hpK h a = some (.inl 0) := by rw [f1]; exact ka
    have has : a ≠ s := fun e => by rw [e, p1] at kah; cases kah
    have hao : a ≠ oa := fun e => by rw [e, p5] at kah; cases kah
    have han : ∀ q, q < tN t → a ≠ na q := fun q hq e => by have := (H q hq).K; rw [← e, kah] at this; cases this
    have hread : ∀ k, hpI h a k = hpI h0 a k ∧ hpL h a k = hpL h0 a k ∧ hpR h a k = hpR h0 a k := fun k => f2 k (fun ⟨j, j1, j2, e⟩ => ha0 j j1 j2 e) (fun e => has e.1) hao (fun ⟨_, q, hq, e⟩ => han q (hps q hq) e)
    have kxh : hpI h a 6 = nI x := by rw [(hread 6).1]; exact kx
    have kwh : hpL h a 2 = w := by rw [(hread 2).2.1]; exact kw
    rw [grL] at hB k
    have hln := grL_len (t := t) (x := x) l (gIn G (tkg t p x) p)
    have hpG : ∀ e ∈ G, p ∉ e.2 := fun e he hpe => (d1 e he p hpe).2 List.mem_cons_self
    have D' := gD_step D (tkg_lt (x := x) T hpN)
    have hl' : ∀ q ∈ l, q ∈ ps ∧ q ≠ p ∧ ∀ e ∈ G, q ∉ e.2 := fun q hq => ⟨d2 q (List.mem_cons_of_mem _ hq), fun e => (List.nodup_cons.mp d3).1 (e ▸ hq), fun e he hqe => (d1 e he q hqe).2 (List.mem_cons_of_mem _ hq)⟩
    -- the walk to armFor
    iterate 2 refine mw_go rfl rfl ?_
    refine mw_ifF (by simp) ?_
    refine mw_go rfl rfl ?_
    refine mw_gR rfl rfl Hp.K ?_
    iterate 3 refine mw_go rfl rfl ?_
    refine mv_gI rfl rfl kah kxh ?_
    have hcall := N_takeOf_ok (d + 2) T H hpN hx
    rw [g1] at hcall
    refine mw_cv hcall rfl rfl rfl (Nat.le_of_ble_eq_true rfl) ⟨_, rfl, Hp.K⟩ ?_
    iterate 3 refine mw_go rfl rfl ?_
    refine mw_ifF (by simp) ?_
    iterate 2 refine mw_go rfl rfl ?_
    refine mv_gI rfl rfl Hc.K (Hc.G5 g3) ?_
    iterate 2 refine mw_go rfl rfl ?_
    -- the rest, given the ARM's place
    have fin : ∀ (h1 : mx_H) (aa1 : Nat → Nat) (M1 : Nat) (G1 : List (Nat × List Nat)) (k1 : Nat) (qs : List Nat), spI na t κ s tp oa a m (w ||| bL x) ps h0 aa0 M0 h1 aa1 M1 G1 → G1[k1]? = some (tkg t p x, qs) → gD G1 (p :: l) ps → (∀ e ∈ G1, p ∉ e.2) → (∀ q ∈ l, q ∈ ps ∧ q ≠ p ∧ ∀ e ∈ G1, q ∉ e.2) → Chn na h1 13 (hpR h (na p) 13) l → G1.set k1 (tkg t p x, qs ++ [p]) = gIn G (tkg t p x) p →
        mx_W (mx_Call mx_prog (d + 3)) (mx_nth cd_S_split) (35, [some (.inr (.inr (some s))), some (.inr (.inr (some a))), some (.inl (nI m)), some (.inr (.inr (hpR h (na p) 13))), some (.inr (.inr (some (na p)))), some (.inr (.inr (some (na c)))), z6], [.inr (.inr (some (aa1 (m + k1))))], h1) Q := by
      intro h1 aa1 M1 G1 k1 qs I1 hk1 D1 hp1 hl1 hch1 hset
      have A1 := I1.2.2.2.2.2.2.2.1 k1 _ hk1
      have H1 := I1.2.2.2.2.2.2.1
      have hlast : ∀ q, hpR h1 (aa1 (m + k1)) 4 = some q → hpK h1 q = some (.inl 1) := by
        intro q hq
        rw [A1.2.2.2.2.2.2.2.2.2.2.2] at hq
        cases hz : qs.getLast? with
        | none => rw [hz] at hq; cases hq
        | some z =>
          rw [hz] at hq
          cases hq
          exact (H1 z (hps z (D1.1 _ (List.mem_of_getElem? hk1) z (List.mem_of_getLast? hz)).1)).K
      iterate 3 refine mw_go rfl rfl ?_
      refine mw_ifF (by simp) ?_
      iterate 2 refine mw_go rfl rfl ?_
      refine mw_cn (A_enlist_ok (d + 2) h1 (a := aa1 (m + k1)) (pa := na p) A1.1 (H1 p hpN).K hlast) rfl rfl rfl (Nat.le_of_ble_eq_true rfl) ⟨_, rfl, A1.1⟩ ?_
      iterate 3 refine mw_go rfl rfl ?_
      obtain ⟨I2, c2⟩ := spI_enlist T hinj hps ha0 I1 hk1 D1 hp hp1
      rw [hset] at I2
      exact ih _ _ _ aa1 M1 _ _ _ I2 D' (c2 _ _ hch1 hl1) (fun q hq => hs q (List.mem_cons_of_mem _ hq)) hB k
    rcases gIn_cases (tkg t p x) p G with ⟨k1, qs, e1, e2, e3⟩ | ⟨e1, e2⟩
    · have hk1l : k1 < G.length := (List.getElem?_eq_some_iff.mp e1).1
      have hof : ofS (fun k => hpI h (aa k) 1) (nI (tG t c)) m (m + G.length - m) = some (m + k1) := by
        refine ofS_at (by omega) ?_ (fun j hj => ?_)
        · rw [(i8 k1 _ e1).2.2.1, eG]
        · obtain ⟨e, he⟩ : ∃ e, G[j]? = some e := ⟨G[j], List.getElem?_eq_getElem (by omega)⟩
          rw [(i8 j e he).2.2.1]
          have := e2 j e hj he
          rw [eG] at this
          exact nI_ne (by have := (d4 e (List.mem_of_getElem? he)).2; omega) (by omega) this
      refine mw_cv (S_armFor_found d P i3 i4 (nI (tG t c)) (f := m) (by omega) (some a) hof) rfl rfl rfl (Nat.le_of_ble_eq_true rfl) ⟨_, rfl, p1⟩ ?_
      exact fin h aa M G k1 qs I e1 D hpG hl' hch e3.symm
    · have hof : ofS (fun k => hpI h (aa k) 1) (nI (tG t c)) m (m + G.length - m) = none := by
        refine ofS_no (fun j hj => ?_)
        obtain ⟨e, he⟩ : ∃ e, G[j]? = some e := ⟨G[j], List.getElem?_eq_getElem (by omega)⟩
        rw [(i8 j e he).2.2.1]
        have := e1 e (List.mem_of_getElem? he)
        rw [eG] at this
        exact nI_ne (by have := (d4 e (List.mem_of_getElem? he)).2; omega) (by omega) this
      have hlen : m + G.length < 250 := by rw [e2, List.length_append] at hln; simp at hln; rw [e2] at hB; omega
      have hbm : ∀ k, m + G.length ≤ k → k < M → a ≠ aa k := by
        intro k h1 h2 e
        by_cases hlt : k < M0
        · exact ha0 k (by omega) hlt (by rw [e]; exact i6 k hlt)
        · exact aK0 (by rw [e]; exact i12 k (by omega) h2)
      obtain ⟨h1, aa1, M1, hcl, N⟩ := S_armFor_new na d P i2 i3 i4 hlen (nI (tG t c)) (f := m) (by omega) kah kxh hbm hof
      rw [kwh] at N
      refine mw_cv hcl rfl rfl rfl (Nat.le_of_ble_eq_true rfl) ⟨_, rfl, p1⟩ ?_
      rw [← eG] at N
      obtain ⟨I1, c1⟩ := spI_new T hps D I N
      have D1 : gD (G ++ [(tkg t p x, [])]) (p :: l) ps := by
        refine ⟨?_, d2, d3, ?_, ?_⟩
        · intro e he q hq
          rcases List.mem_append.mp he with z | z
          · exact d1 e z q hq
          · rw [List.mem_singleton.mp z] at hq; cases hq
        · intro e he
          rcases List.mem_append.mp he with z | z
          · exact d4 e z
          · rw [List.mem_singleton.mp z]; exact ⟨List.nodup_nil, tkg_lt T hpN⟩
        · intro i j ei ej hi hj hij q hq hq2
          by_cases f1 : i < G.length
          · rw [List.getElem?_append_left f1] at hi
            by_cases f2 : j < G.length
            · rw [List.getElem?_append_left f2] at hj
              exact d5 i j ei ej hi hj hij q hq hq2
            · rw [List.getElem?_append_right (by omega)] at hj
              have hz : j - G.length < 1 := (List.getElem?_eq_some_iff.mp hj).1
              rw [show j - G.length = 0 by omega] at hj
              cases hj; cases hq2
          · rw [List.getElem?_append_right (by omega)] at hi
            have hz : i - G.length < 1 := (List.getElem?_eq_some_iff.mp hi).1
            rw [show i - G.length = 0 by omega] at hi
            cases hi; cases hq
      refine fin h1 aa1 M1 _ G.length [] I1 (by simp) D1 ?_ ?_ (c1 _ _ hch (fun q hq => hps q (hl' q hq).1)) (by rw [e2]; simp)
      · intro e he hpe
        rcases List.mem_append.mp he with z | z
        · exact hpG e z hpe
        · rw [List.mem_singleton.mp z] at hpe; cases hpe
      · intro q hq
        refine ⟨(hl' q hq).1, (hl' q hq).2.1, fun e he hqe => ?_⟩
        rcases List.mem_append.mp he with z | z
        · exact (hl' q hq).2.2 e z hqe
        · rw [List.mem_singleton.mp z] at hqe; cases hqe
theorem fsH_ne {h : mx_H} {a b : Nat} (o : Option (Nat × Nat)) (hb : b ≠ a) (k : Nat) : hpI (fsH h a o) b k = hpI h b k := by
  cases o with
  | none => rfl
  | some q => obtain ⟨x, v⟩ := q; simp [fsH, hpI_wI, hb]
theorem fsH_K {h : mx_H} {a : Nat} (o : Option (Nat × Nat)) (b : Nat) : hpK (fsH h a o) b = hpK h b := by cases o <;> rfl
theorem fsH_L {h : mx_H} {a : Nat} (o : Option (Nat × Nat)) (b k : Nat) : hpL (fsH h a o) b k = hpL h b k := by cases o <;> rfl
theorem fsH_R {h : mx_H} {a : Nat} (o : Option (Nat × Nat)) (b k : Nat) : hpR (fsH h a o) b k = hpR h b k := by cases o <;> rfl
theorem fsH_Z {h : mx_H} {a : Nat} (o : Option (Nat × Nat)) : hpZ (fsH h a o) = hpZ h ∧ hpU (fsH h a o) = hpU h := by cases o <;> exact ⟨rfl, rfl⟩
theorem gD_start (hn : ps.Nodup) : gD [] ps ps := ⟨fun e h => (by cases h), fun _ h => h, hn, fun e h => (by cases h), fun i j ei ej hi => (by simp at hi)⟩
/-- split where there is no SWITCH -/
theorem S_split_none {h : mx_H} (d : Nat) (T : tOk t) (H : nAll na t κ h) (p1 : hpK h s = some (.inl 2)) (ka : hpK h a = some (.inl 0)) (kv : hpI h a 6 = -1) (ksz : hpI h a 5 = nI ps.length) (hL : ps.length < 2 ^ 31) (hch : Chn na h 13 (hpR h a 3) ps) (hps : ∀ p ∈ ps, p < tN t ∧ hpL h (na p) 14 = thm t p) (hf : fsw t (hpL h a 2) ps = none) : cl (d + 4) j_S_split [.inr (.inr (some s)), .inr (.inr (some a))] h none h := by
  refine cl_of (Nat.le_of_ble_eq_true rfl) ?_
  show mx_W _ (mx_nth cd_S_split) (0, [some (.inr (.inr (some s))), some (.inr (.inr (some a))), none, none, none, none, none], [], h) _
  refine mw_go rfl rfl ?_
  have hcall := A_findSwitch_ok d T H ka kv ksz hL hch hps
  rw [hf] at hcall
  refine mw_cn hcall rfl rfl rfl (Nat.le_of_ble_eq_true rfl) ⟨_, rfl, ka⟩ ?_
  refine mw_go rfl rfl ?_
  refine mv_gI rfl rfl ka kv ?_
  iterate 2 refine mw_go rfl rfl ?_
  refine mw_ifT rfl ?_
  exact mw_r4 rfl ⟨rfl, rfl⟩
/-- split of a SWITCH -/
theorem S_split_some {h : mx_H} {aa : Nat → Nat} {M v : Nat} (d : Nat) (T : tOk t) (H : nAll na t κ h) (hinj : ∀ i j, i < tN t → j < tN t → na i = na j → i = j) (P : sP h s tp oa aa M) (hok : hOk h) (hm : hpI h s 2 = nI m) (hmM : m ≤ M) (ka : hpK h a = some (.inl 0)) (kv : hpI h a 6 = -1) (ksz : hpI h a 5 = nI ps.length) (hL : ps.length < 2 ^ 31) (hch : Chn na h 13 (hpR h a 3) ps) (hps : ∀ p ∈ ps, p < tN t ∧ hpL h (na p) 14 = thm t p) (hn : ps.Nodup) (ha0 : ∀ j, m ≤ j → j < M → a ≠ aa j) (hf : fsw t (hpL h a 2) ps = some (x, v)) (hB : m + (grp t x ps).length ≤ 250) :
    ∃ h2 aa' M', cl (d + 4) j_S_split [.inr (.inr (some s)), .inr (.inr (some a))] h none (hwI h2 a 8 (nI (grp t x ps).length)) ∧ spI na t κ s tp oa a m (hpL h a 2 ||| bL x) ps (fsH h a (some (x, v))) aa M h2 aa' M' (grp t x ps) ∧ gD (grp t x ps) [] ps := by
  obtain ⟨p1, p2, p3, p4, p5, p6, p7, p8, p9⟩ := id P
  have hps1 : ∀ p ∈ ps, p < tN t := fun p hp => (hps p hp).1
  obtain ⟨s1, s2, s3, s4, s5, s6⟩ := fsw_spec T hps1 hf
  have has : a ≠ s := fun e => by rw [e, p1] at ka; cases ka
  have hao : a ≠ oa := fun e => by rw [e, p5] at ka; cases ka
  have han : ∀ q, q < tN t → na q ≠ a := fun q hq e => by have := (H q hq).K; rw [e, ka] at this; cases this
  obtain ⟨h1, eh1⟩ : ∃ h1, h1 = fsH h a (some (x, v)) := ⟨_, rfl⟩
  have kx1 : hpI h1 a 6 = nI x := by rw [eh1]; simp [fsH, hpI_wI]
  have K1 : ∀ b, hpK h1 b = hpK h b := fun b => by rw [eh1]; exact fsH_K _ b
  have L1 : ∀ b k, hpL h1 b k = hpL h b k := fun b k => by rw [eh1]; exact fsH_L _ b k
  have R1 : ∀ b k, hpR h1 b k = hpR h b k := fun b k => by rw [eh1]; exact fsH_R _ b k
  have I1 : ∀ b k, b ≠ a → hpI h1 b k = hpI h b k := fun b k hb => by rw [eh1]; exact fsH_ne _ hb k
  have Z1 : hpZ h1 = hpZ h ∧ hpU h1 = hpU h := by rw [eh1]; exact fsH_Z _
  have P1 : sP h1 s tp oa aa M := ⟨by rw [K1]; exact p1, by rw [R1]; exact p2, by rw [R1]; exact p3, by rw [K1]; exact p4, by rw [K1]; exact p5, p6, fun k hk => ⟨by rw [R1]; exact (p7 k hk).1, by rw [K1]; exact (p7 k hk).2.1, (p7 k hk).2.2⟩, p8, fun k h1 h2 => by rw [R1]; exact p9 k h1 h2⟩
  have H1 : nAll na t κ h1 := nAll_congr H (fun q hq => ⟨K1 _, fun k => I1 _ k (han q hq), L1 _ _, fun k _ => R1 _ _⟩) T
  have hstart : spI na t κ s tp oa a m (hpL h a 2 ||| bL x) ps h1 aa M h1 aa M [] := by
    refine ⟨P1, fun c hc => ?_, ?_, hmM, Nat.le_refl _, fun _ _ => rfl, H1, fun k e he => by simp at he, by omega, by omega, fun j h1 h2 => by omega, fun c hc => ⟨rfl, fun _ _ _ _ _ => ⟨rfl, rfl, rfl⟩⟩⟩
    · rw [Z1.1] at hc; rw [K1]; exact hok c hc
    · rw [I1 s 2 (Ne.symm has)]; exact hm
  -- the walk gives a run whose end is told by what holds there
  have walk : mx_W (mx_Call mx_prog (d + 3)) (mx_nth cd_S_split) (0, [some (.inr (.inr (some s))), some (.inr (.inr (some a))), none, none, none, none, none], [], h) (fun r1 hh => r1 = none ∧ ∃ h2 aa' M', hh = hwI h2 a 8 (nI (grp t x ps).length) ∧ spI na t κ s tp oa a m (hpL h a 2 ||| bL x) ps h1 aa M h2 aa' M' (grp t x ps) ∧ gD (grp t x ps) [] ps) := by
    refine mw_go rfl rfl ?_
    have hcall := A_findSwitch_ok d T H ka kv ksz hL hch hps
    rw [hf, ← eh1] at hcall
    refine mw_cn hcall rfl rfl rfl (Nat.le_of_ble_eq_true rfl) ⟨_, rfl, ka⟩ ?_
    have ka1 : hpK h1 a = some (.inl 0) := by rw [K1]; exact ka
    have p11 : hpK h1 s = some (.inl 2) := by rw [K1]; exact p1
    have hm1 : hpI h1 s 2 = nI m := by rw [I1 s 2 (Ne.symm has)]; exact hm
    refine mw_go rfl rfl ?_
    refine mv_gI rfl rfl ka1 kx1 ?_
    iterate 2 refine mw_go rfl rfl ?_
    refine mw_ifF (nI_m1 (by omega)) ?_
    refine mw_go rfl rfl ?_
    refine mv_gI rfl rfl p11 hm1 ?_
    iterate 4 refine mw_go rfl rfl ?_
    refine mw_gR rfl rfl ka1 ?_
    refine mw_go rfl rfl ?_
    refine S_split_loop T hinj hps1 ha0 s2 ka1 kx1 (L1 a 2) ps _ [] h1 aa M _ _ _ hstart (gD_start hn) (by rw [R1]; exact Chn_congr (fun c _ => R1 _ _) hch) s4 hB ?_
    intro h' aa' M' y3 y5 y6 I' D'
    have q1 : hpK h' s = some (.inl 2) := I'.1.1
    have ka' : hpK h' a = some (.inl 0) := by rw [(I'.2.2.2.2.2.2.2.2.2.2.2 a (by rw [ka1]; simp)).1]; exact ka1
    iterate 2 refine mw_go rfl rfl ?_
    refine mv_gI rfl rfl q1 I'.2.2.1 ?_
    iterate 2 refine mw_go rfl rfl ?_
    rw [pk_sub (by omega), show m + (grL t x [] ps).length - m = (grp t x ps).length by rw [grp]; omega]
    refine mw_pI rfl rfl ka' ?_
    exact mw_r4 rfl ⟨rfl, h', aa', M', rfl, I', D'⟩
  obtain ⟨r, hh, hcl, rfl, h2, aa', M', rfl, I', D'⟩ := mc_of (prog := mx_prog) (j := j_S_split) (as := [.inr (.inr (some s)), .inr (.inr (some a))]) (Nat.le_of_ble_eq_true rfl) walk
  exact ⟨h2, aa', M', hcl, by rw [← eh1]; exact I', D'⟩
end
