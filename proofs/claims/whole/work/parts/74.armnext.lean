/-! The reference's armNext. -/
/-- the next place from k on, of n, whose TAG stands at no place before it -/
def fnF (g : Nat → Nat) (k n : Nat) : Nat := match n with
  | 0 => k
  | n + 1 => if ifL g (g k) 0 k = true then k else fnF g (k + 1) n
theorem fnF_le (g : Nat → Nat) : ∀ (n k : Nat), k ≤ fnF g k n ∧ fnF g k n ≤ k + n := by
  intro n
  induction n with
  | zero => intro k; exact ⟨Nat.le_refl _, Nat.le_refl _⟩
  | succ n ih =>
    intro k
    rw [fnF]
    split
    · omega
    · have := ih (k + 1); omega
theorem nI_sub (b g : Nat) : nI (b + g) - nI b = nI g := by
  rw [← nI_add, Int32.add_comm, Int32.add_sub_cancel]
theorem sr_rf {m : Nat} {h : mx_H} : sr m h h := fun _ => rfl
theorem sr_tr {m : Nat} {h h' h'' : mx_H} (A : sr m h h') (B : sr m h' h'') : sr m h h'' := fun c => (B c).trans (A c)
theorem rS_tr {m : Nat} {h h' h'' : mx_H} (A : rS m h h') (B : rS m h' h'') : rS m h h'' := ⟨B.1.trans A.1, B.2.1.trans A.2.1, B.2.2.trans A.2.2⟩
theorem cF.cfr {m : Nat} {h : mx_H} {f a n x lo hi su : Nat} {w : Int64} (C : cF m h f a n w (nI x) lo hi su) : cfr m h f a n x := ⟨C.2.2.1, C.2.2.2.1, C.2.2.2.2.2.1⟩
section
variable {m : Nat} {t : tr} {f a x hi su : Nat} {ps : List Nat} {w : Int64}
theorem M_armNext_skip {d : Nat} {Q : Option mx_V → mx_H → Prop} (T : tOk t) (hf : f < 600) (hps : ∀ p ∈ ps, p < tN t ∧ (tk t p x).isSome = true) (ha : a + ps.length ≤ 6000) (hx : x < 60) : ∀ (n k : Nat) (h : mx_H), k + n = ps.length → mS m h → mT m t h → cF m h f a ps.length w (nI x) k hi su → PA m h a ps → (∀ h', ev m f 6000 h h' → sr m h h' → rS m h h' → cF m h' f a ps.length w (nI x) (fnF (gt' t x ps) k n) hi su → mx_W (mx_Call mx_prog (d + 3)) (mx_nth cd_M_armNext) (26, [some (.inr (.inr (some m))), some (.inl (nI f)), none, none], [], h') Q) →
    mx_W (mx_Call mx_prog (d + 3)) (mx_nth cd_M_armNext) (0, [some (.inr (.inr (some m))), some (.inl (nI f)), none, none], [], h) Q := by
  intro n
  induction n with
  | zero =>
    intro k h hk S H C hP hQ
    obtain ⟨c1, c2, c3, c4, c5, c6, c7, c8, c9⟩ := C
    refine mw_go rfl rfl ?_
    refine mv_gR rfl rfl S.1 (S.r 21 rfl) ?_
    refine mw_go rfl rfl ?_
    refine mv_ial rfl rfl (S.a 21 rfl) rfl hf (by decide) c7 ?_
    refine mw_go rfl rfl ?_
    refine mv_gR rfl rfl S.1 (S.r 18 rfl) ?_
    refine mw_go rfl rfl ?_
    refine mv_ial rfl rfl (S.a 18 rfl) rfl hf (by decide) c4 ?_
    refine mw_go rfl rfl ?_
    refine mw_ifT ((nI_leI (by omega) (by omega)).mpr (by omega)) ?_
    exact hQ h ev_rf sr_rf ⟨rfl, rfl, rfl⟩ ⟨c1, c2, c3, c4, c5, c6, c7, c8, c9⟩
  | succ n ih =>
    intro k h hk S H C hP hQ
    have C0 := C
    have F := C.cfr
    obtain ⟨c1, c2, c3, c4, c5, c6, c7, c8, c9⟩ := C
    rw [fnF] at hQ
    refine mw_go rfl rfl ?_
    refine mv_gR rfl rfl S.1 (S.r 21 rfl) ?_
    refine mw_go rfl rfl ?_
    refine mv_ial rfl rfl (S.a 21 rfl) rfl hf (by decide) c7 ?_
    refine mw_go rfl rfl ?_
    refine mv_gR rfl rfl S.1 (S.r 18 rfl) ?_
    refine mw_go rfl rfl ?_
    refine mv_ial rfl rfl (S.a 18 rfl) rfl hf (by decide) c4 ?_
    refine mw_go rfl rfl ?_
    refine mw_ifF (fun q => absurd ((nI_leI (by omega) (by omega)).mp q) (by omega)) ?_
    iterate 3 refine mw_go rfl rfl ?_
    refine mv_gR rfl rfl S.1 (S.r 21 rfl) ?_
    refine mw_go rfl rfl ?_
    refine mv_ial rfl rfl (S.a 21 rfl) rfl hf (by decide) c7 ?_
    refine mw_cv (M_isFirst_ok d S T H hf F hps hP ha hx (show k < ps.length by omega)) rfl rfl rfl (Nat.le_of_ble_eq_true rfl) ⟨_, rfl, S.1⟩ ?_
    refine mw_go rfl rfl ?_
    refine mw_ifP (e_bI _) (fun hb => ?_) (fun hb => ?_)
    · rw [if_neg (by rw [hb]; decide)] at hQ
      refine mw_go rfl rfl ?_
      refine mv_gR rfl rfl S.1 (S.r 21 rfl) ?_
      iterate 2 refine mw_go rfl rfl ?_
      refine mv_ial rfl rfl (S.a 21 rfl) rfl hf (by decide) c7 ?_
      iterate 2 refine mw_go rfl rfl ?_
      refine mw_ias rfl rfl (S.a 21 rfl) rfl hf (by decide) ?_
      rw [show nI k + 1 = nI (k + 1) from nI_1 k]
      refine mw_go rfl rfl ?_
      have E1 : ev m f 6000 h (hwI h (m + 18) f (nI (k + 1))) := ev_wI _ (by omega)
      have s1 : sr m h (hwI h (m + 18) f (nI (k + 1))) := fun c => by simp [hpI_wI]
      have r1 : rS m h (hwI h (m + 18) f (nI (k + 1))) := by refine ⟨?_, ?_, ?_⟩ <;> simp [hpI_wI]
      have C1 : cF m (hwI h (m + 18) f (nI (k + 1))) f a ps.length w (nI x) (k + 1) hi su := by
        refine ⟨?_, ?_, ?_, ?_, c5, ?_, ?_, ?_, ?_⟩ <;> simp [hpI_wI, c1, c2, c3, c4, c6, c8, c9]
      refine ih (k + 1) _ (by omega) (E1.S S) (E1.H H) C1 (PA_ev hP E1 ha) (fun h' E' s' r' C' => hQ h' (ev_tr E1 E') (sr_tr s1 s') (rS_tr r1 r') C')
    · have hb : ifL (gt' t x ps) (gt' t x ps k) 0 k = true := by
        cases hh : ifL (gt' t x ps) (gt' t x ps k) 0 k with
        | true => rfl
        | false => exact absurd hh hb
      rw [if_pos hb] at hQ
      exact hQ h ev_rf sr_rf ⟨rfl, rfl, rfl⟩ C0
theorem M_armNext_pop {h : mx_H} {k mo p0 c0 : Nat} {cf : Bool} (d : Nat) (S : mS m h) (T : tOk t) (H : mT m t h) (hf : f < 600) (hF : hpI h m 24 = nI (f + 1)) (hps : ∀ p ∈ ps, p < tN t ∧ (tk t p x).isSome = true) (ha : a + ps.length ≤ 6000) (hx : x < 60) (hd : ∀ p ∈ ps, ∀ q ∈ ps, ∀ c, tk t p x = some c → tk t q x = some c → p = q) (hnd : ps.Nodup) (C : cF m h f a ps.length w (nI x) k hi (sE cf mo)) (hmo : mo < 3) (hhi : hi < 2 ^ 31) (hP : PA m h a ps) (hk : k ≤ ps.length) (hfn : fnF (gt' t x ps) k (ps.length - k) = ps.length) (hp0 : ps[0]? = some p0) (hc0 : tk t p0 x = some c0) :
    ∃ h', cl (d + 4) j_M_armNext [.inr (.inr (some m)), .inl (nI f)] h none h' ∧ ev m f 6000 h h' ∧ hpI h' m 24 = nI f ∧ hpI h' m 26 = hpI h m 26 ∧ hpI h' m 27 = nI (kof (decide (tA t c0 = 0) || cf || decide (hi < tA t c0)) mo) ∧ (∀ c, mkR t x ps c → hpI h' (m + 11) c = hpI h (m + 11) c + -1) ∧ ∀ c, ¬ mkR t x ps c → hpI h' (m + 11) c = hpI h (m + 11) c := by
  have walk : mx_W (mx_Call mx_prog (d + 3)) (mx_nth cd_M_armNext) (0, [some (.inr (.inr (some m))), some (.inl (nI f)), none, none], [], h) (fun r1 h' => r1 = none ∧ ev m f 6000 h h' ∧ hpI h' m 24 = nI f ∧ hpI h' m 26 = hpI h m 26 ∧ hpI h' m 27 = nI (kof (decide (tA t c0 = 0) || cf || decide (hi < tA t c0)) mo) ∧ (∀ c, mkR t x ps c → hpI h' (m + 11) c = hpI h (m + 11) c + -1) ∧ ∀ c, ¬ mkR t x ps c → hpI h' (m + 11) c = hpI h (m + 11) c) := by
    refine M_armNext_skip T hf hps ha hx (ps.length - k) k h (by omega) S H C hP (fun h1 E1 s1 r1 C1 => ?_)
    rw [hfn] at C1
    have F1 := C1.cfr
    have S1 := E1.S S
    have H1 := E1.H H
    have P1 := PA_ev hP E1 ha
    have hF1 := r1.1.trans hF
    have hN := T.2.1
    obtain ⟨c1, c2, c3, c4, c5, c6, c7, c8, c9⟩ := C1
    obtain ⟨q1, q2⟩ := hps p0 (List.mem_of_getElem? hp0)
    obtain ⟨u1, u2, u3, u4⟩ := tk_5 T q1 hc0
    obtain ⟨e1, e2, -⟩ := sE_spec cf hmo
    have hl0 := (List.getElem?_eq_some_iff.mp hp0).1
    refine mw_go rfl rfl ?_
    refine mv_gR rfl rfl S1.1 (S1.r 21 rfl) ?_
    refine mw_go rfl rfl ?_
    refine mv_ial rfl rfl (S1.a 21 rfl) rfl hf (by decide) c7 ?_
    refine mw_go rfl rfl ?_
    refine mv_gR rfl rfl S1.1 (S1.r 18 rfl) ?_
    refine mw_go rfl rfl ?_
    refine mv_ial rfl rfl (S1.a 18 rfl) rfl hf (by decide) c4 ?_
    refine mw_go rfl rfl ?_
    refine mw_ifT rfl ?_
    refine mw_go rfl rfl ?_
    refine mv_gR rfl rfl S1.1 (S1.r 10 rfl) ?_
    iterate 2 refine mw_go rfl rfl ?_
    refine mv_gR rfl rfl S1.1 (S1.r 25 rfl) ?_
    refine mw_go rfl rfl ?_
    refine mv_gR rfl rfl S1.1 (S1.r 17 rfl) ?_
    refine mw_go rfl rfl ?_
    refine mv_ial rfl rfl (S1.a 17 rfl) rfl hf (by decide) c3 ?_
    refine mv_ial rfl rfl (S1.a 25 rfl) rfl (show a < 6000 by omega) (by decide) (P1 0 p0 hp0) ?_
    refine mw_go rfl rfl ?_
    refine mv_gR rfl rfl S1.1 (S1.r 20 rfl) ?_
    refine mw_go rfl rfl ?_
    refine mv_ial rfl rfl (S1.a 20 rfl) rfl hf (by decide) c6 ?_
    refine mw_cv (M_taking_ok (d + 2) S1 T H1 q1 hx) rfl rfl rfl (Nat.le_of_ble_eq_true rfl) ⟨_, rfl, S1.1⟩ ?_
    rw [hc0]
    refine mv_ial rfl rfl (S1.a 10 rfl) (show iO (some c0) = nI c0 from rfl) (show c0 < 250 by omega) (by decide) ((H1.2 c0 u1).A5 u2) ?_
    iterate 3 refine mw_go rfl rfl ?_
    have fin : ∀ b, b = (decide (tA t c0 = 0) || cf || decide (hi < tA t c0)) → mx_W (mx_Call mx_prog (d + 3)) (mx_nth cd_M_armNext) (71, [some (.inr (.inr (some m))), some (.inl (nI f)), some (.inl (nI (tA t c0))), none], [.inl (bI b)], h1) (fun r1 h' => r1 = none ∧ ev m f 6000 h h' ∧ hpI h' m 24 = nI f ∧ hpI h' m 26 = hpI h m 26 ∧ hpI h' m 27 = nI (kof (decide (tA t c0 = 0) || cf || decide (hi < tA t c0)) mo) ∧ (∀ c, mkR t x ps c → hpI h' (m + 11) c = hpI h (m + 11) c + -1) ∧ ∀ c, ¬ mkR t x ps c → hpI h' (m + 11) c = hpI h (m + 11) c) := by
      intro b hb
      rw [← hb]
      iterate 4 refine mw_go rfl rfl ?_
      obtain ⟨h2, k2, E2, a2, b2, d2, m2, n2⟩ := M_mark_ok (d + 1) T hf hps ha hx hd hnd (-1) S1 H1 F1 P1
      refine mw_cn k2 rfl rfl rfl (Nat.le_of_ble_eq_true rfl) ⟨_, rfl, S1.1⟩ ?_
      have S2 := E2.S S1
      have hs2 : hpI h2 (m + 20) f = nI (sE cf mo) := (E2.2.2.2.2.2.1 20 f (by omega) (by omega) hf).1.trans c9
      iterate 3 refine mw_go rfl rfl ?_
      refine mv_gR rfl rfl S2.1 (S2.r 23 rfl) ?_
      refine mw_go rfl rfl ?_
      refine mv_ial rfl rfl (S2.a 23 rfl) rfl hf (by decide) hs2 ?_
      refine mw_go rfl rfl ?_
      refine mw_div rfl (by decide) ?_
      rw [e2]
      refine mw_cv (M_kindOf_ok (d + 2) h2 b hmo) rfl rfl rfl (Nat.le_of_ble_eq_true rfl) trivial ?_
      obtain ⟨h3, k3, E3, s3, a3, b3, d3⟩ := M_pop_ok (d + 2) S2 (a2.trans hF1) (nI (kof b mo))
      refine mw_cn k3 rfl rfl rfl (Nat.le_of_ble_eq_true rfl) ⟨_, rfl, S2.1⟩ ?_
      refine mw_r4 rfl ⟨rfl, ev_tr E1 (ev_mono (ev_tr E2 E3) (by omega) (by omega)), a3, b3.trans (b2.trans r1.2.1), d3, fun c hc => ?_, fun c hc => ?_⟩
      · rw [s3, m2 c hc, s1]
      · rw [s3, n2 c hc, s1]
    have yes : (decide (tA t c0 = 0) || cf || decide (hi < tA t c0)) = true → mx_W (mx_Call mx_prog (d + 3)) (mx_nth cd_M_armNext) (68, [some (.inr (.inr (some m))), some (.inl (nI f)), some (.inl (nI (tA t c0))), none], [], h1) (fun r1 h' => r1 = none ∧ ev m f 6000 h h' ∧ hpI h' m 24 = nI f ∧ hpI h' m 26 = hpI h m 26 ∧ hpI h' m 27 = nI (kof (decide (tA t c0 = 0) || cf || decide (hi < tA t c0)) mo) ∧ (∀ c, mkR t x ps c → hpI h' (m + 11) c = hpI h (m + 11) c + -1) ∧ ∀ c, ¬ mkR t x ps c → hpI h' (m + 11) c = hpI h (m + 11) c) := by
      intro e
      iterate 2 refine mw_go rfl rfl ?_
      exact fin true e.symm
    refine mw_ifP (e_lit (b := 0) rfl (by omega) (by omega)) (fun h0 => yes (by simp [h0])) (fun h0 => ?_)
    refine mw_go rfl rfl ?_
    refine mv_gR rfl rfl S1.1 (S1.r 23 rfl) ?_
    refine mw_go rfl rfl ?_
    refine mv_ial rfl rfl (S1.a 23 rfl) rfl hf (by decide) c9 ?_
    refine mw_go rfl rfl ?_
    refine mw_rem rfl (by decide) ?_
    iterate 2 refine mw_go rfl rfl ?_
    refine mw_ifP e1 (fun hc => yes (by simp [hc])) (fun hc => ?_)
    have hc : cf = false := by cases hh : cf with
      | false => rfl
      | true => exact absurd hh hc
    refine mw_go rfl rfl ?_
    refine mv_gR rfl rfl S1.1 (S1.r 22 rfl) ?_
    refine mw_go rfl rfl ?_
    refine mv_ial rfl rfl (S1.a 22 rfl) rfl hf (by decide) c8 ?_
    iterate 2 refine mw_go rfl rfl ?_
    refine mw_ifP (nI_leI (by omega) hhi) (fun hle => ?_) (fun hle => yes (by simp [show hi < tA t c0 by omega]))
    iterate 1 refine mw_go rfl rfl ?_
    exact fin false (by simp [h0, hc, show ¬ hi < tA t c0 by omega])
  obtain ⟨r1, h', hcl, rfl, K'⟩ := mc_of (prog := mx_prog) (j := j_M_armNext) (as := [.inr (.inr (some m)), .inl (nI f)]) (Nat.le_of_ble_eq_true rfl) walk
  exact ⟨h', hcl, K'⟩
theorem M_armNext_take {d : Nat} {Q : Option mx_V → mx_H → Prop} (T : tOk t) (hf : f < 600) (hps : ∀ p ∈ ps, p < tN t ∧ (tk t p x).isSome = true) (ha : a + ps.length ≤ 6000) (hx : x < 60) {g : Nat} (hg : g < 100) : ∀ (l : List Nat) (k b : Nat) (h : mx_H), ps.drop k = l → k ≤ ps.length → a + ps.length ≤ b → b + (l.filter (fun p => tkg t p x == g)).length ≤ 6000 → mS m h → mT m t h → cfr m h f a ps.length x → PA m h a ps → hpI h m 26 = nI b → (∀ h' k', lv m b h h' → PA m h' b (l.filter (fun p => tkg t p x == g)) → hpI h' m 26 = nI (b + (l.filter (fun p => tkg t p x == g)).length) → mx_W (mx_Call mx_prog (d + 3)) (mx_nth cd_M_armNext) (147, [some (.inr (.inr (some m))), some (.inl (nI f)), some (.inl (nI g)), k'], [], h') Q) →
    mx_W (mx_Call mx_prog (d + 3)) (mx_nth cd_M_armNext) (112, [some (.inr (.inr (some m))), some (.inl (nI f)), some (.inl (nI g)), some (.inl (nI k))], [], h) Q := by
  intro l
  induction l with
  | nil =>
    intro k b h hd hk hb hl S H F hP h26 hQ
    have hlen := congrArg List.length hd
    rw [List.length_drop] at hlen
    have hlen : ps.length - k = 0 := hlen
    iterate 2 refine mw_go rfl rfl ?_
    refine mv_gR rfl rfl S.1 (S.r 18 rfl) ?_
    refine mw_go rfl rfl ?_
    refine mv_ial rfl rfl (S.a 18 rfl) rfl hf (by decide) F.2.1 ?_
    refine mw_go rfl rfl ?_
    refine mw_ifT ((nI_leI (by omega) (by omega)).mpr (by omega)) ?_
    exact hQ h _ ⟨ev_rf, fun _ => rfl, rfl, rfl, rfl⟩ (fun k p hk => by simp at hk) h26
  | cons p r ih =>
    intro k b h hd hk hb hl S H F hP h26 hQ
    have hlen := congrArg List.length hd
    rw [List.length_drop, List.length_cons] at hlen
    have hkp : ps[k]? = some p := by
      have := congrArg (fun l => l[0]?) hd
      simpa using this
    have hd' : ps.drop (k + 1) = r := by
      have := congrArg List.tail hd
      rw [List.tail_drop] at this
      exact this
    have hgk : gt' t x ps k = tkg t p x := by unfold gt'; rw [getD_of hkp]
    iterate 2 refine mw_go rfl rfl ?_
    refine mv_gR rfl rfl S.1 (S.r 18 rfl) ?_
    refine mw_go rfl rfl ?_
    refine mv_ial rfl rfl (S.a 18 rfl) rfl hf (by decide) F.2.1 ?_
    refine mw_go rfl rfl ?_
    refine mw_ifF (fun q => absurd ((nI_leI (by omega) (by omega)).mp q) (by omega)) ?_
    iterate 3 refine mw_go rfl rfl ?_
    refine mw_cv (M_tagOf_ok (d + 1) S T H hf F hps hP ha hx (show k < ps.length by omega)) rfl rfl rfl (Nat.le_of_ble_eq_true rfl) ⟨_, rfl, S.1⟩ ?_
    have hgl := gt_lt T hps (show k < ps.length by omega)
    iterate 2 refine mw_go rfl rfl ?_
    refine mw_ifP (nI_eq (by omega) (by omega)) (fun e => ?_) (fun e => ?_)
    · have hfl : (p :: r).filter (fun p => tkg t p x == g) = p :: r.filter (fun p => tkg t p x == g) := List.filter_cons_of_pos (by rw [← hgk, e]; simp)
      rw [hfl] at hl hQ
      rw [List.length_cons] at hl hQ
      refine mw_go rfl rfl ?_
      refine mv_gR rfl rfl S.1 (S.r 25 rfl) ?_
      refine mw_go rfl rfl ?_
      refine mv_gI rfl rfl S.1 h26 ?_
      refine mw_go rfl rfl ?_
      refine mv_gR rfl rfl S.1 (S.r 25 rfl) ?_
      refine mw_go rfl rfl ?_
      refine mv_gR rfl rfl S.1 (S.r 17 rfl) ?_
      refine mw_go rfl rfl ?_
      refine mv_ial rfl rfl (S.a 17 rfl) rfl hf (by decide) F.1 ?_
      iterate 2 refine mw_go rfl rfl ?_
      refine mv_ial rfl rfl (S.a 25 rfl) (nI_add a k) (show a + k < 6000 by omega) (by decide) (hP k p hkp) ?_
      refine mw_ias rfl rfl (S.a 25 rfl) rfl (show b < 6000 by omega) (by decide) ?_
      iterate 2 refine mw_go rfl rfl ?_
      refine mv_gI (x := nI b) rfl rfl S.1 (by rw [hpI_wI, if_neg (by omega)]; exact h26) ?_
      iterate 2 refine mw_go rfl rfl ?_
      refine mw_pI rfl rfl S.1 ?_
      rw [show nI b + 1 = nI (b + 1) from nI_1 b]
      have L1 := lv_one (m := m) (pa := b) (h := h) (nI p) (nI (b + 1))
      have P1 : hpI (hwI (hwI h (m + 21) b (nI p)) m 26 (nI (b + 1))) (m + 21) b = nI p := by rw [hpI_wI, if_neg (by omega), hpI_wI, if_pos ⟨rfl, rfl⟩]
      have B1 : hpI (hwI (hwI h (m + 21) b (nI p)) m 26 (nI (b + 1))) m 26 = nI (b + 1) := by rw [hpI_wI, if_pos ⟨rfl, rfl⟩]
      generalize hwI (hwI h (m + 21) b (nI p)) m 26 (nI (b + 1)) = h1 at L1 P1 B1 ⊢
      have S1 := L1.1.S S
      have H1 := L1.1.H H
      have F1 : cfr m h1 f a ps.length x := ⟨(L1.1.2.2.2.2.2.1 14 f (by omega) (by omega) hf).1.trans F.1, (L1.1.2.2.2.2.2.1 15 f (by omega) (by omega) hf).1.trans F.2.1, (L1.1.2.2.2.2.2.1 17 f (by omega) (by omega) hf).1.trans F.2.2⟩
      iterate 2 refine mw_go rfl rfl ?_
      show mx_W _ _ (112, [some (.inr (.inr (some m))), some (.inl (nI f)), some (.inl (nI g)), some (.inl (nI k + 1))], [], h1) _
      rw [nI_1]
      refine ih (k + 1) (b + 1) h1 hd' (by omega) (by omega) (by omega) S1 H1 F1 (PA_ev hP L1.1 hb) B1 (fun h' k' L' P' B' => hQ h' k' (lv_tr L1 L' (by omega)) ?_ ?_)
      · intro j q hj
        cases j with
        | zero =>
          simp at hj
          subst hj
          show hpI h' (m + 21) b = nI p
          rw [L'.1.2.2.2.2.2.2 b (by omega)]; exact P1
        | succ j =>
          rw [List.getElem?_cons_succ] at hj
          have := P' j q hj
          rw [show b + (j + 1) = b + 1 + j by omega]; exact this
      · rw [B']; congr 1; omega
    · have hfl : (p :: r).filter (fun p => tkg t p x == g) = r.filter (fun p => tkg t p x == g) := List.filter_cons_of_neg (by rw [← hgk]; simpa using e)
      rw [hfl] at hl hQ
      iterate 3 refine mw_go rfl rfl ?_
      show mx_W _ _ (112, [some (.inr (.inr (some m))), some (.inl (nI f)), some (.inl (nI g)), some (.inl (nI k + 1))], [], h) _
      rw [nI_1]
      exact ih (k + 1) b h hd' (by omega) hb hl S H F hP h26 hQ
/-- the frame of an ARM: of its one PART, or of the CHOICE of its PARTS -/
def aFm (m : Nat) (h : mx_H) (f pa : Nat) (w : Int64) (gm : List Nat) : Prop := if gm.length = 1 then pF m h f (nI (gm.getD 0 0)) (-1) 0 0 else pF m h f (-1) (nI pa) (nI gm.length) w
theorem M_armNext_push {h : mx_H} {k k' pa : Nat} {gm : List Nat} (d : Nat) (S : mS m h) (T : tOk t) (H : mT m t h) (hf : f + 1 < 600) (hF : hpI h m 24 = nI (f + 1)) (h26 : hpI h m 26 = nI pa) (hps : ∀ p ∈ ps, p < tN t ∧ (tk t p x).isSome = true) (ha : a + ps.length ≤ pa) (hx : x < 60) (C : cF m h f a ps.length w (nI x) k hi su) (hP : PA m h a ps) (hk : k ≤ ps.length) (hfn : fnF (gt' t x ps) k (ps.length - k) = k') (hk' : k' < ps.length) (hgm : gm = (ps.drop k').filter (fun p => tkg t p x == gt' t x ps k')) (hpa : pa + gm.length ≤ 6000) :
    ∃ h', cl (d + 4) j_M_armNext [.inr (.inr (some m)), .inl (nI f)] h none h' ∧ ev m f pa h h' ∧ sr m h h' ∧ hpI h' m 24 = nI (f + 2) ∧ hpI h' m 26 = nI (pa + gm.length) ∧ cF m h' f a ps.length w (nI x) k' (hi + 1) su ∧ PA m h' pa gm ∧ aFm m h' (f + 1) pa (w ||| bL x) gm := by
  have walk : mx_W (mx_Call mx_prog (d + 3)) (mx_nth cd_M_armNext) (0, [some (.inr (.inr (some m))), some (.inl (nI f)), none, none], [], h) (fun r1 h' => r1 = none ∧ ev m f pa h h' ∧ sr m h h' ∧ hpI h' m 24 = nI (f + 2) ∧ hpI h' m 26 = nI (pa + gm.length) ∧ cF m h' f a ps.length w (nI x) k' (hi + 1) su ∧ PA m h' pa gm ∧ aFm m h' (f + 1) pa (w ||| bL x) gm) := by
    refine M_armNext_skip T (by omega) hps (by omega) hx (ps.length - k) k h (by omega) S H C hP (fun h1 E1 s1 r1 C1 => ?_)
    rw [hfn] at C1
    have hf0 : f < 600 := by omega
    have F1 := C1.cfr
    have S1 := E1.S S
    have H1 := E1.H H
    have P1 := PA_ev hP E1 (show a + ps.length ≤ 6000 by omega)
    have hF1 := r1.1.trans hF
    have hN := T.2.1
    have C1' := C1
    obtain ⟨c1, c2, c3, c4, c5, c6, c7, c8, c9⟩ := C1
    refine mw_go rfl rfl ?_
    refine mv_gR rfl rfl S1.1 (S1.r 21 rfl) ?_
    refine mw_go rfl rfl ?_
    refine mv_ial rfl rfl (S1.a 21 rfl) rfl hf0 (by decide) c7 ?_
    refine mw_go rfl rfl ?_
    refine mv_gR rfl rfl S1.1 (S1.r 18 rfl) ?_
    refine mw_go rfl rfl ?_
    refine mv_ial rfl rfl (S1.a 18 rfl) rfl hf0 (by decide) c4 ?_
    refine mw_go rfl rfl ?_
    refine mw_ifF (nI_ne (by omega) (by omega) (by omega)) ?_
    refine mw_go rfl rfl ?_
    refine mv_gR rfl rfl S1.1 (S1.r 22 rfl) ?_
    iterate 2 refine mw_go rfl rfl ?_
    refine mv_ial rfl rfl (S1.a 22 rfl) rfl hf0 (by decide) c8 ?_
    iterate 2 refine mw_go rfl rfl ?_
    refine mw_ias rfl rfl (S1.a 22 rfl) rfl hf0 (by decide) ?_
    rw [show nI hi + 1 = nI (hi + 1) from nI_1 hi]
    have E2 : ev m f 6000 h1 (hwI h1 (m + 19) f (nI (hi + 1))) := ev_wI _ (by omega)
    have s2 : sr m h1 (hwI h1 (m + 19) f (nI (hi + 1))) := fun c => by simp [hpI_wI]
    have r2 : rS m h1 (hwI h1 (m + 19) f (nI (hi + 1))) := by refine ⟨?_, ?_, ?_⟩ <;> simp [hpI_wI]
    have C2 : cF m (hwI h1 (m + 19) f (nI (hi + 1))) f a ps.length w (nI x) k' (hi + 1) su := by
      refine ⟨?_, ?_, ?_, ?_, c5, ?_, ?_, ?_, ?_⟩ <;> simp [hpI_wI, c1, c2, c3, c4, c6, c7, c9]
    generalize hwI h1 (m + 19) f (nI (hi + 1)) = h2 at E2 s2 r2 C2 ⊢
    have S2 := E2.S S1
    have H2 := E2.H H1
    have P2 := PA_ev P1 E2 (show a + ps.length ≤ 6000 by omega)
    have F2 := C2.cfr
    iterate 3 refine mw_go rfl rfl ?_
    refine mv_gR rfl rfl S2.1 (S2.r 21 rfl) ?_
    refine mw_go rfl rfl ?_
    refine mv_ial rfl rfl (S2.a 21 rfl) rfl hf0 (by decide) C2.2.2.2.2.2.2.1 ?_
    refine mw_cv (M_tagOf_ok (d + 1) S2 T H2 hf0 F2 hps P2 (by omega) hx hk') rfl rfl rfl (Nat.le_of_ble_eq_true rfl) ⟨_, rfl, S2.1⟩ ?_
    iterate 3 refine mw_go rfl rfl ?_
    have b2 : hpI h2 m 26 = nI pa := r2.2.1.trans (r1.2.1.trans h26)
    refine mv_gI rfl rfl S2.1 b2 ?_
    refine mw_pI rfl rfl S2.1 ?_
    have E3 : ev m f 6000 h2 (hwI h2 m 28 (nI pa)) := ev_wm _ (by omega)
    have s3 : sr m h2 (hwI h2 m 28 (nI pa)) := fun c => by simp [hpI_wI]
    have r3 : rS m h2 (hwI h2 m 28 (nI pa)) := by refine ⟨?_, ?_, ?_⟩ <;> simp [hpI_wI]
    have C3 : cF m (hwI h2 m 28 (nI pa)) f a ps.length w (nI x) k' (hi + 1) su := by
      obtain ⟨c1, c2, c3, c4, c5, c6, c7, c8, c9⟩ := C2
      refine ⟨?_, ?_, ?_, ?_, c5, ?_, ?_, ?_, ?_⟩ <;> simp [hpI_wI, c1, c2, c3, c4, c6, c7, c8, c9]
    have a3 : hpI (hwI h2 m 28 (nI pa)) m 28 = nI pa := by simp [hpI_wI]
    generalize hwI h2 m 28 (nI pa) = h3 at E3 s3 r3 C3 a3 ⊢
    have S3 := E3.S S2
    have H3 := E3.H H2
    have P3 := PA_ev P2 E3 (show a + ps.length ≤ 6000 by omega)
    have b3 := r3.2.1.trans b2
    have hF3 := r3.1.trans (r2.1.trans hF1)
    refine mw_go rfl rfl ?_
    refine mv_gR rfl rfl S3.1 (S3.r 21 rfl) ?_
    refine mw_go rfl rfl ?_
    refine mv_ial rfl rfl (S3.a 21 rfl) rfl hf0 (by decide) C3.2.2.2.2.2.2.1 ?_
    refine mw_go rfl rfl ?_
    refine M_armNext_take T hf0 hps (by omega) hx (gt_lt T hps hk') _ k' pa h3 rfl (by omega) ha (by rw [← hgm]; exact hpa) S3 H3 C3.cfr P3 b3 (fun h4 z L4 P4 B4 => ?_)
    rw [← hgm] at P4 B4
    have S4 := L4.1.S S3
    have C4 := cF_ev C3 L4.1 hf0
    have a4 := L4.2.2.2.2.trans a3
    have hF4 := L4.2.2.1.trans hF3
    have E14 : ev m f pa h h4 := ev_tr (ev_mono (ev_tr E1 (ev_tr E2 E3)) (by omega) (by omega)) (ev_mono L4.1 (by omega) (by omega))
    have s14 : sr m h h4 := sr_tr (sr_tr s1 (sr_tr s2 s3)) L4.2.1
    refine mw_go rfl rfl ?_
    refine mv_gI rfl rfl S4.1 B4 ?_
    refine mw_go rfl rfl ?_
    refine mv_gI rfl rfl S4.1 a4 ?_
    refine mw_go rfl rfl ?_
    rw [nI_sub]
    refine mw_go rfl rfl ?_
    refine mw_go rfl rfl ?_
    refine mw_ifP (e_lit (b := 1) rfl (by omega) (by omega)) (fun h1' => ?_) (fun h1' => ?_)
    · obtain ⟨p, hp⟩ : ∃ p, gm[0]? = some p := ⟨gm[0]'(by omega), List.getElem?_eq_getElem (by omega)⟩
      iterate 2 refine mw_go rfl rfl ?_
      refine mv_gR rfl rfl S4.1 (S4.r 25 rfl) ?_
      refine mw_go rfl rfl ?_
      refine mv_gI rfl rfl S4.1 a4 ?_
      refine mv_ial rfl rfl (S4.a 25 rfl) rfl (show pa < 6000 by omega) (by decide) (P4 0 p hp) ?_
      iterate 3 refine mw_go rfl rfl ?_
      obtain ⟨h5, k5, E5, s5, x5, y5, z5, F5⟩ := M_push_ok (d + 2) S4 hf hF4 (nI p) (-1) 0 0
      refine mw_cn k5 rfl rfl rfl (Nat.le_of_ble_eq_true rfl) ⟨_, rfl, S4.1⟩ ?_
      refine mw_go rfl rfl ?_
      refine mw_r4 rfl ⟨rfl, ev_tr E14 (ev_mono E5 (by omega) (by omega)), sr_tr s14 s5, x5, y5.trans B4, cF_ev C4 E5 (by omega), PA_ev P4 E5 (by omega), ?_⟩
      unfold aFm
      rw [if_pos h1', getD_of hp]
      exact F5
    · iterate 3 refine mw_go rfl rfl ?_
      refine mv_gI rfl rfl S4.1 a4 ?_
      refine mw_go rfl rfl ?_
      refine mv_gI rfl rfl S4.1 B4 ?_
      refine mw_go rfl rfl ?_
      refine mv_gI rfl rfl S4.1 a4 ?_
      refine mw_go rfl rfl ?_
      rw [nI_sub]
      refine mw_go rfl rfl ?_
      refine mv_gR rfl rfl S4.1 (S4.r 19 rfl) ?_
      refine mw_go rfl rfl ?_
      refine mv_lal rfl rfl (S4.a 19 rfl) rfl hf0 (by decide) C4.2.2.2.2.1 ?_
      iterate 2 refine mw_go rfl rfl ?_
      refine mv_gR rfl rfl S4.1 (S4.r 20 rfl) ?_
      refine mw_go rfl rfl ?_
      refine mv_ial rfl rfl (S4.a 20 rfl) rfl hf0 (by decide) C4.2.2.2.2.2.1 ?_
      iterate 2 refine mw_go rfl rfl ?_
      obtain ⟨h5, k5, E5, s5, x5, y5, z5, F5⟩ := M_push_ok (d + 2) S4 hf hF4 (-1) (nI pa) (nI gm.length) (w ||| bL x)
      refine mw_cn k5 rfl rfl rfl (Nat.le_of_ble_eq_true rfl) ⟨_, rfl, S4.1⟩ ?_
      refine mw_r4 rfl ⟨rfl, ev_tr E14 (ev_mono E5 (by omega) (by omega)), sr_tr s14 s5, x5, y5.trans B4, cF_ev C4 E5 (by omega), PA_ev P4 E5 (by omega), ?_⟩
      unfold aFm
      rw [if_neg h1']
      exact F5
  obtain ⟨r1, h', hcl, rfl, K'⟩ := mc_of (prog := mx_prog) (j := j_M_armNext) (as := [.inr (.inr (some m)), .inl (nI f)]) (Nat.le_of_ble_eq_true rfl) walk
  exact ⟨h', hcl, K'⟩
end
