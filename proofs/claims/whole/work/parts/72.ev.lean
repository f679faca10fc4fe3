/-! The reference: what its walks leave as it was; tagOf, isFirst, listed, mark. -/
/-- only the reference's scratch was written: no frame below f, no place of its row of PARTS below pa -/
def ev (m f pa : Nat) (h h' : mx_H) : Prop :=
  ((∀ c, hpK h' c = hpK h c) ∧ (∀ c k, hpR h' c k = hpR h c k) ∧ hpZ h' = hpZ h ∧ hpU h' = hpU h) ∧
  (∀ c k, (c < m ∨ m + 21 < c) → hpI h' c k = hpI h c k ∧ hpL h' c k = hpL h c k) ∧
  (∀ j k, 1 ≤ j → j ≤ 10 → hpI h' (m + j) k = hpI h (m + j) k ∧ hpL h' (m + j) k = hpL h (m + j) k) ∧
  (∀ k, k < 24 → hpI h' m k = hpI h m k) ∧ (∀ k, hpL h' m k = hpL h m k) ∧
  (∀ j k, 12 ≤ j → j ≤ 20 → k < f → hpI h' (m + j) k = hpI h (m + j) k ∧ hpL h' (m + j) k = hpL h (m + j) k) ∧
  (∀ k, k < pa → hpI h' (m + 21) k = hpI h (m + 21) k)
def sr (m : Nat) (h h' : mx_H) : Prop := ∀ c, hpI h' (m + 11) c = hpI h (m + 11) c
section
variable {m f pa : Nat} {h h' h'' : mx_H} {t : tr}
theorem ev_rf : ev m f pa h h := ⟨⟨fun _ => rfl, fun _ _ => rfl, rfl, rfl⟩, fun _ _ _ => ⟨rfl, rfl⟩, fun _ _ _ _ => ⟨rfl, rfl⟩, fun _ _ => rfl, fun _ => rfl, fun _ _ _ _ _ => ⟨rfl, rfl⟩, fun _ _ => rfl⟩
theorem ev_tr (A : ev m f pa h h') (B : ev m f pa h' h'') : ev m f pa h h'' := by
  obtain ⟨⟨a1, a2, a3, a4⟩, a5, a6, a7, a8, a9, a10⟩ := A
  obtain ⟨⟨b1, b2, b3, b4⟩, b5, b6, b7, b8, b9, b10⟩ := B
  exact ⟨⟨fun c => (b1 c).trans (a1 c), fun c k => (b2 c k).trans (a2 c k), b3.trans a3, b4.trans a4⟩, fun c k hc => ⟨(b5 c k hc).1.trans (a5 c k hc).1, (b5 c k hc).2.trans (a5 c k hc).2⟩, fun j k x y => ⟨(b6 j k x y).1.trans (a6 j k x y).1, (b6 j k x y).2.trans (a6 j k x y).2⟩, fun k hk => (b7 k hk).trans (a7 k hk), fun k => (b8 k).trans (a8 k), fun j k x y z => ⟨(b9 j k x y z).1.trans (a9 j k x y z).1, (b9 j k x y z).2.trans (a9 j k x y z).2⟩, fun k hk => (b10 k hk).trans (a10 k hk)⟩
theorem ev_mono {f' pa' : Nat} (A : ev m f' pa' h h') (hf : f ≤ f') (hp : pa ≤ pa') : ev m f pa h h' := by
  obtain ⟨a1, a5, a6, a7, a8, a9, a10⟩ := A
  exact ⟨a1, a5, a6, a7, a8, fun j k x y z => a9 j k x y (by omega), fun k hk => a10 k (by omega)⟩
theorem ev_wI {j k : Nat} (x : Int32) (hj : (12 ≤ j ∧ j ≤ 20 ∧ f ≤ k) ∨ (j = 21 ∧ pa ≤ k) ∨ j = 11) : ev m f pa h (hwI h (m + j) k x) := by
  refine ⟨⟨fun _ => rfl, fun _ _ => rfl, rfl, rfl⟩, fun c i hc => ⟨?_, rfl⟩, fun i q h1 h2 => ⟨?_, rfl⟩, fun i hi => ?_, fun _ => rfl, fun i q h1 h2 h3 => ⟨?_, rfl⟩, fun i hi => ?_⟩ <;> rw [hpI_wI, if_neg (by omega)]
theorem ev_wm {k : Nat} (x : Int32) (hk : 24 ≤ k) : ev m f pa h (hwI h m k x) := by
  refine ⟨⟨fun _ => rfl, fun _ _ => rfl, rfl, rfl⟩, fun c i hc => ⟨?_, rfl⟩, fun i q h1 h2 => ⟨?_, rfl⟩, fun i hi => ?_, fun _ => rfl, fun i q h1 h2 h3 => ⟨?_, rfl⟩, fun i hi => ?_⟩ <;> rw [hpI_wI, if_neg (by omega)]
theorem ev_wL {k : Nat} (x : Int64) (hk : f ≤ k) : ev m f pa h (hwL h (m + 16) k x) := by
  refine ⟨⟨fun _ => rfl, fun _ _ => rfl, rfl, rfl⟩, fun c i hc => ⟨rfl, ?_⟩, fun i q h1 h2 => ⟨rfl, ?_⟩, fun i hi => rfl, fun _ => ?_, fun i q h1 h2 h3 => ⟨rfl, ?_⟩, fun i hi => rfl⟩ <;> rw [hpL_wL, if_neg (by omega)]
theorem ev.S (E : ev m f pa h h') (S : mS m h) : mS m h' := mS_cg S E.1.1 E.1.2.1
theorem ev.H (E : ev m f pa h h') (H : mT m t h) : mT m t h' := mT_cg H (E.2.2.2.1 1 (by omega)) (fun j k a b => E.2.2.1 j k a b)
theorem PA_ev {a : Nat} {ps : List Nat} (P : PA m h a ps) (E : ev m f pa h h') (ha : a + ps.length ≤ pa) : PA m h' a ps := by
  intro k p hk
  have := (List.getElem?_eq_some_iff.mp hk).1
  rw [E.2.2.2.2.2.2 _ (by omega)]
  exact P k p hk
end
/-- a frame f of a CHOICE: where its PARTS are, how many, the variable of its SWITCH -/
def cfr (m : Nat) (h : mx_H) (f a n x : Nat) : Prop := hpI h (m + 14) f = nI a ∧ hpI h (m + 15) f = nI n ∧ hpI h (m + 17) f = nI x
def ifL (g : Nat → Nat) (v i n : Nat) : Bool := match n with
  | 0 => true
  | n + 1 => if g i = v then false else ifL g v (i + 1) n
def gt' (t : tr) (x : Nat) (ps : List Nat) (k : Nat) : Nat := tkg t (ps.getD k 0) x
section
variable {m : Nat} {t : tr} {h : mx_H} {f a x : Nat} {ps : List Nat}
theorem getD_of {k p : Nat} (h : ps[k]? = some p) : ps.getD k 0 = p := by rw [List.getD_eq_getElem?_getD, h]; rfl
theorem M_tagOf_ok (d : Nat) (S : mS m h) (T : tOk t) (H : mT m t h) (hf : f < 600) (F : cfr m h f a ps.length x) (hps : ∀ p ∈ ps, p < tN t ∧ (tk t p x).isSome = true) (hP : PA m h a ps) (ha : a + ps.length ≤ 6000) (hx : x < 60) {k : Nat} (hk : k < ps.length) : cl (d + 2) j_M_tagOf [.inr (.inr (some m)), .inl (nI f), .inl (nI k)] h (some (.inl (nI (gt' t x ps k)))) h := by
  refine cl_of (Nat.le_of_ble_eq_true rfl) ?_
  show mx_W _ (mx_nth cd_M_tagOf) (0, [some (.inr (.inr (some m))), some (.inl (nI f)), some (.inl (nI k))], [], h) _
  have hN := T.2.1
  obtain ⟨p, hkp⟩ : ∃ p, ps[k]? = some p := ⟨ps[k], List.getElem?_eq_getElem hk⟩
  obtain ⟨hp1, hp2⟩ := hps p (List.mem_of_getElem? hkp)
  obtain ⟨c, hc⟩ := Option.isSome_iff_exists.mp hp2
  obtain ⟨c1, c2, c3, c4⟩ := tk_5 T hp1 hc
  have eG : gt' t x ps k = tG t c := by unfold gt' tkg; rw [getD_of hkp, hc]
  refine mw_go rfl rfl ?_
  refine mv_gR rfl rfl S.1 (S.r 9 rfl) ?_
  iterate 2 refine mw_go rfl rfl ?_
  refine mv_gR rfl rfl S.1 (S.r 25 rfl) ?_
  refine mw_go rfl rfl ?_
  refine mv_gR rfl rfl S.1 (S.r 17 rfl) ?_
  refine mw_go rfl rfl ?_
  refine mv_ial rfl rfl (S.a 17 rfl) rfl hf (by decide) F.1 ?_
  iterate 2 refine mw_go rfl rfl ?_
  refine mv_ial rfl rfl (S.a 25 rfl) (nI_add a k) (show a + k < 6000 by omega) (by decide) (hP k p hkp) ?_
  refine mw_go rfl rfl ?_
  refine mv_gR rfl rfl S.1 (S.r 20 rfl) ?_
  refine mw_go rfl rfl ?_
  refine mv_ial rfl rfl (S.a 20 rfl) rfl hf (by decide) F.2.2 ?_
  refine mw_cv (M_taking_ok d S T H hp1 hx) rfl rfl rfl (Nat.le_of_ble_eq_true rfl) ⟨_, rfl, S.1⟩ ?_
  rw [hc]
  refine mv_ial rfl rfl (S.a 9 rfl) (show iO (some c) = nI c from rfl) (show c < 250 by omega) (by decide) ((H.2 c c1).G5 c2) ?_
  exact mw_r0 rfl ⟨by rw [eG], rfl⟩
theorem gt_lt (T : tOk t) (hps : ∀ p ∈ ps, p < tN t ∧ (tk t p x).isSome = true) {k : Nat} (hk : k < ps.length) : gt' t x ps k < 100 := by
  obtain ⟨p, hkp⟩ : ∃ p, ps[k]? = some p := ⟨ps[k], List.getElem?_eq_getElem hk⟩
  obtain ⟨hp1, hp2⟩ := hps p (List.mem_of_getElem? hkp)
  obtain ⟨c, hc⟩ := Option.isSome_iff_exists.mp hp2
  have := (tk_5 T hp1 hc).2.2.2
  unfold gt' tkg
  rw [getD_of hkp, hc]
  exact this
theorem M_isFirst_loop {d : Nat} {Q : Option mx_V → mx_H → Prop} (S : mS m h) (T : tOk t) (H : mT m t h) (hf : f < 600) (F : cfr m h f a ps.length x) (hps : ∀ p ∈ ps, p < tN t ∧ (tk t p x).isSome = true) (hP : PA m h a ps) (ha : a + ps.length ≤ 6000) (hx : x < 60) {k : Nat} (hk : k < ps.length) : ∀ (n i : Nat), i + n = k → Q (some (.inl (bI (ifL (gt' t x ps) (gt' t x ps k) i n)))) h →
    mx_W (mx_Call mx_prog (d + 2)) (mx_nth cd_M_isFirst) (2, [some (.inr (.inr (some m))), some (.inl (nI f)), some (.inl (nI k)), some (.inl (nI i))], [], h) Q := by
  intro n
  induction n with
  | zero =>
    intro i hi hq
    iterate 3 refine mw_go rfl rfl ?_
    refine mw_ifT ((nI_leI (by omega) (by omega)).mpr (by omega)) ?_
    refine mw_go rfl rfl ?_
    exact mw_r3 rfl (Or.inr rfl) hq
  | succ n ih =>
    intro i hi hq
    rw [ifL] at hq
    iterate 3 refine mw_go rfl rfl ?_
    refine mw_ifF (fun q => absurd ((nI_leI (by omega) (by omega)).mp q) (by omega)) ?_
    iterate 3 refine mw_go rfl rfl ?_
    refine mw_cv (M_tagOf_ok d S T H hf F hps hP ha hx (show i < ps.length by omega)) rfl rfl rfl (Nat.le_of_ble_eq_true rfl) ⟨_, rfl, S.1⟩ ?_
    iterate 3 refine mw_go rfl rfl ?_
    refine mw_cv (M_tagOf_ok d S T H hf F hps hP ha hx hk) rfl rfl rfl (Nat.le_of_ble_eq_true rfl) ⟨_, rfl, S.1⟩ ?_
    refine mw_go rfl rfl ?_
    have g1 := gt_lt T hps (show i < ps.length by omega)
    have g2 := gt_lt T hps hk
    refine mw_ifP (nI_eq (by omega) (by omega)) (fun e => ?_) (fun e => ?_)
    · rw [if_pos e] at hq
      refine mw_go rfl rfl ?_
      exact mw_r3 rfl (Or.inl rfl) hq
    · rw [if_neg e] at hq
      iterate 2 refine mw_go rfl rfl ?_
      show mx_W _ _ (2, [some (.inr (.inr (some m))), some (.inl (nI f)), some (.inl (nI k)), some (.inl (nI i + 1))], [], h) _
      rw [nI_1]
      exact ih (i + 1) (by omega) hq
theorem M_isFirst_ok (d : Nat) (S : mS m h) (T : tOk t) (H : mT m t h) (hf : f < 600) (F : cfr m h f a ps.length x) (hps : ∀ p ∈ ps, p < tN t ∧ (tk t p x).isSome = true) (hP : PA m h a ps) (ha : a + ps.length ≤ 6000) (hx : x < 60) {k : Nat} (hk : k < ps.length) : cl (d + 3) j_M_isFirst [.inr (.inr (some m)), .inl (nI f), .inl (nI k)] h (some (.inl (bI (ifL (gt' t x ps) (gt' t x ps k) 0 k)))) h := by
  refine cl_of (Nat.le_of_ble_eq_true rfl) ?_
  show mx_W _ (mx_nth cd_M_isFirst) (0, [some (.inr (.inr (some m))), some (.inl (nI f)), some (.inl (nI k)), none], [], h) _
  iterate 2 refine mw_go rfl rfl ?_
  exact M_isFirst_loop S T H hf F hps hP ha hx hk k 0 (by omega) ⟨rfl, rfl⟩
end
/-- listed's writes: only its row of PARTS from pa on, and how long it is -/
def lv (m pa : Nat) (h h' : mx_H) : Prop := ev m 600 pa h h' ∧ sr m h h' ∧ hpI h' m 24 = hpI h m 24 ∧ hpI h' m 27 = hpI h m 27 ∧ hpI h' m 28 = hpI h m 28
theorem lv_tr {m pa pa' : Nat} {h h' h'' : mx_H} (A : lv m pa h h') (B : lv m pa' h' h'') (hp : pa ≤ pa') : lv m pa h h'' := ⟨ev_tr A.1 (ev_mono B.1 (Nat.le_refl _) hp), fun c => (B.2.1 c).trans (A.2.1 c), B.2.2.1.trans A.2.2.1, B.2.2.2.1.trans A.2.2.2.1, B.2.2.2.2.trans A.2.2.2.2⟩
theorem lv_one {m pa : Nat} {h : mx_H} (x y : Int32) : lv m pa h (hwI (hwI h (m + 21) pa x) m 26 y) := by
  refine ⟨ev_tr (ev_wI x (by omega)) (ev_wm y (by omega)), fun c => ?_, ?_, ?_, ?_⟩ <;> rw [hpI_wI, if_neg (by omega), hpI_wI, if_neg (by omega)]
section
variable {m : Nat} {t : tr}
theorem M_listed_loop {C : mx_C} {Q : Option mx_V → mx_H → Prop} (T : tOk t) (n at' : Int32) : ∀ (l : List Nat) (h : mx_H) (r : Int32) (b : Nat), mS m h → mT m t h → CM m h r l → (∀ c ∈ l, c < tN t) → hpI h m 26 = nI b → b + l.length ≤ 6000 → (∀ h', lv m b h h' → PA m h' b l → hpI h' m 26 = nI (b + l.length) → Q (some (.inl at')) h') →
    mx_W C (mx_nth cd_M_listed) (8, [some (.inr (.inr (some m))), some (.inl n), some (.inl at'), some (.inl r)], [], h) Q := by
  intro l
  induction l with
  | nil =>
    intro h r b S H hr _ hb hl hQ
    have hr : r = -1 := hr
    subst hr
    iterate 3 refine mw_go rfl rfl ?_
    refine mw_ifT rfl ?_
    refine mw_go rfl rfl ?_
    exact mw_r0 rfl (hQ h ⟨ev_rf, fun _ => rfl, rfl, rfl, rfl⟩ (fun k p hk => by simp at hk) hb)
  | cons c l ih =>
    intro h r b S H hr hc hb hl hQ
    obtain ⟨rfl, hch⟩ := hr
    have hcl := hc c List.mem_cons_self
    have hN := T.2.1
    rw [List.length_cons] at hl
    iterate 3 refine mw_go rfl rfl ?_
    refine mw_ifF (nI_m1 (by omega)) ?_
    refine mw_go rfl rfl ?_
    refine mv_gR rfl rfl S.1 (S.r 25 rfl) ?_
    refine mw_go rfl rfl ?_
    refine mv_gI rfl rfl S.1 hb ?_
    refine mw_go rfl rfl ?_
    refine mw_ias rfl rfl (S.a 25 rfl) rfl (show b < 6000 by omega) (by decide) ?_
    iterate 2 refine mw_go rfl rfl ?_
    refine mv_gI (x := nI b) rfl rfl S.1 (by rw [hpI_wI, if_neg (by omega)]; exact hb) ?_
    iterate 2 refine mw_go rfl rfl ?_
    refine mw_pI rfl rfl S.1 ?_
    rw [show nI b + 1 = nI (b + 1) from nI_1 b]
    have L1 := lv_one (m := m) (pa := b) (h := h) (nI c) (nI (b + 1))
    have P1 : hpI (hwI (hwI h (m + 21) b (nI c)) m 26 (nI (b + 1))) (m + 21) b = nI c := by rw [hpI_wI, if_neg (by omega), hpI_wI, if_pos ⟨rfl, rfl⟩]
    have B1 : hpI (hwI (hwI h (m + 21) b (nI c)) m 26 (nI (b + 1))) m 26 = nI (b + 1) := by rw [hpI_wI, if_pos ⟨rfl, rfl⟩]
    generalize hwI (hwI h (m + 21) b (nI c)) m 26 (nI (b + 1)) = h1 at L1 P1 B1 ⊢
    have S1 := L1.1.S S
    have H1 := L1.1.H H
    refine mw_go rfl rfl ?_
    refine mv_gR rfl rfl S1.1 (S1.r 7 rfl) ?_
    refine mw_go rfl rfl ?_
    refine mw_ial rfl rfl (S1.a 7 rfl) rfl (show c < 250 by omega) (by decide) ?_
    iterate 2 refine mw_go rfl rfl ?_
    refine ih h1 _ (b + 1) S1 H1 ?_ (fun z hz => hc z (List.mem_cons_of_mem _ hz)) B1 (by omega) (fun h' L' P' B' => hQ h' (lv_tr L1 L' (by omega)) ?_ ?_)
    · rw [(L1.1.2.2.1 6 c (by omega) (by omega)).1]
      exact CM_cg (fun z _ => (L1.1.2.2.1 6 z (by omega) (by omega)).1) hch
    · intro k p hk
      cases k with
      | zero =>
        simp at hk
        subst hk
        show hpI h' (m + 21) b = nI c
        rw [L'.1.2.2.2.2.2.2 b (by omega)]; exact P1
      | succ k =>
        rw [List.getElem?_cons_succ] at hk
        have := P' k p hk
        rw [show b + (k + 1) = b + 1 + k by omega]; exact this
    · rw [List.length_cons, show b + (l.length + 1) = b + 1 + l.length by omega]; exact B'
theorem M_listed_ok {h : mx_H} (d : Nat) (S : mS m h) (T : tOk t) (H : mT m t h) {n b : Nat} (hn : n < tN t) (hb : hpI h m 26 = nI b) (hl : b + (tC t n).length ≤ 6000) : ∃ h', cl (d + 1) j_M_listed [.inr (.inr (some m)), .inl (nI n)] h (some (.inl (nI b))) h' ∧ lv m b h h' ∧ PA m h' b (tC t n) ∧ hpI h' m 26 = nI (b + (tC t n).length) := by
  have walk : mx_W (mx_Call mx_prog d) (mx_nth cd_M_listed) (0, [some (.inr (.inr (some m))), some (.inl (nI n)), none, none], [], h) (fun r1 h' => r1 = some (.inl (nI b)) ∧ lv m b h h' ∧ PA m h' b (tC t n) ∧ hpI h' m 26 = nI (b + (tC t n).length)) := by
    have hN := T.2.1
    refine mw_go rfl rfl ?_
    refine mv_gI rfl rfl S.1 hb ?_
    iterate 2 refine mw_go rfl rfl ?_
    refine mv_gR rfl rfl S.1 (S.r 5 rfl) ?_
    refine mw_go rfl rfl ?_
    refine mw_ial rfl rfl (S.a 5 rfl) rfl (show n < 250 by omega) (by decide) ?_
    refine mw_go rfl rfl ?_
    exact M_listed_loop T _ _ _ h _ b S H (H.2 n hn).C (fun c hc => ((T.at hn).2.2.1 c hc).2.1) hb hl (fun h' L P B => ⟨rfl, L, P, B⟩)
  obtain ⟨r1, h', hcl, rfl, K'⟩ := mc_of (prog := mx_prog) (j := j_M_listed) (as := [.inr (.inr (some m)), .inl (nI n)]) (Nat.le_of_ble_eq_true rfl) walk
  exact ⟨h', hcl, K'⟩
end
/-- mark: all TAKES of x by the PARTS ps counted by by -/
def mkR (t : tr) (x : Nat) (ps : List Nat) (c : Nat) : Prop := ∃ p ∈ ps, tk t p x = some c
def mkE (m : Nat) (t : tr) (x : Nat) (ps : List Nat) (y : Int32) (h h' : mx_H) : Prop := ev m 600 6000 h h' ∧ hpI h' m 24 = hpI h m 24 ∧ hpI h' m 26 = hpI h m 26 ∧ hpI h' m 27 = hpI h m 27 ∧ (∀ c, mkR t x ps c → hpI h' (m + 11) c = hpI h (m + 11) c + y) ∧ ∀ c, ¬ mkR t x ps c → hpI h' (m + 11) c = hpI h (m + 11) c
section
variable {m : Nat} {t : tr} {f a x : Nat} {ps : List Nat}
theorem M_mark_loop {d : Nat} {Q : Option mx_V → mx_H → Prop} (T : tOk t) (hf : f < 600) (hps : ∀ p ∈ ps, p < tN t ∧ (tk t p x).isSome = true) (ha : a + ps.length ≤ 6000) (hx : x < 60) (hd : ∀ p ∈ ps, ∀ q ∈ ps, ∀ c, tk t p x = some c → tk t q x = some c → p = q) (hnd : ps.Nodup) (y : Int32) (h0 : mx_H) (S0 : mS m h0) (H0 : mT m t h0) (F0 : cfr m h0 f a ps.length x) (P0 : PA m h0 a ps) (hQ : ∀ h', mkE m t x ps y h0 h' → Q none h') : ∀ (n k : Nat) (h : mx_H), k + n = ps.length → mkE m t x (ps.take k) y h0 h →
    mx_W (mx_Call mx_prog (d + 1)) (mx_nth cd_M_mark) (2, [some (.inr (.inr (some m))), some (.inl (nI f)), some (.inl y), some (.inl (nI k))], [], h) Q := by
  have hN := T.2.1
  intro n
  induction n with
  | zero =>
    intro k h hk E
    have S := E.1.S S0
    have n15 := (E.1.2.2.2.2.2.1 15 f (by omega) (by omega) hf).1.trans F0.2.1
    iterate 2 refine mw_go rfl rfl ?_
    refine mv_gR rfl rfl S.1 (S.r 18 rfl) ?_
    refine mw_go rfl rfl ?_
    refine mv_ial rfl rfl (S.a 18 rfl) rfl hf (by decide) n15 ?_
    refine mw_go rfl rfl ?_
    refine mw_ifT ((nI_leI (by omega) (by omega)).mpr (by omega)) ?_
    rw [List.take_of_length_le (by omega)] at E
    exact mw_r4 rfl (hQ h E)
  | succ n ih =>
    intro k h hk E
    have S := E.1.S S0
    have H := E.1.H H0
    have n15 := (E.1.2.2.2.2.2.1 15 f (by omega) (by omega) hf).1.trans F0.2.1
    have n14 := (E.1.2.2.2.2.2.1 14 f (by omega) (by omega) hf).1.trans F0.1
    have n17 := (E.1.2.2.2.2.2.1 17 f (by omega) (by omega) hf).1.trans F0.2.2
    have hP := PA_ev P0 E.1 (by omega)
    obtain ⟨p, hkp⟩ : ∃ p, ps[k]? = some p := ⟨ps[k]'(by omega), List.getElem?_eq_getElem (by omega)⟩
    have hpm := List.mem_of_getElem? hkp
    obtain ⟨hp1, hp2⟩ := hps p hpm
    obtain ⟨c, hc⟩ := Option.isSome_iff_exists.mp hp2
    obtain ⟨c1, c2, c3, c4⟩ := tk_5 T hp1 hc
    iterate 2 refine mw_go rfl rfl ?_
    refine mv_gR rfl rfl S.1 (S.r 18 rfl) ?_
    refine mw_go rfl rfl ?_
    refine mv_ial rfl rfl (S.a 18 rfl) rfl hf (by decide) n15 ?_
    refine mw_go rfl rfl ?_
    refine mw_ifF (fun q => absurd ((nI_leI (by omega) (by omega)).mp q) (by omega)) ?_
    refine mw_go rfl rfl ?_
    refine mv_gR rfl rfl S.1 (S.r 14 rfl) ?_
    iterate 2 refine mw_go rfl rfl ?_
    refine mv_gR rfl rfl S.1 (S.r 25 rfl) ?_
    refine mw_go rfl rfl ?_
    refine mv_gR rfl rfl S.1 (S.r 17 rfl) ?_
    refine mw_go rfl rfl ?_
    refine mv_ial rfl rfl (S.a 17 rfl) rfl hf (by decide) n14 ?_
    iterate 2 refine mw_go rfl rfl ?_
    refine mv_ial rfl rfl (S.a 25 rfl) (nI_add a k) (show a + k < 6000 by omega) (by decide) (hP k p hkp) ?_
    refine mw_go rfl rfl ?_
    refine mv_gR rfl rfl S.1 (S.r 20 rfl) ?_
    refine mw_go rfl rfl ?_
    refine mv_ial rfl rfl (S.a 20 rfl) rfl hf (by decide) n17 ?_
    refine mw_cv (M_taking_ok d S T H hp1 hx) rfl rfl rfl (Nat.le_of_ble_eq_true rfl) ⟨_, rfl, S.1⟩ ?_
    rw [hc]
    refine mw_go rfl rfl ?_
    refine mw_ial rfl rfl (S.a 14 rfl) (show iO (some c) = nI c from rfl) (show c < 250 by omega) (by decide) ?_
    iterate 2 refine mw_go rfl rfl ?_
    refine mw_ias rfl rfl (S.a 14 rfl) (show iO (some c) = nI c from rfl) (show c < 250 by omega) (by decide) ?_
    iterate 2 refine mw_go rfl rfl ?_
    show mx_W _ _ (2, [some (.inr (.inr (some m))), some (.inl (nI f)), some (.inl y), some (.inl (nI k + 1))], [], hwI h (m + 11) c (hpI h (m + 11) c + y)) _
    rw [nI_1]
    have etk : ps.take (k + 1) = ps.take k ++ [p] := by
      rw [List.take_succ, hkp]; rfl
    have hpn : p ∉ ps.take k := by
      intro hm
      obtain ⟨i, hi, e⟩ := List.mem_take_iff_getElem.mp hm
      have h1 : ps[i]? = ps[k]? := by rw [hkp, List.getElem?_eq_getElem (by omega)]; exact congrArg some e
      have := (List.getElem?_inj (i := i) (j := k) (show i < ps.length by omega) hnd).mp h1
      omega
    refine ih (k + 1) _ (by omega) ⟨ev_tr E.1 (ev_wI _ (by omega)), ?_, ?_, ?_, fun e he => ?_, fun e he => ?_⟩
    · rw [hpI_wI, if_neg (by omega)]; exact E.2.1
    · rw [hpI_wI, if_neg (by omega)]; exact E.2.2.1
    · rw [hpI_wI, if_neg (by omega)]; exact E.2.2.2.1
    · rw [hpI_wI]
      by_cases ee : e = c
      · subst ee
        rw [if_pos ⟨rfl, rfl⟩, E.2.2.2.2.2 e]
        rintro ⟨q, hq, hqc⟩
        exact hpn ((hd p hpm q (List.mem_of_mem_take hq) e hc hqc) ▸ hq)
      · rw [if_neg (fun q => ee q.2)]
        obtain ⟨q, hq, hqc⟩ := he
        rw [etk] at hq
        rcases List.mem_append.mp hq with hq | hq
        · exact E.2.2.2.2.1 e ⟨q, hq, hqc⟩
        · rw [List.mem_singleton.mp hq, hc] at hqc
          exact absurd (Option.some.inj hqc).symm ee
    · have ee : e ≠ c := fun z => he ⟨p, by rw [etk]; simp, by rw [z]; exact hc⟩
      rw [hpI_wI, if_neg (fun q => ee q.2)]
      refine E.2.2.2.2.2 e (fun z => he ?_)
      obtain ⟨q, hq, hqc⟩ := z
      exact ⟨q, by rw [etk]; exact List.mem_append_left _ hq, hqc⟩
theorem M_mark_ok {h : mx_H} (d : Nat) (T : tOk t) (hf : f < 600) (hps : ∀ p ∈ ps, p < tN t ∧ (tk t p x).isSome = true) (ha : a + ps.length ≤ 6000) (hx : x < 60) (hd : ∀ p ∈ ps, ∀ q ∈ ps, ∀ c, tk t p x = some c → tk t q x = some c → p = q) (hnd : ps.Nodup) (y : Int32) (S : mS m h) (H : mT m t h) (F : cfr m h f a ps.length x) (hP : PA m h a ps) : ∃ h', cl (d + 2) j_M_mark [.inr (.inr (some m)), .inl (nI f), .inl y] h none h' ∧ mkE m t x ps y h h' := by
  have walk : mx_W (mx_Call mx_prog (d + 1)) (mx_nth cd_M_mark) (0, [some (.inr (.inr (some m))), some (.inl (nI f)), some (.inl y), none], [], h) (fun r1 h' => r1 = none ∧ mkE m t x ps y h h') := by
    iterate 2 refine mw_go rfl rfl ?_
    exact M_mark_loop T hf hps ha hx hd hnd y h S H F hP (fun h' E => ⟨rfl, E⟩) ps.length 0 h (by omega) ⟨ev_rf, rfl, rfl, rfl, fun c hc => by obtain ⟨q, hq, -⟩ := hc; simp at hq, fun _ _ => rfl⟩
  obtain ⟨r1, h', hcl, rfl, K'⟩ := mc_of (prog := mx_prog) (j := j_M_mark) (as := [.inr (.inr (some m)), .inl (nI f), .inl y]) (Nat.le_of_ble_eq_true rfl) walk
  exact ⟨h', hcl, K'⟩
end
