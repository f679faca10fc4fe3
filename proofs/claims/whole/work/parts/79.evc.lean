/-! The reference's CHOICES: plain ones, SWITCHES and their ARMS; every question is answered as it should be. -/
/-- the TAKES by which the variables w are TAKEN by the PART p are sure, and no other below it -/
def sW (m : Nat) (t : tr) (h : mx_H) (w : Int64) (p : Nat) : Prop := (∀ x, tb w x = true → (tk t p x).isSome = true) ∧ ∀ c, Sub t p c → (hpI h (m + 11) c = 1 ∧ ∃ x, tb w x = true ∧ tk t p x = some c) ∨ (hpI h (m + 11) c = 0 ∧ ∀ x, tb w x = true → tk t p x ≠ some c)
section
variable {m : Nat} {t : tr} {κ : Nat → Nat}
theorem sW_sr {h h' : mx_H} {w : Int64} {p : Nat} (s : sr m h h') (K : sW m t h w p) : sW m t h' w p := ⟨K.1, fun c hc => by rw [s c]; exact K.2 c hc⟩
theorem tkN_sub {p c : Nat} (h : c ∈ tkN t p) : Sub t p c := by
  unfold tkN at h
  by_cases h5 : tS t p = 5
  · rw [if_pos h5] at h; simp at h; rw [h]; exact Sub_rf p
  · rw [if_neg h5] at h
    by_cases h0 : tS t p = 0
    · rw [if_pos h0] at h; exact Sub_ch h (Sub_rf c)
    · rw [if_neg h0] at h; simp at h
theorem sW_sOk (T : tOk t) {h : mx_H} {w : Int64} {p : Nat} (hp : p < tN t) (K : sW m t h w p) : sOk m t h p := by
  intro c hc
  rcases K.2 c hc with ⟨h1, x, -, hx⟩ | ⟨h0, -⟩
  · exact Or.inr ⟨h1, (tk_in hx).1, (tk_5 T hp hx).2.1⟩
  · exact Or.inl h0
theorem sW_ka (T : tOk t) (hκ : kB t κ) {h : mx_H} {w : Int64} {p : Nat} (hp : p < tN t) (K : sW m t h w p) : ka t κ (sg m h) p = kkn t κ (tb w) p := by
  rw [kkn_ka T hκ hp K.1 (σ := sg m h)]
  intro c hc
  rcases K.2 c (tkN_sub hc) with ⟨h1, x, hx, hk⟩ | ⟨h0, hn⟩
  · exact ⟨fun _ => ⟨x, hx, hk⟩, fun _ => by unfold sg; rw [h1]; rfl⟩
  · exact ⟨fun z => (by rw [sg_0 h0] at z; cases z), fun ⟨x, hx, hk⟩ => absurd hk (hn x hx)⟩
theorem tk_dj (T : tOk t) {i : Nat} (hi : i < tN t) {ps : List Nat} (hps : ∀ p ∈ ps, p ∈ tC t i) (x : Nat) : ∀ p ∈ ps, ∀ q ∈ ps, ∀ c, tk t p x = some c → tk t q x = some c → p = q :=
  fun p hp q hq _ h1 h2 => Sub_dj T hi (hps p hp) (hps q hq) (tkN_sub (tk_in h1).1) (tkN_sub (tk_in h2).1)
/-- marked once more: the SWITCH's variable counts from now on -/
theorem sW_mark (T : tOk t) {i : Nat} (hi : i < tN t) {h h1 : mx_H} {w : Int64} {x : Nat} {ps : List Nat} (hps : ∀ p ∈ ps, p ∈ tC t i) (hx : x < 60) (hw : tb w x = false) (hs : ∀ p ∈ ps, (tk t p x).isSome = true) (K : ∀ p ∈ ps, sW m t h w p) (m1 : ∀ c, mkR t x ps c → hpI h1 (m + 11) c = hpI h (m + 11) c + 1) (m2 : ∀ c, ¬ mkR t x ps c → hpI h1 (m + 11) c = hpI h (m + 11) c) : ∀ p ∈ ps, sW m t h1 (w ||| bL x) p := by
  intro p hp
  have hb := fun y => tb_or w y (show x < 64 by omega)
  obtain ⟨k1', k2⟩ := K p hp
  refine ⟨fun y hy => ?_, fun c hc => ?_⟩
  · rw [hb y] at hy
    rcases Bool.or_eq_true _ _ ▸ hy with h | h
    · exact k1' y h
    · rw [← of_decide_eq_true h]; exact hs p hp
  · by_cases hk : tk t p x = some c
    · left
      have h0 : hpI h (m + 11) c = 0 := by
        rcases k2 c hc with ⟨-, y, hy, hky⟩ | ⟨h0, -⟩
        · have e : x = y := by rw [← (tk_in hk).2, (tk_in hky).2]
          rw [e, hy] at hw; cases hw
        · exact h0
      exact ⟨by rw [m1 c ⟨p, hp, hk⟩, h0]; rfl, x, by rw [hb]; simp, hk⟩
    · have hn : ¬ mkR t x ps c := by
        rintro ⟨q, hq, hqc⟩
        have := Sub_dj T hi (hps p hp) (hps q hq) hc (tkN_sub (tk_in hqc).1)
        rw [this] at hk
        exact hk hqc
      rw [m2 c hn]
      rcases k2 c hc with ⟨h1', y, hy, hky⟩ | ⟨h0, hn0⟩
      · exact Or.inl ⟨h1', y, by rw [hb, hy]; rfl, hky⟩
      · refine Or.inr ⟨h0, fun y hy => ?_⟩
        rw [hb y] at hy
        rcases Bool.or_eq_true _ _ ▸ hy with h | h
        · exact hn0 y h
        · rw [← of_decide_eq_true h]; exact hk
theorem coL_hd {x u v : Nat} : ∀ {l : List Nat}, coL t x (some u) l = some v → u = v := by
  intro l
  induction l with
  | nil => intro h; rw [coL] at h; exact Option.some.inj h
  | cons p r ih =>
    intro h
    rw [coL] at h
    by_cases e : tka t p x = u
    · rw [if_pos e] at h; exact ih h
    · rw [if_neg e] at h; cases h
theorem kc_nil (w : Int64) : kc t κ w [] = 4 := by
  rw [kc_eq]
  have : fsw t w [] = none := by unfold fsw; rw [if_pos (by simp)]
  rw [this]
  rfl
theorem kc_one (T : tOk t) (hκ : kB t κ) (w : Int64) {p : Nat} (hp : p < tN t) : kc t κ w [p] = kkn t κ (tb w) p := by
  rw [kc_eq]
  have : fsw t w [p] = none := by unfold fsw; rw [if_pos (by simp)]
  rw [this]
  have hl := kkn_lt T hκ (X := tb w) hp
  dsimp only
  rw [plL, plL, Bool.true_and, Nat.zero_add]
  have e : kcap (km (kkn t κ (tb w) p)) = km (kkn t κ (tb w) p) := by
    have := km_lt (kkn t κ (tb w) p)
    unfold kcap
    split <;> omega
  rw [e]
  exact (kf_id ⟨_, hl⟩).2
theorem sG_f (w : Int64) : ∀ (l : List Nat), (l.map (fun p => 1 + av t w p + eP t p)).sum = l.length + sA t w l + (l.map (eP t)).sum := by
  intro l
  induction l with
  | nil => rfl
  | cons p r ih =>
    unfold sA at ih ⊢
    rw [List.map_cons, List.map_cons, List.map_cons, List.sum_cons, List.sum_cons, List.sum_cons, ih, List.length_cons]
    omega
end
/-- the loop answers a CHOICE asked in a frame as it should -/
def evC (m : Nat) (nd : Int32) (d : Nat) (t : tr) (κ : Nat → Nat) (w : Int64) (ps : List Nat) : Prop := ∀ (f a pa : Nat) (h : mx_H) (Q : Option mx_V → mx_H → Prop), mS m h → mT m t h → f < 600 → (∀ p ∈ ps, f + 1 + av t w p + gN t p ≤ 600) → a + ps.length ≤ pa → pa + (sA t w ps + (ps.map (eP t)).sum) ≤ 6000 → hpI h m 24 = nI (f + 1) → hpI h m 26 = nI pa → pF m h f (-1) (nI a) (nI ps.length) w → PA m h a ps → (∀ p ∈ ps, sW m t h w p) →
  (∀ h' pa', ev m f pa h h' → sr m h h' → hpI h' m 24 = nI f → hpI h' m 26 = nI pa' → pa ≤ pa' → pa' ≤ pa + (sA t w ps + (ps.map (eP t)).sum) → hpI h' m 27 = nI (kc t κ w ps) → wk m nd d h' Q) → wk m nd d h Q
section
variable {m : Nat} {nd : Int32} {d : Nat} {t : tr} {κ : Nat → Nat}
theorem plain_run (T : tOk t) (hκ : kB t κ) {w : Int64} {ps : List Nat} (hne : ps ≠ []) (hps : ∀ p ∈ ps, p < tN t) (hl : ps.length ≤ 250) (IH : ∀ p ∈ ps, evA m nd d t κ p) {f a pa : Nat} {h : mx_H} {Q : Option mx_V → mx_H → Prop} (S : mS m h) (H : mT m t h) (hf : f < 600) (hG : ∀ p ∈ ps, f + 1 + av t w p + gN t p ≤ 600) (ha : a + ps.length ≤ pa) (hE : pa + (sA t w ps + (ps.map (eP t)).sum) ≤ 6000) (hP : PA m h a ps) (K : ∀ p ∈ ps, sW m t h w p)
    (hQ : ∀ h' pa', ev m f pa h h' → sr m h h' → hpI h' m 24 = nI f → hpI h' m 26 = nI pa' → pa ≤ pa' → pa' ≤ pa + (sA t w ps + (ps.map (eP t)).sum) → hpI h' m 27 = nI (plL t κ (tb w) true 0 ps) → wk m nd d h' Q) :
    ∀ (l : List Nat) (lo hi su pa1 : Nat) (h1 : mx_H), ps.drop lo = l → lo ≤ ps.length → hi ≤ lo → su ≤ 16000 * lo → plL t κ (tb w) true 0 ps = plL t κ (tb w) (decide (hi = 0)) (mm su) l → ev m f pa h h1 → sr m h h1 → hpI h1 m 24 = nI (f + 1) → hpI h1 m 26 = nI pa1 → pa ≤ pa1 → pa1 + (l.map (eP t)).sum ≤ pa + (ps.map (eP t)).sum → cF m h1 f a ps.length w (-1) lo hi su →
    ∃ h2, cl (d + 4) j_M_plainNext [.inr (.inr (some m)), .inl (nI f)] h1 none h2 ∧ wk m nd d h2 Q := by
  have hN := T.2.1
  intro l
  induction l with
  | nil =>
    intro lo hi su pa1 h1 hd hlo hhi hsu hv E s a24 a26 hle hb C
    have hlen := congrArg List.length hd
    rw [List.length_drop] at hlen
    have hlen : ps.length - lo = 0 := hlen
    by_cases hf1 : f + 1 < 600
    · obtain ⟨h2, k2, E2, s2, x2, y2, z2⟩ := M_plainNext_pop (d + 2) (E.S S) hf1 a24 C (by omega) (by omega) (by omega) (by omega)
      refine ⟨h2, k2, hQ h2 pa1 (ev_tr E (ev_mono E2 (by omega) (by omega))) (sr_tr s s2) x2 (y2.trans a26) hle ?_ ?_⟩
      · simp at hb; omega
      · rw [z2, hv]; rfl
    · exfalso
      cases ps with
      | nil => exact hne rfl
      | cons p r =>
        have := hG p List.mem_cons_self
        have := gN_1 T (hps p List.mem_cons_self)
        omega
  | cons p r ih =>
    intro lo hi su pa1 h1 hd hlo hhi hsu hv E s a24 a26 hle hb C
    have hlen := congrArg List.length hd
    rw [List.length_drop, List.length_cons] at hlen
    have hkp : ps[lo]? = some p := by
      have := congrArg (fun l => l[0]?) hd
      simpa using this
    have hd' : ps.drop (lo + 1) = r := by
      have := congrArg List.tail hd
      rw [List.tail_drop] at this
      exact this
    have hpm := List.mem_of_getElem? hkp
    have hp := hps p hpm
    have hgp := hG p hpm
    have hg1 := gN_1 T hp
    rw [List.map_cons, List.sum_cons] at hb
    obtain ⟨h2, k2, E2, s2, x2, y2, F2⟩ := M_plainNext_push (d + 2) (E.S S) (show f + 1 < 600 by omega) a24 C (PA_ev hP E ha) (by omega) hkp
    refine ⟨h2, k2, ?_⟩
    have S2 := E2.S (E.S S)
    have H2 := E2.H (E.H H)
    have K2 := sW_sr (sr_tr s s2) (K p hpm)
    refine IH p hpm (f + 1) pa1 h2 Q S2 H2 (by omega) (by omega) x2 (y2.trans a26) F2 (sW_sOk T hp K2) (fun h3 pa3 E3 s3 x3 y3 l3 m3 z3 => ?_)
    rw [sW_ka T hκ hp K2] at z3
    have S3 := E3.S S2
    have H3 := E3.H H2
    have C3 := cF_ev (cF_ev C E2 (by omega)) E3 (by omega)
    obtain ⟨h4, k4, E4, s4, r4, C4⟩ := M_plainAnswer_ok (d + 2) S3 (show f < 600 by omega) C3 (kkn_lt T hκ (X := tb w) hp) z3
    have E14 : ev m f pa1 h1 h4 := ev_tr (ev_tr (ev_mono E2 (by omega) (by omega)) (ev_mono E3 (by omega) (by omega))) (ev_mono E4 (by omega) (by omega))
    have hpas : pAs (kkn t κ (tb w) p) ≤ 16000 := by unfold pAs; split <;> (try split) <;> omega
    obtain ⟨h5, k5, W5⟩ := ih (lo + 1) _ _ pa3 h4 hd' (by omega) (by split <;> omega) (by omega) (by
      rw [hv, plL, mm_cap, hi_and]) (ev_tr E (ev_mono E14 (by omega) (by omega))) (sr_tr s (sr_tr s2 (sr_tr s3 s4))) (r4.1.trans x3) (r4.2.1.trans y3) (by omega) (by omega) C4
    exact wk_choice S3 (by omega) x3 C3.1 (M_choice_plain d S3 (by omega) C3.2.1 C3.2.2.2.2.2.1 k4 (E4.S S3) C4.2.2.2.2.2.1 k5) W5
theorem arm_run (T : tOk t) (hκ : kB t κ) {i : Nat} (hi : i < tN t) {w : Int64} {ps : List Nat} (hpi : ∀ p ∈ ps, p ∈ tC t i) (hnd : ps.Nodup) {x v : Nat} (hx : x < 60) (hw : tb w x = false) (hs : ∀ p ∈ ps, (tk t p x).isSome = true) (hco : coL t x none ps = some v) (IH : ∀ p ∈ ps, evA m nd d t κ p) (IC : ∀ gm : List Nat, (∀ p ∈ gm, p ∈ tC t i) → gm.Nodup → evC m nd d t κ (w ||| bL x) gm) {f a pa : Nat} {h h0 : mx_H} {Q : Option mx_V → mx_H → Prop} (S : mS m h) (H : mT m t h) (hf : f < 600) (hG : ∀ p ∈ ps, f + 1 + av t w p + gN t p ≤ 600) (ha : a + ps.length ≤ pa) (hE : pa + (sA t w ps + (ps.map (eP t)).sum) ≤ 6000) (hP : PA m h a ps) (K : ∀ p ∈ ps, sW m t h (w ||| bL x) p) (m1 : ∀ c, mkR t x ps c → hpI h (m + 11) c = hpI h0 (m + 11) c + 1) (m2 : ∀ c, ¬ mkR t x ps c → hpI h (m + 11) c = hpI h0 (m + 11) c)
    (hQ : ∀ h' pa', ev m f pa h h' → sr m h0 h' → hpI h' m 24 = nI f → hpI h' m 26 = nI pa' → pa ≤ pa' → pa' ≤ pa + (sA t w ps + (ps.map (eP t)).sum) → hpI h' m 27 = nI (ksw v ((grp t x ps).map (fun q => kc t κ (w ||| bL x) q.2))) → wk m nd d h' Q) :
    ∀ (L : List (Nat × List Nat)) (k hi' mo pa1 : Nat) (cf : Bool) (h1 : mx_H), nwk t x ps k = L → k ≤ ps.length → hi' ≤ k → mo < 3 → ksw v ((grp t x ps).map (fun q => kc t κ (w ||| bL x) q.2)) = swA v cf mo hi' (L.map (fun q => kc t κ (w ||| bL x) q.2)) → ev m f pa h h1 → sr m h h1 → hpI h1 m 24 = nI (f + 1) → hpI h1 m 26 = nI pa1 → pa ≤ pa1 → pa1 + sG (fun p => 1 + av t (w ||| bL x) p + eP t p) L ≤ pa + (sA t w ps + (ps.map (eP t)).sum) → cF m h1 f a ps.length w (nI x) k hi' (sE cf mo) →
    ∃ h2, cl (d + 4) j_M_armNext [.inr (.inr (some m)), .inl (nI f)] h1 none h2 ∧ wk m nd d h2 Q := by
  have hN := T.2.1
  have hps : ∀ p ∈ ps, p < tN t := fun p hp => ((T.at hi).2.2.1 p (hpi p hp)).2.1
  have hps2 : ∀ p ∈ ps, p < tN t ∧ (tk t p x).isSome = true := fun p hp => ⟨hps p hp, hs p hp⟩
  have hdj := tk_dj T hi hpi x
  have hlp : 0 < ps.length := by
    cases ps with
    | nil => rw [coL] at hco; cases hco
    | cons p r => simp
  have hl : ps.length ≤ 6000 := by omega
  intro L
  induction L with
  | nil =>
    intro k hi' mo pa1 cf h1 hL hk hhi hmo hv E s a24 a26 hle hb C
    have hfn : fnF (gt' t x ps) k (ps.length - k) = ps.length := by
      have h1 := fnF_le (gt' t x ps) (ps.length - k) k
      have h2 := (nwk_fn (t := t) (x := x) (ps := ps) (ps.length - k) k (by omega)).2
      by_cases e : fnF (gt' t x ps) k (ps.length - k) < ps.length
      · rw [hL] at h2; exact absurd (h2 e) (by simp)
      · omega
    obtain ⟨p0, hp0⟩ : ∃ p, ps[0]? = some p := ⟨ps[0]'hlp, List.getElem?_eq_getElem hlp⟩
    obtain ⟨c0, hc0⟩ := Option.isSome_iff_exists.mp (hs p0 (List.mem_of_getElem? hp0))
    have hvA : tA t c0 = v := by
      cases ps with
      | nil => simp at hlp
      | cons p r =>
        simp at hp0
        subst hp0
        rw [coL] at hco
        have := coL_hd hco
        unfold tka at this
        rw [hc0] at this
        exact this
    obtain ⟨h2, k2, E2, x2, y2, z2, u2, v2⟩ := M_armNext_pop d (E.S S) T (E.H H) hf a24 hps2 (by omega) hx hdj hnd C hmo (by omega) (PA_ev hP E ha) hk hfn hp0 hc0
    refine ⟨h2, k2, hQ h2 pa1 (ev_tr E (ev_mono E2 (by omega) (by omega))) (fun c => ?_) x2 (y2.trans a26) hle ?_ ?_⟩
    · by_cases hc : mkR t x ps c
      · rw [u2 c hc, s c, m1 c hc, Int32.add_assoc]
        show _ + (1 + -1) = _
        rw [show (1 + -1 : Int32) = 0 from by decide, Int32.add_zero]
      · rw [v2 c hc, s c, m2 c hc]
    · have : sG (fun p => 1 + av t (w ||| bL x) p + eP t p) [] = 0 := rfl
      omega
    · rw [z2, hv, List.map_nil, swA_nil, hvA]
  | cons e L ih =>
    intro k hi' mo pa1 cf h1 hL hk hhi hmo hv E s a24 a26 hle hb C
    obtain ⟨g, gm⟩ := e
    obtain ⟨n1, n2⟩ := nwk_fn (t := t) (x := x) (ps := ps) (ps.length - k) k (by omega)
    have hle' := fnF_le (gt' t x ps) (ps.length - k) k
    obtain ⟨k', hk'⟩ : ∃ k', fnF (gt' t x ps) k (ps.length - k) = k' := ⟨_, rfl⟩
    rw [hk'] at n1 n2 hle'
    have hlt : k' < ps.length := by
      by_cases e : k' = ps.length
      · have := n1 e; rw [hL] at this; cases this
      · omega
    have n2 := n2 hlt
    rw [hL] at n2
    obtain ⟨n3, n4⟩ := List.cons.inj n2
    obtain ⟨n5, hgm⟩ := Prod.mk.inj n3
    have hgs : ∀ p ∈ gm, p ∈ ps := fun p hp => by
      rw [hgm] at hp
      exact List.mem_of_mem_drop (List.mem_filter.mp hp).1
    have hgn : gm.Nodup := by
      rw [hgm]
      exact (List.Sublist.nodup (List.drop_sublist _ _) hnd).filter _
    have hbud : sG (fun p => 1 + av t (w ||| bL x) p + eP t p) ((g, gm) :: L) = (gm.length + sA t (w ||| bL x) gm + (gm.map (eP t)).sum) + sG (fun p => 1 + av t (w ||| bL x) p + eP t p) L := by
      show ((gm.map (fun p => 1 + av t (w ||| bL x) p + eP t p)).sum + _) = _
      rw [sG_f]; rfl
    rw [hbud] at hb
    obtain ⟨p0, hp0⟩ : ∃ p, ps[0]? = some p := ⟨ps[0]'hlp, List.getElem?_eq_getElem hlp⟩
    have hf1 : f + 1 < 600 := by
      have h1 := hG p0 (List.mem_of_getElem? hp0)
      have h2 := gN_1 T (hps p0 (List.mem_of_getElem? hp0))
      omega
    obtain ⟨h2, k2, E2, s2, x2, y2, C2, P2, F2⟩ := M_armNext_push d (E.S S) T (E.H H) hf1 a24 a26 hps2 (by omega) hx C (PA_ev hP E ha) hk hk' hlt hgm (by omega)
    refine ⟨h2, k2, ?_⟩
    have S2 := E2.S (E.S S)
    have H2 := E2.H (E.H H)
    have s02 := sr_tr s s2
    have arm : (∀ h3 pa3, ev m (f + 1) (pa1 + gm.length) h2 h3 → sr m h2 h3 → hpI h3 m 24 = nI (f + 1) → hpI h3 m 26 = nI pa3 → pa1 + gm.length ≤ pa3 → pa3 ≤ pa1 + gm.length + (sA t (w ||| bL x) gm + (gm.map (eP t)).sum) → hpI h3 m 27 = nI (kc t κ (w ||| bL x) gm) → wk m nd d h3 Q) → wk m nd d h2 Q := by
      intro KK
      unfold aFm at F2
      by_cases h1 : gm.length = 1
      · rw [if_pos h1] at F2
        obtain ⟨p, hp⟩ : ∃ p, gm = [p] := List.length_eq_one_iff.mp h1
        subst hp
        have hpm := hgs p (by simp)
        have hp := hps p hpm
        have hgp := hG p hpm
        have K2 := sW_sr s02 (K p hpm)
        rw [kc_one T hκ _ hp] at KK
        simp only [List.map_cons, List.map_nil, List.sum_cons, List.sum_nil, List.length_singleton] at KK hb y2
        refine IH p hpm (f + 1) (pa1 + 1) h2 Q S2 H2 (by omega) (by omega) x2 y2 F2 (sW_sOk T hp K2) (fun h3 pa3 E3 s3 x3 y3 l3 m3 z3 => KK h3 pa3 E3 s3 x3 y3 l3 (by omega) ?_)
        rw [z3, sW_ka T hκ hp K2]
      · rw [if_neg h1] at F2
        refine IC gm (fun p hp => hpi p (hgs p hp)) hgn (f + 1) pa1 (pa1 + gm.length) h2 Q S2 H2 hf1 (fun p hp => ?_) (by omega) (by omega) x2 y2 F2 P2 (fun p hp => sW_sr s02 (K p (hgs p hp))) KK
        have h1 := hG p (hgs p hp)
        have h2 := av_up hx hw (hs p (hgs p hp))
        omega
    refine arm (fun h3 pa3 E3 s3 x3 y3 l3 m3 z3 => ?_)
    have S3 := E3.S S2
    have C3 := cF_ev C2 E3 (by omega)
    obtain ⟨h4, k4, E4, s4, r4, C4⟩ := M_armAnswer_ok (d + 2) S3 hf C3 hmo (kc_lt t κ (w ||| bL x) gm) z3
    have E14 : ev m f pa1 h1 h4 := ev_tr (ev_tr (ev_mono E2 (by omega) (by omega)) (ev_mono E3 (by omega) (by omega))) (ev_mono E4 (by omega) (by omega))
    have hkm := km_lt (kc t κ (w ||| bL x) gm)
    obtain ⟨h5, k5, W5⟩ := ih (k' + 1) (hi' + 1) _ pa3 _ h4 n4.symm (by omega) (by omega) (by split <;> omega) (by
      rw [hv, List.map_cons, swA_cons]) (ev_tr E (ev_mono E14 (by omega) (by omega))) (sr_tr s (sr_tr s2 (sr_tr s3 s4))) (r4.1.trans x3) (r4.2.1.trans y3) (by omega) (by omega) C4
    exact wk_choice S3 hf x3 C3.1 (M_choice_arm d S3 hf C3.2.1 C3.2.2.2.2.2.1 hx k4 (E4.S S3) C4.2.2.2.2.2.1 k5) W5
theorem evC_ok (T : tOk t) (hκ : kB t κ) {i : Nat} (hi : i < tN t) (IH : ∀ p ∈ tC t i, evA m nd d t κ p) : ∀ (n : Nat) (w : Int64), bc w + n = 61 → ∀ ps : List Nat, (∀ p ∈ ps, p ∈ tC t i) → ps.Nodup → evC m nd d t κ w ps := by
  intro n
  induction n with
  | zero => intro w hw; have := bc_le w; omega
  | succ n ih =>
    intro w hw ps hpi hnd f a pa h Q S H hf hG ha hE hF h26 P hP K hQ
    have hN := T.2.1
    have hps : ∀ p ∈ ps, p < tN t := fun p hp => ((T.at hi).2.2.1 p (hpi p hp)).2.1
    by_cases hne : ps = []
    · subst hne
      obtain ⟨h', k', E', s', x', y', z'⟩ := M_choice_empty d S hf hF P
      refine wk_choice S hf hF P.1 k' (hQ h' pa (ev_mono E' (by omega) (by omega)) s' x' (y'.trans h26) (by omega) (by omega) ?_)
      rw [z', kc_nil]
    · have hkc := kc_eq t κ w ps
      cases hs : fsw t w ps with
      | none =>
        rw [hs] at hkc
        rw [hkc] at hQ
        obtain ⟨h1, E1, s1, r1, C1, w1⟩ := M_choice_0 d S T H hf P hne hps hP (by omega) hs
        have hl : ps.length ≤ 250 := by
          have := nodup_len (tN t) ps hnd hps
          omega
        obtain ⟨h2, k2, W2⟩ := plain_run T hκ hne hps hl (fun p hp => IH p (hpi p hp)) S H hf hG ha hE hP K hQ ps 0 0 0 pa h1 rfl (by omega) (by omega) (by omega) rfl (ev_mono E1 (by omega) (by omega)) s1 (r1.1.trans hF) (r1.2.1.trans h26) (by omega) (by omega) C1
        exact wk_choice S hf hF P.1 (w1 h2 k2) W2
      | some q =>
        obtain ⟨x, v⟩ := q
        rw [hs] at hkc
        rw [hkc] at hQ
        obtain ⟨f1, f2, f3, f4, f5, f6⟩ := fsw_spec T hps hs
        have hup := bc_up f2 f3
        obtain ⟨h1, E1, m1, m2, r1, C1, w1⟩ := M_choice_s d S T H hf P hne hps hP (by omega) hs (tk_dj T hi hpi x) hnd
        have K1 := sW_mark T hi hpi f2 f3 f4 K m1 m2
        have hsum : sG (fun p => 1 + av t (w ||| bL x) p + eP t p) (grp t x ps) = sA t w ps + (ps.map (eP t)).sum := by
          unfold grp
          rw [grL_sum]
          show 0 + _ = _
          rw [sG_f, Nat.zero_add]
          have := map_sum_add (f := av t (w ||| bL x)) (g := av t w) (l := ps) (fun p hp => av_up f2 f3 (f4 p hp))
          unfold sA
          omega
        obtain ⟨h2, k2, W2⟩ := arm_run T hκ hi hpi hnd f2 f3 f4 f5 (fun p hp => IH p (hpi p hp)) (ih (w ||| bL x) (by omega)) (E1.S S) (E1.H H) hf hG ha hE (PA_ev hP E1 (by omega)) K1 m1 m2 (fun h' pa' E' => hQ h' pa' (ev_tr (ev_mono E1 (by omega) (by omega)) E')) (grp t x ps) 0 0 0 pa false h1 nwk_0 (by omega) (by omega) (by omega) (swA_0 _ _).symm ev_rf sr_rf (r1.1.trans hF) (r1.2.1.trans h26) (by omega) (by rw [hsum]; omega) C1
        exact wk_choice S hf hF P.1 (w1 h2 k2) W2
theorem evA_choice (T : tOk t) (hκ : kB t κ) (hk : kOk t κ) {n : Nat} (hn : n < tN t) (h1 : tS t n = 1) (IH : ∀ p ∈ tC t n, evA m nd d t κ p) : evA m nd d t κ n := by
  intro f pa h Q S H hG hE hF h26 P K hQ
  have hN := T.2.1
  have hg1 := gN_1 T hn
  have hech := eP_ch T hn h1 0
  obtain ⟨h', k', E', s', x', y', P', F'⟩ := M_ask_choice d S T H hn (show f < 600 by omega) hF P.1 h1 h26 (by omega)
  refine wk_ask S (by omega) hF P.1 (by omega) k' ?_
  have S' := E'.S S
  have hz : ∀ c, Sub t n c → hpI h (m + 11) c = 0 := by
    intro c hc
    rcases K c hc with h0 | ⟨-, h2, -⟩
    · exact h0
    · unfold tkN at h2; rw [if_neg (by omega), if_neg (by omega)] at h2; simp at h2
  refine evC_ok T hκ hn IH 61 0 (by rw [bc_0]) (tC t n) (fun p hp => hp) (T.at hn).2.2.2.1 f pa (pa + (tC t n).length) h' Q S' (E'.H H) (by omega) (fun p hp => ?_) (by omega) (by omega) x' y' F' P' (fun p hp => ⟨fun x hx => (by rw [tb_zero] at hx; cases hx), fun c hc => Or.inr ⟨by rw [s' c]; exact hz c (Sub_ch hp hc), fun x hx => (by rw [tb_zero] at hx; cases hx)⟩⟩) (fun h2 pa2 E2 s2 x2 y2 l2 m2 z2 => hQ h2 pa2 (ev_tr E' (ev_mono E2 (by omega) (by omega))) (sr_tr s' s2) x2 y2 (by omega) (by omega) ?_)
  · have := gN_ch T hn h1 hp 0
    omega
  · rw [z2]
    have : kc t κ 0 (tC t n) = ka t κ (sg m h) n := by
      unfold ka
      rw [if_neg (by omega), if_neg (by omega), hk n hn]
      unfold stp
      rw [if_neg (by omega), if_pos h1]
    rw [this]
theorem evA_ok (T : tOk t) (hκ : kB t κ) (hk : kOk t κ) : ∀ (k n : Nat), n < tN t → tN t - n ≤ k → evA m nd d t κ n := by
  intro k
  induction k with
  | zero => intro n hn h; omega
  | succ k ih =>
    intro n hn h
    have IH : ∀ c ∈ tC t n, evA m nd d t κ c := fun c hc => by
      have := (T.at hn).2.2.1 c hc
      exact ih c this.2.1 (by omega)
    have h6 := (T.at hn).1
    by_cases h1 : tS t n = 1
    · exact evA_choice T hκ hk hn h1 IH
    · by_cases h4 : tS t n = 4
      · exact evA_goal T hκ hn h4
      · by_cases h5 : tS t n = 5
        · exact evA_take T hk hn h5
        · exact evA_sev T hκ hk hn (by omega) IH
end
/-- worked: the KIND of the NODE n -/
theorem M_worked_ok {m : Nat} {t : tr} {κ : Nat → Nat} {h : mx_H} (d : Nat) (S : mS m h) (T : tOk t) (H : mT m t h) (hκ : kB t κ) (hk : kOk t κ) (hz : ∀ c, c < tN t → hpI h (m + 11) c = 0) {n : Nat} (hn : n < tN t) : ∃ h', cl (d + 6) j_M_worked [.inr (.inr (some m)), .inl (nI n)] h (some (.inl (nI (κ n)))) h' ∧ ev m 0 0 h h' ∧ sr m h h' := by
  have hN := T.2.1
  have hz' : ∀ c, Sub t n c → hpI h (m + 11) c = 0 := fun c hc => hz c (Sub_le T hn hc).2
  have walk : mx_W (mx_Call mx_prog (d + 5)) (mx_nth cd_M_worked) (0, [some (.inr (.inr (some m))), some (.inl (nI n)), none], [], h) (fun r1 h' => r1 = some (.inl (nI (κ n))) ∧ ev m 0 0 h h' ∧ sr m h h') := by
    iterate 2 refine mw_go rfl rfl ?_
    refine mw_pI rfl rfl S.1 ?_
    iterate 2 refine mw_go rfl rfl ?_
    refine mw_pI rfl rfl S.1 ?_
    have E1 : ev m 0 0 h (hwI (hwI h m 24 0) m 26 0) := ev_tr (ev_wm _ (by omega)) (ev_wm _ (by omega))
    have s1 : sr m h (hwI (hwI h m 24 0) m 26 0) := fun c => by simp [hpI_wI]
    have a1 : hpI (hwI (hwI h m 24 0) m 26 0) m 24 = nI 0 := by simp [hpI_wI]; rfl
    have b1 : hpI (hwI (hwI h m 24 0) m 26 0) m 26 = nI 0 := by simp [hpI_wI]; rfl
    generalize hwI (hwI h m 24 0) m 26 0 = h1 at E1 s1 a1 b1 ⊢
    have S1 := E1.S S
    iterate 5 refine mw_go rfl rfl ?_
    obtain ⟨h2, k2, E2, s2, x2, y2, -, F2⟩ := M_push_ok (d + 4) S1 (show 0 < 600 by omega) a1 (nI n) (-1) 0 0
    refine mw_cn k2 rfl rfl rfl (Nat.le_of_ble_eq_true rfl) ⟨_, rfl, S1.1⟩ ?_
    have s12 := sr_tr s1 s2
    have hsz := sz_le (t := t) n
    have K2 : sOk m t h2 n := fun c hc => Or.inl (by rw [s12 c]; exact hz' c hc)
    refine evA_ok T hκ hk _ n hn (Nat.le_refl _) 0 0 h2 _ (E2.S S1) (E2.H (E1.H H)) (by unfold gN; omega) (by unfold eP; omega) x2 (y2.trans b1) F2 K2 (fun h3 pa3 E3 s3 x3 y3 l3 m3 z3 => ?_) none
    intro z
    have S3 := E3.S (E2.S S1)
    refine mw_go rfl rfl ?_
    refine mv_gI rfl rfl S3.1 x3 ?_
    refine mw_go rfl rfl ?_
    refine mw_ifT (by decide) ?_
    refine mw_go rfl rfl ?_
    refine mv_gI rfl rfl S3.1 z3 ?_
    refine mw_r0 rfl ⟨?_, ev_tr E1 (ev_tr (ev_mono E2 (by omega) (by omega)) E3), sr_tr s12 s3⟩
    rw [ka_no T hκ hk hn (fun c hc => sg_0 (by rw [s12 c]; exact hz' c (tkN_sub hc)))]
  obtain ⟨r1, h', hcl, rfl, K'⟩ := mc_of (prog := mx_prog) (j := j_M_worked) (as := [.inr (.inr (some m)), .inl (nI n)]) (Nat.le_of_ble_eq_true rfl) walk
  exact ⟨h', hcl, K'⟩
