/-! The reference's worked: its loop, one call at a time; how much room a NODE wants; NODES that ask their PARTS one by one. -/
abbrev wk (m : Nat) (nd : Int32) (d : Nat) (h : mx_H) (Q : Option mx_V → mx_H → Prop) : Prop := ∀ z : Option mx_V, mx_W (mx_Call mx_prog (d + 5)) (mx_nth cd_M_worked) (12, [some (.inr (.inr (some m))), some (.inl nd), z], [], h) Q
section
variable {m : Nat} {nd : Int32} {d : Nat} {h h' : mx_H} {Q : Option mx_V → mx_H → Prop} {f : Nat}
theorem wk_choice (S : mS m h) (hf : f < 600) (hF : hpI h m 24 = nI (f + 1)) (h12 : hpI h (m + 12) f = -1) (k : cl (d + 5) j_M_choice [.inr (.inr (some m)), .inl (nI f)] h none h') (K : wk m nd d h' Q) : wk m nd d h Q := by
  intro z
  refine mw_go rfl rfl ?_
  refine mv_gI rfl rfl S.1 hF ?_
  refine mw_go rfl rfl ?_
  refine mw_ifF (fun q => absurd ((nI_leI (a := f + 1) (b := 0) (by omega) (by omega)).mp q) (by omega)) ?_
  refine mw_go rfl rfl ?_
  refine mv_gI rfl rfl S.1 hF ?_
  iterate 2 refine mw_go rfl rfl ?_
  rw [nI_s1]
  iterate 2 refine mw_go rfl rfl ?_
  refine mv_gR rfl rfl S.1 (S.r 15 rfl) ?_
  refine mw_go rfl rfl ?_
  refine mv_ial rfl rfl (S.a 15 rfl) rfl hf (by decide) h12 ?_
  iterate 2 refine mw_go rfl rfl ?_
  refine mw_ifT rfl ?_
  iterate 2 refine mw_go rfl rfl ?_
  refine mw_cn k rfl rfl rfl (Nat.le_of_ble_eq_true rfl) ⟨_, rfl, S.1⟩ ?_
  iterate 2 refine mw_go rfl rfl ?_
  exact K _
theorem wk_ask {n : Nat} (S : mS m h) (hf : f < 600) (hF : hpI h m 24 = nI (f + 1)) (h12 : hpI h (m + 12) f = nI n) (hn : n < 250) (k : cl (d + 5) j_M_ask [.inr (.inr (some m)), .inl (nI f)] h none h') (K : wk m nd d h' Q) : wk m nd d h Q := by
  intro z
  refine mw_go rfl rfl ?_
  refine mv_gI rfl rfl S.1 hF ?_
  refine mw_go rfl rfl ?_
  refine mw_ifF (fun q => absurd ((nI_leI (a := f + 1) (b := 0) (by omega) (by omega)).mp q) (by omega)) ?_
  refine mw_go rfl rfl ?_
  refine mv_gI rfl rfl S.1 hF ?_
  iterate 2 refine mw_go rfl rfl ?_
  rw [nI_s1]
  iterate 2 refine mw_go rfl rfl ?_
  refine mv_gR rfl rfl S.1 (S.r 15 rfl) ?_
  refine mw_go rfl rfl ?_
  refine mv_ial rfl rfl (S.a 15 rfl) rfl hf (by decide) h12 ?_
  iterate 2 refine mw_go rfl rfl ?_
  refine mw_ifF (nI_m1 (by omega)) ?_
  iterate 2 refine mw_go rfl rfl ?_
  refine mw_cn k rfl rfl rfl (Nat.le_of_ble_eq_true rfl) ⟨_, rfl, S.1⟩ ?_
  refine mw_go rfl rfl ?_
  exact K _
end
/-- frames, and places in the row of PARTS, that a NODE wants -/
noncomputable def gN (t : tr) (n : Nat) : Nat := 2 * sz t n - (if tS t n = 1 then 0 else (tC t n).length)
noncomputable def eP (t : tr) (n : Nat) : Nat := 3 * sz t n - 2 - (if tS t n = 1 then 0 else (tC t n).length)
section
variable {t : tr}
theorem sum_ge {f : Nat → Nat} : ∀ {l : List Nat}, (∀ z ∈ l, 1 ≤ f z) → l.length ≤ (l.map f).sum := by
  intro l
  induction l with
  | nil => intro _; simp
  | cons a r ih =>
    intro h
    have := ih (fun z hz => h z (List.mem_cons_of_mem _ hz))
    have := h a List.mem_cons_self
    rw [List.length_cons, List.map_cons, List.sum_cons]
    omega
theorem sum_mem {f : Nat → Nat} {c : Nat} : ∀ {l : List Nat}, c ∈ l → (∀ z ∈ l, 1 ≤ f z) → f c + l.length ≤ (l.map f).sum + 1 := by
  intro l
  induction l with
  | nil => intro h; simp at h
  | cons a r ih =>
    intro hc h
    have hr := fun z hz => h z (List.mem_cons_of_mem _ hz)
    rw [List.length_cons, List.map_cons, List.sum_cons]
    rcases List.mem_cons.mp hc with e | e
    · rw [e]; have := sum_ge hr; omega
    · have := ih e hr
      have := h a List.mem_cons_self
      omega
theorem sum_3 {f g e : Nat → Nat} : ∀ {l : List Nat}, (∀ z ∈ l, f z + g z + 1 ≤ 3 * e z) → l.length + (l.map f).sum + (l.map g).sum ≤ 3 * (l.map e).sum := by
  intro l
  induction l with
  | nil => intro _; simp
  | cons a r ih =>
    intro h
    have := ih (fun z hz => h z (List.mem_cons_of_mem _ hz))
    have := h a List.mem_cons_self
    rw [List.length_cons, List.map_cons, List.map_cons, List.map_cons, List.sum_cons, List.sum_cons, List.sum_cons]
    omega
theorem sum_2 {g e : Nat → Nat} : ∀ {l : List Nat}, (∀ z ∈ l, g z + 2 ≤ 3 * e z) → (l.map g).sum + 2 * l.length ≤ 3 * (l.map e).sum := by
  intro l
  induction l with
  | nil => intro _; simp
  | cons a r ih =>
    intro h
    have := ih (fun z hz => h z (List.mem_cons_of_mem _ hz))
    have := h a List.mem_cons_self
    rw [List.length_cons, List.map_cons, List.map_cons, List.sum_cons, List.sum_cons]
    omega
theorem sz_1 (T : tOk t) {n : Nat} (hn : n < tN t) : 1 ≤ sz t n := by have := sz_ch T hn; omega
theorem sz_C (T : tOk t) {n : Nat} (hn : n < tN t) : 1 + (tC t n).length ≤ sz t n := by
  have := sz_ch T hn
  have := sum_ge (f := sz t) (l := tC t n) (fun c hc => sz_1 T ((T.at hn).2.2.1 c hc).2.1)
  omega
theorem eP_sev (T : tOk t) {n : Nat} (hn : n < tN t) (h1 : tS t n ≠ 1) : ((tC t n).map (eP t)).sum ≤ eP t n := by
  have hs := sz_ch T hn
  have h2 := sum_2 (g := eP t) (e := sz t) (l := tC t n) (fun c hc => by
    have := sz_1 T ((T.at hn).2.2.1 c hc).2.1
    unfold eP; omega)
  have e : eP t n = 3 * sz t n - 2 - (tC t n).length := by unfold eP; rw [if_neg h1]
  rw [e]
  omega
theorem tkN_5 (t : tr) (p : Nat) : (tkN t p).length = if tS t p = 5 then 1 else if tS t p = 0 then (tC t p).length else 0 := by
  unfold tkN
  split
  · rfl
  · split <;> rfl
theorem eP_ch (T : tOk t) {n : Nat} (hn : n < tN t) (h1 : tS t n = 1) (w : Int64) : (tC t n).length + sA t w (tC t n) + ((tC t n).map (eP t)).sum ≤ eP t n := by
  have hs := sz_ch T hn
  have h2 := sum_3 (f := av t w) (g := eP t) (e := sz t) (l := tC t n) (fun c hc => by
    have hc' := ((T.at hn).2.2.1 c hc).2.1
    have h3 := sz_1 T hc'
    have h4 := sz_C T hc'
    have h5 := av_le (t := t) (w := w) (p := c)
    have h6 := (T.at hc').2.2.2.2.1
    rw [tkN_5] at h5
    unfold eP
    by_cases e5 : tS t c = 5
    · rw [if_pos e5] at h5
      rw [h6 (by omega)] at h4 ⊢
      simp only [List.length_nil, ite_self] at h4 ⊢
      omega
    · rw [if_neg e5] at h5
      by_cases e0 : tS t c = 0
      · rw [if_pos e0] at h5; rw [if_neg (by omega)]; omega
      · rw [if_neg e0] at h5; omega)
  have e : eP t n = 3 * sz t n - 2 := by unfold eP; rw [if_pos h1]; omega
  rw [e]
  unfold sA
  omega
theorem gN_sev (T : tOk t) {n c : Nat} (hn : n < tN t) (h1 : tS t n ≠ 1) (hc : c ∈ tC t n) : gN t c + 1 ≤ gN t n := by
  have hs := sz_ch T hn
  have hm := sum_mem (f := sz t) hc (fun c hc => sz_1 T ((T.at hn).2.2.1 c hc).2.1)
  have hl : 0 < (tC t n).length := List.length_pos_iff.mpr (fun e => by rw [e] at hc; simp at hc)
  have e : gN t n = 2 * sz t n - (tC t n).length := by unfold gN; rw [if_neg h1]
  have : gN t c ≤ 2 * sz t c := by unfold gN; omega
  rw [e]
  omega
theorem gN_ch (T : tOk t) {n c : Nat} (hn : n < tN t) (h1 : tS t n = 1) (hc : c ∈ tC t n) (w : Int64) : 1 + av t w c + gN t c ≤ gN t n := by
  have hs := sz_ch T hn
  have hm := sum_mem (f := sz t) hc (fun c hc => sz_1 T ((T.at hn).2.2.1 c hc).2.1)
  have hl : 0 < (tC t n).length := List.length_pos_iff.mpr (fun e => by rw [e] at hc; simp at hc)
  have e : gN t n = 2 * sz t n := by unfold gN; rw [if_pos h1]; omega
  have hc' := ((T.at hn).2.2.1 c hc).2.1
  have h4 := sz_C T hc'
  have h5 := av_le (t := t) (w := w) (p := c)
  have h6 := (T.at hc').2.2.2.2.1
  rw [tkN_5] at h5
  rw [e]
  unfold gN
  by_cases e5 : tS t c = 5
  · rw [if_pos e5] at h5; omega
  · rw [if_neg e5] at h5
    by_cases e0 : tS t c = 0
    · rw [if_pos e0] at h5; rw [if_neg (by omega)]; omega
    · rw [if_neg e0] at h5; omega
theorem gN_1 (T : tOk t) {n : Nat} (hn : n < tN t) : 1 ≤ gN t n := by
  have := sz_C T hn
  unfold gN
  split <;> omega
end
/-- the TAKES that are sure now -/
def sg (m : Nat) (h : mx_H) (c : Nat) : Bool := decide (hpI h (m + 11) c = 1)
theorem sg_sr {m : Nat} {h h' : mx_H} (s : sr m h h') : sg m h' = sg m h := by funext c; unfold sg; rw [s c]
/-- no TAKE is sure below n but those that n is, or has for PARTS -/
def sOk (m : Nat) (t : tr) (h : mx_H) (n : Nat) : Prop := ∀ c, Sub t n c → hpI h (m + 11) c = 0 ∨ (hpI h (m + 11) c = 1 ∧ c ∈ tkN t n ∧ tS t c = 5)
theorem sOk_sr {m n : Nat} {t : tr} {h h' : mx_H} (s : sr m h h') (K : sOk m t h n) : sOk m t h' n := fun c hc => by rw [s c]; exact K c hc
theorem sg_0 {m c : Nat} {h : mx_H} (e : hpI h (m + 11) c = 0) : sg m h c = false := by unfold sg; rw [e]; rfl
theorem sOk_ch {m n c : Nat} {t : tr} {h : mx_H} (T : tOk t) (hn : n < tN t) (K : sOk m t h n) (hc : c ∈ tC t n) : sOk m t h c ∧ (tS t c ≠ 5 → ∀ e ∈ tkN t c, sg m h e = false) := by
  have one : ∀ e, Sub t c e → hpI h (m + 11) e = 0 ∨ (hpI h (m + 11) e = 1 ∧ e = c ∧ tS t e = 5) := by
    intro e he
    rcases K e (Sub_ch hc he) with h0 | ⟨h1, h2, h3⟩
    · exact Or.inl h0
    · refine Or.inr ⟨h1, ?_, h3⟩
      unfold tkN at h2
      by_cases h5 : tS t n = 5
      · rw [(T.at hn).2.2.2.2.1 (by omega)] at hc; simp at hc
      · rw [if_neg h5] at h2
        by_cases h0 : tS t n = 0
        · rw [if_pos h0] at h2
          exact Sub_dj T hn h2 hc (Sub_rf e) he
        · rw [if_neg h0] at h2; simp at h2
  refine ⟨fun e he => ?_, fun h5 e he => ?_⟩
  · rcases one e he with h0 | ⟨h1, h2, h3⟩
    · exact Or.inl h0
    · refine Or.inr ⟨h1, ?_, h3⟩
      subst h2
      unfold tkN
      rw [if_pos h3]
      simp
  · have hs : Sub t c e := by
      unfold tkN at he
      rw [if_neg h5] at he
      by_cases h0 : tS t c = 0
      · rw [if_pos h0] at he; exact Sub_ch he (Sub_rf e)
      · rw [if_neg h0] at he; simp at he
    rcases one e hs with h0 | ⟨h1, h2, h3⟩
    · exact sg_0 h0
    · rw [h2] at h3; exact absurd h3 h5
theorem ka_ch {m n c : Nat} {t : tr} {κ : Nat → Nat} {h : mx_H} (T : tOk t) (hκ : kB t κ) (hk : kOk t κ) (hn : n < tN t) (K : sOk m t h n) (hc : c ∈ tC t n) : ka t κ (sg m h) c = k1 t κ (sg m h) c := by
  have hc' := ((T.at hn).2.2.1 c hc).2.1
  by_cases h5 : tS t c = 5
  · unfold ka k1
    rw [if_pos h5]
    by_cases hs : sg m h c = true
    · rw [if_pos hs, if_pos ⟨h5, hs⟩]
    · rw [if_neg hs, if_neg (fun z => hs z.2)]
  · rw [ka_no T hκ hk hc' ((sOk_ch T hn K hc).2 h5)]
    unfold k1
    rw [if_neg (fun z => h5 z.1)]
/-- the loop answers the question n asked in a frame as it should -/
def evA (m : Nat) (nd : Int32) (d : Nat) (t : tr) (κ : Nat → Nat) (n : Nat) : Prop := ∀ (f pa : Nat) (h : mx_H) (Q : Option mx_V → mx_H → Prop), mS m h → mT m t h → f + gN t n ≤ 600 → pa + eP t n ≤ 6000 → hpI h m 24 = nI (f + 1) → hpI h m 26 = nI pa → pF m h f (nI n) (-1) 0 0 → sOk m t h n →
  (∀ h' pa', ev m f pa h h' → sr m h h' → hpI h' m 24 = nI f → hpI h' m 26 = nI pa' → pa ≤ pa' → pa' ≤ pa + eP t n → hpI h' m 27 = nI (ka t κ (sg m h) n) → wk m nd d h' Q) → wk m nd d h Q
section
variable {m : Nat} {nd : Int32} {d : Nat} {t : tr} {κ : Nat → Nat}
theorem evA_goal (T : tOk t) (hκ : kB t κ) {n : Nat} (hn : n < tN t) (h4 : tS t n = 4) : evA m nd d t κ n := by
  intro f pa h Q S H hG hE hF h26 P K hQ
  have := gN_1 T hn
  have hN := T.2.1
  obtain ⟨h', k', E', s', a', b', c'⟩ := M_ask_goal d S T H hn (show f < 600 by omega) hF P.1 h4
  refine wk_ask S (by omega) hF P.1 (by omega) k' (hQ h' pa (ev_mono E' (by omega) (by omega)) s' a' (b'.trans h26) (by omega) (by omega) ?_)
  rw [c']
  unfold ka
  rw [if_neg (by omega), if_neg (by omega), (hκ n hn).2 h4]
theorem evA_take (T : tOk t) (hk : kOk t κ) {n : Nat} (hn : n < tN t) (h5 : tS t n = 5) : evA m nd d t κ n := by
  intro f pa h Q S H hG hE hF h26 P K hQ
  have := gN_1 T hn
  have hN := T.2.1
  have hs : hpI h (m + 11) n = bI (sg m h n) := by
    rcases K n (Sub_rf n) with h0 | ⟨h1, -, -⟩
    · rw [sg_0 h0, h0]; rfl
    · unfold sg; rw [h1]; rfl
  obtain ⟨h', k', E', s', a', b', c'⟩ := M_ask_take d S T H hn (show f < 600 by omega) hF P.1 h5 hs
  refine wk_ask S (by omega) hF P.1 (by omega) k' (hQ h' pa (ev_mono E' (by omega) (by omega)) s' a' (b'.trans h26) (by omega) (by omega) ?_)
  rw [c']
  unfold ka
  rw [if_pos h5]
  have e : κ n = if tA t n = 1 then 0 else 1 := by
    rw [hk n hn]
    unfold stp
    rw [if_neg (by omega), if_neg (by omega), if_neg (by omega), if_neg (by omega), if_neg (by omega)]
  rw [e]
  cases sg m h n with
  | true => simp
  | false => simp
theorem sev_run (T : tOk t) (hκ : kB t κ) (hk : kOk t κ) {n : Nat} (hn : n < tN t) (h3 : tS t n = 0 ∨ tS t n = 2 ∨ tS t n = 3) (IH : ∀ c ∈ tC t n, evA m nd d t κ c) {f pa : Nat} {h : mx_H} {Q : Option mx_V → mx_H → Prop} (S : mS m h) (H : mT m t h) (hG : f + gN t n ≤ 600) (hE : pa + eP t n ≤ 6000) (K : sOk m t h n)
    (hQ : ∀ h' pa', ev m f pa h h' → sr m h h' → hpI h' m 24 = nI f → hpI h' m 26 = nI pa' → pa ≤ pa' → pa' ≤ pa + eP t n → hpI h' m 27 = nI (ka t κ (sg m h) n) → wk m nd d h' Q) :
    ∀ (l pre : List Nat) (r : Int32) (pa1 : Nat) (h1 : mx_H), pre ++ l = tC t n → ev m f pa h h1 → sr m h h1 → hpI h1 m 24 = nI (f + 1) → hpI h1 m 26 = nI pa1 → pa ≤ pa1 → pa1 + (l.map (eP t)).sum ≤ pa + eP t n → sF m h1 f n r (sfo t (k1 t κ (sg m h)) n 0 pre) → CM m h1 r l →
    ∃ h2, (∀ Q : Option mx_V → mx_H → Prop, Q none h2 → mx_W (mx_Call mx_prog (d + 3)) (mx_nth cd_M_several) (70, [some (.inr (.inr (some m))), some (.inl (nI f)), some (.inl (nI n)), none], [], h1) Q) ∧ wk m nd d h2 Q := by
  have hN := T.2.1
  have Tn := T.at hn
  have hG1 := gN_1 T hn
  have hσ : tS t n ≠ 0 → ∀ c, k1 t κ (sg m h) c = κ c ∨ c ∉ tC t n := by
    intro h0 c
    by_cases hc : c ∈ tC t n
    · left
      unfold k1
      rw [if_neg]
      rintro ⟨-, b⟩
      rcases K c (Sub_ch hc (Sub_rf c)) with e | ⟨-, e, -⟩
      · rw [sg_0 e] at b; cases b
      · unfold tkN at e; rw [if_neg (by omega), if_neg h0] at e; simp at e
    · exact Or.inr hc
  obtain ⟨v1, v2, v3, v4⟩ := sfin_ka T hκ hk hn h3 hσ
  have hk1 : ∀ c ∈ tC t n, k1 t κ (sg m h) c < 5 := fun c hc => k1_lt (hκ c (Tn.2.2.1 c hc).2.1).1
  intro l
  induction l with
  | nil =>
    intro pre r pa1 h1 hp E s a24 a26 hle hb F C
    have C : r = -1 := C
    subst C
    rw [List.append_nil] at hp
    subst hp
    obtain ⟨h2, w2, E2, s2, x2, y2, z2⟩ := M_several_pop (z := none) d (E.S S) T (E.H H) hn (show f < 600 by omega) a24 h3 v2 v3 v4 F
    refine ⟨h2, w2, hQ h2 pa1 (ev_tr E (ev_mono E2 (by omega) (by omega))) (sr_tr s s2) x2 (y2.trans a26) hle ?_ ?_⟩
    · simp at hb; omega
    · rw [z2, v1]
  | cons c l ih =>
    intro pre r pa1 h1 hp E s a24 a26 hle hb F C
    obtain ⟨rfl, hch⟩ := C
    have hcm : c ∈ tC t n := by rw [← hp]; simp
    have hc' := Tn.2.2.1 c hcm
    have hgs := gN_sev T hn (by omega) hcm
    have hg1 := gN_1 T hc'.2.1
    rw [List.map_cons, List.sum_cons] at hb
    obtain ⟨h2, w2, E2, s2, x2, y2, F2⟩ := M_several_push (z := none) d (E.S S) (show f + 1 < 600 by omega) a24 (show c < 250 by omega) F
    refine ⟨h2, w2, ?_⟩
    have S2 := E2.S (E.S S)
    have H2 := E2.H (E.H H)
    have K2 := (sOk_ch T hn (sOk_sr (sr_tr s s2) K) hcm).1
    refine IH c hcm (f + 1) pa1 h2 Q S2 H2 (by omega) (by omega) x2 (y2.trans a26) F2 K2 (fun h3' pa3 E3 s3 x3 y3 l3 m3 z3 => ?_)
    have hka : ka t κ (sg m h2) c = k1 t κ (sg m h) c := by
      rw [ka_ch T hκ hk hn (sOk_sr (sr_tr s s2) K) hcm, sg_sr (sr_tr s s2)]
    rw [hka] at z3
    have S3 := E3.S S2
    have H3 := E3.H H2
    have F3 : sF m h3' f n (nI c) (sfo t (k1 t κ (sg m h)) n 0 pre) := by
      have e := fun j (h1 : 12 ≤ j) (h2 : j ≤ 20) => (E3.2.2.2.2.2.1 j f h1 h2 (by omega)).1.trans (E2.2.2.2.2.2.1 j f h1 h2 (by omega)).1
      exact ⟨(e 12 (by omega) (by omega)).trans F.1, (e 13 (by omega) (by omega)).trans F.2.1, (e 18 (by omega) (by omega)).trans F.2.2.1, (e 20 (by omega) (by omega)).trans F.2.2.2⟩
    have hpre : ∀ z ∈ pre, k1 t κ (sg m h) z < 5 := fun z hz => hk1 z (by rw [← hp]; exact List.mem_append_left _ hz)
    have hb5 : tS t n = 0 → sfo t (k1 t κ (sg m h)) n 0 pre < 5 := fun h0 => by
      rw [sfo_row h0 (by omega) hpre]
      exact kbo_lt' (by omega) (kr_lt hpre)
    have hb64 : sfo t (k1 t κ (sg m h)) n 0 pre < 64 := by
      by_cases h0 : tS t n = 0
      · have := hb5 h0; omega
      · refine sfo_bd h0 hpre ?_
        have hl := congrArg List.length hp
        rw [List.length_append, List.length_cons] at hl
        rcases h3 with e | e | e
        · omega
        · have := Tn.2.2.2.2.2.1 e; omega
        · have := Tn.2.2.2.2.2.2.1 e; omega
    obtain ⟨h4, E4, s4, r4, F4, w4⟩ := M_several_next d S3 T H3 hn (show c < 250 by omega) (show f < 600 by omega) F3 (hk1 c hcm) z3 hb5 hb64
    have E14 : ev m f pa1 h1 h4 := ev_tr (ev_tr (ev_mono E2 (by omega) (by omega)) (ev_mono E3 (by omega) (by omega))) (ev_mono E4 (by omega) (by omega))
    have e6 : ∀ z, hpI h4 (m + 6) z = hpI h1 (m + 6) z := fun z => (E14.2.2.1 6 z (by omega) (by omega)).1
    have e63 : hpI h3' (m + 6) c = hpI h1 (m + 6) c := ((ev_tr (ev_mono E2 (by omega) (by omega)) (ev_mono E3 (by omega) (by omega)) : ev m f pa1 h1 h3').2.2.1 6 c (by omega) (by omega)).1
    obtain ⟨h5, w5, W5⟩ := ih (pre ++ [c]) (hpI h3' (m + 6) c) pa3 h4 (by rw [List.append_assoc]; exact hp) (ev_tr E (ev_mono E14 (by omega) (by omega))) (sr_tr s (sr_tr s2 (sr_tr s3 s4))) (r4.1.trans x3) (r4.2.1.trans y3) (by omega) (by omega) (by rw [sfo_app]; exact F4) (by
      rw [e63]; exact CM_cg (fun z _ => e6 z) hch)
    exact wk_ask S3 (by omega) x3 F3.1 (by omega) (M_ask_sev d S3 T H3 hn (by omega) F3.1 h3 (w4 h5 w5)) W5
theorem evA_sev (T : tOk t) (hκ : kB t κ) (hk : kOk t κ) {n : Nat} (hn : n < tN t) (h3 : tS t n = 0 ∨ tS t n = 2 ∨ tS t n = 3) (IH : ∀ c ∈ tC t n, evA m nd d t κ c) : evA m nd d t κ n := by
  intro f pa h Q S H hG hE hF h26 P K hQ
  have hN := T.2.1
  have hG1 := gN_1 T hn
  obtain ⟨h1, E1, s1, r1, F1, w1⟩ := M_several_first d S (show n < 250 by omega) (show f < 600 by omega) P
  have := eP_sev T hn (by omega)
  obtain ⟨h2, w2, W2⟩ := sev_run T hκ hk hn h3 IH S H hG hE K hQ (tC t n) [] (hpI h (m + 4) n) pa h1 rfl (ev_mono E1 (by omega) (by omega)) s1 (r1.1.trans hF) (r1.2.1.trans h26) (by omega) (by omega) F1 (CM_cg (fun z _ => (E1.2.2.1 6 z (by omega) (by omega)).1) (H.2 n hn).C)
  exact wk_ask S (by omega) hF P.1 (by omega) (M_ask_sev d S T H hn (by omega) P.1 h3 (w1 h2 w2)) W2
end
