/-! The reference's frames: push, pop, plainAnswer, plainNext, armAnswer. -/
/-- a frame just pushed -/
def pF (m : Nat) (h : mx_H) (f : Nat) (nd a n : Int32) (w : Int64) : Prop := hpI h (m + 12) f = nd ∧ hpI h (m + 13) f = 0 ∧ hpI h (m + 14) f = a ∧ hpI h (m + 15) f = n ∧ hpL h (m + 16) f = w ∧ hpI h (m + 17) f = -1
/-- the frame of a CHOICE at work -/
def cF (m : Nat) (h : mx_H) (f : Nat) (a n : Nat) (w : Int64) (o : Int32) (lo hi su : Nat) : Prop := hpI h (m + 12) f = -1 ∧ hpI h (m + 13) f = 1 ∧ hpI h (m + 14) f = nI a ∧ hpI h (m + 15) f = nI n ∧ hpL h (m + 16) f = w ∧ hpI h (m + 17) f = o ∧ hpI h (m + 18) f = nI lo ∧ hpI h (m + 19) f = nI hi ∧ hpI h (m + 20) f = nI su
theorem cF_ev {m : Nat} {h h' : mx_H} {f f' pa a n : Nat} {w : Int64} {o : Int32} {lo hi su : Nat} (C : cF m h f a n w o lo hi su) (E : ev m f' pa h h') (hf : f < f') : cF m h' f a n w o lo hi su := by
  obtain ⟨c1, c2, c3, c4, c5, c6, c7, c8, c9⟩ := C
  have e := fun j (h1 : 12 ≤ j) (h2 : j ≤ 20) => E.2.2.2.2.2.1 j f h1 h2 hf
  exact ⟨(e 12 (by omega) (by omega)).1.trans c1, (e 13 (by omega) (by omega)).1.trans c2, (e 14 (by omega) (by omega)).1.trans c3, (e 15 (by omega) (by omega)).1.trans c4, (e 16 (by omega) (by omega)).2.trans c5, (e 17 (by omega) (by omega)).1.trans c6, (e 18 (by omega) (by omega)).1.trans c7, (e 19 (by omega) (by omega)).1.trans c8, (e 20 (by omega) (by omega)).1.trans c9⟩
/-- the registers that stand -/
def rS (m : Nat) (h h' : mx_H) : Prop := hpI h' m 24 = hpI h m 24 ∧ hpI h' m 26 = hpI h m 26 ∧ hpI h' m 27 = hpI h m 27
section
variable {m : Nat} {h : mx_H} {f : Nat}
theorem M_push_ok (d : Nat) (S : mS m h) (hf : f < 600) (hF : hpI h m 24 = nI f) (nd a n : Int32) (w : Int64) : ∃ h', cl (d + 1) j_M_push [.inr (.inr (some m)), .inl nd, .inl a, .inl n, .inr (.inl w)] h none h' ∧ ev m f 6000 h h' ∧ sr m h h' ∧ hpI h' m 24 = nI (f + 1) ∧ hpI h' m 26 = hpI h m 26 ∧ hpI h' m 27 = hpI h m 27 ∧ pF m h' f nd a n w := by
  refine ⟨hwI (hwI (hwL (hwI (hwI (hwI (hwI h (m + 12) f nd) (m + 13) f 0) (m + 14) f a) (m + 15) f n) (m + 16) f w) (m + 17) f (-1)) m 24 (nI (f + 1)), ?_, ?_, ?_, ?_, ?_, ?_, ?_⟩
  · refine cl_of (Nat.le_of_ble_eq_true rfl) ?_
    show mx_W _ (mx_nth cd_M_push) (0, [some (.inr (.inr (some m))), some (.inl nd), some (.inl a), some (.inl n), some (.inr (.inl w)), none], [], h) _
    refine mw_go rfl rfl ?_
    refine mv_gR rfl rfl S.1 (S.r 15 rfl) ?_
    refine mw_go rfl rfl ?_
    refine mv_gI rfl rfl S.1 hF ?_
    refine mw_go rfl rfl ?_
    refine mw_ias rfl rfl (S.a 15 rfl) rfl hf (by decide) ?_
    refine mw_go rfl rfl ?_
    refine mv_gR rfl rfl S.1 (S.r 16 rfl) ?_
    refine mw_go rfl rfl ?_
    refine mv_gI (x := nI f) rfl rfl S.1 (by simp [hpI_wI, hF]) ?_
    refine mw_go rfl rfl ?_
    refine mw_ias rfl rfl (S.a 16 rfl) rfl hf (by decide) ?_
    refine mw_go rfl rfl ?_
    refine mv_gR rfl rfl S.1 (S.r 17 rfl) ?_
    refine mw_go rfl rfl ?_
    refine mv_gI (x := nI f) rfl rfl S.1 (by simp [hpI_wI, hF]) ?_
    refine mw_go rfl rfl ?_
    refine mw_ias rfl rfl (S.a 17 rfl) rfl hf (by decide) ?_
    refine mw_go rfl rfl ?_
    refine mv_gR rfl rfl S.1 (S.r 18 rfl) ?_
    refine mw_go rfl rfl ?_
    refine mv_gI (x := nI f) rfl rfl S.1 (by simp [hpI_wI, hF]) ?_
    refine mw_go rfl rfl ?_
    refine mw_ias rfl rfl (S.a 18 rfl) rfl hf (by decide) ?_
    refine mw_go rfl rfl ?_
    refine mv_gR rfl rfl S.1 (S.r 19 rfl) ?_
    refine mw_go rfl rfl ?_
    refine mv_gI (x := nI f) rfl rfl S.1 (by simp [hpI_wI, hF]) ?_
    refine mw_go rfl rfl ?_
    refine mw_las rfl rfl (S.a 19 rfl) rfl hf (by decide) ?_
    refine mw_go rfl rfl ?_
    refine mv_gR rfl rfl S.1 (S.r 20 rfl) ?_
    refine mw_go rfl rfl ?_
    refine mv_gI (x := nI f) rfl rfl S.1 (by simp [hpI_wI, hpI_wL, hF]) ?_
    refine mw_go rfl rfl ?_
    refine mw_ias rfl rfl (S.a 20 rfl) rfl hf (by decide) ?_
    iterate 2 refine mw_go rfl rfl ?_
    refine mv_gI (x := nI f) rfl rfl S.1 (by simp [hpI_wI, hpI_wL, hF]) ?_
    iterate 2 refine mw_go rfl rfl ?_
    refine mw_pI rfl rfl S.1 ?_
    rw [show nI f + 1 = nI (f + 1) from nI_1 f]
    exact mw_r4 rfl ⟨rfl, rfl⟩
  · exact ev_tr (ev_tr (ev_tr (ev_tr (ev_tr (ev_tr (ev_wI _ (by omega)) (ev_wI _ (by omega))) (ev_wI _ (by omega))) (ev_wI _ (by omega))) (ev_wL _ (by omega))) (ev_wI _ (by omega))) (ev_wm _ (by omega))
  · intro c; simp [hpI_wI, hpI_wL]
  · simp [hpI_wI, hpI_wL]
  · simp [hpI_wI, hpI_wL]
  · simp [hpI_wI, hpI_wL]
  · refine ⟨?_, ?_, ?_, ?_, ?_, ?_⟩ <;> simp [hpI_wI, hpI_wL, hpL_wI, hpL_wL]
/-- popped: the answer, one frame less -/
def poE (m : Nat) (h h' : mx_H) (f : Nat) (k : Int32) : Prop := ev m 600 6000 h h' ∧ sr m h h' ∧ hpI h' m 24 = nI f ∧ hpI h' m 26 = hpI h m 26 ∧ hpI h' m 27 = k
theorem nI_s1 (f : Nat) : nI (f + 1) - 1 = nI f := nI_pred f
theorem M_pop_ok (d : Nat) (S : mS m h) (hF : hpI h m 24 = nI (f + 1)) (k : Int32) : ∃ h', cl (d + 1) j_M_pop [.inr (.inr (some m)), .inl k] h none h' ∧ poE m h h' f k := by
  refine ⟨hwI (hwI h m 24 (nI f)) m 27 k, ?_, ev_tr (ev_wm _ (by omega)) (ev_wm _ (by omega)), ?_, ?_, ?_, ?_⟩
  · refine cl_of (Nat.le_of_ble_eq_true rfl) ?_
    show mx_W _ (mx_nth cd_M_pop) (0, [some (.inr (.inr (some m))), some (.inl k)], [], h) _
    iterate 2 refine mw_go rfl rfl ?_
    refine mv_gI rfl rfl S.1 hF ?_
    iterate 2 refine mw_go rfl rfl ?_
    refine mw_pI rfl rfl S.1 ?_
    rw [show nI (f + 1) - 1 = nI f from nI_pred f]
    iterate 2 refine mw_go rfl rfl ?_
    refine mw_pI rfl rfl S.1 ?_
    exact mw_r4 rfl ⟨rfl, rfl⟩
  · intro c; simp [hpI_wI]
  · simp [hpI_wI]
  · simp [hpI_wI]
  · simp [hpI_wI]
def pAs (a : Nat) : Nat := if km a = 0 then 0 else if km a = 1 then 1 else 16000
variable {a n lo hi su : Nat} {w : Int64} {o : Int32}
theorem M_plainAnswer_ok (d : Nat) (S : mS m h) (hf : f < 600) (C : cF m h f a n w o lo hi su) {q : Nat} (hq : q < 5) (hA : hpI h m 27 = nI q) : ∃ h', cl (d + 2) j_M_plainAnswer [.inr (.inr (some m)), .inl (nI f)] h none h' ∧ ev m f 6000 h h' ∧ sr m h h' ∧ rS m h h' ∧ cF m h' f a n w o (lo + 1) (if kf q = true then hi else hi + 1) (su + pAs q) := by
  obtain ⟨c1, c2, c3, c4, c5, c6, c7, c8, c9⟩ := C
  obtain ⟨hi', ehi⟩ : ∃ x, x = (if kf q = true then hi else hi + 1) := ⟨_, rfl⟩
  refine ⟨hwI (hwI (hwI h (m + 19) f (nI hi')) (m + 20) f (nI (su + pAs q))) (m + 18) f (nI (lo + 1)), ?_, ev_tr (ev_tr (ev_wI _ (by omega)) (ev_wI _ (by omega))) (ev_wI _ (by omega)), ?_, ?_, ?_⟩
  · refine cl_of (Nat.le_of_ble_eq_true rfl) ?_
    show mx_W _ (mx_nth cd_M_plainAnswer) (0, [some (.inr (.inr (some m))), some (.inl (nI f))], [], h) _
    refine mw_go rfl rfl ?_
    refine mv_gI rfl rfl S.1 hA ?_
    refine mw_cv (M_canFail_ok d h hq) rfl rfl rfl (Nat.le_of_ble_eq_true rfl) trivial ?_
    refine mw_go rfl rfl ?_
    have rest : ∀ h1, hpK h1 m = some (.inl 4) → mS m h1 → hpI h1 m 27 = nI q → hpI h1 (m + 20) f = nI su → hpI h1 (m + 18) f = nI lo → mx_W (mx_Call mx_prog (d + 1)) (mx_nth cd_M_plainAnswer) (12, [some (.inr (.inr (some m))), some (.inl (nI f))], [], h1) (fun r2 h2 => r2 = none ∧ h2 = hwI (hwI h1 (m + 20) f (nI (su + pAs q))) (m + 18) f (nI (lo + 1))) := by
      intro h1 _ S1 a1 a2 a3
      refine mw_go rfl rfl ?_
      refine mv_gR rfl rfl S1.1 (S1.r 23 rfl) ?_
      iterate 2 refine mw_go rfl rfl ?_
      refine mv_ial rfl rfl (S1.a 23 rfl) rfl hf (by decide) a2 ?_
      refine mw_go rfl rfl ?_
      refine mv_gI rfl rfl S1.1 a1 ?_
      refine mw_cv (M_most_ok d h1 hq) rfl rfl rfl (Nat.le_of_ble_eq_true rfl) trivial ?_
      refine mw_go rfl rfl ?_
      have fin : ∀ v, v = pAs q → mx_W (mx_Call mx_prog (d + 1)) (mx_nth cd_M_plainAnswer) (31, [some (.inr (.inr (some m))), some (.inl (nI f))], [.inl (nI v), .inl (nI su), .inl (nI f), .inr (.inr (some (m + 20)))], h1) (fun r2 h2 => r2 = none ∧ h2 = hwI (hwI h1 (m + 20) f (nI (su + pAs q))) (m + 18) f (nI (lo + 1))) := by
        intro v hv
        subst hv
        refine mw_go rfl rfl ?_
        rw [nI_add]
        refine mw_ias rfl rfl (S1.a 23 rfl) rfl hf (by decide) ?_
        refine mw_go rfl rfl ?_
        refine mv_gR rfl rfl S1.1 (S1.r 21 rfl) ?_
        iterate 2 refine mw_go rfl rfl ?_
        refine mv_ial (x := nI lo) rfl rfl (S1.a 21 rfl) rfl hf (by decide) (by rw [hpI_wI, if_neg (by omega)]; exact a3) ?_
        iterate 2 refine mw_go rfl rfl ?_
        refine mw_ias rfl rfl (S1.a 21 rfl) rfl hf (by decide) ?_
        rw [show nI lo + 1 = nI (lo + 1) from nI_1 lo]
        exact mw_r4 rfl ⟨rfl, rfl⟩
      have hm := km_lt q
      refine mw_ifP (e_lit (b := 0) rfl (by omega) (by omega)) (fun h0 => ?_) (fun h0 => ?_)
      · iterate 2 refine mw_go rfl rfl ?_
        exact fin 0 (by unfold pAs; rw [if_pos h0])
      · refine mw_go rfl rfl ?_
        refine mv_gI rfl rfl S1.1 a1 ?_
        refine mw_cv (M_most_ok d h1 hq) rfl rfl rfl (Nat.le_of_ble_eq_true rfl) trivial ?_
        iterate 2 refine mw_go rfl rfl ?_
        refine mw_ifP (e_lit (b := 1) rfl (by omega) (by omega)) (fun h1 => ?_) (fun h1 => ?_)
        · iterate 2 refine mw_go rfl rfl ?_
          exact fin 1 (by unfold pAs; rw [if_neg h0, if_pos h1])
        · iterate 1 refine mw_go rfl rfl ?_
          exact fin 16000 (by unfold pAs; rw [if_neg h0, if_neg h1])
    refine mw_ifP (e_bI _) (fun hk => ?_) (fun hk => ?_)
    · refine mw_go rfl rfl ?_
      refine mv_gR rfl rfl S.1 (S.r 22 rfl) ?_
      iterate 2 refine mw_go rfl rfl ?_
      refine mv_ial rfl rfl (S.a 22 rfl) rfl hf (by decide) c8 ?_
      iterate 2 refine mw_go rfl rfl ?_
      refine mw_ias rfl rfl (S.a 22 rfl) rfl hf (by decide) ?_
      rw [show nI hi + 1 = nI (hi + 1) from nI_1 hi, show hi + 1 = hi' by rw [ehi, if_neg (by rw [hk]; decide)]]
      exact rest _ S.1 S (by rw [hpI_wI, if_neg (by omega)]; exact hA) (by rw [hpI_wI, if_neg (by omega)]; exact c9) (by rw [hpI_wI, if_neg (by omega)]; exact c7)
    · have hk : kf q = true := by cases hh : kf q with
        | true => rfl
        | false => exact absurd hh hk
      have e : hwI h (m + 19) f (nI hi') = h := by
        rw [ehi, if_pos hk]
        unfold hwI
        have : (fun b j => if b = m + 19 ∧ j = f then nI hi else h.2.1 b j) = h.2.1 := by
          funext b j
          by_cases hb : b = m + 19 ∧ j = f
          · rw [if_pos hb, hb.1, hb.2]; exact c8.symm
          · rw [if_neg hb]
        rw [this]
      rw [e]
      exact rest h S.1 S hA c9 c7
  · intro c; simp [hpI_wI]
  · refine ⟨?_, ?_, ?_⟩ <;> simp [hpI_wI]
  · rw [← ehi]
    refine ⟨?_, ?_, ?_, ?_, c5, ?_, ?_, ?_, ?_⟩ <;> simp [hpI_wI, c1, c2, c3, c4, c6]
theorem M_plainNext_push {ps : List Nat} {p : Nat} (d : Nat) (S : mS m h) (hf : f + 1 < 600) (hF : hpI h m 24 = nI (f + 1)) (C : cF m h f a ps.length w o lo hi su) (hP : PA m h a ps) (ha : a + ps.length ≤ 6000) (hp : ps[lo]? = some p) : ∃ h', cl (d + 2) j_M_plainNext [.inr (.inr (some m)), .inl (nI f)] h none h' ∧ ev m (f + 1) 6000 h h' ∧ sr m h h' ∧ hpI h' m 24 = nI (f + 2) ∧ hpI h' m 26 = hpI h m 26 ∧ pF m h' (f + 1) (nI p) (-1) 0 0 := by
  obtain ⟨c1, c2, c3, c4, c5, c6, c7, c8, c9⟩ := C
  have hlo := (List.getElem?_eq_some_iff.mp hp).1
  obtain ⟨h', c, E, s1, r1, r2, r3, F⟩ := M_push_ok d S hf hF (nI p) (-1) 0 0
  refine ⟨h', ?_, E, s1, r1, r2, F⟩
  refine cl_of (Nat.le_of_ble_eq_true rfl) ?_
  show mx_W _ (mx_nth cd_M_plainNext) (0, [some (.inr (.inr (some m))), some (.inl (nI f)), none], [], h) _
  refine mw_go rfl rfl ?_
  refine mv_gR rfl rfl S.1 (S.r 21 rfl) ?_
  refine mw_go rfl rfl ?_
  refine mv_ial rfl rfl (S.a 21 rfl) rfl (show f < 600 by omega) (by decide) c7 ?_
  refine mw_go rfl rfl ?_
  refine mv_gR rfl rfl S.1 (S.r 18 rfl) ?_
  refine mw_go rfl rfl ?_
  refine mv_ial rfl rfl (S.a 18 rfl) rfl (show f < 600 by omega) (by decide) c4 ?_
  refine mw_go rfl rfl ?_
  refine mw_ifF (fun q => absurd ((nI_leI (by omega) (by omega)).mp q) (by omega)) ?_
  iterate 2 refine mw_go rfl rfl ?_
  refine mv_gR rfl rfl S.1 (S.r 25 rfl) ?_
  refine mw_go rfl rfl ?_
  refine mv_gR rfl rfl S.1 (S.r 17 rfl) ?_
  refine mw_go rfl rfl ?_
  refine mv_ial rfl rfl (S.a 17 rfl) rfl (show f < 600 by omega) (by decide) c3 ?_
  refine mw_go rfl rfl ?_
  refine mv_gR rfl rfl S.1 (S.r 21 rfl) ?_
  refine mw_go rfl rfl ?_
  refine mv_ial rfl rfl (S.a 21 rfl) rfl (show f < 600 by omega) (by decide) c7 ?_
  refine mw_go rfl rfl ?_
  refine mv_ial rfl rfl (S.a 25 rfl) (nI_add a lo) (show a + lo < 6000 by omega) (by decide) (hP lo p hp) ?_
  iterate 3 refine mw_go rfl rfl ?_
  refine mw_cn c rfl rfl rfl (Nat.le_of_ble_eq_true rfl) ⟨_, rfl, S.1⟩ ?_
  exact mw_r4 rfl ⟨rfl, rfl⟩
def mm (su : Nat) : Nat := if su = 0 then 0 else if su = 1 then 1 else 2
theorem M_plainNext_pop {ps : List Nat} (d : Nat) (S : mS m h) (hf : f + 1 < 600) (hF : hpI h m 24 = nI (f + 1)) (C : cF m h f a ps.length w o lo hi su) (hlo : lo = ps.length) (hl : ps.length < 2 ^ 31) (hhi : hi < 2 ^ 31) (hsu : su < 2 ^ 31) : ∃ h', cl (d + 2) j_M_plainNext [.inr (.inr (some m)), .inl (nI f)] h none h' ∧ poE m h h' f (nI (kof (decide (hi = 0)) (mm su))) := by
  obtain ⟨c1, c2, c3, c4, c5, c6, c7, c8, c9⟩ := C
  obtain ⟨h', c, E⟩ := M_pop_ok d S hF (nI (kof (decide (hi = 0)) (mm su)))
  refine ⟨h', ?_, E⟩
  refine cl_of (Nat.le_of_ble_eq_true rfl) ?_
  show mx_W _ (mx_nth cd_M_plainNext) (0, [some (.inr (.inr (some m))), some (.inl (nI f)), none], [], h) _
  refine mw_go rfl rfl ?_
  refine mv_gR rfl rfl S.1 (S.r 21 rfl) ?_
  refine mw_go rfl rfl ?_
  refine mv_ial rfl rfl (S.a 21 rfl) rfl (show f < 600 by omega) (by decide) c7 ?_
  refine mw_go rfl rfl ?_
  refine mv_gR rfl rfl S.1 (S.r 18 rfl) ?_
  refine mw_go rfl rfl ?_
  refine mv_ial rfl rfl (S.a 18 rfl) rfl (show f < 600 by omega) (by decide) c4 ?_
  refine mw_go rfl rfl ?_
  refine mw_ifT ((nI_leI (by omega) (by omega)).mpr (by omega)) ?_
  refine mw_go rfl rfl ?_
  refine mv_gR rfl rfl S.1 (S.r 23 rfl) ?_
  refine mw_go rfl rfl ?_
  refine mv_ial rfl rfl (S.a 23 rfl) rfl (show f < 600 by omega) (by decide) c9 ?_
  refine mw_go rfl rfl ?_
  have fin : ∀ v, v = mm su → mx_W (mx_Call mx_prog (d + 1)) (mx_nth cd_M_plainNext) (43, [some (.inr (.inr (some m))), some (.inl (nI f)), none], [.inl (nI v)], h) (fun r2 h2 => r2 = none ∧ h2 = h') := by
    intro v hv
    subst hv
    iterate 3 refine mw_go rfl rfl ?_
    refine mv_gR rfl rfl S.1 (S.r 22 rfl) ?_
    refine mw_go rfl rfl ?_
    refine mv_ial rfl rfl (S.a 22 rfl) rfl (show f < 600 by omega) (by decide) c8 ?_
    refine mw_go rfl rfl ?_
    have fin2 : ∀ b, b = decide (hi = 0) → mx_W (mx_Call mx_prog (d + 1)) (mx_nth cd_M_plainNext) (53, [some (.inr (.inr (some m))), some (.inl (nI f)), some (.inl (nI (mm su)))], [.inl (bI b), .inr (.inr (some m))], h) (fun r2 h2 => r2 = none ∧ h2 = h') := by
      intro b hb
      subst hb
      refine mw_go rfl rfl ?_
      refine mw_cv (M_kindOf_ok d h (decide (hi = 0)) (m := mm su) (by unfold mm; split <;> (try split) <;> omega)) rfl rfl rfl (Nat.le_of_ble_eq_true rfl) trivial ?_
      refine mw_cn c rfl rfl rfl (Nat.le_of_ble_eq_true rfl) ⟨_, rfl, S.1⟩ ?_
      exact mw_r4 rfl ⟨rfl, rfl⟩
    refine mw_ifP (e_lit (b := 0) rfl hhi (by omega)) (fun h0 => ?_) (fun h0 => ?_)
    · iterate 2 refine mw_go rfl rfl ?_
      exact fin2 true (decide_eq_true h0).symm
    · iterate 1 refine mw_go rfl rfl ?_
      exact fin2 false (decide_eq_false h0).symm
  refine mw_ifP (e_lit (b := 0) rfl hsu (by omega)) (fun h0 => ?_) (fun h0 => ?_)
  · iterate 2 refine mw_go rfl rfl ?_
    exact fin 0 (by unfold mm; rw [if_pos h0])
  · refine mw_go rfl rfl ?_
    refine mv_gR rfl rfl S.1 (S.r 23 rfl) ?_
    refine mw_go rfl rfl ?_
    refine mv_ial rfl rfl (S.a 23 rfl) rfl (show f < 600 by omega) (by decide) c9 ?_
    iterate 2 refine mw_go rfl rfl ?_
    refine mw_ifP (e_lit (b := 1) rfl hsu (by omega)) (fun h1 => ?_) (fun h1 => ?_)
    · iterate 2 refine mw_go rfl rfl ?_
      exact fin 1 (by unfold mm; rw [if_neg h0, if_pos h1])
    · iterate 1 refine mw_go rfl rfl ?_
      exact fin 2 (by unfold mm; rw [if_neg h0, if_neg h1])
/-- how a SWITCH counts its ARMS' KINDS -/
def sE (cf : Bool) (mo : Nat) : Nat := 10 * mo + (if cf then 1 else 0)
theorem sE_rem : ∀ (cf : Bool) (mo : Fin 3), (nI (sE cf mo) - nI (sE cf mo) / 10 * 10 = 1 ↔ cf = true) ∧ nI (sE cf mo) / 10 = nI mo ∧ 10 * nI mo + bI cf = nI (sE cf mo) := by decide +kernel
theorem sE_spec (cf : Bool) {mo : Nat} (h : mo < 3) : (nI (sE cf mo) - nI (sE cf mo) / 10 * 10 = 1 ↔ cf = true) ∧ nI (sE cf mo) / 10 = nI mo ∧ 10 * nI mo + bI cf = nI (sE cf mo) := sE_rem cf ⟨mo, h⟩
theorem M_armAnswer_ok {cf : Bool} {mo : Nat} (d : Nat) (S : mS m h) (hf : f < 600) (C : cF m h f a n w o lo hi (sE cf mo)) (hmo : mo < 3) {q : Nat} (hq : q < 5) (hA : hpI h m 27 = nI q) : ∃ h', cl (d + 2) j_M_armAnswer [.inr (.inr (some m)), .inl (nI f)] h none h' ∧ ev m f 6000 h h' ∧ sr m h h' ∧ rS m h h' ∧ cF m h' f a n w o (lo + 1) hi (sE (cf || kf q) (if mo < km q then km q else mo)) := by
  obtain ⟨c1, c2, c3, c4, c5, c6, c7, c8, c9⟩ := C
  obtain ⟨e1, e2, -⟩ := sE_spec cf hmo
  have hkm := km_lt q
  obtain ⟨mo', emo⟩ : ∃ x, x = (if mo < km q then km q else mo) := ⟨_, rfl⟩
  have hmo' : mo' < 3 := by rw [emo]; split <;> omega
  obtain ⟨cf', ecf⟩ : ∃ x, x = (cf || kf q) := ⟨_, rfl⟩
  obtain ⟨-, -, e3⟩ := sE_spec cf' hmo'
  refine ⟨hwI (hwI h (m + 20) f (nI (sE cf' mo'))) (m + 18) f (nI (lo + 1)), ?_, ev_tr (ev_wI _ (by omega)) (ev_wI _ (by omega)), ?_, ?_, ?_⟩
  · refine cl_of (Nat.le_of_ble_eq_true rfl) ?_
    show mx_W _ (mx_nth cd_M_armAnswer) (0, [some (.inr (.inr (some m))), some (.inl (nI f)), none, none], [], h) _
    have part3 : mx_W (mx_Call mx_prog (d + 1)) (mx_nth cd_M_armAnswer) (36, [some (.inr (.inr (some m))), some (.inl (nI f)), some (.inl (bI cf')), none], [.inl (nI mo')], h) (fun r2 h2 => r2 = none ∧ h2 = hwI (hwI h (m + 20) f (nI (sE cf' mo'))) (m + 18) f (nI (lo + 1))) := by
      iterate 2 refine mw_go rfl rfl ?_
      refine mv_gR rfl rfl S.1 (S.r 23 rfl) ?_
      iterate 4 refine mw_go rfl rfl ?_
      iterate 2 refine mw_go rfl rfl ?_
      have fin : ∀ v, v = bI cf' → mx_W (mx_Call mx_prog (d + 1)) (mx_nth cd_M_armAnswer) (48, [some (.inr (.inr (some m))), some (.inl (nI f)), some (.inl (bI cf')), some (.inl (nI mo'))], [.inl v, .inl (10 * nI mo'), .inl (nI f), .inr (.inr (some (m + 20)))], h) (fun r2 h2 => r2 = none ∧ h2 = hwI (hwI h (m + 20) f (nI (sE cf' mo'))) (m + 18) f (nI (lo + 1))) := by
        intro v hv
        subst hv
        refine mw_go rfl rfl ?_
        rw [e3]
        refine mw_ias rfl rfl (S.a 23 rfl) rfl hf (by decide) ?_
        refine mw_go rfl rfl ?_
        refine mv_gR rfl rfl S.1 (S.r 21 rfl) ?_
        iterate 2 refine mw_go rfl rfl ?_
        refine mv_ial (x := nI lo) rfl rfl (S.a 21 rfl) rfl hf (by decide) (by rw [hpI_wI, if_neg (by omega)]; exact c7) ?_
        iterate 2 refine mw_go rfl rfl ?_
        refine mw_ias rfl rfl (S.a 21 rfl) rfl hf (by decide) ?_
        rw [show nI lo + 1 = nI (lo + 1) from nI_1 lo]
        exact mw_r4 rfl ⟨rfl, rfl⟩
      refine mw_ifP (e_bI _) (fun hb => ?_) (fun hb => ?_)
      · iterate 1 refine mw_go rfl rfl ?_
        exact fin 0 (by rw [hb]; rfl)
      · iterate 2 refine mw_go rfl rfl ?_
        have hb : cf' = true := by cases hh : cf' with
          | true => rfl
          | false => exact absurd hh hb
        exact fin 1 (by rw [hb]; rfl)
    have part2 : mx_W (mx_Call mx_prog (d + 1)) (mx_nth cd_M_armAnswer) (15, [some (.inr (.inr (some m))), some (.inl (nI f)), none, none], [.inl (bI cf')], h) (fun r2 h2 => r2 = none ∧ h2 = hwI (hwI h (m + 20) f (nI (sE cf' mo'))) (m + 18) f (nI (lo + 1))) := by
      iterate 2 refine mw_go rfl rfl ?_
      refine mv_gI rfl rfl S.1 hA ?_
      refine mw_cv (M_most_ok d h hq) rfl rfl rfl (Nat.le_of_ble_eq_true rfl) trivial ?_
      refine mw_go rfl rfl ?_
      refine mv_gR rfl rfl S.1 (S.r 23 rfl) ?_
      refine mw_go rfl rfl ?_
      refine mv_ial rfl rfl (S.a 23 rfl) rfl hf (by decide) c9 ?_
      refine mw_go rfl rfl ?_
      refine mw_div rfl (by decide) ?_
      rw [e2]
      refine mw_go rfl rfl ?_
      refine mw_ifP (nI_leI (by omega) (by omega)) (fun hle => ?_) (fun hle => ?_)
      · refine mw_go rfl rfl ?_
        refine mv_gR rfl rfl S.1 (S.r 23 rfl) ?_
        refine mw_go rfl rfl ?_
        refine mv_ial rfl rfl (S.a 23 rfl) rfl hf (by decide) c9 ?_
        refine mw_go rfl rfl ?_
        refine mw_div rfl (by decide) ?_
        rw [e2, show mo = mo' by rw [emo, if_neg (by omega)]]
        exact part3
      · refine mw_go rfl rfl ?_
        refine mv_gI rfl rfl S.1 hA ?_
        refine mw_cv (M_most_ok d h hq) rfl rfl rfl (Nat.le_of_ble_eq_true rfl) trivial ?_
        refine mw_go rfl rfl ?_
        rw [show km q = mo' by rw [emo, if_pos (by omega)]]
        exact part3
    have yes : cf' = true → mx_W (mx_Call mx_prog (d + 1)) (mx_nth cd_M_armAnswer) (12, [some (.inr (.inr (some m))), some (.inl (nI f)), none, none], [], h) (fun r2 h2 => r2 = none ∧ h2 = hwI (hwI h (m + 20) f (nI (sE cf' mo'))) (m + 18) f (nI (lo + 1))) := by
      intro e
      iterate 2 refine mw_go rfl rfl ?_
      have p2 := part2
      rw [show bI cf' = 1 by rw [e]; rfl] at p2
      exact p2
    refine mw_go rfl rfl ?_
    refine mv_gR rfl rfl S.1 (S.r 23 rfl) ?_
    refine mw_go rfl rfl ?_
    refine mv_ial rfl rfl (S.a 23 rfl) rfl hf (by decide) c9 ?_
    refine mw_go rfl rfl ?_
    refine mw_rem rfl (by decide) ?_
    iterate 2 refine mw_go rfl rfl ?_
    refine mw_ifP e1 (fun hc => yes (by rw [ecf, hc]; rfl)) (fun hc => ?_)
    have hc : cf = false := by cases hh : cf with
      | false => rfl
      | true => exact absurd hh hc
    refine mw_go rfl rfl ?_
    refine mv_gI rfl rfl S.1 hA ?_
    refine mw_cv (M_canFail_ok d h hq) rfl rfl rfl (Nat.le_of_ble_eq_true rfl) trivial ?_
    refine mw_go rfl rfl ?_
    refine mw_ifP (e_bI _) (fun hk => ?_) (fun hk => yes (by
      rw [ecf, hc, Bool.false_or]
      cases hh : kf q with
      | true => rfl
      | false => exact absurd hh hk))
    iterate 1 refine mw_go rfl rfl ?_
    have p2 := part2
    rw [show bI cf' = 0 by rw [ecf, hc, hk]; rfl] at p2
    exact p2
  · intro c; simp [hpI_wI]
  · refine ⟨?_, ?_, ?_⟩ <;> simp [hpI_wI]
  · rw [← ecf, ← emo]
    refine ⟨?_, ?_, ?_, ?_, c5, ?_, ?_, ?_, ?_⟩ <;> simp [hpI_wI, c1, c2, c3, c4, c6, c8]
end
