/-! The reference's tested, several, ask, one step each. -/
theorem M_tested_ok (d : Nat) (h : mx_H) {a b c : Nat} (ha : a < 5) (hb : b < 5) (hc : c < 5) : cl (d + 3) j_M_tested [.inl (nI a), .inl (nI b), .inl (nI c)] h (some (.inl (nI (kte a b c)))) h := by
  refine cl_of (Nat.le_of_ble_eq_true rfl) ?_
  show mx_W _ (mx_nth cd_M_tested) (0, [some (.inl (nI a)), some (.inl (nI b)), some (.inl (nI c)), none], [], h) _
  have hbo : kbo a b < 5 := kbo_lt' ha hb
  refine mw_go rfl rfl ?_
  refine mw_cv (M_canFail_ok (d + 1) h ha) rfl rfl rfl (Nat.le_of_ble_eq_true rfl) trivial ?_
  refine mw_go rfl rfl ?_
  unfold kte
  refine mw_ifP (e_bI _) (fun h0 => ?_) (fun h0 => ?_)
  · rw [if_pos h0]
    iterate 2 refine mw_go rfl rfl ?_
    refine mw_cv (M_both_ok d h ha hb) rfl rfl rfl (Nat.le_of_ble_eq_true rfl) trivial ?_
    exact mw_r0 rfl ⟨rfl, rfl⟩
  · rw [if_neg h0]
    refine mw_go rfl rfl ?_
    refine mw_cv (M_most_ok (d + 1) h ha) rfl rfl rfl (Nat.le_of_ble_eq_true rfl) trivial ?_
    refine mw_go rfl rfl ?_
    have hma := km_lt a
    have hmc := km_lt c
    refine mw_ifP (e_lit (b := 0) rfl (by omega) (by omega)) (fun h1 => ?_) (fun h1 => ?_)
    · rw [if_pos h1]
      refine mw_go rfl rfl ?_
      exact mw_r0 rfl ⟨rfl, rfl⟩
    · rw [if_neg h1]
      iterate 2 refine mw_go rfl rfl ?_
      refine mw_cv (M_both_ok d h ha hb) rfl rfl rfl (Nat.le_of_ble_eq_true rfl) trivial ?_
      refine mw_cv (M_most_ok (d + 1) h hbo) rfl rfl rfl (Nat.le_of_ble_eq_true rfl) trivial ?_
      have hmb := km_lt (kbo a b)
      iterate 2 refine mw_go rfl rfl ?_
      refine mw_cv (M_canFail_ok (d + 1) h hb) rfl rfl rfl (Nat.le_of_ble_eq_true rfl) trivial ?_
      refine mw_go rfl rfl ?_
      have fin : ∀ bb, bb = (kf b || kf c) → mx_W (mx_Call mx_prog (d + 2)) (mx_nth cd_M_tested) (26, [some (.inl (nI a)), some (.inl (nI b)), some (.inl (nI c)), some (.inl (nI (km (kbo a b))))], [.inl (bI bb)], h) (fun r1 h1 => r1 = some (.inl (nI (kof (kf b || kf c) (if km c < km (kbo a b) then km (kbo a b) else km c)))) ∧ h1 = h) := by
        intro bb hbb
        rw [← hbb]
        iterate 2 refine mw_go rfl rfl ?_
        refine mw_cv (M_most_ok (d + 1) h hc) rfl rfl rfl (Nat.le_of_ble_eq_true rfl) trivial ?_
        refine mw_go rfl rfl ?_
        refine mw_ifP (nI_leI (by omega) (by omega)) (fun h2 => ?_) (fun h2 => ?_)
        · rw [if_neg (by omega)]
          refine mw_go rfl rfl ?_
          refine mw_cv (M_most_ok (d + 1) h hc) rfl rfl rfl (Nat.le_of_ble_eq_true rfl) trivial ?_
          refine mw_cv (M_kindOf_ok (d + 1) h bb hmc) rfl rfl rfl (Nat.le_of_ble_eq_true rfl) trivial ?_
          exact mw_r0 rfl ⟨rfl, rfl⟩
        · rw [if_pos (by omega)]
          iterate 2 refine mw_go rfl rfl ?_
          refine mw_cv (M_kindOf_ok (d + 1) h bb hmb) rfl rfl rfl (Nat.le_of_ble_eq_true rfl) trivial ?_
          exact mw_r0 rfl ⟨rfl, rfl⟩
      have yes : (kf b || kf c) = true → mx_W (mx_Call mx_prog (d + 2)) (mx_nth cd_M_tested) (23, [some (.inl (nI a)), some (.inl (nI b)), some (.inl (nI c)), some (.inl (nI (km (kbo a b))))], [], h) (fun r1 h1 => r1 = some (.inl (nI (kof (kf b || kf c) (if km c < km (kbo a b) then km (kbo a b) else km c)))) ∧ h1 = h) := by
        intro e
        iterate 2 refine mw_go rfl rfl ?_
        exact fin true e.symm
      refine mw_ifP (e_bI _) (fun hkb => ?_) (fun hkb => yes ?_)
      · refine mw_go rfl rfl ?_
        refine mw_cv (M_canFail_ok (d + 1) h hc) rfl rfl rfl (Nat.le_of_ble_eq_true rfl) trivial ?_
        refine mw_go rfl rfl ?_
        refine mw_ifP (e_bI _) (fun hkc => ?_) (fun hkc => yes ?_)
        · refine mw_go rfl rfl ?_
          exact fin false (by rw [hkb, hkc]; rfl)
        · cases hh : kf c with
          | true => simp
          | false => exact absurd hh hkc
      · cases hh : kf b with
        | true => rfl
        | false => exact absurd hh hkb
/-- the frame of a NODE that asks its PARTS one by one -/
def sF (m : Nat) (h : mx_H) (f n : Nat) (r : Int32) (su : Nat) : Prop := hpI h (m + 12) f = nI n ∧ hpI h (m + 13) f = 1 ∧ hpI h (m + 18) f = r ∧ hpI h (m + 20) f = nI su
def sfin (t : tr) (n su : Nat) : Nat := if tS t n = 0 then su else if tS t n = 2 then (if (tC t n).length = 0 then 4 else if km su = 0 then 0 else if kf su = true then 1 else 4) else (if (tC t n).length < 3 then 4 else kte (su / 64) (su / 8 % 8) (su % 8))
theorem s512 : ∀ s : Fin 512, nI s / 64 = nI (s / 64) ∧ nI s / 8 - nI s / 8 / 8 * 8 = nI (s / 8 % 8) ∧ nI s - nI s / 8 * 8 = nI (s % 8) := by decide +kernel
theorem s8 : ∀ (s : Fin 64) (q : Fin 5), 8 * nI s + nI q = nI (8 * s + q) := by decide +kernel
section
variable {m : Nat} {t : tr} {h : mx_H} {f : Nat}
theorem M_several_push {n c su : Nat} {z : Option mx_V} (d : Nat) (S : mS m h) (hf : f + 1 < 600) (hF : hpI h m 24 = nI (f + 1)) (hc : c < 250) (C : sF m h f n (nI c) su) : ∃ h', (∀ Q : Option mx_V → mx_H → Prop, Q none h' → mx_W (mx_Call mx_prog (d + 3)) (mx_nth cd_M_several) (70, [some (.inr (.inr (some m))), some (.inl (nI f)), some (.inl (nI n)), z], [], h) Q) ∧ ev m (f + 1) 6000 h h' ∧ sr m h h' ∧ hpI h' m 24 = nI (f + 2) ∧ hpI h' m 26 = hpI h m 26 ∧ pF m h' (f + 1) (nI c) (-1) 0 0 := by
  obtain ⟨c1, c2, c3, c4⟩ := C
  obtain ⟨h', k', E', s', a', b', -, F'⟩ := M_push_ok (d + 2) S hf hF (nI c) (-1) 0 0
  refine ⟨h', fun Q hq => ?_, E', s', a', b', F'⟩
  refine mw_go rfl rfl ?_
  refine mv_gR rfl rfl S.1 (S.r 21 rfl) ?_
  refine mw_go rfl rfl ?_
  refine mv_ial rfl rfl (S.a 21 rfl) rfl (show f < 600 by omega) (by decide) c3 ?_
  iterate 2 refine mw_go rfl rfl ?_
  refine mw_ifF (nI_m1 (by omega)) ?_
  iterate 2 refine mw_go rfl rfl ?_
  refine mv_gR rfl rfl S.1 (S.r 21 rfl) ?_
  refine mw_go rfl rfl ?_
  refine mv_ial rfl rfl (S.a 21 rfl) rfl (show f < 600 by omega) (by decide) c3 ?_
  iterate 3 refine mw_go rfl rfl ?_
  refine mw_cn k' rfl rfl rfl (Nat.le_of_ble_eq_true rfl) ⟨_, rfl, S.1⟩ ?_
  exact mw_r4 rfl hq
theorem M_several_pop {n su : Nat} {z : Option mx_V} (d : Nat) (S : mS m h) (T : tOk t) (H : mT m t h) (hn : n < tN t) (hf : f < 600) (hF : hpI h m 24 = nI (f + 1)) (h3 : tS t n = 0 ∨ tS t n = 2 ∨ tS t n = 3) (hsu : tS t n ≠ 3 → su < 5) (hsu3 : su < 512) (hte : tS t n = 3 → (tC t n).length = 3 → su / 64 < 5 ∧ su / 8 % 8 < 5 ∧ su % 8 < 5) (C : sF m h f n (-1) su) : ∃ h', (∀ Q : Option mx_V → mx_H → Prop, Q none h' → mx_W (mx_Call mx_prog (d + 3)) (mx_nth cd_M_several) (70, [some (.inr (.inr (some m))), some (.inl (nI f)), some (.inl (nI n)), z], [], h) Q) ∧ poE m h h' f (nI (sfin t n su)) := by
  obtain ⟨c1, c2, c3, c4⟩ := C
  obtain ⟨h', k', E'⟩ := M_pop_ok (d + 2) S hF (nI (sfin t n su))
  have hN := T.2.1
  have An := H.2 n hn
  have Tn := T.at hn
  refine ⟨h', fun Q hq => ?_, E'⟩
  refine mw_go rfl rfl ?_
  refine mv_gR rfl rfl S.1 (S.r 21 rfl) ?_
  refine mw_go rfl rfl ?_
  refine mv_ial rfl rfl (S.a 21 rfl) rfl hf (by decide) c3 ?_
  iterate 2 refine mw_go rfl rfl ?_
  refine mw_ifT rfl ?_
  refine mw_go rfl rfl ?_
  refine mv_gR rfl rfl S.1 (S.r 23 rfl) ?_
  refine mw_go rfl rfl ?_
  refine mv_ial rfl rfl (S.a 23 rfl) rfl hf (by decide) c4 ?_
  refine mw_go rfl rfl ?_
  refine mw_go rfl rfl ?_
  refine mv_gR rfl rfl S.1 (S.r 2 rfl) ?_
  refine mw_go rfl rfl ?_
  refine mv_ial rfl rfl (S.a 2 rfl) rfl (show n < 250 by omega) (by decide) An.S ?_
  refine mw_go rfl rfl ?_
  refine mw_ifP (e_lit (b := 0) rfl (by omega) (by omega)) (fun h0 => ?_) (fun h0 => ?_)
  · rw [sfin, if_pos h0] at k'
    iterate 2 refine mw_go rfl rfl ?_
    refine mw_cn k' rfl rfl rfl (Nat.le_of_ble_eq_true rfl) ⟨_, rfl, S.1⟩ ?_
    refine mw_go rfl rfl ?_
    exact mw_r4 rfl hq
  rw [sfin, if_neg h0] at k'
  refine mw_go rfl rfl ?_
  refine mv_gR rfl rfl S.1 (S.r 2 rfl) ?_
  refine mw_go rfl rfl ?_
  refine mv_ial rfl rfl (S.a 2 rfl) rfl (show n < 250 by omega) (by decide) An.S ?_
  iterate 2 refine mw_go rfl rfl ?_
  refine mw_ifP (e_lit (b := 2) rfl (by omega) (by omega)) (fun h2 => ?_) (fun h2 => ?_)
  · rw [if_pos h2] at k'
    have hs5 := hsu (by omega)
    have hmany := Tn.2.2.2.2.2.1 h2
    have hkm := km_lt su
    iterate 2 refine mw_go rfl rfl ?_
    refine mv_gR rfl rfl S.1 (S.r 4 rfl) ?_
    refine mw_go rfl rfl ?_
    refine mv_ial rfl rfl (S.a 4 rfl) rfl (show n < 250 by omega) (by decide) An.c ?_
    refine mw_go rfl rfl ?_
    have fin : ∀ v, v = (if (tC t n).length = 0 then 4 else if km su = 0 then 0 else if kf su = true then 1 else 4) → mx_W (mx_Call mx_prog (d + 3)) (mx_nth cd_M_several) (125, [some (.inr (.inr (some m))), some (.inl (nI f)), some (.inl (nI n)), some (.inl (nI su))], [.inl (nI v), .inr (.inr (some m))], h) Q := by
      intro v hv
      rw [hv]
      refine mw_cn k' rfl rfl rfl (Nat.le_of_ble_eq_true rfl) ⟨_, rfl, S.1⟩ ?_
      refine mw_go rfl rfl ?_
      exact mw_r4 rfl hq
    refine mw_ifP (e_lit (b := 0) rfl (by omega) (by omega)) (fun g0 => ?_) (fun g0 => ?_)
    · iterate 2 refine mw_go rfl rfl ?_
      exact fin 4 (by rw [if_pos g0])
    rw [if_neg g0] at fin
    refine mw_go rfl rfl ?_
    refine mw_cv (M_most_ok (d + 2) h hs5) rfl rfl rfl (Nat.le_of_ble_eq_true rfl) trivial ?_
    refine mw_go rfl rfl ?_
    refine mw_ifP (e_lit (b := 0) rfl (by omega) (by omega)) (fun g1 => ?_) (fun g1 => ?_)
    · iterate 2 refine mw_go rfl rfl ?_
      exact fin 0 (by rw [if_pos g1])
    rw [if_neg g1] at fin
    refine mw_go rfl rfl ?_
    refine mw_cv (M_canFail_ok (d + 2) h hs5) rfl rfl rfl (Nat.le_of_ble_eq_true rfl) trivial ?_
    refine mw_go rfl rfl ?_
    refine mw_ifP (e_bI _) (fun g2 => ?_) (fun g2 => ?_)
    · iterate 1 refine mw_go rfl rfl ?_
      exact fin 4 (by rw [g2]; rfl)
    · iterate 2 refine mw_go rfl rfl ?_
      have g2 : kf su = true := by cases hh : kf su with
        | true => rfl
        | false => exact absurd hh g2
      exact fin 1 (by rw [g2]; rfl)
  · rw [if_neg h2] at k'
    have hs3 : tS t n = 3 := by omega
    have hmany := Tn.2.2.2.2.2.2.1 hs3
    iterate 2 refine mw_go rfl rfl ?_
    refine mv_gR rfl rfl S.1 (S.r 4 rfl) ?_
    refine mw_go rfl rfl ?_
    refine mv_ial rfl rfl (S.a 4 rfl) rfl (show n < 250 by omega) (by decide) An.c ?_
    iterate 2 refine mw_go rfl rfl ?_
    refine mw_ifP (nI_leI (a := 3) (by omega) (by omega)) (fun g0 => ?_) (fun g0 => ?_)
    · rw [if_neg (by omega)] at k'
      obtain ⟨t1, t2, t3⟩ := hte hs3 (by omega)
      obtain ⟨e1, e2, e3⟩ := s512 ⟨su, hsu3⟩
      iterate 2 refine mw_go rfl rfl ?_
      refine mw_div rfl (by decide) ?_
      iterate 2 refine mw_go rfl rfl ?_
      refine mw_div rfl (by decide) ?_
      refine mw_go rfl rfl ?_
      refine mw_rem rfl (by decide) ?_
      iterate 2 refine mw_go rfl rfl ?_
      refine mw_rem rfl (by decide) ?_
      rw [show nI su / 64 = nI (su / 64) from e1, show nI su / 8 - nI su / 8 / 8 * 8 = nI (su / 8 % 8) from e2, show nI su - nI su / 8 * 8 = nI (su % 8) from e3]
      refine mw_cv (M_tested_ok d h t1 t2 t3) rfl rfl rfl (Nat.le_of_ble_eq_true rfl) trivial ?_
      refine mw_cn k' rfl rfl rfl (Nat.le_of_ble_eq_true rfl) ⟨_, rfl, S.1⟩ ?_
      exact mw_r4 rfl hq
    · rw [if_pos (by omega)] at k'
      iterate 2 refine mw_go rfl rfl ?_
      refine mw_cn k' rfl rfl rfl (Nat.le_of_ble_eq_true rfl) ⟨_, rfl, S.1⟩ ?_
      exact mw_r4 rfl hq
theorem M_several_first {n : Nat} {a b : Int32} {w : Int64} (d : Nat) (S : mS m h) (hn : n < 250) (hf : f < 600) (P : pF m h f (nI n) a b w) : ∃ h1, ev m f 6000 h h1 ∧ sr m h h1 ∧ rS m h h1 ∧ sF m h1 f n (hpI h (m + 4) n) 0 ∧ ∀ h2, (∀ Q : Option mx_V → mx_H → Prop, Q none h2 → mx_W (mx_Call mx_prog (d + 3)) (mx_nth cd_M_several) (70, [some (.inr (.inr (some m))), some (.inl (nI f)), some (.inl (nI n)), none], [], h1) Q) → cl (d + 4) j_M_several [.inr (.inr (some m)), .inl (nI f), .inl (nI n)] h none h2 := by
  obtain ⟨p1, p2, p3, p4, p5, p6⟩ := P
  refine ⟨hwI (hwI (hwI (hwI h (m + 13) f 1) (m + 18) f (hpI h (m + 4) n)) (m + 20) f (nI 0)) (m + 19) f (-1), ?_, ?_, ?_, ?_, ?_⟩
  · exact ev_tr (ev_tr (ev_tr (ev_wI _ (by omega)) (ev_wI _ (by omega))) (ev_wI _ (by omega))) (ev_wI _ (by omega))
  · intro c; simp [hpI_wI]
  · refine ⟨?_, ?_, ?_⟩ <;> simp [hpI_wI]
  · refine ⟨?_, ?_, ?_, ?_⟩ <;> simp [hpI_wI, p1]
  · intro h2 hw
    refine cl_of (Nat.le_of_ble_eq_true rfl) ?_
    show mx_W _ (mx_nth cd_M_several) (0, [some (.inr (.inr (some m))), some (.inl (nI f)), some (.inl (nI n)), none], [], h) _
    refine mw_go rfl rfl ?_
    refine mv_gR rfl rfl S.1 (S.r 16 rfl) ?_
    refine mw_go rfl rfl ?_
    refine mv_ial rfl rfl (S.a 16 rfl) rfl hf (by decide) p2 ?_
    refine mw_go rfl rfl ?_
    refine mw_ifT rfl ?_
    refine mw_go rfl rfl ?_
    refine mv_gR rfl rfl S.1 (S.r 16 rfl) ?_
    iterate 2 refine mw_go rfl rfl ?_
    refine mw_ias rfl rfl (S.a 16 rfl) rfl hf (by decide) ?_
    refine mw_go rfl rfl ?_
    refine mv_gR rfl rfl S.1 (S.r 21 rfl) ?_
    iterate 2 refine mw_go rfl rfl ?_
    refine mv_gR rfl rfl S.1 (S.r 5 rfl) ?_
    refine mw_go rfl rfl ?_
    refine mv_ial (x := hpI h (m + 4) n) rfl rfl (S.a 5 rfl) rfl hn (by decide) (by rw [hpI_wI, if_neg (by omega)]) ?_
    refine mw_ias rfl rfl (S.a 21 rfl) rfl hf (by decide) ?_
    refine mw_go rfl rfl ?_
    refine mv_gR rfl rfl S.1 (S.r 23 rfl) ?_
    iterate 2 refine mw_go rfl rfl ?_
    refine mw_ias rfl rfl (S.a 23 rfl) rfl hf (by decide) ?_
    refine mw_go rfl rfl ?_
    refine mv_gR rfl rfl S.1 (S.r 22 rfl) ?_
    iterate 2 refine mw_go rfl rfl ?_
    refine mw_ias rfl rfl (S.a 22 rfl) rfl hf (by decide) ?_
    refine mw_go rfl rfl ?_
    exact hw _ ⟨rfl, rfl⟩
def snx (t : tr) (n su q : Nat) : Nat := if tS t n = 0 then kbo su q else 8 * su + q
theorem M_several_next {n c su q : Nat} (d : Nat) (S : mS m h) (T : tOk t) (H : mT m t h) (hn : n < tN t) (hc : c < 250) (hf : f < 600) (C : sF m h f n (nI c) su) (hq : q < 5) (hA : hpI h m 27 = nI q) (hsu : tS t n = 0 → su < 5) (hsu3 : su < 64) : ∃ h1, ev m f 6000 h h1 ∧ sr m h h1 ∧ rS m h h1 ∧ sF m h1 f n (hpI h (m + 6) c) (snx t n su q) ∧ ∀ h2, (∀ Q : Option mx_V → mx_H → Prop, Q none h2 → mx_W (mx_Call mx_prog (d + 3)) (mx_nth cd_M_several) (70, [some (.inr (.inr (some m))), some (.inl (nI f)), some (.inl (nI n)), none], [], h1) Q) → cl (d + 4) j_M_several [.inr (.inr (some m)), .inl (nI f), .inl (nI n)] h none h2 := by
  obtain ⟨c1, c2, c3, c4⟩ := C
  have hN := T.2.1
  have An := H.2 n hn
  have Tn := T.at hn
  refine ⟨hwI (hwI h (m + 20) f (nI (snx t n su q))) (m + 18) f (hpI h (m + 6) c), ?_, ?_, ?_, ?_, ?_⟩
  · exact ev_tr (ev_wI _ (by omega)) (ev_wI _ (by omega))
  · intro c; simp [hpI_wI]
  · refine ⟨?_, ?_, ?_⟩ <;> simp [hpI_wI]
  · refine ⟨?_, ?_, ?_, ?_⟩ <;> simp [hpI_wI, c1, c2]
  · intro h2 hw
    refine cl_of (Nat.le_of_ble_eq_true rfl) ?_
    show mx_W _ (mx_nth cd_M_several) (0, [some (.inr (.inr (some m))), some (.inl (nI f)), some (.inl (nI n)), none], [], h) _
    refine mw_go rfl rfl ?_
    refine mv_gR rfl rfl S.1 (S.r 16 rfl) ?_
    refine mw_go rfl rfl ?_
    refine mv_ial rfl rfl (S.a 16 rfl) rfl hf (by decide) c2 ?_
    refine mw_go rfl rfl ?_
    refine mw_ifF (by decide) ?_
    refine mw_go rfl rfl ?_
    refine mv_gR rfl rfl S.1 (S.r 2 rfl) ?_
    refine mw_go rfl rfl ?_
    refine mv_ial rfl rfl (S.a 2 rfl) rfl (show n < 250 by omega) (by decide) An.S ?_
    refine mw_go rfl rfl ?_
    have fin : mx_W (mx_Call mx_prog (d + 3)) (mx_nth cd_M_several) (59, [some (.inr (.inr (some m))), some (.inl (nI f)), some (.inl (nI n)), none], [], hwI h (m + 20) f (nI (snx t n su q))) (fun r1 h1 => r1 = none ∧ h1 = h2) := by
      refine mw_go rfl rfl ?_
      refine mv_gR rfl rfl S.1 (S.r 21 rfl) ?_
      iterate 2 refine mw_go rfl rfl ?_
      refine mv_gR rfl rfl S.1 (S.r 7 rfl) ?_
      refine mw_go rfl rfl ?_
      refine mv_gR rfl rfl S.1 (S.r 21 rfl) ?_
      refine mw_go rfl rfl ?_
      refine mv_ial (x := nI c) rfl rfl (S.a 21 rfl) rfl hf (by decide) (by rw [hpI_wI, if_neg (by omega)]; exact c3) ?_
      refine mv_ial (x := hpI h (m + 6) c) rfl rfl (S.a 7 rfl) rfl hc (by decide) (by rw [hpI_wI, if_neg (by omega)]) ?_
      refine mw_ias rfl rfl (S.a 21 rfl) rfl hf (by decide) ?_
      exact hw _ ⟨rfl, rfl⟩
    refine mw_ifP (e_lit (b := 0) rfl (by omega) (by omega)) (fun h0 => ?_) (fun h0 => ?_)
    · refine mw_go rfl rfl ?_
      refine mv_gR rfl rfl S.1 (S.r 23 rfl) ?_
      iterate 2 refine mw_go rfl rfl ?_
      refine mv_gR rfl rfl S.1 (S.r 23 rfl) ?_
      refine mw_go rfl rfl ?_
      refine mv_ial rfl rfl (S.a 23 rfl) rfl hf (by decide) c4 ?_
      refine mw_go rfl rfl ?_
      refine mv_gI rfl rfl S.1 hA ?_
      refine mw_cv (M_both_ok (d + 1) h (hsu h0) hq) rfl rfl rfl (Nat.le_of_ble_eq_true rfl) trivial ?_
      refine mw_ias rfl rfl (S.a 23 rfl) rfl hf (by decide) ?_
      refine mw_go rfl rfl ?_
      rw [show kbo su q = snx t n su q by unfold snx; rw [if_pos h0]]
      exact fin
    · refine mw_go rfl rfl ?_
      refine mv_gR rfl rfl S.1 (S.r 23 rfl) ?_
      iterate 3 refine mw_go rfl rfl ?_
      refine mv_gR rfl rfl S.1 (S.r 23 rfl) ?_
      refine mw_go rfl rfl ?_
      refine mv_ial rfl rfl (S.a 23 rfl) rfl hf (by decide) c4 ?_
      iterate 2 refine mw_go rfl rfl ?_
      refine mv_gI rfl rfl S.1 hA ?_
      refine mw_go rfl rfl ?_
      rw [show 8 * nI su + nI q = nI (8 * su + q) from s8 ⟨su, hsu3⟩ ⟨q, hq⟩]
      refine mw_ias rfl rfl (S.a 23 rfl) rfl hf (by decide) ?_
      rw [show 8 * su + q = snx t n su q by unfold snx; rw [if_neg h0]]
      exact fin
theorem M_ask_goal {n : Nat} (d : Nat) (S : mS m h) (T : tOk t) (H : mT m t h) (hn : n < tN t) (hf : f < 600) (hF : hpI h m 24 = nI (f + 1)) (h12 : hpI h (m + 12) f = nI n) (h4 : tS t n = 4) : ∃ h', cl (d + 5) j_M_ask [.inr (.inr (some m)), .inl (nI f)] h none h' ∧ poE m h h' f (nI (tV t n)) := by
  have hN := T.2.1
  have An := H.2 n hn
  obtain ⟨h', k', E'⟩ := M_pop_ok (d + 3) S hF (nI (tV t n))
  refine ⟨h', ?_, E'⟩
  refine cl_of (Nat.le_of_ble_eq_true rfl) ?_
  show mx_W _ (mx_nth cd_M_ask) (0, [some (.inr (.inr (some m))), some (.inl (nI f)), none, none], [], h) _
  refine mw_go rfl rfl ?_
  refine mv_gR rfl rfl S.1 (S.r 15 rfl) ?_
  refine mw_go rfl rfl ?_
  refine mv_ial rfl rfl (S.a 15 rfl) rfl hf (by decide) h12 ?_
  iterate 2 refine mw_go rfl rfl ?_
  refine mv_gR rfl rfl S.1 (S.r 2 rfl) ?_
  refine mw_go rfl rfl ?_
  refine mv_ial (x := nI 4) rfl rfl (S.a 2 rfl) rfl (show n < 250 by omega) (by decide) (by rw [An.S, h4]) ?_
  refine mw_go rfl rfl ?_
  iterate 2 refine mw_go rfl rfl ?_
  refine mv_gR rfl rfl S.1 (S.r 8 rfl) ?_
  refine mw_go rfl rfl ?_
  refine mv_ial rfl rfl (S.a 8 rfl) rfl (show n < 250 by omega) (by decide) (An.V4 (by omega)) ?_
  refine mw_cn k' rfl rfl rfl (Nat.le_of_ble_eq_true rfl) ⟨_, rfl, S.1⟩ ?_
  refine mw_go rfl rfl ?_
  exact mw_r4 rfl ⟨rfl, rfl⟩
theorem M_ask_take {n : Nat} {b : Bool} (d : Nat) (S : mS m h) (T : tOk t) (H : mT m t h) (hn : n < tN t) (hf : f < 600) (hF : hpI h m 24 = nI (f + 1)) (h12 : hpI h (m + 12) f = nI n) (h5 : tS t n = 5) (hs : hpI h (m + 11) n = bI b) : ∃ h', cl (d + 5) j_M_ask [.inr (.inr (some m)), .inl (nI f)] h none h' ∧ poE m h h' f (nI (if b = true ∨ tA t n = 1 then 0 else 1)) := by
  have hN := T.2.1
  have An := H.2 n hn
  have hA := ((T.at hn).2.2.2.2.2.2.2.2.1 h5).2.2
  obtain ⟨h', k', E'⟩ := M_pop_ok (d + 3) S hF (nI (if b = true ∨ tA t n = 1 then 0 else 1))
  refine ⟨h', ?_, E'⟩
  refine cl_of (Nat.le_of_ble_eq_true rfl) ?_
  show mx_W _ (mx_nth cd_M_ask) (0, [some (.inr (.inr (some m))), some (.inl (nI f)), none, none], [], h) _
  refine mw_go rfl rfl ?_
  refine mv_gR rfl rfl S.1 (S.r 15 rfl) ?_
  refine mw_go rfl rfl ?_
  refine mv_ial rfl rfl (S.a 15 rfl) rfl hf (by decide) h12 ?_
  iterate 2 refine mw_go rfl rfl ?_
  refine mv_gR rfl rfl S.1 (S.r 2 rfl) ?_
  refine mw_go rfl rfl ?_
  refine mv_ial (x := nI 5) rfl rfl (S.a 2 rfl) rfl (show n < 250 by omega) (by decide) (by rw [An.S, h5]) ?_
  refine mw_go rfl rfl ?_
  iterate 2 refine mw_go rfl rfl ?_
  refine mv_gR rfl rfl S.1 (S.r 14 rfl) ?_
  refine mw_go rfl rfl ?_
  refine mv_ial rfl rfl (S.a 14 rfl) rfl (show n < 250 by omega) (by decide) hs ?_
  refine mw_go rfl rfl ?_
  have fin : ∀ v, v = (if b = true ∨ tA t n = 1 then 0 else 1) → mx_W (mx_Call mx_prog (d + 4)) (mx_nth cd_M_ask) (32, [some (.inr (.inr (some m))), some (.inl (nI f)), some (.inl (nI n)), none], [.inl (nI v), .inr (.inr (some m))], h) (fun r1 h1 => r1 = none ∧ h1 = h') := by
    intro v hv
    rw [hv]
    refine mw_cn k' rfl rfl rfl (Nat.le_of_ble_eq_true rfl) ⟨_, rfl, S.1⟩ ?_
    refine mw_go rfl rfl ?_
    exact mw_r4 rfl ⟨rfl, rfl⟩
  cases b with
  | true =>
    refine mw_ifT (by decide) ?_
    iterate 2 refine mw_go rfl rfl ?_
    exact fin 0 (by rw [if_pos (Or.inl rfl)])
  | false =>
    refine mw_ifF (by decide) ?_
    refine mw_go rfl rfl ?_
    refine mv_gR rfl rfl S.1 (S.r 10 rfl) ?_
    refine mw_go rfl rfl ?_
    refine mv_ial rfl rfl (S.a 10 rfl) rfl (show n < 250 by omega) (by decide) (An.A5 h5) ?_
    iterate 2 refine mw_go rfl rfl ?_
    refine mw_ifP (e_lit (b := 1) rfl (by omega) (by omega)) (fun g => ?_) (fun g => ?_)
    · iterate 2 refine mw_go rfl rfl ?_
      exact fin 0 (by rw [if_pos (Or.inr g)])
    · iterate 1 refine mw_go rfl rfl ?_
      exact fin 1 (by rw [if_neg (by simp [g])])
theorem M_ask_choice {n pa : Nat} (d : Nat) (S : mS m h) (T : tOk t) (H : mT m t h) (hn : n < tN t) (hf : f < 600) (hF : hpI h m 24 = nI (f + 1)) (h12 : hpI h (m + 12) f = nI n) (h1 : tS t n = 1) (h26 : hpI h m 26 = nI pa) (hpa : pa + (tC t n).length ≤ 6000) : ∃ h', cl (d + 5) j_M_ask [.inr (.inr (some m)), .inl (nI f)] h none h' ∧ ev m f pa h h' ∧ sr m h h' ∧ hpI h' m 24 = nI (f + 1) ∧ hpI h' m 26 = nI (pa + (tC t n).length) ∧ PA m h' pa (tC t n) ∧ pF m h' f (-1) (nI pa) (nI (tC t n).length) 0 := by
  have hN := T.2.1
  have An := H.2 n hn
  obtain ⟨ha, ka, La, Pa, Ba⟩ := M_listed_ok (d + 3) S T H hn h26 hpa
  have Sa := La.1.S S
  have hFa := La.2.2.1.trans hF
  have Aa := (La.1.H H).2 n hn
  have Eb : ev m f 6000 ha (hwI ha m 24 (nI f)) := ev_wm _ (by omega)
  have Sb := Eb.S Sa
  have Bb : hpI (hwI ha m 24 (nI f)) m 26 = hpI ha m 26 := by rw [hpI_wI, if_neg (by omega)]
  have sb : sr m ha (hwI ha m 24 (nI f)) := fun c => by simp [hpI_wI]
  obtain ⟨h', k', E', s', a', b', -, F'⟩ := M_push_ok (d + 3) Sb hf (by rw [hpI_wI, if_pos ⟨rfl, rfl⟩]) (-1) (nI pa) (nI (tC t n).length) 0
  refine ⟨h', ?_, ev_tr (ev_mono La.1 (by omega) (by omega)) (ev_mono (ev_tr Eb E') (by omega) (by omega)), sr_tr La.2.1 (sr_tr sb s'), a', b'.trans (Bb.trans Ba), PA_ev (PA_ev Pa Eb (by omega)) E' (by omega), F'⟩
  refine cl_of (Nat.le_of_ble_eq_true rfl) ?_
  show mx_W _ (mx_nth cd_M_ask) (0, [some (.inr (.inr (some m))), some (.inl (nI f)), none, none], [], h) _
  refine mw_go rfl rfl ?_
  refine mv_gR rfl rfl S.1 (S.r 15 rfl) ?_
  refine mw_go rfl rfl ?_
  refine mv_ial rfl rfl (S.a 15 rfl) rfl hf (by decide) h12 ?_
  iterate 2 refine mw_go rfl rfl ?_
  refine mv_gR rfl rfl S.1 (S.r 2 rfl) ?_
  refine mw_go rfl rfl ?_
  refine mv_ial (x := nI 1) rfl rfl (S.a 2 rfl) rfl (show n < 250 by omega) (by decide) (by rw [An.S, h1]) ?_
  refine mw_go rfl rfl ?_
  iterate 2 refine mw_go rfl rfl ?_
  refine mw_cv ka rfl rfl rfl (Nat.le_of_ble_eq_true rfl) ⟨_, rfl, S.1⟩ ?_
  iterate 3 refine mw_go rfl rfl ?_
  refine mv_gI rfl rfl Sa.1 hFa ?_
  iterate 2 refine mw_go rfl rfl ?_
  refine mw_pI rfl rfl Sa.1 ?_
  rw [nI_s1]
  iterate 4 refine mw_go rfl rfl ?_
  refine mv_gR rfl rfl Sb.1 (Sb.r 4 rfl) ?_
  refine mw_go rfl rfl ?_
  refine mv_ial (x := nI (tC t n).length) rfl rfl (Sb.a 4 rfl) rfl (show n < 250 by omega) (by decide) (by rw [hpI_wI, if_neg (by omega)]; exact Aa.c) ?_
  refine mw_go rfl rfl ?_
  refine mw_cn k' rfl rfl rfl (Nat.le_of_ble_eq_true rfl) ⟨_, rfl, Sb.1⟩ ?_
  refine mw_go rfl rfl ?_
  exact mw_r4 rfl ⟨rfl, rfl⟩
theorem M_ask_sev {n : Nat} {h' : mx_H} (d : Nat) (S : mS m h) (T : tOk t) (H : mT m t h) (hn : n < tN t) (hf : f < 600) (h12 : hpI h (m + 12) f = nI n) (h3 : tS t n = 0 ∨ tS t n = 2 ∨ tS t n = 3) (k' : cl (d + 4) j_M_several [.inr (.inr (some m)), .inl (nI f), .inl (nI n)] h none h') : cl (d + 5) j_M_ask [.inr (.inr (some m)), .inl (nI f)] h none h' := by
  have hN := T.2.1
  have An := H.2 n hn
  refine cl_of (Nat.le_of_ble_eq_true rfl) ?_
  show mx_W _ (mx_nth cd_M_ask) (0, [some (.inr (.inr (some m))), some (.inl (nI f)), none, none], [], h) _
  refine mw_go rfl rfl ?_
  refine mv_gR rfl rfl S.1 (S.r 15 rfl) ?_
  refine mw_go rfl rfl ?_
  refine mv_ial rfl rfl (S.a 15 rfl) rfl hf (by decide) h12 ?_
  iterate 2 refine mw_go rfl rfl ?_
  refine mv_gR rfl rfl S.1 (S.r 2 rfl) ?_
  refine mw_go rfl rfl ?_
  have go : ∀ v, (v = 0 ∨ v = 2 ∨ v = 3) → tS t n = v → mx_W (mx_Call mx_prog (d + 4)) (mx_nth cd_M_ask) (8, [some (.inr (.inr (some m))), some (.inl (nI f)), some (.inl (nI n)), none], [.inl (nI n), .inr (.inr (some (m + 1)))], h) (fun r1 h1 => r1 = none ∧ h1 = h') := by
    intro v hv e
    refine mv_ial (x := nI v) rfl rfl (S.a 2 rfl) rfl (show n < 250 by omega) (by decide) (by rw [An.S, e]) ?_
    rcases hv with rfl | rfl | rfl
    all_goals
      refine mw_go rfl rfl ?_
      iterate 3 refine mw_go rfl rfl ?_
      refine mw_cn k' rfl rfl rfl (Nat.le_of_ble_eq_true rfl) ⟨_, rfl, S.1⟩ ?_
      exact mw_r4 rfl ⟨rfl, rfl⟩
  rcases h3 with e | e | e
  · exact go 0 (by simp) e
  · exact go 2 (by simp) e
  · exact go 3 (by simp) e
end
