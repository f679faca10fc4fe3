/-! The reference's made, add, goal, take, begin, clear. -/
/-- the NODE n just made -/
def nB (m n : Nat) (s : Int32) (D : Int32) (w : Int64) (h hB : mx_H) : Prop :=
  (∀ c, hpK hB c = hpK h c) ∧ (∀ c k, hpR hB c k = hpR h c k) ∧ mF m h hB ∧ hpI hB m 1 = nI (n + 1) ∧ (∀ k, k ≠ 1 → hpI hB m k = hpI h m k) ∧ (∀ k, hpL hB m k = hpL h m k) ∧
  (∀ j k, 1 ≤ j → j ≤ 11 → k ≠ n → hpI hB (m + j) k = hpI h (m + j) k ∧ hpL hB (m + j) k = hpL h (m + j) k) ∧
  hpI hB (m + 1) n = s ∧ hpI hB (m + 2) n = D ∧ hpI hB (m + 3) n = 0 ∧ hpI hB (m + 4) n = -1 ∧ hpI hB (m + 5) n = -1 ∧ hpI hB (m + 6) n = -1 ∧ hpI hB (m + 7) n = -1 ∧ hpI hB (m + 8) n = -1 ∧ hpI hB (m + 9) n = -1 ∧ hpL hB (m + 10) n = w ∧ hpI hB (m + 11) n = 0
theorem CM_app {m n q : Nat} {h h' : mx_H} : ∀ {l : List Nat} {r : Int32}, CM m h r l → l.getLast? = some q → (∀ c ∈ l, c ≠ q → hpI h' (m + 6) c = hpI h (m + 6) c) → hpI h' (m + 6) q = nI n → hpI h' (m + 6) n = -1 → l.Nodup → CM m h' r (l ++ [n]) := by
  intro l
  induction l with
  | nil => intro r _ hq; simp at hq
  | cons c l ih =>
    intro r C hq hc h1 h2 hn
    obtain ⟨n1, n2⟩ := List.nodup_cons.mp hn
    refine ⟨C.1, ?_⟩
    cases l with
    | nil =>
      simp at hq
      subst hq
      rw [h1]
      exact ⟨rfl, h2⟩
    | cons d l =>
      rw [List.getLast?_cons_cons] at hq
      have hm : q ∈ d :: l := List.mem_of_getLast? hq
      rw [hc c List.mem_cons_self (fun e => n1 (e ▸ hm))]
      exact ih C.2 hq (fun z hz => hc z (List.mem_cons_of_mem _ hz)) h1 h2 n2
section
variable {m : Nat} {t : tr} {w : Int64} {r : Nat} {h : mx_H}
theorem M_made_start {d n : Nat} {s : Int32} {par' : Int32} {D : Int32} {Q : Option mx_V → mx_H → Prop} (S : mS m h) (hn : n < 250) (h1 : hpI h m 1 = nI n) (hw : hpL h m 12 = w) (hp : (par' = -1 ∧ D = 0) ∨ ∃ p dp, p < 250 ∧ p ≠ n ∧ par' = nI p ∧ hpI h (m + 2) p = dp ∧ D = dp + 1) (rest : ∀ hB, nB m n s D w h hB → mx_W (mx_Call mx_prog d) (mx_nth cd_M_made) (75, [some (.inr (.inr (some m))), some (.inl par'), some (.inl s), some (.inl (nI n))], [], hB) Q) :
    mx_W (mx_Call mx_prog d) (mx_nth cd_M_made) (0, [some (.inr (.inr (some m))), some (.inl par'), some (.inl s), none], [], h) Q := by
  have last : ∀ DD, DD = D → mx_W (mx_Call mx_prog d) (mx_nth cd_M_made) (74, [some (.inr (.inr (some m))), some (.inl par'), some (.inl s), some (.inl (nI n))], [.inl DD, .inl (nI n), .inr (.inr (some (m + 2)))], hwI (hwL (hwI (hwI (hwI (hwI (hwI (hwI (hwI (hwI (hwI h m 1 (nI (n + 1))) (m + 1) n s) (m + 3) n 0) (m + 4) n (-1)) (m + 5) n (-1)) (m + 6) n (-1)) (m + 7) n (-1)) (m + 8) n (-1)) (m + 9) n (-1)) (m + 10) n w) (m + 11) n 0) Q := by
    intro DD hDD
    rw [hDD]
    refine mw_ias rfl rfl (S.a 3 rfl) rfl hn (by decide) ?_
    refine rest _ ?_
    refine ⟨fun _ => rfl, fun _ _ => rfl, ?_, ?_, ?_, ?_, ?_, ?_, ?_, ?_, ?_, ?_, ?_, ?_, ?_, ?_, ?_, ?_⟩
    · exact mF_tr (mF_tr (mF_tr (mF_tr (mF_tr (mF_tr (mF_tr (mF_tr (mF_tr (mF_tr (mF_tr (mF_wm 1 _) (mF_wI 1 n _ (by omega))) (mF_wI 3 n _ (by omega))) (mF_wI 4 n _ (by omega))) (mF_wI 5 n _ (by omega))) (mF_wI 6 n _ (by omega))) (mF_wI 7 n _ (by omega))) (mF_wI 8 n _ (by omega))) (mF_wI 9 n _ (by omega))) (mF_wL 10 n _ (by omega))) (mF_wI 11 n _ (by omega))) (mF_wI 2 n _ (by omega))
    · simp [hpI_wI, hpI_wL]
    · intro k hk; simp [hpI_wI, hpI_wL, hk]
    · intro k; simp [hpL_wI, hpL_wL]
    · intro j k a b hk
      have ha : ¬ j = 0 := by omega
      exact ⟨by simp [hpI_wI, hpI_wL, hk, ha], by simp [hpL_wI, hpL_wL, hk]⟩
    all_goals simp [hpI_wI, hpI_wL, hpL_wI, hpL_wL]
  refine mw_go rfl rfl ?_
  refine mv_gI rfl rfl S.1 h1 ?_
  iterate 3 refine mw_go rfl rfl ?_
  refine mv_gI rfl rfl S.1 h1 ?_
  iterate 2 refine mw_go rfl rfl ?_
  refine mw_pI rfl rfl S.1 ?_
  rw [show nI n + 1 = nI (n + 1) from nI_1 n]
  refine mw_go rfl rfl ?_
  refine mv_gR rfl rfl S.1 (S.r 2 rfl) ?_
  iterate 2 refine mw_go rfl rfl ?_
  refine mw_ias rfl rfl (S.a 2 rfl) rfl hn (by decide) ?_
  refine mw_go rfl rfl ?_
  refine mv_gR rfl rfl S.1 (S.r 4 rfl) ?_
  iterate 2 refine mw_go rfl rfl ?_
  refine mw_ias rfl rfl (S.a 4 rfl) rfl hn (by decide) ?_
  refine mw_go rfl rfl ?_
  refine mv_gR rfl rfl S.1 (S.r 5 rfl) ?_
  iterate 2 refine mw_go rfl rfl ?_
  refine mw_ias rfl rfl (S.a 5 rfl) rfl hn (by decide) ?_
  refine mw_go rfl rfl ?_
  refine mv_gR rfl rfl S.1 (S.r 6 rfl) ?_
  iterate 2 refine mw_go rfl rfl ?_
  refine mw_ias rfl rfl (S.a 6 rfl) rfl hn (by decide) ?_
  refine mw_go rfl rfl ?_
  refine mv_gR rfl rfl S.1 (S.r 7 rfl) ?_
  iterate 2 refine mw_go rfl rfl ?_
  refine mw_ias rfl rfl (S.a 7 rfl) rfl hn (by decide) ?_
  refine mw_go rfl rfl ?_
  refine mv_gR rfl rfl S.1 (S.r 8 rfl) ?_
  iterate 2 refine mw_go rfl rfl ?_
  refine mw_ias rfl rfl (S.a 8 rfl) rfl hn (by decide) ?_
  refine mw_go rfl rfl ?_
  refine mv_gR rfl rfl S.1 (S.r 9 rfl) ?_
  iterate 2 refine mw_go rfl rfl ?_
  refine mw_ias rfl rfl (S.a 9 rfl) rfl hn (by decide) ?_
  refine mw_go rfl rfl ?_
  refine mv_gR rfl rfl S.1 (S.r 10 rfl) ?_
  iterate 2 refine mw_go rfl rfl ?_
  refine mw_ias rfl rfl (S.a 10 rfl) rfl hn (by decide) ?_
  refine mw_go rfl rfl ?_
  refine mv_gR rfl rfl S.1 (S.r 11 rfl) ?_
  iterate 2 refine mw_go rfl rfl ?_
  refine mv_gL (x := w) rfl rfl S.1 hw ?_
  refine mw_las rfl rfl (S.a 11 rfl) rfl hn (by decide) ?_
  refine mw_go rfl rfl ?_
  refine mv_gR rfl rfl S.1 (S.r 14 rfl) ?_
  iterate 2 refine mw_go rfl rfl ?_
  refine mw_ias rfl rfl (S.a 14 rfl) rfl hn (by decide) ?_
  refine mw_go rfl rfl ?_
  refine mv_gR rfl rfl S.1 (S.r 3 rfl) ?_
  iterate 4 refine mw_go rfl rfl ?_
  rcases hp with ⟨rfl, hD⟩ | ⟨p, dp, hp, hpn, rfl, hdp, hD⟩
  · refine mw_ifT rfl ?_
    iterate 2 refine mw_go rfl rfl ?_
    exact last 0 hD.symm
  · refine mw_ifF (nI_m1 (by omega)) ?_
    refine mw_go rfl rfl ?_
    refine mv_gR rfl rfl S.1 (S.r 3 rfl) ?_
    refine mw_go rfl rfl ?_
    refine mv_ial (x := dp) rfl rfl (S.a 3 rfl) rfl hp (by decide) (by simp [hpI_wI, hpI_wL, hdp]) ?_
    iterate 2 refine mw_go rfl rfl ?_
    exact last (dp + 1) hD.symm
/-- what made leaves: the PARTS hung up, the new NODE bare -/
def mN (m : Nat) (t : tr) (p s : Nat) (w : Int64) (h h' : mx_H) : Prop :=
  mF m h h' ∧ hpI h' m 1 = nI (tN t + 1) ∧ (∀ k, k ≠ 1 → hpI h' m k = hpI h m k) ∧ (∀ k, hpL h' m k = hpL h m k) ∧ (∀ v g a i, i < tN t → mA m (tAd t p s v g a w) h' i) ∧
  (∀ c, c < tN t → hpI h' (m + 11) c = hpI h (m + 11) c) ∧ hpI h' (m + 11) (tN t) = 0 ∧ hpI h' (m + 1) (tN t) = nI s ∧ hpI h' (m + 2) (tN t) = nI (tD t p + 1) ∧ hpI h' (m + 3) (tN t) = 0 ∧ hpI h' (m + 4) (tN t) = -1 ∧ hpI h' (m + 5) (tN t) = -1 ∧ hpI h' (m + 7) (tN t) = -1 ∧ hpI h' (m + 8) (tN t) = -1 ∧ hpI h' (m + 9) (tN t) = -1 ∧ hpL h' (m + 10) (tN t) = w
theorem M_made_ok {p s : Nat} (d : Nat) (S : mS m h) (T : tOk t) (H : mT m t h) (hN : tN t < 250) (hp : p < tN t) (hw : hpL h m 12 = w) : ∃ h', cl (d + 1) j_M_made [.inr (.inr (some m)), .inl (nI p), .inl (nI s)] h (some (.inl (nI (tN t)))) h' ∧ mN m t p s w h h' := by
  have Ap := H.2 p hp
  have Tp := T.at hp
  have walk : mx_W (mx_Call mx_prog d) (mx_nth cd_M_made) (0, [some (.inr (.inr (some m))), some (.inl (nI p)), some (.inl (nI s)), none], [], h) (fun r1 h' => r1 = some (.inl (nI (tN t))) ∧ mN m t p s w h h') := by
    refine M_made_start S hN H.1 hw (Or.inr ⟨p, _, by omega, by omega, rfl, Ap.D, rfl⟩) (fun hB B => ?_)
    obtain ⟨b1, b2, b3, b4, b5, b6, b7, b8, b9, b10, b11, b12, b13, b14, b15, b16, b17, b18⟩ := B
    have SB : mS m hB := mS_cg S b1 b2
    have old : ∀ j i, 1 ≤ j → j ≤ 11 → i < tN t → hpI hB (m + j) i = hpI h (m + j) i ∧ hpL hB (m + j) i = hpL h (m + j) i := fun j i a b hi => b7 j i a b (by omega)
    -- the tail: last, many
    have tail : ∀ hC, (∀ c, hpK hC c = hpK hB c) → (∀ c k, hpR hC c k = hpR hB c k) → mF m hB hC → (∀ c k, ¬ (c = m + 4 ∧ k = p) → ¬ (c = m + 6) → hpI hC c k = hpI hB c k) → (∀ c k, hpL hC c k = hpL hB c k) → CM m hC (hpI hC (m + 4) p) (tC t p ++ [tN t]) → (∀ i, i < tN t → i ≠ p → ∀ c ∈ tC t i, hpI hC (m + 6) c = hpI hB (m + 6) c) → mx_W (mx_Call mx_prog d) (mx_nth cd_M_made) (100, [some (.inr (.inr (some m))), some (.inl (nI p)), some (.inl (nI s)), some (.inl (nI (tN t)))], [], hC) (fun r1 h' => r1 = some (.inl (nI (tN t))) ∧ mN m t p s w h h') := by
      intro hC c1 c2 c3 c4 c5 c6 c7
      have SC : mS m hC := mS_cg SB c1 c2
      refine mw_go rfl rfl ?_
      refine mv_gR rfl rfl SC.1 (SC.r 6 rfl) ?_
      iterate 2 refine mw_go rfl rfl ?_
      refine mw_ias rfl rfl (SC.a 6 rfl) rfl (show p < 250 by omega) (by decide) ?_
      refine mw_go rfl rfl ?_
      refine mv_gR rfl rfl SC.1 (SC.r 4 rfl) ?_
      iterate 2 refine mw_go rfl rfl ?_
      refine mv_ial (x := nI (tC t p).length) rfl rfl (SC.a 4 rfl) rfl (show p < 250 by omega) (by decide) (by rw [hpI_wI, if_neg (by omega), c4 _ _ (by omega) (by omega), (old 3 p (by omega) (by omega) hp).1]; exact Ap.c) ?_
      iterate 2 refine mw_go rfl rfl ?_
      refine mw_ias rfl rfl (SC.a 4 rfl) rfl (show p < 250 by omega) (by decide) ?_
      rw [show nI (tC t p).length + 1 = nI ((tC t p).length + 1) from nI_1 _]
      refine mw_go rfl rfl ?_
      have FD : mF m hC (hwI (hwI hC (m + 5) p (nI (tN t))) (m + 3) p (nI ((tC t p).length + 1))) := mF_tr (mF_wI 5 p _ (by omega)) (mF_wI 3 p _ (by omega))
      have ID : ∀ c k, hpI (hwI (hwI hC (m + 5) p (nI (tN t))) (m + 3) p (nI ((tC t p).length + 1))) c k = if c = m + 3 ∧ k = p then nI ((tC t p).length + 1) else if c = m + 5 ∧ k = p then nI (tN t) else hpI hC c k := fun c k => by rw [hpI_wI, hpI_wI]
      have LD : ∀ c k, hpL (hwI (hwI hC (m + 5) p (nI (tN t))) (m + 3) p (nI ((tC t p).length + 1))) c k = hpL hC c k := fun c k => rfl
      generalize hwI (hwI hC (m + 5) p (nI (tN t))) (m + 3) p (nI ((tC t p).length + 1)) = hD at FD ID LD ⊢
      have oI' : ∀ j i, 1 ≤ j → j ≤ 11 → j ≠ 6 → i < tN t → i ≠ p → hpI hD (m + j) i = hpI h (m + j) i := fun j i a b e hi hip => by
        rw [ID, if_neg (fun q => hip q.2), if_neg (fun q => hip q.2), c4 _ _ (fun q => hip q.2) (by omega), (old j i a b hi).1]
      have oP : ∀ j, 1 ≤ j → j ≤ 11 → j ≠ 3 → j ≠ 4 → j ≠ 5 → j ≠ 6 → hpI hD (m + j) p = hpI h (m + j) p := fun j a b e3 e4 e5 e6 => by
        rw [ID, if_neg (by omega), if_neg (by omega), c4 _ _ (by omega) (by omega), (old j p a b hp).1]
      have nN : ∀ j, 1 ≤ j → j ≤ 11 → j ≠ 6 → hpI hD (m + j) (tN t) = hpI hB (m + j) (tN t) := fun j a b e6 => by
        rw [ID, if_neg (by omega), if_neg (by omega), c4 _ _ (by omega) (by omega)]
      have o6 : ∀ c, hpI hD (m + 6) c = hpI hC (m + 6) c := fun c => by rw [ID, if_neg (by omega), if_neg (by omega)]
      refine mw_r0 rfl ⟨rfl, mF_tr b3 (mF_tr c3 FD), ?_, fun k hk => ?_, fun k => ?_, fun v g a i hi => ?_, fun c hc => ?_, ?_, ?_, ?_, ?_, ?_, ?_, ?_, ?_, ?_, ?_⟩
      · rw [ID, if_neg (by omega), if_neg (by omega), c4 _ _ (by omega) (by omega)]; exact b4
      · rw [ID, if_neg (by omega), if_neg (by omega), c4 _ _ (by omega) (by omega)]; exact b5 k hk
      · rw [LD, c5]; exact b6 k
      · have Ai := H.2 i hi
        obtain ⟨o1, o2, o3, o4, o5, o6', o7⟩ := tAd_o (t := t) (p := p) (s := s) (v := v) (g := g) (a := a) (m := w) (show i ≠ tN t by omega)
        have oC := tAd_C (t := t) (p := p) (s := s) (v := v) (g := g) (a := a) (m := w) (show i ≠ tN t by omega)
        unfold mA
        rw [o1, o3, o4, o5, o6', o7, oC]
        by_cases e : i = p
        · subst e
          rw [if_pos rfl]
          refine ⟨(oP 1 (by omega) (by omega) (by omega) (by omega) (by omega) (by omega)).trans Ai.S, (oP 2 (by omega) (by omega) (by omega) (by omega) (by omega) (by omega)).trans Ai.D, ?_, ?_, ?_, (oP 7 (by omega) (by omega) (by omega) (by omega) (by omega) (by omega)).trans Ai.V, (oP 8 (by omega) (by omega) (by omega) (by omega) (by omega) (by omega)).trans Ai.G, (oP 9 (by omega) (by omega) (by omega) (by omega) (by omega) (by omega)).trans Ai.A, ?_⟩
          · rw [ID, if_pos ⟨rfl, rfl⟩, List.length_append]; rfl
          · have e4 : hpI hD (m + 4) i = hpI hC (m + 4) i := by rw [ID, if_neg (by omega), if_neg (by omega)]
            rw [e4]
            exact CM_cg (fun c _ => o6 c) c6
          · rw [ID, if_neg (by omega), if_pos ⟨rfl, rfl⟩, List.getLast?_append]; rfl
          · rw [LD, c5, (old 10 i (by omega) (by omega) hi).2]; exact Ai.M
        · rw [if_neg e]
          refine ⟨(oI' 1 i (by omega) (by omega) (by omega) hi e).trans Ai.S, (oI' 2 i (by omega) (by omega) (by omega) hi e).trans Ai.D, (oI' 3 i (by omega) (by omega) (by omega) hi e).trans Ai.c, ?_, (oI' 5 i (by omega) (by omega) (by omega) hi e).trans Ai.l, (oI' 7 i (by omega) (by omega) (by omega) hi e).trans Ai.V, (oI' 8 i (by omega) (by omega) (by omega) hi e).trans Ai.G, (oI' 9 i (by omega) (by omega) (by omega) hi e).trans Ai.A, ?_⟩
          · rw [oI' 4 i (by omega) (by omega) (by omega) hi e]
            refine CM_cg (fun c hc => ?_) Ai.C
            have hc' := ((T.at hi).2.2.1 c hc).2.1
            rw [o6, c7 i hi e c hc, (old 6 c (by omega) (by omega) hc').1]
          · rw [LD, c5, (old 10 i (by omega) (by omega) hi).2]; exact Ai.M
      · by_cases e : c = p
        · rw [e]; exact oP 11 (by omega) (by omega) (by omega) (by omega) (by omega) (by omega)
        · exact oI' 11 c (by omega) (by omega) (by omega) hc e
      · rw [nN 11 (by omega) (by omega) (by omega)]; exact b18
      · rw [nN 1 (by omega) (by omega) (by omega)]; exact b8
      · rw [nN 2 (by omega) (by omega) (by omega), b9]; exact nI_1 _
      · rw [nN 3 (by omega) (by omega) (by omega)]; exact b10
      · rw [nN 4 (by omega) (by omega) (by omega)]; exact b11
      · rw [nN 5 (by omega) (by omega) (by omega)]; exact b12
      · rw [nN 7 (by omega) (by omega) (by omega)]; exact b14
      · rw [nN 8 (by omega) (by omega) (by omega)]; exact b15
      · rw [nN 9 (by omega) (by omega) (by omega)]; exact b16
      · rw [LD, c5]; exact b17
    iterate 3 refine mw_go rfl rfl ?_
    refine mw_ifF (nI_m1 (by omega)) ?_
    refine mw_go rfl rfl ?_
    refine mv_gR rfl rfl SB.1 (SB.r 5 rfl) ?_
    refine mw_go rfl rfl ?_
    refine mv_ial rfl rfl (SB.a 5 rfl) rfl (show p < 250 by omega) (by decide) (old 4 p (by omega) (by omega) hp).1 ?_
    iterate 2 refine mw_go rfl rfl ?_
    have Cp := Ap.C
    cases hl : (tC t p).getLast? with
    | none =>
      have hnil : tC t p = [] := List.getLast?_eq_none_iff.mp hl
      rw [hnil] at Cp
      have Cp : hpI h (m + 4) p = -1 := Cp
      refine mw_ifT Cp ?_
      refine mw_go rfl rfl ?_
      refine mv_gR rfl rfl SB.1 (SB.r 5 rfl) ?_
      iterate 2 refine mw_go rfl rfl ?_
      refine mw_ias rfl rfl (SB.a 5 rfl) rfl (show p < 250 by omega) (by decide) ?_
      refine mw_go rfl rfl ?_
      refine tail _ (fun _ => rfl) (fun _ _ => rfl) (mF_wI 4 p _ (by omega)) (fun c k e _ => by rw [hpI_wI, if_neg e]) (fun _ _ => rfl) ?_ (fun i hi e c hc => by rw [hpI_wI, if_neg (by omega)])
      rw [hnil, hpI_wI, if_pos ⟨rfl, rfl⟩]
      refine ⟨rfl, ?_⟩
      show hpI _ _ _ = -1
      rw [hpI_wI, if_neg (by omega)]; exact b13
    | some q =>
      have hqm : q ∈ tC t p := List.mem_of_getLast? hl
      have hq' := Tp.2.2.1 q hqm
      have hf : ¬ hpI h (m + 4) p = -1 := by
        cases hc : tC t p with
        | nil => rw [hc] at hl; cases hl
        | cons c l =>
          rw [hc] at Cp
          rw [Cp.1]
          have := (Tp.2.2.1 c (by rw [hc]; simp)).2.1
          exact nI_m1 (by omega)
      refine mw_ifF hf ?_
      refine mw_go rfl rfl ?_
      refine mv_gR rfl rfl SB.1 (SB.r 7 rfl) ?_
      refine mw_go rfl rfl ?_
      refine mv_gR rfl rfl SB.1 (SB.r 6 rfl) ?_
      refine mw_go rfl rfl ?_
      refine mv_ial (x := nI q) rfl rfl (SB.a 6 rfl) rfl (show p < 250 by omega) (by decide) (by rw [(old 5 p (by omega) (by omega) hp).1, Ap.l, hl]; rfl) ?_
      refine mw_go rfl rfl ?_
      refine mw_ias rfl rfl (SB.a 7 rfl) rfl (show q < 250 by omega) (by decide) ?_
      have CB : CM m hB (hpI h (m + 4) p) (tC t p) := CM_cg (fun c hc => (old 6 c (by omega) (by omega) (Tp.2.2.1 c hc).2.1).1) Cp
      refine tail _ (fun _ => rfl) (fun _ _ => rfl) (mF_wI 6 q _ (by omega)) (fun c k _ e => by rw [hpI_wI, if_neg (by omega)]) (fun _ _ => rfl) ?_ (fun i hi e c hc => ?_)
      · have e4 : hpI (hwI hB (m + 6) q (nI (tN t))) (m + 4) p = hpI h (m + 4) p := by rw [hpI_wI, if_neg (by omega), (old 4 p (by omega) (by omega) hp).1]
        rw [e4]
        refine CM_app CB hl (fun c _ hc => by rw [hpI_wI, if_neg (by omega)]) (by rw [hpI_wI, if_pos ⟨rfl, rfl⟩]) ?_ Tp.2.2.2.1
        rw [hpI_wI, if_neg (by omega)]; exact b13
      · have hne : c ≠ q := fun z => e (by rw [← ((T.at hi).2.2.1 c hc).2.2, z]; exact hq'.2.2)
        rw [hpI_wI, if_neg (by omega)]
  obtain ⟨r1, h', hcl, rfl, K'⟩ := mc_of (prog := mx_prog) (j := j_M_made) (as := [.inr (.inr (some m)), .inl (nI p), .inl (nI s)]) (Nat.le_of_ble_eq_true rfl) walk
  exact ⟨h', hcl, K'⟩
theorem M_root_ok (d : Nat) (S : mS m h) (h1 : hpI h m 1 = nI 0) (hw : hpL h m 12 = 0) : ∃ h', cl (d + 1) j_M_made [.inr (.inr (some m)), .inl (-1), .inl 0] h (some (.inl (nI 0))) h' ∧ nB m 0 0 0 0 h h' := by
  have walk : mx_W (mx_Call mx_prog d) (mx_nth cd_M_made) (0, [some (.inr (.inr (some m))), some (.inl (-1)), some (.inl 0), none], [], h) (fun r1 h' => r1 = some (.inl (nI 0)) ∧ nB m 0 0 0 0 h h') := by
    refine M_made_start S (by omega) h1 hw (Or.inl ⟨rfl, rfl⟩) (fun hB B => ?_)
    iterate 3 refine mw_go rfl rfl ?_
    refine mw_ifT rfl ?_
    refine mw_go rfl rfl ?_
    exact mw_r0 rfl ⟨rfl, B⟩
  obtain ⟨r1, h', hcl, rfl, K'⟩ := mc_of (prog := mx_prog) (j := j_M_made) (as := [.inr (.inr (some m)), .inl (-1), .inl 0]) (Nat.le_of_ble_eq_true rfl) walk
  exact ⟨h', hcl, K'⟩
theorem M_begin_ok (d : Nat) (S : mS m h) : ∃ h', cl (d + 2) j_M_begin [.inr (.inr (some m))] h none h' ∧ mF m h h' ∧ mJ m t0 0 0 h' := by
  have walk : mx_W (mx_Call mx_prog (d + 1)) (mx_nth cd_M_begin) (0, [some (.inr (.inr (some m)))], [], h) (fun r1 h' => r1 = none ∧ mF m h h' ∧ mJ m t0 0 0 h') := by
    iterate 2 refine mw_go rfl rfl ?_
    refine mw_pI rfl rfl S.1 ?_
    iterate 2 refine mw_go rfl rfl ?_
    refine mw_pL rfl rfl S.1 ?_
    iterate 2 refine mw_go rfl rfl ?_
    refine mw_pI rfl rfl S.1 ?_
    have F1 : mF m h (hwI (hwL (hwI h m 1 0) m 12 0) m 13 0) := mF_tr (mF_tr (mF_wm _ _) (mF_wLm _ _)) (mF_wm _ _)
    have a1 : hpI (hwI (hwL (hwI h m 1 0) m 12 0) m 13 0) m 1 = nI 0 := by simp [hpI_wI, hpI_wL]; rfl
    have a2 : hpL (hwI (hwL (hwI h m 1 0) m 12 0) m 13 0) m 12 = 0 := by simp [hpL_wI, hpL_wL]
    have a3 : hpI (hwI (hwL (hwI h m 1 0) m 12 0) m 13 0) m 13 = nI 0 := by simp [hpI_wI, hpI_wL]; rfl
    generalize hwI (hwL (hwI h m 1 0) m 12 0) m 13 0 = h1 at F1 a1 a2 a3 ⊢
    have S1 : mS m h1 := mS_cg S F1.1 F1.2.1
    iterate 3 refine mw_go rfl rfl ?_
    obtain ⟨h2, k2, B⟩ := M_root_ok d S1 a1 a2
    refine mw_cv k2 rfl rfl rfl (Nat.le_of_ble_eq_true rfl) ⟨_, rfl, S1.1⟩ ?_
    refine mw_go rfl rfl ?_
    obtain ⟨b1, b2, b3, b4, b5, b6, b7, b8, b9, b10, b11, b12, b13, b14, b15, b16, b17, b18⟩ := B
    refine mw_r4 rfl ⟨rfl, mF_tr F1 b3, mS_cg S1 b1 b2, ⟨b4, fun i hi => ?_⟩, fun c hc => ?_, (b6 12).trans a2, (b5 13 (by omega)).trans a3⟩
    · have hi : i < 1 := hi
      obtain rfl : i = 0 := by omega
      refine ⟨b8, b9, b10, ?_, b12, b14, b15, b16, b17⟩
      rw [b11]
      rfl
    · have hc : c < 1 := hc
      obtain rfl : c = 0 := by omega
      exact b18
  obtain ⟨r1, h', hcl, rfl, K'⟩ := mc_of (prog := mx_prog) (j := j_M_begin) (as := [.inr (.inr (some m))]) (Nat.le_of_ble_eq_true rfl) walk
  exact ⟨h', hcl, K'⟩
theorem M_clear_ok (d : Nat) (S : mS m h) : ∃ h', cl (d + 3) j_M_clear [.inr (.inr (some m))] h none h' ∧ mF m h h' ∧ mJ m t0 0 0 h' := by
  have F1 : mF m h (hwI h m 0 0) := mF_wm _ _
  obtain ⟨h', k', F', J'⟩ := M_begin_ok d (mS_cg S F1.1 F1.2.1)
  refine ⟨h', ?_, mF_tr F1 F', J'⟩
  refine cl_of (Nat.le_of_ble_eq_true rfl) ?_
  show mx_W _ (mx_nth cd_M_clear) (0, [some (.inr (.inr (some m)))], [], h) _
  iterate 2 refine mw_go rfl rfl ?_
  refine mw_pI rfl rfl S.1 ?_
  refine mw_go rfl rfl ?_
  refine mw_cn k' rfl rfl rfl (Nat.le_of_ble_eq_true rfl) ⟨_, rfl, S.1⟩ ?_
  exact mw_r4 rfl ⟨rfl, rfl⟩
theorem M_emptyRow_ok (d : Nat) (S : mS m h) : cl (d + 1) j_M_emptyRow [.inr (.inr (some m))] h none (hwI (hwL h m 12 0) m 13 0) := by
  refine cl_of (Nat.le_of_ble_eq_true rfl) ?_
  show mx_W _ (mx_nth cd_M_emptyRow) (0, [some (.inr (.inr (some m)))], [], h) _
  iterate 2 refine mw_go rfl rfl ?_
  refine mw_pL rfl rfl S.1 ?_
  iterate 2 refine mw_go rfl rfl ?_
  refine mw_pI rfl rfl S.1 ?_
  exact mw_r4 rfl ⟨rfl, rfl⟩
theorem mJ_er (I : mJ m t w r h) : mF m h (hwI (hwL h m 12 0) m 13 0) ∧ mJ m t 0 0 (hwI (hwL h m 12 0) m 13 0) := by
  obtain ⟨i1, i2, i3, i4, i5⟩ := I
  refine ⟨mF_tr (mF_wLm _ _) (mF_wm _ _), mS_cg i1 (fun _ => rfl) (fun _ _ => rfl), mT_cg i2 (by simp [hpI_wI, hpI_wL]) (fun j k a b => ?_), fun c hc => ?_, by simp [hpL_wI, hpL_wL], by simp [hpI_wI]; rfl⟩
  · have hj : ¬ j = 0 := by omega
    exact ⟨by simp [hpI_wI, hpI_wL, hj], by simp [hpL_wI, hpL_wL, hj]⟩
  · simp [hpI_wI, hpI_wL]; exact i3 c hc
/-- the new NODE filled in -/
theorem mN_J {p s v g a : Nat} {h' h'' : mx_H} (I : mJ m t w r h) (N : mN m t p s w h h') (F : mF m h' h'') (e1 : ∀ k, hpI h'' m k = hpI h' m k ∧ hpL h'' m k = hpL h' m k) (e2 : ∀ j k, 1 ≤ j → j ≤ 11 → ¬ ((j = 7 ∨ j = 8 ∨ j = 9) ∧ k = tN t) → hpI h'' (m + j) k = hpI h' (m + j) k) (e3 : ∀ c k, hpL h'' c k = hpL h' c k) (v7 : hpI h'' (m + 7) (tN t) = oI (decide (3 < s)) v) (v8 : hpI h'' (m + 8) (tN t) = oI (s == 5) g) (v9 : hpI h'' (m + 9) (tN t) = oI (s == 5) a) : mJ m (tAd t p s v g a w) w r h'' := by
  obtain ⟨i1, i2, i3, i4, i5⟩ := I
  obtain ⟨n1, n2, n3, n4, n5, n6, n7, n8, n9, n10, n11, n12, n13, n14, n15, n16⟩ := N
  have FF := mF_tr n1 F
  refine ⟨mS_cg i1 FF.1 FF.2.1, ⟨(e1 1).1.trans n2, fun i hi => ?_⟩, fun c hc => ?_, (e1 12).2.trans ((n4 12).trans i4), (e1 13).1.trans ((n3 13 (by omega)).trans i5)⟩
  · have hi : i < tN t + 1 := hi
    by_cases e : i = tN t
    · subst e
      have k1 := tAd_n (t := t) (p := p) (s := s) (v := v) (g := g) (a := a) (m := w)
      unfold mA
      rw [tS, tD, tC, tV, tG, tA, tM, k1]
      refine ⟨(e2 1 _ (by omega) (by omega) (by omega)).trans n8, (e2 2 _ (by omega) (by omega) (by omega)).trans n9, (e2 3 _ (by omega) (by omega) (by omega)).trans n10, ?_, (e2 5 _ (by omega) (by omega) (by omega)).trans n12, v7, v8, v9, (e3 _ _).trans n16⟩
      rw [e2 4 _ (by omega) (by omega) (by omega), n11]
      rfl
    · obtain ⟨a1, a2, a3, a4, a5, a6, a7, a8, a9⟩ := n5 v g a i (by omega)
      refine ⟨(e2 1 _ (by omega) (by omega) (by omega)).trans a1, (e2 2 _ (by omega) (by omega) (by omega)).trans a2, (e2 3 _ (by omega) (by omega) (by omega)).trans a3, ?_, (e2 5 _ (by omega) (by omega) (by omega)).trans a5, (e2 7 _ (by omega) (by omega) (by omega)).trans a6, (e2 8 _ (by omega) (by omega) (by omega)).trans a7, (e2 9 _ (by omega) (by omega) (by omega)).trans a8, (e3 _ _).trans a9⟩
      rw [e2 4 _ (by omega) (by omega) (by omega)]
      exact CM_cg (fun c _ => e2 6 c (by omega) (by omega) (by omega)) a4
  · have hc : c < tN t + 1 := hc
    rw [e2 11 c (by omega) (by omega) (by omega)]
    by_cases e : c = tN t
    · rw [e]; exact n7
    · rw [n6 c (by omega)]; exact i3 c (by omega)
end
