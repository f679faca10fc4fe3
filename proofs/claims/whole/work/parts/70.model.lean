/-! The reference: its cells, and how they hold the tree. -/
def mOf (k : Nat) : Option (Nat × Nat × Nat) := match k with
  | 2 => some (1, 0, 250)
  | 3 => some (2, 0, 250)
  | 4 => some (3, 0, 250)
  | 5 => some (4, 0, 250)
  | 6 => some (5, 0, 250)
  | 7 => some (6, 0, 250)
  | 8 => some (7, 0, 250)
  | 9 => some (8, 0, 250)
  | 10 => some (9, 0, 250)
  | 11 => some (10, 1, 250)
  | 14 => some (11, 0, 250)
  | 15 => some (12, 0, 600)
  | 16 => some (13, 0, 600)
  | 17 => some (14, 0, 600)
  | 18 => some (15, 0, 600)
  | 19 => some (16, 1, 600)
  | 20 => some (17, 0, 600)
  | 21 => some (18, 0, 600)
  | 22 => some (19, 0, 600)
  | 23 => some (20, 0, 600)
  | 25 => some (21, 0, 6000)
  | _ => none
/-- the reference's cells: the object m, its arrays behind it -/
def mS (m : Nat) (h : mx_H) : Prop := hpK h m = some (.inl 4) ∧ ∀ k o ty len, mOf k = some (o, ty, len) → hpR h m k = some (m + o) ∧ hpK h (m + o) = some (.inr (ty, len))
theorem mS.r {m : Nat} {h : mx_H} (S : mS m h) (k : Nat) {o ty len : Nat} (e : mOf k = some (o, ty, len)) : hpR h m k = some (m + o) := (S.2 k o ty len e).1
theorem mS.a {m : Nat} {h : mx_H} (S : mS m h) (k : Nat) {o ty len : Nat} (e : mOf k = some (o, ty, len)) : hpK h (m + o) = some (.inr (ty, len)) := (S.2 k o ty len e).2
theorem mS_cg {m : Nat} {h h' : mx_H} (S : mS m h) (hK : ∀ c, hpK h' c = hpK h c) (hR : ∀ c k, hpR h' c k = hpR h c k) : mS m h' := ⟨by rw [hK]; exact S.1, fun k o ty len e => ⟨by rw [hR]; exact S.r k e, by rw [hK]; exact S.a k e⟩⟩
section
variable {C : mx_C} {code : Nat → mx_I} {Q : Option mx_V → mx_H → Prop} {i n : Nat} {ls : mx_L} {st : List mx_V} {h : mx_H} {a : Nat} {r : Option Nat}
theorem mv_ial {t len : Nat} {j x : Int32} {v : Nat} (hc : code i = .inl (x_ial n t)) (hr : r = some a) (hk : hpK h a = some (.inr (t, len))) (hj : j = nI v) (hv : v < len) (hl : len < 2 ^ 31) (hx : hpI h a v = x) (kk : mx_W C code (n, ls, .inl x :: st, h) Q) : mx_W C code (i, ls, .inl j :: .inr (.inr r) :: st, h) Q := mw_ial hc hr hk hj hv hl (by rw [hx]; exact kk)
theorem mv_lal {t len : Nat} {j : Int32} {x : Int64} {v : Nat} (hc : code i = .inl (x_lal n t)) (hr : r = some a) (hk : hpK h a = some (.inr (t, len))) (hj : j = nI v) (hv : v < len) (hl : len < 2 ^ 31) (hx : hpL h a v = x) (kk : mx_W C code (n, ls, .inr (.inl x) :: st, h) Q) : mx_W C code (i, ls, .inl j :: .inr (.inr r) :: st, h) Q := mw_lal hc hr hk hj hv hl (by rw [hx]; exact kk)
end
/-- a chain of NODES by next -/
def CM (m : Nat) (h : mx_H) (r : Int32) (l : List Nat) : Prop := match l with
  | [] => r = -1
  | c :: l => r = nI c ∧ CM m h (hpI h (m + 6) c) l
def mA (m : Nat) (t : tr) (h : mx_H) (i : Nat) : Prop :=
  hpI h (m + 1) i = nI (tS t i) ∧ hpI h (m + 2) i = nI (tD t i) ∧ hpI h (m + 3) i = nI (tC t i).length ∧ CM m h (hpI h (m + 4) i) (tC t i) ∧ hpI h (m + 5) i = iO (tC t i).getLast? ∧ hpI h (m + 7) i = oI (decide (3 < tS t i)) (tV t i) ∧ hpI h (m + 8) i = oI (tS t i == 5) (tG t i) ∧ hpI h (m + 9) i = oI (tS t i == 5) (tA t i) ∧ hpL h (m + 10) i = tM t i
def mT (m : Nat) (t : tr) (h : mx_H) : Prop := hpI h m 1 = nI (tN t) ∧ ∀ i, i < tN t → mA m t h i
section
variable {m : Nat} {t : tr} {h : mx_H} {i : Nat}
theorem mA.S (A : mA m t h i) : hpI h (m + 1) i = nI (tS t i) := A.1
theorem mA.D (A : mA m t h i) : hpI h (m + 2) i = nI (tD t i) := A.2.1
theorem mA.c (A : mA m t h i) : hpI h (m + 3) i = nI (tC t i).length := A.2.2.1
theorem mA.C (A : mA m t h i) : CM m h (hpI h (m + 4) i) (tC t i) := A.2.2.2.1
theorem mA.l (A : mA m t h i) : hpI h (m + 5) i = iO (tC t i).getLast? := A.2.2.2.2.1
theorem mA.V (A : mA m t h i) : hpI h (m + 7) i = oI (decide (3 < tS t i)) (tV t i) := A.2.2.2.2.2.1
theorem mA.G (A : mA m t h i) : hpI h (m + 8) i = oI (tS t i == 5) (tG t i) := A.2.2.2.2.2.2.1
theorem mA.A (A : mA m t h i) : hpI h (m + 9) i = oI (tS t i == 5) (tA t i) := A.2.2.2.2.2.2.2.1
theorem mA.M (A : mA m t h i) : hpL h (m + 10) i = tM t i := A.2.2.2.2.2.2.2.2
theorem mA.V4 (A : mA m t h i) (h4 : 3 < tS t i) : hpI h (m + 7) i = nI (tV t i) := by rw [A.V, decide_eq_true h4]; rfl
theorem mA.G5 (A : mA m t h i) (h5 : tS t i = 5) : hpI h (m + 8) i = nI (tG t i) := by rw [A.G, h5]; rfl
theorem mA.A5 (A : mA m t h i) (h5 : tS t i = 5) : hpI h (m + 9) i = nI (tA t i) := by rw [A.A, h5]; rfl
theorem CM_cg {h h' : mx_H} : ∀ {l : List Nat} {r : Int32}, (∀ c ∈ l, hpI h' (m + 6) c = hpI h (m + 6) c) → CM m h r l → CM m h' r l := by
  intro l
  induction l with
  | nil => intro r _ q; exact q
  | cons c l ih =>
    intro r hc q
    refine ⟨q.1, ?_⟩
    rw [hc c List.mem_cons_self]
    exact ih (fun z hz => hc z (List.mem_cons_of_mem _ hz)) q.2
theorem mT_cg {h' : mx_H} (T : mT m t h) (hn : hpI h' m 1 = hpI h m 1) (hc : ∀ j k, 1 ≤ j → j ≤ 10 → hpI h' (m + j) k = hpI h (m + j) k ∧ hpL h' (m + j) k = hpL h (m + j) k) : mT m t h' := by
  refine ⟨hn.trans T.1, fun i hi => ?_⟩
  obtain ⟨a1, a2, a3, a4, a5, a6, a7, a8, a9⟩ := T.2 i hi
  refine ⟨(hc 1 i (by omega) (by omega)).1.trans a1, (hc 2 i (by omega) (by omega)).1.trans a2, (hc 3 i (by omega) (by omega)).1.trans a3, ?_, (hc 5 i (by omega) (by omega)).1.trans a5, (hc 7 i (by omega) (by omega)).1.trans a6, (hc 8 i (by omega) (by omega)).1.trans a7, (hc 9 i (by omega) (by omega)).1.trans a8, (hc 10 i (by omega) (by omega)).2.trans a9⟩
  rw [(hc 4 i (by omega) (by omega)).1]
  exact CM_cg (fun c _ => (hc 6 c (by omega) (by omega)).1) a4
theorem cmp1 (b : Bool) : lg_cmp (if b then 1 else 0 : Int64) 1 = 0 ↔ b = true := by cases b <;> decide
theorem cmp0 (b : Bool) : lg_cmp (if b then 1 else 0 : Int64) 0 = 0 ↔ b = false := by cases b <;> decide
theorem M_taking_loop {C : mx_C} {Q : Option mx_V → mx_H → Prop} (S : mS m h) (T : tOk t) (H : mT m t h) {p x : Nat} (hp : p < tN t) (h0 : tS t p = 0) (hx : x < 60) : ∀ (l : List Nat) (r : Int32) (z : Option mx_V), CM m h r l → (∀ c ∈ l, c < tN t) → Q (some (.inl (iO (tkl t x l)))) h →
    mx_W C (mx_nth cd_M_taking) (20, [some (.inr (.inr (some m))), some (.inl (nI p)), some (.inl (nI x)), some (.inl r), z], [], h) Q := by
  have hN := T.2.1
  have Ap := H.2 p hp
  have e0 : hpI h (m + 1) p = 0 := by rw [Ap.S, h0]; rfl
  intro l
  induction l with
  | nil =>
    intro r z hr _ hq
    have hr : r = -1 := hr
    subst hr
    iterate 3 refine mw_go rfl rfl ?_
    refine mw_ifT rfl ?_
    refine mw_go rfl rfl ?_
    exact mw_r0 rfl hq
  | cons c l ih =>
    intro r z hr hl hq
    obtain ⟨rfl, hch⟩ := hr
    have hc := hl c List.mem_cons_self
    have Ac := H.2 c hc
    have Tc := T.at hc
    iterate 3 refine mw_go rfl rfl ?_
    refine mw_ifF (nI_m1 (by omega)) ?_
    refine mw_go rfl rfl ?_
    refine mv_gR rfl rfl S.1 (S.r 2 rfl) ?_
    refine mw_go rfl rfl ?_
    refine mv_ial rfl rfl (S.a 2 rfl) rfl (show p < 250 by omega) (by decide) e0 ?_
    refine mw_go rfl rfl ?_
    refine mw_ifT rfl ?_
    refine mw_go rfl rfl ?_
    refine mv_gR rfl rfl S.1 (S.r 2 rfl) ?_
    refine mw_go rfl rfl ?_
    refine mv_ial rfl rfl (S.a 2 rfl) rfl (show c < 250 by omega) (by decide) Ac.S ?_
    iterate 2 refine mw_go rfl rfl ?_
    have yes : thd t c = true → mx_W C (mx_nth cd_M_taking) (45, [some (.inr (.inr (some m))), some (.inl (nI p)), some (.inl (nI x)), some (.inl (nI c)), z], [], h) Q := by
      intro hd
      rw [tkl, if_pos hd] at hq
      iterate 4 refine mw_go rfl rfl ?_
      refine mw_go rfl rfl ?_
      refine mw_ifF (by decide) ?_
      refine mw_go rfl rfl ?_
      refine mv_gR rfl rfl S.1 (S.r 2 rfl) ?_
      refine mw_go rfl rfl ?_
      refine mv_ial rfl rfl (S.a 2 rfl) rfl (show c < 250 by omega) (by decide) Ac.S ?_
      iterate 2 refine mw_go rfl rfl ?_
      have on : ¬ (tS t c = 5 ∧ tV t c = x) → mx_W C (mx_nth cd_M_taking) (67, [some (.inr (.inr (some m))), some (.inl (nI p)), some (.inl (nI x)), some (.inl (nI c)), some (.inl 1)], [], h) Q := by
        intro hn
        rw [if_neg hn] at hq
        refine mw_go rfl rfl ?_
        refine mv_gR rfl rfl S.1 (S.r 11 rfl) ?_
        refine mw_go rfl rfl ?_
        refine mv_lal rfl rfl (S.a 11 rfl) rfl (show c < 250 by omega) (by decide) Ac.M ?_
        iterate 5 refine mw_go rfl rfl ?_
        refine mw_go rfl rfl ?_
        rw [tb_shr _ (show x < 64 by omega)]
        refine mw_go rfl rfl ?_
        refine mw_ifP (cmp1 _) (fun hb => ?_) (fun hb => ?_)
        · rw [if_pos hb] at hq
          refine mw_go rfl rfl ?_
          exact mw_r0 rfl hq
        · rw [if_neg hb] at hq
          refine mw_go rfl rfl ?_
          refine mv_gR rfl rfl S.1 (S.r 2 rfl) ?_
          refine mw_go rfl rfl ?_
          refine mv_ial rfl rfl (S.a 2 rfl) rfl (show p < 250 by omega) (by decide) e0 ?_
          refine mw_go rfl rfl ?_
          refine mw_ifT rfl ?_
          refine mw_go rfl rfl ?_
          refine mv_gR rfl rfl S.1 (S.r 7 rfl) ?_
          refine mw_go rfl rfl ?_
          refine mw_ial rfl rfl (S.a 7 rfl) rfl (show c < 250 by omega) (by decide) ?_
          iterate 3 refine mw_go rfl rfl ?_
          exact ih _ _ hch (fun z hz => hl z (List.mem_cons_of_mem _ hz)) hq
      refine mw_ifP (e_lit (b := 5) rfl (by omega) (by omega)) (fun h5 => ?_) (fun h5 => on (fun q => h5 q.1))
      refine mw_go rfl rfl ?_
      refine mv_gR rfl rfl S.1 (S.r 8 rfl) ?_
      refine mw_go rfl rfl ?_
      refine mv_ial rfl rfl (S.a 8 rfl) rfl (show c < 250 by omega) (by decide) (Ac.V4 (by omega)) ?_
      iterate 2 refine mw_go rfl rfl ?_
      refine mw_ifP (nI_eq (by have := (Tc.2.2.2.2.2.2.2.2.1 h5).1; omega) (by omega)) (fun hv => ?_) (fun hv => on (fun q => hv q.2))
      refine mw_go rfl rfl ?_
      rw [if_pos ⟨h5, hv⟩] at hq
      exact mw_r0 rfl hq
    have no : thd t c = false → mx_W C (mx_nth cd_M_taking) (47, [some (.inr (.inr (some m))), some (.inl (nI p)), some (.inl (nI x)), some (.inl (nI c)), z], [], h) Q := by
      intro hd
      rw [tkl, if_neg (by rw [hd]; decide)] at hq
      iterate 4 refine mw_go rfl rfl ?_
      refine mw_ifT rfl ?_
      refine mw_go rfl rfl ?_
      exact mw_r0 rfl hq
    refine mw_ifP (e_lit (b := 5) rfl (by omega) (by omega)) (fun h5 => yes (thd_t5 h5)) (fun h5 => ?_)
    refine mw_go rfl rfl ?_
    refine mv_gR rfl rfl S.1 (S.r 2 rfl) ?_
    refine mw_go rfl rfl ?_
    refine mv_ial rfl rfl (S.a 2 rfl) rfl (show c < 250 by omega) (by decide) Ac.S ?_
    iterate 2 refine mw_go rfl rfl ?_
    refine mw_ifP (e_lit (b := 4) rfl (by omega) (by omega)) (fun h4 => ?_) (fun h4 => no (thd_f h5 (fun q => h4 q.1)))
    refine mw_go rfl rfl ?_
    refine mv_gR rfl rfl S.1 (S.r 8 rfl) ?_
    refine mw_go rfl rfl ?_
    refine mv_ial rfl rfl (S.a 8 rfl) rfl (show c < 250 by omega) (by decide) (Ac.V4 (by omega)) ?_
    refine mw_go rfl rfl ?_
    refine mw_ifP (e_lit (b := 0) rfl (by have := Tc.2.2.2.2.2.2.2.1 h4; omega) (by omega)) (fun hv => yes (thd_t4 h4 hv)) (fun hv => no (thd_f h5 (fun q => hv q.2)))
theorem M_taking_ok (d : Nat) (S : mS m h) (T : tOk t) (H : mT m t h) {p x : Nat} (hp : p < tN t) (hx : x < 60) : cl (d + 1) j_M_taking [.inr (.inr (some m)), .inl (nI p), .inl (nI x)] h (some (.inl (iO (tk t p x)))) h := by
  refine cl_of (Nat.le_of_ble_eq_true rfl) ?_
  show mx_W _ (mx_nth cd_M_taking) (0, [some (.inr (.inr (some m))), some (.inl (nI p)), some (.inl (nI x)), none, none], [], h) _
  have hN := T.2.1
  have Ap := H.2 p hp
  have Tp := T.at hp
  refine mw_go rfl rfl ?_
  refine mv_gR rfl rfl S.1 (S.r 2 rfl) ?_
  refine mw_go rfl rfl ?_
  refine mv_ial rfl rfl (S.a 2 rfl) rfl (show p < 250 by omega) (by decide) Ap.S ?_
  refine mw_go rfl rfl ?_
  refine mw_ifP (e_lit (b := 0) rfl (by omega) (by omega)) (fun h0 => ?_) (fun h0 => ?_)
  · refine mw_go rfl rfl ?_
    refine mv_gR rfl rfl S.1 (S.r 5 rfl) ?_
    refine mw_go rfl rfl ?_
    refine mw_ial rfl rfl (S.a 5 rfl) rfl (show p < 250 by omega) (by decide) ?_
    iterate 2 refine mw_go rfl rfl ?_
    exact M_taking_loop S T H hp h0 hx _ _ _ Ap.C (fun c hc => (Tp.2.2.1 c hc).2.1) ⟨by unfold tk; rw [if_pos h0], rfl⟩
  · have eT : tk t p x = if tS t p = 5 ∧ tV t p = x then some p else none := by unfold tk; rw [if_neg h0]
    have fin : ∀ z, tk t p x = none → mx_W (mx_Call mx_prog d) (mx_nth cd_M_taking) (20, [some (.inr (.inr (some m))), some (.inl (nI p)), some (.inl (nI x)), some (.inl (-1)), z], [], h) (fun r1 h1 => r1 = some (.inl (iO (tk t p x))) ∧ h1 = h) := by
      intro z e
      iterate 3 refine mw_go rfl rfl ?_
      refine mw_ifT rfl ?_
      refine mw_go rfl rfl ?_
      exact mw_r0 rfl ⟨by rw [e]; rfl, rfl⟩
    refine mw_go rfl rfl ?_
    refine mv_gR rfl rfl S.1 (S.r 2 rfl) ?_
    refine mw_go rfl rfl ?_
    refine mv_ial rfl rfl (S.a 2 rfl) rfl (show p < 250 by omega) (by decide) Ap.S ?_
    iterate 2 refine mw_go rfl rfl ?_
    refine mw_ifP (nI_ltI (b := 4) (by omega) (by omega)) (fun h4 => ?_) (fun h4 => ?_)
    · iterate 2 refine mw_go rfl rfl ?_
      exact fin _ (by rw [eT, if_neg (by omega)])
    · iterate 3 refine mw_go rfl rfl ?_
      iterate 3 refine mw_go rfl rfl ?_
      refine mw_ifF (nI_m1 (by omega)) ?_
      refine mw_go rfl rfl ?_
      refine mv_gR rfl rfl S.1 (S.r 2 rfl) ?_
      refine mw_go rfl rfl ?_
      refine mv_ial rfl rfl (S.a 2 rfl) rfl (show p < 250 by omega) (by decide) Ap.S ?_
      refine mw_go rfl rfl ?_
      refine mw_ifF (nI_ne0 (by omega) (by omega)) ?_
      iterate 5 refine mw_go rfl rfl ?_
      refine mw_ifF (by decide) ?_
      refine mw_go rfl rfl ?_
      refine mv_gR rfl rfl S.1 (S.r 2 rfl) ?_
      refine mw_go rfl rfl ?_
      refine mv_ial rfl rfl (S.a 2 rfl) rfl (show p < 250 by omega) (by decide) Ap.S ?_
      iterate 2 refine mw_go rfl rfl ?_
      have on : ¬ (tS t p = 5 ∧ tV t p = x) → mx_W (mx_Call mx_prog d) (mx_nth cd_M_taking) (67, [some (.inr (.inr (some m))), some (.inl (nI p)), some (.inl (nI x)), some (.inl (nI p)), some (.inl 1)], [], h) (fun r1 h1 => r1 = some (.inl (iO (tk t p x))) ∧ h1 = h) := by
        intro hn
        rw [if_neg hn] at eT
        refine mw_go rfl rfl ?_
        refine mv_gR rfl rfl S.1 (S.r 11 rfl) ?_
        refine mw_go rfl rfl ?_
        refine mv_lal rfl rfl (S.a 11 rfl) rfl (show p < 250 by omega) (by decide) Ap.M ?_
        iterate 5 refine mw_go rfl rfl ?_
        refine mw_go rfl rfl ?_
        rw [tb_shr _ (show x < 64 by omega)]
        refine mw_go rfl rfl ?_
        refine mw_ifP (cmp1 _) (fun hb => ?_) (fun hb => ?_)
        · refine mw_go rfl rfl ?_
          exact mw_r0 rfl ⟨by rw [eT]; rfl, rfl⟩
        · refine mw_go rfl rfl ?_
          refine mv_gR rfl rfl S.1 (S.r 2 rfl) ?_
          refine mw_go rfl rfl ?_
          refine mv_ial rfl rfl (S.a 2 rfl) rfl (show p < 250 by omega) (by decide) Ap.S ?_
          refine mw_go rfl rfl ?_
          refine mw_ifF (nI_ne0 (by omega) (by omega)) ?_
          iterate 3 refine mw_go rfl rfl ?_
          exact fin _ eT
      refine mw_ifP (e_lit (b := 5) rfl (by omega) (by omega)) (fun h5 => ?_) (fun h5 => on (fun q => h5 q.1))
      refine mw_go rfl rfl ?_
      refine mv_gR rfl rfl S.1 (S.r 8 rfl) ?_
      refine mw_go rfl rfl ?_
      refine mv_ial rfl rfl (S.a 8 rfl) rfl (show p < 250 by omega) (by decide) (Ap.V4 (by omega)) ?_
      iterate 2 refine mw_go rfl rfl ?_
      refine mw_ifP (nI_eq (by have := (Tp.2.2.2.2.2.2.2.2.1 h5).1; omega) (by omega)) (fun hv => ?_) (fun hv => on (fun q => hv q.2))
      refine mw_go rfl rfl ?_
      exact mw_r0 rfl ⟨by rw [eT, if_pos ⟨h5, hv⟩]; rfl, rfl⟩
end
