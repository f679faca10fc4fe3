/-! notKind, testKind, kindFromParts, hasRoom, partNumber. -/
def knot (l : List Nat) : Nat := match l with
  | [] => 4
  | a :: _ => if km a = 0 then 0 else if kf a = true then 1 else 4
def ktst (l : List Nat) : Nat := match l with
  | a :: b :: c :: _ => kte a b c
  | _ => 4
theorem kte_alg : ∀ (a b c : Fin 5), kte a b c = if kf a = false then kof (kf b) (kcap (km a * km b)) else if km a = 0 then c.val else kof (kf b || kf c) (if km c < kcap (km a * km b) then kcap (km a * km b) else km c) := by decide +kernel
theorem kte_lt : ∀ (a b c : Fin 5), kte a b c < 5 := by decide +kernel
theorem kmm {a b : Nat} : km a * km b < 5 := by
  rcases k3 (km_lt a) with e | e | e <;> rcases k3 (km_lt b) with e' | e' | e' <;> rw [e, e'] <;> decide
section
variable {na : Nat → Nat} {t : tr} {κ : Nat → Nat} {h : mx_H}
theorem N_notKind_ok (d : Nat) (T : tOk t) (H : nAll na t κ h) (hκ : ∀ i, i < tN t → κ i < 5 ∧ (tS t i = 4 → κ i = tV t i)) {p : Nat} (hp : p < tN t) : cl (d + 2) j_N_notKind [.inr (.inr (some (na p)))] h (some (.inl (nI (knot ((tC t p).map κ))))) h := by
  refine cl_of (Nat.le_of_ble_eq_true rfl) ?_
  show mx_W _ (mx_nth cd_N_notKind) (0, [some (.inr (.inr (some (na p))))], [], h) _
  have Hp := H p hp
  have Tp := T.at hp
  have HC := Hp.C
  refine mw_go rfl rfl ?_
  generalize hl : tC t p = l at HC
  cases l with
  | nil =>
    have e : hpR h (na p) 10 = none := HC
    refine mv_gR rfl rfl Hp.K e ?_
    refine mw_go rfl rfl ?_
    refine mw_ifT rfl ?_
    refine mw_go rfl rfl ?_
    exact mw_r0 rfl ⟨rfl, rfl⟩
  | cons a l =>
    have e : hpR h (na p) 10 = some (na a) := HC.1
    have ha : a < tN t := (Tp.2.2.1 a (by rw [hl]; exact List.mem_cons_self)).2.1
    have Ha := H a ha
    have hκa := (hκ a ha).1
    refine mv_gR rfl rfl Hp.K e ?_
    refine mw_go rfl rfl ?_
    refine mw_ifF (by simp) ?_
    refine mw_go rfl rfl ?_
    refine mv_gR rfl rfl Hp.K e ?_
    refine mv_gI rfl rfl Ha.K Ha.k ?_
    refine mw_cv (K_most_ok d h hκa) rfl rfl rfl (Nat.le_of_ble_eq_true rfl) trivial ?_
    refine mw_go rfl rfl ?_
    have hm := km_lt (κ a)
    refine mw_ifP (e_lit (b := 0) rfl (by omega) (by omega)) (fun h0 => ?_) (fun h0 => ?_)
    · refine mw_go rfl rfl ?_
      exact mw_r0 rfl ⟨by rw [List.map_cons, knot, if_pos h0]; rfl, rfl⟩
    · refine mw_go rfl rfl ?_
      refine mv_gR rfl rfl Hp.K e ?_
      refine mv_gI rfl rfl Ha.K Ha.k ?_
      refine mw_cv (K_canFail_ok d h hκa) rfl rfl rfl (Nat.le_of_ble_eq_true rfl) trivial ?_
      refine mw_go rfl rfl ?_
      refine mw_ifP (e_bI _) (fun hb => ?_) (fun hb => ?_)
      · refine mw_go rfl rfl ?_
        exact mw_r0 rfl ⟨by rw [List.map_cons, knot, if_neg h0, if_neg (by rw [hb]; decide)]; rfl, rfl⟩
      · iterate 2 refine mw_go rfl rfl ?_
        exact mw_r0 rfl ⟨by rw [List.map_cons, knot, if_neg h0, if_pos (by cases hh : kf (κ a) with | true => rfl | false => exact absurd hh hb)]; rfl, rfl⟩
theorem N_testKind_ok (d : Nat) (T : tOk t) (H : nAll na t κ h) (hκ : ∀ i, i < tN t → κ i < 5 ∧ (tS t i = 4 → κ i = tV t i)) {p : Nat} (hp : p < tN t) : cl (d + 2) j_N_testKind [.inr (.inr (some (na p)))] h (some (.inl (nI (ktst ((tC t p).map κ))))) h := by
  refine cl_of (Nat.le_of_ble_eq_true rfl) ?_
  show mx_W _ (mx_nth cd_N_testKind) (0, [some (.inr (.inr (some (na p)))), none, none, none, none, none], [], h) _
  have Hp := H p hp
  have Tp := T.at hp
  have HC := Hp.C
  refine mw_go rfl rfl ?_
  generalize hl : tC t p = l at HC
  cases l with
  | nil =>
    have e : hpR h (na p) 10 = none := HC
    refine mv_gR rfl rfl Hp.K e ?_
    refine mw_go rfl rfl ?_
    refine mw_ifT rfl ?_
    iterate 5 refine mw_go rfl rfl ?_
    refine mw_ifT rfl ?_
    iterate 4 refine mw_go rfl rfl ?_
    refine mv_gR rfl rfl Hp.K e ?_
    refine mw_go rfl rfl ?_
    refine mw_ifT rfl ?_
    refine mw_go rfl rfl ?_
    exact mw_r0 rfl ⟨rfl, rfl⟩
  | cons a l =>
    have ha : a < tN t := (Tp.2.2.1 a (by rw [hl]; exact List.mem_cons_self)).2.1
    have Ha := H a ha
    have hκa := (hκ a ha).1
    have e1 : hpR h (na p) 10 = some (na a) := HC.1
    refine mv_gR rfl rfl Hp.K e1 ?_
    refine mw_go rfl rfl ?_
    refine mw_ifF (by simp) ?_
    refine mw_go rfl rfl ?_
    refine mv_gR rfl rfl Hp.K e1 ?_
    have HC2 := HC.2
    cases l with
    | nil =>
      have e2 : hpR h (na a) 12 = none := HC2
      refine mv_gR rfl rfl Ha.K e2 ?_
      iterate 3 refine mw_go rfl rfl ?_
      refine mw_ifT rfl ?_
      iterate 4 refine mw_go rfl rfl ?_
      refine mv_gR rfl rfl Hp.K e1 ?_
      refine mw_go rfl rfl ?_
      refine mw_ifF (by simp) ?_
      iterate 2 refine mw_go rfl rfl ?_
      refine mw_ifT rfl ?_
      refine mw_go rfl rfl ?_
      exact mw_r0 rfl ⟨rfl, rfl⟩
    | cons b l =>
      have hb : b < tN t := (Tp.2.2.1 b (by rw [hl]; simp)).2.1
      have Hb := H b hb
      have hκb := (hκ b hb).1
      have e2 : hpR h (na a) 12 = some (na b) := HC2.1
      refine mv_gR rfl rfl Ha.K e2 ?_
      iterate 3 refine mw_go rfl rfl ?_
      refine mw_ifF (by simp) ?_
      refine mw_go rfl rfl ?_
      have HC3 := HC2.2
      cases l with
      | nil =>
        have e3 : hpR h (na b) 12 = none := HC3
        refine mv_gR rfl rfl Hb.K e3 ?_
        iterate 2 refine mw_go rfl rfl ?_
        refine mv_gR rfl rfl Hp.K e1 ?_
        refine mw_go rfl rfl ?_
        refine mw_ifF (by simp) ?_
        iterate 2 refine mw_go rfl rfl ?_
        refine mw_ifF (by simp) ?_
        iterate 2 refine mw_go rfl rfl ?_
        refine mw_ifT rfl ?_
        refine mw_go rfl rfl ?_
        exact mw_r0 rfl ⟨rfl, rfl⟩
      | cons c l =>
        have hc : c < tN t := (Tp.2.2.1 c (by rw [hl]; simp)).2.1
        have Hc := H c hc
        have hκc := (hκ c hc).1
        have e3 : hpR h (na b) 12 = some (na c) := HC3.1
        have ha3 := kte_alg ⟨κ a, hκa⟩ ⟨κ b, hκb⟩ ⟨κ c, hκc⟩
        dsimp only at ha3
        have goal : ktst ((a :: b :: c :: l).map κ) = kte (κ a) (κ b) (κ c) := rfl
        refine mv_gR rfl rfl Hb.K e3 ?_
        iterate 2 refine mw_go rfl rfl ?_
        refine mv_gR rfl rfl Hp.K e1 ?_
        refine mw_go rfl rfl ?_
        refine mw_ifF (by simp) ?_
        iterate 2 refine mw_go rfl rfl ?_
        refine mw_ifF (by simp) ?_
        iterate 2 refine mw_go rfl rfl ?_
        refine mw_ifF (by simp) ?_
        refine mw_go rfl rfl ?_
        refine mv_gR rfl rfl Hp.K e1 ?_
        refine mv_gI rfl rfl Ha.K Ha.k ?_
        refine mw_cv (K_most_ok d h hκa) rfl rfl rfl (Nat.le_of_ble_eq_true rfl) trivial ?_
        refine mw_go rfl rfl ?_
        refine mv_gI rfl rfl Hb.K Hb.k ?_
        refine mw_cv (K_most_ok d h hκb) rfl rfl rfl (Nat.le_of_ble_eq_true rfl) trivial ?_
        refine mw_go rfl rfl ?_
        rw [pk_mul]
        refine mw_cv (K_capped_ok d h kmm) rfl rfl rfl (Nat.le_of_ble_eq_true rfl) trivial ?_
        iterate 2 refine mw_go rfl rfl ?_
        refine mv_gI rfl rfl Hb.K Hb.k ?_
        refine mw_cv (K_canFail_ok d h hκb) rfl rfl rfl (Nat.le_of_ble_eq_true rfl) trivial ?_
        iterate 2 refine mw_go rfl rfl ?_
        refine mv_gR rfl rfl Hp.K e1 ?_
        refine mv_gI rfl rfl Ha.K Ha.k ?_
        refine mw_cv (K_canFail_ok d h hκa) rfl rfl rfl (Nat.le_of_ble_eq_true rfl) trivial ?_
        refine mw_go rfl rfl ?_
        refine mw_ifP (e_bI _) (fun hfa => ?_) (fun hfa => ?_)
        · iterate 2 refine mw_go rfl rfl ?_
          refine mw_cv (K_of_ok d h (kf (κ b)) (m := kcap (km (κ a) * km (κ b))) kcap_lt) rfl rfl rfl (Nat.le_of_ble_eq_true rfl) trivial ?_
          exact mw_r0 rfl ⟨by rw [goal, ha3, if_pos hfa], rfl⟩
        · refine mw_go rfl rfl ?_
          refine mv_gR rfl rfl Hp.K e1 ?_
          refine mv_gI rfl rfl Ha.K Ha.k ?_
          refine mw_cv (K_most_ok d h hκa) rfl rfl rfl (Nat.le_of_ble_eq_true rfl) trivial ?_
          refine mw_go rfl rfl ?_
          have hma := km_lt (κ a)
          refine mw_ifP (e_lit (b := 0) rfl (by omega) (by omega)) (fun hm0 => ?_) (fun hm0 => ?_)
          · refine mw_go rfl rfl ?_
            refine mv_gI rfl rfl Hc.K Hc.k ?_
            exact mw_r0 rfl ⟨by rw [goal, ha3, if_neg hfa, if_pos hm0], rfl⟩
          · rw [if_neg hfa, if_neg hm0] at ha3
            refine mw_go rfl rfl ?_
            refine mv_gI rfl rfl Hc.K Hc.k ?_
            refine mw_cv (K_most_ok d h hκc) rfl rfl rfl (Nat.le_of_ble_eq_true rfl) trivial ?_
            iterate 2 refine mw_go rfl rfl ?_
            have hmc := km_lt (κ c)
            have hcl : kcap (km (κ a) * km (κ b)) < 3 := kcap_lt
            obtain ⟨mx, emx⟩ : ∃ mx, mx = (if km (κ c) < kcap (km (κ a) * km (κ b)) then kcap (km (κ a) * km (κ b)) else km (κ c)) := ⟨_, rfl⟩
            have hmx : mx < 3 := by rw [emx]; split <;> omega
            have eI : (if nI (km (κ c)) < nI (kcap (km (κ a) * km (κ b))) then nI (kcap (km (κ a) * km (κ b))) else nI (km (κ c))) = nI mx := by
              rw [emx]
              by_cases hlt : km (κ c) < kcap (km (κ a) * km (κ b))
              · rw [if_pos hlt, if_pos ((nI_ltI (by omega) (by omega)).mpr hlt)]
              · rw [if_neg hlt, if_neg (fun q => hlt ((nI_ltI (by omega) (by omega)).mp q))]
            rw [eI]
            rw [← emx] at ha3
            iterate 2 refine mw_go rfl rfl ?_
            have fin : ∀ f : Bool, f = (kf (κ b) || kf (κ c)) → mx_W (mx_Call mx_prog (d + 1)) (mx_nth cd_N_testKind) (71, [some (.inr (.inr (some (na p)))), some (.inr (.inr (some (na b)))), some (.inr (.inr (some (na c)))), some (.inl (nI (kcap (km (κ a) * km (κ b))))), some (.inl (bI (kf (κ b)))), some (.inl (nI mx))], [.inl (bI f)], h) (fun r1 h1 => r1 = some (.inl (nI (ktst ((a :: b :: c :: l).map κ)))) ∧ h1 = h) := by
              intro f hf
              refine mw_go rfl rfl ?_
              refine mw_cv (K_of_ok d h f hmx) rfl rfl rfl (Nat.le_of_ble_eq_true rfl) trivial ?_
              exact mw_r0 rfl ⟨by rw [goal, ha3, hf], rfl⟩
            refine mw_go rfl rfl ?_
            refine mw_ifP (e_bI _) (fun hfb => ?_) (fun hfb => ?_)
            · refine mw_go rfl rfl ?_
              refine mv_gI rfl rfl Hc.K Hc.k ?_
              refine mw_cv (K_canFail_ok d h hκc) rfl rfl rfl (Nat.le_of_ble_eq_true rfl) trivial ?_
              refine mw_go rfl rfl ?_
              refine mw_ifP (e_bI _) (fun hfc => ?_) (fun hfc => ?_)
              · refine mw_go rfl rfl ?_
                exact fin false (by rw [hfb, hfc]; rfl)
              · iterate 2 refine mw_go rfl rfl ?_
                exact fin true (by rw [hfb, Bool.false_or]; cases hh : kf (κ c) with | true => rfl | false => exact absurd hh hfc)
            · iterate 2 refine mw_go rfl rfl ?_
              exact fin true (by cases hh : kf (κ b) with | true => rfl | false => exact absurd hh hfb)
theorem N_kindFromParts_ok (d : Nat) (T : tOk t) (H : nAll na t κ h) (hκ : ∀ i, i < tN t → κ i < 5 ∧ (tS t i = 4 → κ i = tV t i)) {p : Nat} (hp : p < tN t) : cl (d + 3) j_N_kindFromParts [.inr (.inr (some (na p)))] h (some (.inl (nI (if tS t p = 0 then krow t κ (fun _ => false) (tC t p) else if tS t p = 2 then knot ((tC t p).map κ) else if tS t p = 3 then ktst ((tC t p).map κ) else κ p)))) h := by
  refine cl_of (Nat.le_of_ble_eq_true rfl) ?_
  show mx_W _ (mx_nth cd_N_kindFromParts) (0, [some (.inr (.inr (some (na p))))], [], h) _
  have Hp := H p hp
  have Tp := T.at hp
  refine mw_go rfl rfl ?_
  refine mv_gI rfl rfl Hp.K Hp.S ?_
  rcases (show tS t p = 0 ∨ tS t p = 1 ∨ tS t p = 2 ∨ tS t p = 3 ∨ tS t p = 4 ∨ tS t p = 5 by omega) with e | e | e | e | e | e <;> rw [e]
  · iterate 3 refine mw_go rfl rfl ?_
    refine mw_cv (N_rowKind_ok d T H hκ hp 0) rfl rfl rfl (Nat.le_of_ble_eq_true rfl) ⟨_, rfl, Hp.K⟩ ?_
    exact mw_r0 rfl ⟨by rw [if_pos rfl]; congr 3; exact krow_congr (fun c _ _ => tb_zero _), rfl⟩
  · iterate 2 refine mw_go rfl rfl ?_
    refine mv_gI rfl rfl Hp.K Hp.k ?_
    exact mw_r0 rfl ⟨rfl, rfl⟩
  · iterate 2 refine mw_go rfl rfl ?_
    refine mw_cv (N_notKind_ok d T H hκ hp) rfl rfl rfl (Nat.le_of_ble_eq_true rfl) ⟨_, rfl, Hp.K⟩ ?_
    exact mw_r0 rfl ⟨rfl, rfl⟩
  · iterate 2 refine mw_go rfl rfl ?_
    refine mw_cv (N_testKind_ok d T H hκ hp) rfl rfl rfl (Nat.le_of_ble_eq_true rfl) ⟨_, rfl, Hp.K⟩ ?_
    exact mw_r0 rfl ⟨rfl, rfl⟩
  · iterate 2 refine mw_go rfl rfl ?_
    refine mv_gI rfl rfl Hp.K Hp.k ?_
    exact mw_r0 rfl ⟨rfl, rfl⟩
  · iterate 2 refine mw_go rfl rfl ?_
    refine mv_gI rfl rfl Hp.K Hp.k ?_
    exact mw_r0 rfl ⟨rfl, rfl⟩
/-- room for one more PART -/
def trm (t : tr) (p : Nat) : Bool := decide (tD t p < 20) && (tS t p == 0 || tS t p == 1 || (tS t p == 2 && decide ((tC t p).length < 1)) || (tS t p == 3 && decide ((tC t p).length < 3)))
theorem N_hasRoom_ok (d : Nat) (T : tOk t) (H : nAll na t κ h) {p : Nat} (hp : p < tN t) (hL : (tC t p).length < 2 ^ 31) : cl (d + 1) j_N_hasRoom [.inr (.inr (some (na p)))] h (some (.inl (bI (trm t p)))) h := by
  refine cl_of (Nat.le_of_ble_eq_true rfl) ?_
  show mx_W _ (mx_nth cd_N_hasRoom) (0, [some (.inr (.inr (some (na p))))], [], h) _
  have Hp := H p hp
  have Tp := T.at hp
  refine mw_go rfl rfl ?_
  refine mv_gI rfl rfl Hp.K Hp.D ?_
  iterate 2 refine mw_go rfl rfl ?_
  have eD : nI (tD t p) < 20 ↔ tD t p < 20 := nI_ltI (b := 20) (by have := Tp.2.1; omega) (by omega)
  refine mw_ifP eD (fun hD => ?_) (fun hD => ?_)
  · refine mw_go rfl rfl ?_
    refine mv_gI rfl rfl Hp.K Hp.S ?_
    have e1 : decide (tD t p < 20) = true := decide_eq_true hD
    rcases (show tS t p = 0 ∨ tS t p = 1 ∨ tS t p = 2 ∨ tS t p = 3 ∨ tS t p = 4 ∨ tS t p = 5 by omega) with e | e | e | e | e | e <;> rw [e]
    · iterate 2 refine mw_go rfl rfl ?_
      exact mw_r3 rfl (Or.inr rfl) ⟨by rw [trm, e1, e]; rfl, rfl⟩
    · iterate 2 refine mw_go rfl rfl ?_
      exact mw_r3 rfl (Or.inr rfl) ⟨by rw [trm, e1, e]; rfl, rfl⟩
    · iterate 2 refine mw_go rfl rfl ?_
      refine mv_gI rfl rfl Hp.K Hp.c ?_
      iterate 2 refine mw_go rfl rfl ?_
      refine mw_ifP (nI_leI (a := 1) (by omega) hL) (fun hc => ?_) (fun hc => ?_)
      · refine mw_go rfl rfl ?_
        exact mw_r3 rfl (Or.inl rfl) ⟨by rw [trm, e1, e, decide_eq_false (show ¬ (tC t p).length < 1 by omega)]; rfl, rfl⟩
      · iterate 2 refine mw_go rfl rfl ?_
        exact mw_r3 rfl (Or.inr rfl) ⟨by rw [trm, e1, e, decide_eq_true (show (tC t p).length < 1 by omega)]; rfl, rfl⟩
    · iterate 2 refine mw_go rfl rfl ?_
      refine mv_gI rfl rfl Hp.K Hp.c ?_
      iterate 2 refine mw_go rfl rfl ?_
      refine mw_ifP (nI_leI (a := 3) (by omega) hL) (fun hc => ?_) (fun hc => ?_)
      · refine mw_go rfl rfl ?_
        exact mw_r3 rfl (Or.inl rfl) ⟨by rw [trm, e1, e, decide_eq_false (show ¬ (tC t p).length < 3 by omega)]; rfl, rfl⟩
      · iterate 2 refine mw_go rfl rfl ?_
        exact mw_r3 rfl (Or.inr rfl) ⟨by rw [trm, e1, e, decide_eq_true (show (tC t p).length < 3 by omega)]; rfl, rfl⟩
    · iterate 2 refine mw_go rfl rfl ?_
      exact mw_r3 rfl (Or.inl rfl) ⟨by rw [trm, e1, e]; rfl, rfl⟩
    · iterate 2 refine mw_go rfl rfl ?_
      exact mw_r3 rfl (Or.inl rfl) ⟨by rw [trm, e1, e]; rfl, rfl⟩
  · refine mw_go rfl rfl ?_
    exact mw_r3 rfl (Or.inl rfl) ⟨by rw [trm, decide_eq_false hD]; rfl, rfl⟩
end
