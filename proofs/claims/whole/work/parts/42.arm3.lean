/-! Arm: open, enlist, hear. -/
def hOp (h : mx_H) (a : Nat) (fr : Option Nat) (tg : Int32) (w : Int64) : mx_H := hwI (hwI (hwI (hwI (hwI (hwI (hwR (hwR (hwL (hwI (hwR h a 0 fr) a 1 tg) a 2 w) a 3 none) a 4 none) a 5 0) a 6 (-1)) a 7 (-1)) a 8 0) a 9 0) a 10 0
def hEn (h : mx_H) (a pa : Nat) : mx_H := hwI (hwR (match hpR h a 4 with
  | none => hwR (hwR h pa 13 none) a 3 (some pa)
  | some q => hwR (hwR h pa 13 none) q 13 (some pa)) a 4 (some pa)) a 5 (hpI h a 5 + 1)
def hHe (h : mx_H) (a : Nat) (cf : Bool) (mo : Nat) : mx_H := hwI (hwI h a 9 (bI cf)) a 10 (nI mo)
theorem A_open_none (d : Nat) (h : mx_H) {a : Nat} (hka : hpK h a = some (.inl 0)) (tg : Int32) : cl (d + 1) j_A_open [.inr (.inr (some a)), .inr (.inr none), .inl tg] h none (hOp h a none tg 0) := by
  refine cl_of (Nat.le_of_ble_eq_true rfl) ?_
  show mx_W _ (mx_nth cd_A_open) (0, [some (.inr (.inr (some a))), some (.inr (.inr none)), some (.inl tg)], [], h) _
  iterate 2 refine mw_go rfl rfl ?_
  refine mw_pR rfl rfl hka ?_
  iterate 2 refine mw_go rfl rfl ?_
  refine mw_pI rfl rfl hka ?_
  iterate 3 refine mw_go rfl rfl ?_
  refine mw_ifT rfl ?_
  iterate 2 refine mw_go rfl rfl ?_
  refine mw_pL rfl rfl hka ?_
  iterate 2 refine mw_go rfl rfl ?_
  refine mw_pR rfl rfl hka ?_
  iterate 2 refine mw_go rfl rfl ?_
  refine mw_pR rfl rfl hka ?_
  iterate 2 refine mw_go rfl rfl ?_
  refine mw_pI rfl rfl hka ?_
  iterate 2 refine mw_go rfl rfl ?_
  refine mw_pI rfl rfl hka ?_
  iterate 2 refine mw_go rfl rfl ?_
  refine mw_pI rfl rfl hka ?_
  iterate 2 refine mw_go rfl rfl ?_
  refine mw_pI rfl rfl hka ?_
  iterate 2 refine mw_go rfl rfl ?_
  refine mw_pZ rfl rfl hka (Or.inl rfl) ?_
  iterate 2 refine mw_go rfl rfl ?_
  refine mw_pI rfl rfl hka ?_
  exact mw_r4 rfl ⟨rfl, rfl⟩
theorem A_open_some (d : Nat) (h : mx_H) {a b x : Nat} (hka : hpK h a = some (.inl 0)) (hkb : hpK h b = some (.inl 0)) (hx : hpI h b 6 = nI x) (tg : Int32) : cl (d + 2) j_A_open [.inr (.inr (some a)), .inr (.inr (some b)), .inl tg] h none (hOp h a (some b) tg (hpL h b 2 ||| bL x)) := by
  refine cl_of (Nat.le_of_ble_eq_true rfl) ?_
  show mx_W _ (mx_nth cd_A_open) (0, [some (.inr (.inr (some a))), some (.inr (.inr (some b))), some (.inl tg)], [], h) _
  iterate 2 refine mw_go rfl rfl ?_
  refine mw_pR rfl rfl hka ?_
  iterate 2 refine mw_go rfl rfl ?_
  refine mw_pI rfl rfl hka ?_
  iterate 3 refine mw_go rfl rfl ?_
  refine mw_ifF (by simp) ?_
  refine mw_go rfl rfl ?_
  refine mw_gL rfl rfl hkb ?_
  refine mw_go rfl rfl ?_
  have e6 : hpI (hwI (hwR h a 0 (some b)) a 1 tg) b 6 = nI x := by simp [hpI_wI, hpI_wR, hx]
  refine mv_gI rfl rfl hkb e6 ?_
  refine mw_cv (N_bit_ok d _ x) rfl rfl rfl (Nat.le_of_ble_eq_true rfl) trivial ?_
  refine mw_go rfl rfl ?_
  refine mw_pL rfl rfl hka ?_
  iterate 2 refine mw_go rfl rfl ?_
  refine mw_pR rfl rfl hka ?_
  iterate 2 refine mw_go rfl rfl ?_
  refine mw_pR rfl rfl hka ?_
  iterate 2 refine mw_go rfl rfl ?_
  refine mw_pI rfl rfl hka ?_
  iterate 2 refine mw_go rfl rfl ?_
  refine mw_pI rfl rfl hka ?_
  iterate 2 refine mw_go rfl rfl ?_
  refine mw_pI rfl rfl hka ?_
  iterate 2 refine mw_go rfl rfl ?_
  refine mw_pI rfl rfl hka ?_
  iterate 2 refine mw_go rfl rfl ?_
  refine mw_pZ rfl rfl hka (Or.inl rfl) ?_
  iterate 2 refine mw_go rfl rfl ?_
  refine mw_pI rfl rfl hka ?_
  exact mw_r4 rfl ⟨rfl, rfl⟩
theorem A_enlist_ok (d : Nat) (h : mx_H) {a pa : Nat} (hka : hpK h a = some (.inl 0)) (hkp : hpK h pa = some (.inl 1)) (hlast : ∀ q, hpR h a 4 = some q → hpK h q = some (.inl 1)) : cl (d + 1) j_A_enlist [.inr (.inr (some a)), .inr (.inr (some pa))] h none (hEn h a pa) := by
  refine cl_of (Nat.le_of_ble_eq_true rfl) ?_
  show mx_W _ (mx_nth cd_A_enlist) (0, [some (.inr (.inr (some a))), some (.inr (.inr (some pa)))], [], h) _
  have hne : ¬ a = pa := fun e => by rw [e, hkp] at hka; cases hka
  iterate 2 refine mw_go rfl rfl ?_
  refine mw_pR rfl rfl hkp ?_
  refine mw_go rfl rfl ?_
  have e4 : hpR (hwR h pa 13 none) a 4 = hpR h a 4 := by simp [hpR_wR]
  refine mv_gR rfl rfl hka e4 ?_
  refine mw_go rfl rfl ?_
  unfold hEn
  cases hl : hpR h a 4 with
  | none =>
    refine mw_ifT rfl ?_
    iterate 2 refine mw_go rfl rfl ?_
    refine mw_pR rfl rfl hka ?_
    iterate 3 refine mw_go rfl rfl ?_
    refine mw_pR rfl rfl hka ?_
    iterate 2 refine mw_go rfl rfl ?_
    refine mw_gI rfl rfl hka ?_
    iterate 2 refine mw_go rfl rfl ?_
    refine mw_pI rfl rfl hka ?_
    exact mw_r4 rfl ⟨rfl, rfl⟩
  | some q =>
    refine mw_ifF (by simp) ?_
    refine mw_go rfl rfl ?_
    rw [hl] at e4
    refine mv_gR rfl rfl hka e4 ?_
    refine mw_go rfl rfl ?_
    refine mw_pR rfl rfl (hlast q hl) ?_
    iterate 2 refine mw_go rfl rfl ?_
    refine mw_pR rfl rfl hka ?_
    iterate 2 refine mw_go rfl rfl ?_
    refine mw_gI rfl rfl hka ?_
    iterate 2 refine mw_go rfl rfl ?_
    refine mw_pI rfl rfl hka ?_
    exact mw_r4 rfl ⟨rfl, rfl⟩
theorem A_hear_ok (d : Nat) (h : mx_H) {a k mo : Nat} {cf : Bool} (hka : hpK h a = some (.inl 0)) (hk : k < 5) (hcf : hpI h a 9 = bI cf) (hmo : hpI h a 10 = nI mo) (hm : mo < 3) : cl (d + 2) j_A_hear [.inr (.inr (some a)), .inl (nI k)] h none (hHe h a (cf || kf k) (if mo < km k then km k else mo)) := by
  refine cl_of (Nat.le_of_ble_eq_true rfl) ?_
  show mx_W _ (mx_nth cd_A_hear) (0, [some (.inr (.inr (some a))), some (.inl (nI k))], [], h) _
  iterate 2 refine mw_go rfl rfl ?_
  refine mv_gI rfl rfl hka hcf ?_
  refine mw_go rfl rfl ?_
  refine mw_cv (K_canFail_ok d h hk) rfl rfl rfl (Nat.le_of_ble_eq_true rfl) trivial ?_
  refine mw_go rfl rfl ?_
  rw [bI_or]
  refine mw_pZ rfl rfl hka (by cases cf || kf k <;> decide) ?_
  iterate 2 refine mw_go rfl rfl ?_
  have e10 : hpI (hwI h a 9 (bI (cf || kf k))) a 10 = nI mo := by simp [hpI_wI, hmo]
  refine mv_gI rfl rfl hka e10 ?_
  refine mw_go rfl rfl ?_
  refine mw_cv (K_most_ok d _ hk) rfl rfl rfl (Nat.le_of_ble_eq_true rfl) trivial ?_
  refine mw_go rfl rfl ?_
  have hkm := km_lt k
  have e : (if nI mo < nI (km k) then nI (km k) else nI mo) = nI (if mo < km k then km k else mo) := by
    by_cases hlt : mo < km k
    · rw [if_pos hlt, if_pos ((nI_ltI (by omega) (by omega)).mpr hlt)]
    · rw [if_neg hlt, if_neg (fun q => hlt ((nI_ltI (by omega) (by omega)).mp q))]
  rw [e]
  refine mw_pI rfl rfl hka ?_
  exact mw_r4 rfl ⟨rfl, rfl⟩
section
variable {na : Nat → Nat}
theorem Chn_congr {h h' : mx_H} {f : Nat} : ∀ {l : List Nat} {r : Option Nat}, (∀ c ∈ l, hpR h' (na c) f = hpR h (na c) f) → Chn na h f r l → Chn na h' f r l := by
  intro l
  induction l with
  | nil => intro r _ h; exact h
  | cons c l ih =>
    intro r hc hh
    obtain ⟨h1, h2⟩ := hh
    refine ⟨h1, ?_⟩
    rw [hc c List.mem_cons_self]
    exact ih (fun z hz => hc z (List.mem_cons_of_mem _ hz)) h2
/-- one more at the end -/
theorem Chn_snoc {h h' : mx_H} {f p q : Nat} : ∀ {l : List Nat} {r : Option Nat}, Chn na h f r l → l.getLast? = some q → l.Nodup → (∀ c ∈ l, c ≠ q → hpR h' (na c) f = hpR h (na c) f) → hpR h' (na q) f = some (na p) → hpR h' (na p) f = none → Chn na h' f r (l ++ [p]) := by
  intro l
  induction l with
  | nil => intro r _ h; simp at h
  | cons c l ih =>
    intro r hh hq hn hc h1 h2
    obtain ⟨e, hch⟩ := hh
    refine ⟨e, ?_⟩
    cases l with
    | nil =>
      simp at hq
      subst hq
      show Chn na h' f (hpR h' (na c) f) [p]
      rw [h1]
      exact ⟨rfl, h2⟩
    | cons c2 l =>
      have hq' : (c2 :: l).getLast? = some q := by rw [List.getLast?_cons_cons] at hq; exact hq
      have hne : c ≠ q := by
        intro e
        subst e
        have := List.mem_of_getLast? hq'
        exact (List.nodup_cons.mp hn).1 this
      rw [hc c List.mem_cons_self hne]
      exact ih hch hq' (List.nodup_cons.mp hn).2 (fun z hz => hc z (List.mem_cons_of_mem _ hz)) h1 h2
end
