/-! The equations of all KINDS; what they depend on; who lies below whom; a tree with one NODE more. -/
/-- the KIND of the NODE i out of the KINDS of those below it -/
def stp (t : tr) (κ : Nat → Nat) (i : Nat) : Nat :=
  if tS t i = 0 then krow t κ (fun _ => false) (tC t i) else if tS t i = 1 then kc t κ 0 (tC t i) else if tS t i = 2 then knot ((tC t i).map κ) else if tS t i = 3 then ktst ((tC t i).map κ) else if tS t i = 4 then tV t i else if tA t i = 1 then 0 else 1
def eqv (t t' : tr) (c : Nat) : Prop := tS t' c = tS t c ∧ tV t' c = tV t c ∧ tG t' c = tG t c ∧ tA t' c = tA t c ∧ tM t' c = tM t c
def eqk (t t' : tr) (κ κ' : Nat → Nat) (p : Nat) : Prop := eqv t t' p ∧ κ' p = κ p ∧ tC t' p = tC t p ∧ ∀ e ∈ tC t p, eqv t t' e ∧ κ' e = κ e
section
variable {t t' : tr} {κ κ' : Nat → Nat}
theorem thd_cg {c : Nat} (h : eqv t t' c) : thd t' c = thd t c := by unfold thd; rw [h.1, h.2.1]
theorem tkl_cg {x : Nat} : ∀ {l : List Nat}, (∀ c ∈ l, eqv t t' c) → tkl t' x l = tkl t x l := by
  intro l
  induction l with
  | nil => intro _; rfl
  | cons c r ih =>
    intro h
    have hc := h c List.mem_cons_self
    rw [tkl, tkl, thd_cg hc, hc.1, hc.2.1, hc.2.2.2.2, ih (fun z hz => h z (List.mem_cons_of_mem _ hz))]
theorem tk_cg {p x : Nat} (h : eqk t t' κ κ' p) : tk t' p x = tk t p x := by
  unfold tk
  rw [h.1.1, h.1.2.1, h.2.2.1, tkl_cg (fun c hc => (h.2.2.2 c hc).1)]
theorem tkN_cg {p c x : Nat} (h : eqk t t' κ κ' p) (hc : tk t p x = some c) : eqv t t' c := by
  have h1 := (tk_in hc).1
  unfold tkN at h1
  by_cases h5 : tS t p = 5
  · rw [if_pos h5] at h1
    rw [List.mem_singleton.mp h1]; exact h.1
  · rw [if_neg h5] at h1
    by_cases h0 : tS t p = 0
    · rw [if_pos h0] at h1; exact (h.2.2.2 c h1).1
    · rw [if_neg h0] at h1; cases h1
theorem tka_cg {p x : Nat} (h : eqk t t' κ κ' p) : tka t' p x = tka t p x ∧ tkg t' p x = tkg t p x := by
  unfold tka tkg
  rw [tk_cg h]
  cases hc : tk t p x with
  | none => exact ⟨rfl, rfl⟩
  | some c => have := tkN_cg h hc; exact ⟨this.2.2.2.1, this.2.2.1⟩
theorem coL_cg {x : Nat} : ∀ {l : List Nat} {cm : Option Nat}, (∀ p ∈ l, eqk t t' κ κ' p) → coL t' x cm l = coL t x cm l := by
  intro l
  induction l with
  | nil => intro cm _; rfl
  | cons p r ih =>
    intro cm h
    have hr := fun z hz => h z (List.mem_cons_of_mem _ hz)
    cases cm with
    | none => rw [coL, coL, (tka_cg (h p List.mem_cons_self)).1]; exact ih hr
    | some v => rw [coL, coL, (tka_cg (h p List.mem_cons_self)).1, ih hr]
theorem fsx_cg {w : Int64} {x : Nat} {l : List Nat} (h : ∀ p ∈ l, eqk t t' κ κ' p) : fsx t' w l x = fsx t w l x := by
  unfold fsx
  have e : l.all (fun p => (tk t' p x).isSome) = l.all (fun p => (tk t p x).isSome) := by
    induction l with
    | nil => rfl
    | cons p r ih => rw [List.all_cons, List.all_cons, tk_cg (h p List.mem_cons_self), ih (fun z hz => h z (List.mem_cons_of_mem _ hz))]
  rw [e, coL_cg h]
theorem fsF_cg {w : Int64} {l : List Nat} (h : ∀ p ∈ l, eqk t t' κ κ' p) : ∀ {n x : Nat}, fsF t' w l x n = fsF t w l x n := by
  intro n
  induction n with
  | zero => intro x; rfl
  | succ n ih => intro x; rw [fsF, fsF, fsx_cg h, ih]
theorem fsw_cg {w : Int64} {l : List Nat} (h : ∀ p ∈ l, eqk t t' κ κ' p) : fsw t' w l = fsw t w l := by unfold fsw; rw [fsF_cg h]
theorem grL_cg {x : Nat} : ∀ {l : List Nat} {G : List (Nat × List Nat)}, (∀ p ∈ l, eqk t t' κ κ' p) → grL t' x G l = grL t x G l := by
  intro l
  induction l with
  | nil => intro G _; rfl
  | cons p r ih => intro G h; rw [grL, grL, (tka_cg (h p List.mem_cons_self)).2]; exact ih (fun z hz => h z (List.mem_cons_of_mem _ hz))
theorem krow_cg : ∀ {l : List Nat} {X : Nat → Bool}, (∀ c ∈ l, eqv t t' c ∧ κ' c = κ c) → krow t' κ' X l = krow t κ X l := by
  intro l
  induction l with
  | nil => intro X _; rfl
  | cons c r ih =>
    intro X h
    obtain ⟨hc, hk⟩ := h c List.mem_cons_self
    have hr := fun z hz => h z (List.mem_cons_of_mem _ hz)
    rw [krow, krow, hc.1, hc.2.1, hk, ih hr, ih hr]
theorem kkn_cg {p : Nat} {X : Nat → Bool} (h : eqk t t' κ κ' p) : kkn t' κ' X p = kkn t κ X p := by
  unfold kkn
  rw [h.1.1, h.1.2.1, h.2.2.1, h.2.1, krow_cg h.2.2.2]
theorem plL_cg {X : Nat → Bool} : ∀ {l : List Nat} {cf : Bool} {mo : Nat}, (∀ p ∈ l, eqk t t' κ κ' p) → plL t' κ' X cf mo l = plL t κ X cf mo l := by
  intro l
  induction l with
  | nil => intro cf mo _; rfl
  | cons p r ih => intro cf mo h; rw [plL, plL, kkn_cg (h p List.mem_cons_self)]; exact ih (fun z hz => h z (List.mem_cons_of_mem _ hz))
theorem kcF_cg : ∀ {f : Nat} {w : Int64} {l : List Nat}, (∀ p ∈ l, eqk t t' κ κ' p) → kcF t' κ' f w l = kcF t κ f w l := by
  intro f
  induction f with
  | zero => intro w l _; rfl
  | succ f ih =>
    intro w l h
    rw [kcF, kcF, fsw_cg h]
    cases hs : fsw t w l with
    | none => exact plL_cg h
    | some q =>
      obtain ⟨x, v⟩ := q
      dsimp only
      have e : grp t' x l = grp t x l := grL_cg h
      rw [e]
      congr 1
      apply List.map_congr_left
      intro q hq
      exact ih (fun p hp => h p (grp_mem hq hp))
theorem map_cg {l : List Nat} (h : ∀ c ∈ l, κ' c = κ c) : l.map κ' = l.map κ := List.map_congr_left h
theorem stp_cg {i : Nat} (h1 : tS t' i = tS t i ∧ tV t' i = tV t i ∧ tA t' i = tA t i ∧ tC t' i = tC t i) (h2 : ∀ p ∈ tC t i, eqk t t' κ κ' p) : stp t' κ' i = stp t κ i := by
  unfold stp
  rw [h1.1, h1.2.1, h1.2.2.1, h1.2.2.2, krow_cg (fun c hc => ⟨(h2 c hc).1, (h2 c hc).2.1⟩), map_cg (fun c hc => (h2 c hc).2.1)]
  have : kc t' κ' 0 (tC t i) = kc t κ 0 (tC t i) := kcF_cg h2
  rw [this]
end
/-- c is i, or lies below it, at most k deep -/
def sub (t : tr) (k i c : Nat) : Prop := match k with
  | 0 => c = i
  | k + 1 => c = i ∨ ∃ d ∈ tC t i, sub t k d c
def Sub (t : tr) (i c : Nat) : Prop := ∃ k, sub t k i c
section
variable {t : tr}
theorem sub_rf (k i : Nat) : sub t k i i := by cases k with
  | zero => rfl
  | succ k => exact Or.inl rfl
theorem Sub_rf (i : Nat) : Sub t i i := ⟨0, rfl⟩
theorem Sub_ch {i d c : Nat} (hd : d ∈ tC t i) (h : Sub t d c) : Sub t i c := by
  obtain ⟨k, hk⟩ := h
  exact ⟨k + 1, Or.inr ⟨d, hd, hk⟩⟩
theorem Sub_cs {i c : Nat} (h : Sub t i c) : c = i ∨ ∃ d ∈ tC t i, Sub t d c := by
  obtain ⟨k, hk⟩ := h
  cases k with
  | zero => exact Or.inl hk
  | succ k =>
    rcases hk with h | ⟨d, hd, h⟩
    · exact Or.inl h
    · exact Or.inr ⟨d, hd, k, h⟩
theorem sub_le (T : tOk t) : ∀ {k i c : Nat}, i < tN t → sub t k i c → i ≤ c ∧ c < tN t := by
  intro k
  induction k with
  | zero => intro i c hi h; have h : c = i := h; omega
  | succ k ih =>
    intro i c hi h
    rcases h with h | ⟨d, hd, h⟩
    · omega
    · have hd' := (T.at hi).2.2.1 d hd
      have := ih hd'.2.1 h
      omega
theorem Sub_le (T : tOk t) {i c : Nat} (hi : i < tN t) (h : Sub t i c) : i ≤ c ∧ c < tN t := by
  obtain ⟨k, hk⟩ := h
  exact sub_le T hi hk
theorem sub_up (T : tOk t) : ∀ {k i c : Nat}, i < tN t → sub t k i c → c ≠ i → Sub t i (tP t c) := by
  intro k
  induction k with
  | zero => intro i c _ h hne; exact absurd h hne
  | succ k ih =>
    intro i c hi h hne
    rcases h with h | ⟨d, hd, h⟩
    · exact absurd h hne
    · have hd' := (T.at hi).2.2.1 d hd
      by_cases e : c = d
      · rw [e, hd'.2.2]; exact Sub_rf i
      · exact Sub_ch hd (ih hd'.2.1 h e)
theorem Sub_up (T : tOk t) {i c : Nat} (hi : i < tN t) (h : Sub t i c) (hne : c ≠ i) : Sub t i (tP t c) := by
  obtain ⟨k, hk⟩ := h
  exact sub_up T hi hk hne
/-- PARTS of one NODE have nothing in common -/
theorem Sub_dj (T : tOk t) {i : Nat} (hi : i < tN t) : ∀ {c p q : Nat}, p ∈ tC t i → q ∈ tC t i → Sub t p c → Sub t q c → p = q := by
  intro c
  induction c using Nat.strongRecOn with
  | ind c ih =>
    intro p q hp hq h1 h2
    have hp' := (T.at hi).2.2.1 p hp
    have hq' := (T.at hi).2.2.1 q hq
    by_cases e : p = q
    · exact e
    · exfalso
      have lp := Sub_le T hp'.2.1 h1
      have lq := Sub_le T hq'.2.1 h2
      by_cases e1 : c = p
      · subst e1
        have := Sub_up T hq'.2.1 h2 e
        rw [hp'.2.2] at this
        have := Sub_le T hq'.2.1 this
        omega
      · by_cases e2 : c = q
        · subst e2
          have := Sub_up T hp'.2.1 h1 (fun z => e z.symm)
          rw [hq'.2.2] at this
          have := Sub_le T hp'.2.1 this
          omega
        · have hlt : tP t c < c := (T.at lp.2).2.2.2.2.2.2.2.2.2 (by omega)
          exact e (ih (tP t c) hlt hp hq (Sub_up T hp'.2.1 h1 e1) (Sub_up T hq'.2.1 h2 e2))
end
/-- all that lies below i -/
noncomputable def sD (t : tr) (i : Nat) : List Nat := (List.range (tN t)).filter (fun c => @decide (Sub t i c) (Classical.propDecidable _))
noncomputable def sz (t : tr) (i : Nat) : Nat := (sD t i).length
section
variable {t : tr}
theorem sD_mem {i c : Nat} : c ∈ sD t i ↔ c < tN t ∧ Sub t i c := by
  unfold sD
  rw [List.mem_filter, List.mem_range]
  simp
theorem sD_nd (i : Nat) : (sD t i).Nodup := List.nodup_range.filter _
theorem sz_le (i : Nat) : sz t i ≤ tN t := by
  unfold sz sD
  have := List.length_filter_le (fun c => @decide (Sub t i c) (Classical.propDecidable _)) (List.range (tN t))
  rw [List.length_range] at this
  exact this
theorem flat_len {f : Nat → List Nat} : ∀ (l : List Nat), (l.flatMap f).length = (l.map (fun c => (f c).length)).sum := by
  intro l
  induction l with
  | nil => rfl
  | cons a r ih => rw [List.flatMap_cons, List.length_append, ih, List.map_cons, List.sum_cons]
theorem sz_ch (T : tOk t) {i : Nat} (hi : i < tN t) : 1 + ((tC t i).map (sz t)).sum ≤ sz t i := by
  have Ti := T.at hi
  have hn : (i :: (tC t i).flatMap (sD t)).Nodup := by
    rw [List.nodup_cons]
    refine ⟨fun hm => ?_, nodup_flat Ti.2.2.2.1 (fun p _ => sD_nd p) (fun p hp q hq hne z hz hz' => hne (Sub_dj T hi hp hq (sD_mem.mp hz).2 (sD_mem.mp hz').2))⟩
    obtain ⟨p, hp, hz⟩ := List.mem_flatMap.mp hm
    have hp' := Ti.2.2.1 p hp
    have := Sub_le T hp'.2.1 (sD_mem.mp hz).2
    omega
  have := nodup_sub _ (sD t i) hn (fun x hx => by
    rcases List.mem_cons.mp hx with h | h
    · rw [h]; exact sD_mem.mpr ⟨hi, Sub_rf i⟩
    · obtain ⟨p, hp, hz⟩ := List.mem_flatMap.mp h
      obtain ⟨z1, z2⟩ := sD_mem.mp hz
      exact sD_mem.mpr ⟨z1, Sub_ch hp z2⟩)
  rw [List.length_cons, flat_len] at this
  unfold sz
  show 1 + ((tC t i).map (fun c => (sD t c).length)).sum ≤ _
  omega
end
