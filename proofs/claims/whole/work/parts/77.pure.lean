/-! Groups by first place; folds of KINDS: plain CHOICES, SWITCHES, ROWS. -/
def nw (g : Nat → Nat) (seen : List Nat) (l : List Nat) : List (Nat × List Nat) := match l with
  | [] => []
  | p :: r => if g p ∈ seen then nw g seen r else (g p, p :: r.filter (fun q => g q == g p)) :: nw g (seen ++ [g p]) r
theorem nw_cg {g : Nat → Nat} : ∀ {l s s' : List Nat}, (∀ y, y ∈ s ↔ y ∈ s') → nw g s l = nw g s' l := by
  intro l
  induction l with
  | nil => intro s s' _; rfl
  | cons p r ih =>
    intro s s' h
    rw [nw, nw, ih h]
    by_cases hp : g p ∈ s
    · rw [if_pos hp, if_pos ((h _).mp hp)]
    · rw [if_neg hp, if_neg (fun z => hp ((h _).mpr z)), ih (s := s ++ [g p]) (s' := s' ++ [g p]) (fun y => by rw [List.mem_append, List.mem_append, h])]
def gF (g : Nat → Nat) (l : List Nat) (e : Nat × List Nat) : Nat × List Nat := (e.1, e.2 ++ l.filter (fun q => g q == e.1))
theorem gF_nil (g : Nat → Nat) (G : List (Nat × List Nat)) : G.map (gF g []) = G := by
  induction G with
  | nil => rfl
  | cons e r ih => rw [List.map_cons, ih]; unfold gF; simp
theorem gF_no {g : Nat → Nat} {p : Nat} {r : List Nat} : ∀ {G : List (Nat × List Nat)}, (∀ e ∈ G, e.1 ≠ g p) → G.map (gF g (p :: r)) = G.map (gF g r) := by
  intro G h
  apply List.map_congr_left
  intro e he
  unfold gF
  rw [List.filter_cons_of_neg]
  have := h e he
  simp only [beq_iff_eq]
  exact fun z => this z.symm
theorem gIn_yes {g : Nat → Nat} {p : Nat} {r : List Nat} : ∀ {G : List (Nat × List Nat)}, (G.map (fun e => e.1)).Nodup → g p ∈ G.map (fun e => e.1) → (gIn G (g p) p).map (gF g r) = G.map (gF g (p :: r)) ∧ (gIn G (g p) p).map (fun e => e.1) = G.map (fun e => e.1) := by
  intro G
  induction G with
  | nil => intro _ h; simp at h
  | cons e G ih =>
    obtain ⟨g', l⟩ := e
    intro hn hm
    rw [List.map_cons, List.nodup_cons] at hn
    rw [gIn]
    by_cases e : g' = g p
    · rw [if_pos e]
      refine ⟨?_, rfl⟩
      rw [List.map_cons, List.map_cons, gF_no (fun z hz hzz => hn.1 (List.mem_map.mpr ⟨z, hz, by show z.1 = g'; rw [hzz, e]⟩))]
      congr 1
      unfold gF
      rw [List.filter_cons_of_pos (by simp [e])]
      simp
    · rw [if_neg e]
      have hm' : g p ∈ G.map (fun e => e.1) := by
        rw [List.map_cons] at hm
        rcases List.mem_cons.mp hm with h | h
        · exact absurd h.symm e
        · exact h
      obtain ⟨i1, i2⟩ := ih hn.2 hm'
      rw [List.map_cons, List.map_cons, List.map_cons, List.map_cons, i1, i2]
      refine ⟨?_, rfl⟩
      congr 1
      unfold gF
      rw [List.filter_cons_of_neg (by simp only [beq_iff_eq]; exact fun z => e z.symm)]
theorem gIn_no {g p : Nat} : ∀ {G : List (Nat × List Nat)}, g ∉ G.map (fun e => e.1) → gIn G g p = G ++ [(g, [p])] := by
  intro G
  induction G with
  | nil => intro _; rfl
  | cons e G ih =>
    obtain ⟨g', l⟩ := e
    intro h
    rw [List.map_cons, List.mem_cons] at h
    rw [gIn, if_neg (fun z => h (Or.inl z.symm)), ih (fun z => h (Or.inr z))]
    rfl
theorem grL_nw {t : tr} {x : Nat} : ∀ (l : List Nat) (G : List (Nat × List Nat)), (G.map (fun e => e.1)).Nodup → grL t x G l = G.map (gF (fun p => tkg t p x) l) ++ nw (fun p => tkg t p x) (G.map (fun e => e.1)) l := by
  intro l
  induction l with
  | nil => intro G _; rw [grL, nw, gF_nil, List.append_nil]
  | cons p r ih =>
    intro G hn
    rw [grL, nw]
    by_cases h : tkg t p x ∈ G.map (fun e => e.1)
    · obtain ⟨i1, i2⟩ := gIn_yes (g := fun p => tkg t p x) (p := p) (r := r) hn h
      rw [if_pos h, ih _ (by rw [i2]; exact hn), i1, i2]
    · rw [if_neg h, gIn_no h, ih _ ?_]
      · rw [List.map_append, List.map_append, gF_no (g := fun p => tkg t p x) (p := p) (r := r) (fun e he hz => h (List.mem_map.mpr ⟨e, he, hz⟩)), List.append_assoc]
        rfl
      · rw [List.map_append]
        exact List.nodup_append.mpr ⟨hn, by simp, fun a ha b hb => by
          simp at hb
          exact fun z => h (by rw [← hb, ← z]; exact ha)⟩
theorem grp_nw (t : tr) (x : Nat) (ps : List Nat) : grp t x ps = nw (fun p => tkg t p x) [] ps := by
  unfold grp
  rw [grL_nw ps [] (by simp)]
  rfl
theorem ifL_iff {g : Nat → Nat} {v : Nat} : ∀ {n i : Nat}, ifL g v i n = true ↔ ∀ j, i ≤ j → j < i + n → g j ≠ v := by
  intro n
  induction n with
  | zero => intro i; exact ⟨fun _ j h1 h2 => by omega, fun _ => rfl⟩
  | succ n ih =>
    intro i
    rw [ifL]
    by_cases e : g i = v
    · rw [if_pos e]
      exact ⟨fun h => absurd h (by decide), fun h => absurd e (h i (by omega) (by omega))⟩
    · rw [if_neg e, ih]
      constructor
      · intro h j h1 h2
        by_cases ej : j = i
        · rw [ej]; exact e
        · exact h j (by omega) (by omega)
      · intro h j h1 h2
        exact h j (by omega) (by omega)
/-- the ARMS whose first PART stands at k or behind -/
def nwk (t : tr) (x : Nat) (ps : List Nat) (k : Nat) : List (Nat × List Nat) := nw (fun p => tkg t p x) ((ps.take k).map (fun p => tkg t p x)) (ps.drop k)
section
variable {t : tr} {x : Nat} {ps : List Nat}
theorem gt_in {k v : Nat} (hk : k ≤ ps.length) : v ∈ (ps.take k).map (fun p => tkg t p x) ↔ ∃ j, j < k ∧ gt' t x ps j = v := by
  constructor
  · intro h
    obtain ⟨p, hp, e⟩ := List.mem_map.mp h
    obtain ⟨i, hi, e2⟩ := List.mem_take_iff_getElem.mp hp
    refine ⟨i, by omega, ?_⟩
    unfold gt'
    rw [getD_of (p := p) (by rw [List.getElem?_eq_getElem (by omega)]; exact congrArg some e2)]
    exact e
  · rintro ⟨j, hj, e⟩
    unfold gt' at e
    obtain ⟨p, hp⟩ : ∃ p, ps[j]? = some p := ⟨ps[j]'(by omega), List.getElem?_eq_getElem (by omega)⟩
    rw [getD_of hp] at e
    refine List.mem_map.mpr ⟨p, List.mem_take_iff_getElem.mpr ⟨j, by omega, ?_⟩, e⟩
    have := List.getElem?_eq_some_iff.mp hp
    exact this.2
theorem drop_at {k p : Nat} (h : ps[k]? = some p) : ps.drop k = p :: ps.drop (k + 1) := by
  obtain ⟨h1, h2⟩ := List.getElem?_eq_some_iff.mp h
  rw [← h2]
  exact List.drop_eq_getElem_cons h1
theorem take_at {k p : Nat} (h : ps[k]? = some p) : ps.take (k + 1) = ps.take k ++ [p] := by
  rw [List.take_succ, h]; rfl
theorem nwk_at {k p : Nat} (h : ps[k]? = some p) : nwk t x ps k = if ifL (gt' t x ps) (gt' t x ps k) 0 k = true then (gt' t x ps k, (ps.drop k).filter (fun q => tkg t q x == gt' t x ps k)) :: nwk t x ps (k + 1) else nwk t x ps (k + 1) := by
  have hk := (List.getElem?_eq_some_iff.mp h).1
  have eg : gt' t x ps k = tkg t p x := by unfold gt'; rw [getD_of h]
  have hin := gt_in (t := t) (x := x) (ps := ps) (k := k) (v := tkg t p x) (by omega)
  unfold nwk
  rw [drop_at h, nw, take_at h, List.map_append, eg]
  by_cases hf : ifL (gt' t x ps) (tkg t p x) 0 k = true
  · have hni : tkg t p x ∉ (ps.take k).map (fun p => tkg t p x) := fun z => by
      obtain ⟨j, hj, e⟩ := hin.mp z
      exact ifL_iff.mp hf j (by omega) (by omega) e
    rw [if_pos hf, if_neg hni, List.filter_cons_of_pos (by simp)]
    rfl
  · have hi : tkg t p x ∈ (ps.take k).map (fun p => tkg t p x) := by
      by_cases hz : tkg t p x ∈ (ps.take k).map (fun p => tkg t p x)
      · exact hz
      · exfalso
        apply hf
        rw [ifL_iff]
        intro j _ hj e
        exact hz (hin.mpr ⟨j, by omega, e⟩)
    rw [if_neg hf, if_pos hi]
    apply nw_cg
    intro y
    rw [List.mem_append]
    constructor
    · exact Or.inl
    · rintro (h | h)
      · exact h
      · simp at h; rw [h]; exact hi
theorem nwk_fn : ∀ (n k : Nat), k + n = ps.length → (fnF (gt' t x ps) k n = ps.length → nwk t x ps k = []) ∧ (fnF (gt' t x ps) k n < ps.length → nwk t x ps k = (gt' t x ps (fnF (gt' t x ps) k n), (ps.drop (fnF (gt' t x ps) k n)).filter (fun q => tkg t q x == gt' t x ps (fnF (gt' t x ps) k n))) :: nwk t x ps (fnF (gt' t x ps) k n + 1)) := by
  intro n
  induction n with
  | zero =>
    intro k hk
    rw [fnF]
    refine ⟨fun _ => ?_, fun h => by omega⟩
    unfold nwk
    rw [List.drop_of_length_le (by omega)]
    rfl
  | succ n ih =>
    intro k hk
    obtain ⟨p, hp⟩ : ∃ p, ps[k]? = some p := ⟨ps[k]'(by omega), List.getElem?_eq_getElem (by omega)⟩
    have e := nwk_at (t := t) (x := x) hp
    rw [fnF]
    by_cases hf : ifL (gt' t x ps) (gt' t x ps k) 0 k = true
    · rw [if_pos hf]
      rw [if_pos hf] at e
      exact ⟨fun h => by omega, fun _ => e⟩
    · rw [if_neg hf]
      rw [if_neg hf] at e
      rw [e]
      exact ih (k + 1) (by omega)
theorem nwk_0 : nwk t x ps 0 = grp t x ps := by rw [grp_nw]; rfl
end
theorem mm_cap (su : Nat) {q : Nat} : kcap (mm su + km q) = mm (su + pAs q) := by
  have hm := km_lt q
  unfold mm kcap pAs
  rcases k3 hm with e | e | e <;> rw [e] <;> (repeat' split) <;> omega
theorem hi_and (hi : Nat) (q : Nat) : (decide (hi = 0) && kf q) = decide ((if kf q = true then hi else hi + 1) = 0) := by
  cases kf q <;> simp
/-- how a SWITCH ends: from what is counted so far, the KINDS of the ARMS that are left -/
def swA (v : Nat) (cf : Bool) (mo hi : Nat) (ks : List Nat) : Nat := kof (decide (v = 0) || (cf || ks.any kf) || decide (hi + ks.length < v)) (if mo < kmx ks then kmx ks else mo)
theorem swA_nil (v : Nat) (cf : Bool) (mo hi : Nat) : swA v cf mo hi [] = kof (decide (v = 0) || cf || decide (hi < v)) mo := by
  unfold swA; simp [kmx]
theorem swA_cons (v : Nat) (cf : Bool) (mo hi q : Nat) (ks : List Nat) : swA v cf mo hi (q :: ks) = swA v (cf || kf q) (if mo < km q then km q else mo) (hi + 1) ks := by
  unfold swA
  rw [List.any_cons, List.length_cons, kmx, Bool.or_assoc cf, show hi + (ks.length + 1) = hi + 1 + ks.length by omega]
  congr 1
  (repeat' split) <;> omega
theorem swA_0 (v : Nat) (ks : List Nat) : swA v false 0 0 ks = ksw v ks := by
  unfold swA ksw
  rw [Bool.false_or, Nat.zero_add]
  congr 1
  split
  · rfl
  · omega
theorem kbo_as : ∀ (a b c : Fin 5), kbo (kbo a b) c = kbo a (kbo b c) := by decide +kernel
theorem kbo_as' {a b c : Nat} (ha : a < 5) (hb : b < 5) (hc : c < 5) : kbo (kbo a b) c = kbo a (kbo b c) := kbo_as ⟨a, ha⟩ ⟨b, hb⟩ ⟨c, hc⟩
theorem kbo_0r : ∀ (a : Fin 5), kbo a 0 = a.val := by decide +kernel
/-- the KIND that a PART of a ROW counts for, where some TAKES are sure -/
def k1 (t : tr) (κ : Nat → Nat) (σ : Nat → Bool) (c : Nat) : Nat := if tS t c = 5 ∧ σ c = true then 0 else κ c
def kr (k : Nat → Nat) (l : List Nat) : Nat := match l with
  | [] => 0
  | c :: r => kbo (k c) (kr k r)
theorem kr_lt {k : Nat → Nat} : ∀ {l : List Nat}, (∀ c ∈ l, k c < 5) → kr k l < 5 := by
  intro l
  induction l with
  | nil => intro _; simp [kr]
  | cons c r ih => intro h; rw [kr]; exact kbo_lt' (h c List.mem_cons_self) (ih (fun z hz => h z (List.mem_cons_of_mem _ hz)))
theorem k1_lt {t : tr} {κ : Nat → Nat} {σ : Nat → Bool} {c : Nat} (h : κ c < 5) : k1 t κ σ c < 5 := by unfold k1; split <;> omega
section
variable {t : tr} {κ : Nat → Nat} {σ : Nat → Bool}
theorem krow_kr : ∀ {l : List Nat} {X : Nat → Bool}, (∀ c ∈ l, κ c < 5) → l.Nodup → (∀ x, X x = true → (tkl t x l).isSome = true) → (∀ c ∈ l, σ c = true ↔ ∃ x, X x = true ∧ tkl t x l = some c) → krow t κ X l = kr (k1 t κ σ) l := by
  intro l
  induction l with
  | nil => intro X _ _ _ _; rfl
  | cons c r ih =>
    intro X hκ hn hX hσ
    obtain ⟨n1, n2⟩ := List.nodup_cons.mp hn
    have hκr := fun z hz => hκ z (List.mem_cons_of_mem _ hz)
    have hkr : kr (k1 t κ σ) r < 5 := kr_lt (fun z hz => k1_lt (hκr z hz))
    have step : ∀ x, X x = true → ¬ (tS t c = 5 ∧ tV t c = x) → tkl t x (c :: r) = tkl t x r := by
      intro x hx hne
      have h1 := hX x hx
      rw [tkl] at h1 ⊢
      by_cases hd : thd t c = true
      · rw [if_pos hd, if_neg hne] at h1 ⊢
        by_cases hb : tb (tM t c) x = true
        · rw [if_pos hb] at h1; cases h1
        · rw [if_neg hb]
      · rw [if_neg hd] at h1; cases h1
    rw [krow, kr]
    by_cases h5 : tS t c = 5 ∧ X (tV t c) = true
    · rw [if_pos h5]
      have hσc : σ c = true := (hσ c List.mem_cons_self).mpr ⟨tV t c, h5.2, by rw [tkl, if_pos (thd_t5 h5.1), if_pos ⟨h5.1, rfl⟩]⟩
      have hk1 : k1 t κ σ c = 0 := by unfold k1; rw [if_pos ⟨h5.1, hσc⟩]
      rw [hk1, show kbo 0 (kr (k1 t κ σ) r) = kr (k1 t κ σ) r from (kf_id ⟨_, hkr⟩).1]
      refine ih hκr n2 (fun x hx => ?_) (fun e he => ?_)
      · simp at hx
        rw [← step x hx.1 (fun z => hx.2 z.2.symm)]
        exact hX x hx.1
      · rw [hσ e (List.mem_cons_of_mem _ he)]
        constructor
        · rintro ⟨x, hx, hk⟩
          have hne : ¬ (tS t c = 5 ∧ tV t c = x) := fun z => by
            rw [tkl, if_pos (thd_t5 h5.1), if_pos z] at hk
            exact n1 (Option.some.inj hk ▸ he)
          rw [step x hx hne] at hk
          refine ⟨x, ?_, hk⟩
          simp [hx]
          exact fun z => hne ⟨h5.1, z.symm⟩
        · rintro ⟨x, hx, hk⟩
          simp at hx
          refine ⟨x, hx.1, ?_⟩
          rw [step x hx.1 (fun z => hx.2 z.2.symm)]
          exact hk
    · rw [if_neg h5]
      have hk1 : k1 t κ σ c = κ c := by
        unfold k1
        rw [if_neg]
        rintro ⟨a, b⟩
        obtain ⟨x, hx, hk⟩ := (hσ c List.mem_cons_self).mp b
        have := (tkl_spec hk).2.2.2
        exact h5 ⟨a, by rw [this]; exact hx⟩
      have hne : ∀ x, X x = true → ¬ (tS t c = 5 ∧ tV t c = x) := fun x hx z => h5 ⟨z.1, by rw [z.2]; exact hx⟩
      rw [hk1]
      congr 1
      refine ih hκr n2 (fun x hx => ?_) (fun e he => ?_)
      · rw [← step x hx (hne x hx)]; exact hX x hx
      · rw [hσ e (List.mem_cons_of_mem _ he)]
        constructor
        · rintro ⟨x, hx, hk⟩; exact ⟨x, hx, by rw [← step x hx (hne x hx)]; exact hk⟩
        · rintro ⟨x, hx, hk⟩; exact ⟨x, hx, by rw [step x hx (hne x hx)]; exact hk⟩
/-- what the reference answers when asked of the NODE n, σ the sure TAKES -/
def ka (t : tr) (κ : Nat → Nat) (σ : Nat → Bool) (n : Nat) : Nat := if tS t n = 5 then (if σ n = true then 0 else κ n) else if tS t n = 0 then kr (k1 t κ σ) (tC t n) else κ n
theorem ka_lt (T : tOk t) (hκ : kB t κ) {n : Nat} (hn : n < tN t) : ka t κ σ n < 5 := by
  unfold ka
  have := (hκ n hn).1
  split
  · split <;> omega
  · split
    · exact kr_lt (fun c hc => k1_lt (hκ c ((T.at hn).2.2.1 c hc).2.1).1)
    · exact this
theorem kkn_ka (T : tOk t) (hκ : kB t κ) {n : Nat} {X : Nat → Bool} (hn : n < tN t) (hX : ∀ x, X x = true → (tk t n x).isSome = true) (hσ : ∀ c ∈ tkN t n, σ c = true ↔ ∃ x, X x = true ∧ tk t n x = some c) : kkn t κ X n = ka t κ σ n := by
  unfold kkn ka
  by_cases h5 : tS t n = 5
  · have e : σ n = true ↔ X (tV t n) = true := by
      rw [hσ n (by unfold tkN; rw [if_pos h5]; simp)]
      have et : ∀ x, tk t n x = if tS t n = 5 ∧ tV t n = x then some n else none := fun x => by unfold tk; rw [if_neg (by omega)]
      constructor
      · rintro ⟨x, hx, hk⟩
        rw [et] at hk
        by_cases hv : tS t n = 5 ∧ tV t n = x
        · rw [hv.2]; exact hx
        · rw [if_neg hv] at hk; cases hk
      · intro hx
        exact ⟨_, hx, by rw [et, if_pos ⟨h5, rfl⟩]⟩
    rw [if_pos h5, if_neg (show ¬ tS t n = 0 by omega)]
    by_cases hx : X (tV t n) = true
    · rw [if_pos ⟨h5, hx⟩, if_pos (e.mpr hx)]
    · rw [if_neg (fun z => hx z.2), if_neg (fun z => hx (e.mp z))]
  · rw [if_neg (fun z => h5 z.1), if_neg h5]
    by_cases h0 : tS t n = 0
    · rw [if_pos h0, if_pos h0]
      have et : ∀ x, tk t n x = tkl t x (tC t n) := fun x => by unfold tk; rw [if_pos h0]
      have eN : tkN t n = tC t n := by unfold tkN; rw [if_neg h5, if_pos h0]
      rw [eN] at hσ
      exact krow_kr (fun c hc => (hκ c ((T.at hn).2.2.1 c hc).2.1).1) (T.at hn).2.2.2.1 (fun x hx => by rw [← et]; exact hX x hx) (fun c hc => by rw [hσ c hc]; exact ⟨fun ⟨x, a, b⟩ => ⟨x, a, by rw [← et]; exact b⟩, fun ⟨x, a, b⟩ => ⟨x, a, by rw [et]; exact b⟩⟩)
    · rw [if_neg h0, if_neg h0]
theorem kkn_no (hk : kOk t κ) {n : Nat} (hn : n < tN t) : kkn t κ (fun _ => false) n = κ n := by
  unfold kkn
  rw [if_neg (fun z => by cases z.2)]
  by_cases h0 : tS t n = 0
  · rw [if_pos h0, hk n hn]
    unfold stp
    rw [if_pos h0]
  · rw [if_neg h0]
theorem ka_no (T : tOk t) (hκ : kB t κ) (hk : kOk t κ) {n : Nat} (hn : n < tN t) (hσ : ∀ c ∈ tkN t n, σ c = false) : ka t κ σ n = κ n := by
  rw [← kkn_ka (X := fun _ => false) T hκ hn (fun x hx => by cases hx) (fun c hc => ⟨fun z => (by rw [hσ c hc] at z; cases z), fun ⟨x, z, _⟩ => by cases z⟩)]
  exact kkn_no hk hn
/-- what a NODE that asks its PARTS one by one has counted -/
def sfo (t : tr) (k : Nat → Nat) (n su : Nat) (l : List Nat) : Nat := match l with
  | [] => su
  | c :: r => sfo t k n (snx t n su (k c)) r
theorem sfo_app (k : Nat → Nat) (n c : Nat) : ∀ (l : List Nat) (su : Nat), sfo t k n su (l ++ [c]) = snx t n (sfo t k n su l) (k c) := by
  intro l
  induction l with
  | nil => intro su; rfl
  | cons a r ih => intro su; rw [List.cons_append, sfo, sfo, ih]
theorem sfo_row {k : Nat → Nat} {n : Nat} (h0 : tS t n = 0) : ∀ {l : List Nat} {su : Nat}, su < 5 → (∀ c ∈ l, k c < 5) → sfo t k n su l = kbo su (kr k l) := by
  intro l
  induction l with
  | nil => intro su hs _; rw [sfo, kr]; exact (kbo_0r ⟨su, hs⟩).symm
  | cons c r ih =>
    intro su hs h
    have hc := h c List.mem_cons_self
    have hr := fun z hz => h z (List.mem_cons_of_mem _ hz)
    rw [sfo, kr]
    unfold snx
    rw [if_pos h0, ih (kbo_lt' hs hc) hr, kbo_as' hs hc (kr_lt hr)]
theorem sfo_bd {k : Nat → Nat} {n : Nat} (h0 : tS t n ≠ 0) : ∀ {l : List Nat}, (∀ c ∈ l, k c < 5) → l.length ≤ 2 → sfo t k n 0 l < 64 := by
  intro l hk hl
  match l, hl with
  | [], _ => simp [sfo]
  | [a], _ => have := hk a (by simp); simp [sfo, snx, h0]; omega
  | [a, b], _ => have := hk a (by simp); have := hk b (by simp); simp [sfo, snx, h0]; omega
theorem sfin_ka (T : tOk t) (hκ : kB t κ) (hk : kOk t κ) {n : Nat} (hn : n < tN t) (h3 : tS t n = 0 ∨ tS t n = 2 ∨ tS t n = 3) (hσ : tS t n ≠ 0 → ∀ c, k1 t κ σ c = κ c ∨ c ∉ tC t n) : sfin t n (sfo t (k1 t κ σ) n 0 (tC t n)) = ka t κ σ n ∧ (tS t n ≠ 3 → sfo t (k1 t κ σ) n 0 (tC t n) < 5) ∧ sfo t (k1 t κ σ) n 0 (tC t n) < 512 ∧ (tS t n = 3 → (tC t n).length = 3 → sfo t (k1 t κ σ) n 0 (tC t n) / 64 < 5 ∧ sfo t (k1 t κ σ) n 0 (tC t n) / 8 % 8 < 5 ∧ sfo t (k1 t κ σ) n 0 (tC t n) % 8 < 5) := by
  have Tn := T.at hn
  have hch : ∀ c ∈ tC t n, κ c < 5 := fun c hc => (hκ c (Tn.2.2.1 c hc).2.1).1
  have hk1 : ∀ c ∈ tC t n, k1 t κ σ c < 5 := fun c hc => k1_lt (hch c hc)
  rcases h3 with h0 | h2 | h3
  · have e : sfo t (k1 t κ σ) n 0 (tC t n) = kr (k1 t κ σ) (tC t n) := by
      rw [sfo_row h0 (by omega) hk1]
      exact (kf_id ⟨_, kr_lt hk1⟩).1
    have hl := kr_lt hk1
    rw [e]
    refine ⟨?_, fun _ => hl, by omega, fun z => by omega⟩
    unfold sfin ka
    rw [if_pos h0, if_neg (by omega), if_pos h0]
  · have hlen := Tn.2.2.2.2.2.1 h2
    have hka : ka t κ σ n = knot ((tC t n).map κ) := by
      unfold ka
      rw [if_neg (by omega), if_neg (by omega), hk n hn]
      unfold stp
      rw [if_neg (by omega), if_neg (by omega), if_pos h2]
    rw [hka]
    unfold sfin
    rw [if_neg (show ¬ tS t n = 0 by omega), if_pos h2]
    generalize hl : tC t n = l at *
    match l, hlen with
    | [], _ => exact ⟨rfl, fun _ => by simp [sfo], by simp [sfo], fun z => by omega⟩
    | [a], _ =>
      have ha := hch a (by simp)
      have e : k1 t κ σ a = κ a := by
        rcases hσ (by omega) a with h | h
        · exact h
        · exact absurd List.mem_cons_self h
      have es : sfo t (k1 t κ σ) n 0 [a] = κ a := by
        rw [sfo, sfo]
        unfold snx
        rw [if_neg (by omega), e]
        omega
      rw [es]
      exact ⟨rfl, fun _ => ha, by omega, fun z => by omega⟩
  · have hlen := Tn.2.2.2.2.2.2.1 h3
    have hka : ka t κ σ n = ktst ((tC t n).map κ) := by
      unfold ka
      rw [if_neg (by omega), if_neg (by omega), hk n hn]
      unfold stp
      rw [if_neg (by omega), if_neg (by omega), if_neg (by omega), if_pos h3]
    rw [hka]
    unfold sfin
    rw [if_neg (show ¬ tS t n = 0 by omega), if_neg (show ¬ tS t n = 2 by omega)]
    have ek : ∀ a ∈ tC t n, k1 t κ σ a = κ a := fun a ha => by
      rcases hσ (by omega) a with h | h
      · exact h
      · exact absurd ha h
    have hne : tS t n ≠ 0 := by omega
    generalize hl : tC t n = l at *
    match l, hlen with
    | [], _ => exact ⟨rfl, fun z => absurd h3 z, by simp [sfo], fun _ z => by simp at z⟩
    | [a], _ =>
      refine ⟨rfl, fun z => absurd h3 z, ?_, fun _ z => by simp at z⟩
      have := sfo_bd hne hk1 (by simp)
      omega
    | [a, b], _ =>
      refine ⟨rfl, fun z => absurd h3 z, ?_, fun _ z => by simp at z⟩
      have := sfo_bd hne hk1 (by simp)
      omega
    | [a, b, c], _ =>
      have ha := hch a (by simp)
      have hb := hch b (by simp)
      have hc := hch c (by simp)
      have es : sfo t (k1 t κ σ) n 0 [a, b, c] = 8 * (8 * κ a + κ b) + κ c := by
        rw [sfo, sfo, sfo, sfo]
        unfold snx
        rw [if_neg hne, if_neg hne, if_neg hne, ek a (by simp), ek b (by simp), ek c (by simp)]
        omega
      rw [es]
      have e1 : (8 * (8 * κ a + κ b) + κ c) / 64 = κ a := by omega
      have e2 : (8 * (8 * κ a + κ b) + κ c) / 8 % 8 = κ b := by omega
      have e3 : (8 * (8 * κ a + κ b) + κ c) % 8 = κ c := by omega
      refine ⟨?_, fun z => absurd h3 z, by omega, fun _ _ => by rw [e1, e2, e3]; exact ⟨ha, hb, hc⟩⟩
      rw [e1, e2, e3]
      rfl
end
