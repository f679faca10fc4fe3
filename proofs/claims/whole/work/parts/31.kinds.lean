/-! KINDS: what the class and the reference compute of them. -/
def kf (k : Nat) : Bool := k == 1 || k == 3 || k == 4
def km (k : Nat) : Nat := if k = 4 then 0 else if k < 2 then 1 else 2
def kof (f : Bool) (m : Nat) : Nat := if m = 0 then 4 else (if f then 1 else 0) + (if m = 1 then 0 else 2)
def kbo (a b : Nat) : Nat := kof (kf a || kf b) (if km a = 0 ∨ km b = 0 then 0 else if km b < km a then km a else km b)
def kte (a b c : Nat) : Nat := if kf a = false then kbo a b else if km a = 0 then c else kof (kf b || kf c) (if km c < km (kbo a b) then km (kbo a b) else km c)
def kcap (m : Nat) : Nat := if m > 1 then 2 else m
def bI (b : Bool) : Int32 := if b then 1 else 0
theorem k5 {k : Nat} (hk : k < 5) : k = 0 ∨ k = 1 ∨ k = 2 ∨ k = 3 ∨ k = 4 := by omega
theorem k3 {k : Nat} (hk : k < 3) : k = 0 ∨ k = 1 ∨ k = 2 := by omega
theorem K_canFail_ok (d : Nat) (h : mx_H) {k : Nat} (hk : k < 5) : cl (d + 1) j_K_canFail [.inl (nI k)] h (some (.inl (bI (kf k)))) h := by
  refine cl_of (Nat.le_of_ble_eq_true rfl) ?_
  show mx_W _ (mx_nth cd_K_canFail) (0, [some (.inl (nI k))], [], h) _
  rcases k5 hk with rfl | rfl | rfl | rfl | rfl <;>
  repeat' (first
    | exact mw_r3 rfl (by decide) ⟨rfl, rfl⟩
    | (refine mw_if _ (fun hc => ?_) (fun hc => ?_) <;> first | (exact absurd hc (by decide)) | skip)
    | refine mw_go rfl rfl ?_)
theorem K_most_ok (d : Nat) (h : mx_H) {k : Nat} (hk : k < 5) : cl (d + 1) j_K_most [.inl (nI k)] h (some (.inl (nI (km k)))) h := by
  refine cl_of (Nat.le_of_ble_eq_true rfl) ?_
  show mx_W _ (mx_nth cd_K_most) (0, [some (.inl (nI k))], [], h) _
  rcases k5 hk with rfl | rfl | rfl | rfl | rfl <;>
  repeat' (first
    | exact mw_r0 rfl ⟨rfl, rfl⟩
    | (refine mw_if _ (fun hc => ?_) (fun hc => ?_) <;> first | (exact absurd hc (by decide)) | skip)
    | refine mw_go rfl rfl ?_)
theorem K_of_ok (d : Nat) (h : mx_H) (f : Bool) {m : Nat} (hm : m < 3) : cl (d + 1) j_K_of [.inl (bI f), .inl (nI m)] h (some (.inl (nI (kof f m)))) h := by
  refine cl_of (Nat.le_of_ble_eq_true rfl) ?_
  show mx_W _ (mx_nth cd_K_of) (0, [some (.inl (bI f)), some (.inl (nI m))], [], h) _
  cases f <;> rcases k3 hm with rfl | rfl | rfl <;>
  repeat' (first
    | exact mw_r0 rfl ⟨rfl, rfl⟩
    | (refine mw_if _ (fun hc => ?_) (fun hc => ?_) <;> first | (exact absurd hc (by decide)) | skip)
    | refine mw_go rfl rfl ?_)
theorem K_capped_ok (d : Nat) (h : mx_H) {m : Nat} (hm : m < 5) : cl (d + 1) j_K_capped [.inl (nI m)] h (some (.inl (nI (kcap m)))) h := by
  refine cl_of (Nat.le_of_ble_eq_true rfl) ?_
  show mx_W _ (mx_nth cd_K_capped) (0, [some (.inl (nI m))], [], h) _
  rcases k5 hm with rfl | rfl | rfl | rfl | rfl <;>
  repeat' (first
    | exact mw_r0 rfl ⟨rfl, rfl⟩
    | (refine mw_if _ (fun hc => ?_) (fun hc => ?_) <;> first | (exact absurd hc (by decide)) | skip)
    | refine mw_go rfl rfl ?_)
theorem M_canFail_ok (d : Nat) (h : mx_H) {k : Nat} (hk : k < 5) : cl (d + 1) j_M_canFail [.inl (nI k)] h (some (.inl (bI (kf k)))) h := by
  refine cl_of (Nat.le_of_ble_eq_true rfl) ?_
  show mx_W _ (mx_nth cd_M_canFail) (0, [some (.inl (nI k))], [], h) _
  rcases k5 hk with rfl | rfl | rfl | rfl | rfl <;>
  repeat' (first
    | exact mw_r3 rfl (by decide) ⟨rfl, rfl⟩
    | (refine mw_if _ (fun hc => ?_) (fun hc => ?_) <;> first | (exact absurd hc (by decide)) | skip)
    | refine mw_go rfl rfl ?_)
theorem M_most_ok (d : Nat) (h : mx_H) {k : Nat} (hk : k < 5) : cl (d + 1) j_M_most [.inl (nI k)] h (some (.inl (nI (km k)))) h := by
  refine cl_of (Nat.le_of_ble_eq_true rfl) ?_
  show mx_W _ (mx_nth cd_M_most) (0, [some (.inl (nI k))], [], h) _
  rcases k5 hk with rfl | rfl | rfl | rfl | rfl <;>
  repeat' (first
    | exact mw_r0 rfl ⟨rfl, rfl⟩
    | (refine mw_if _ (fun hc => ?_) (fun hc => ?_) <;> first | (exact absurd hc (by decide)) | skip)
    | refine mw_go rfl rfl ?_)
theorem M_kindOf_ok (d : Nat) (h : mx_H) (f : Bool) {m : Nat} (hm : m < 3) : cl (d + 1) j_M_kindOf [.inl (bI f), .inl (nI m)] h (some (.inl (nI (kof f m)))) h := by
  refine cl_of (Nat.le_of_ble_eq_true rfl) ?_
  show mx_W _ (mx_nth cd_M_kindOf) (0, [some (.inl (bI f)), some (.inl (nI m))], [], h) _
  cases f <;> rcases k3 hm with rfl | rfl | rfl <;>
  repeat' (first
    | exact mw_r0 rfl ⟨rfl, rfl⟩
    | (refine mw_if _ (fun hc => ?_) (fun hc => ?_) <;> first | (exact absurd hc (by decide)) | skip)
    | refine mw_go rfl rfl ?_)
theorem M_both_ok (d : Nat) (h : mx_H) {a b : Nat} (ha : a < 5) (hb : b < 5) : cl (d + 2) j_M_both [.inl (nI a), .inl (nI b)] h (some (.inl (nI (kbo a b)))) h := by
  refine cl_of (Nat.le_of_ble_eq_true rfl) ?_
  show mx_W _ (mx_nth cd_M_both) (0, [some (.inl (nI a)), some (.inl (nI b)), none], [], h) _
  rcases k5 ha with rfl | rfl | rfl | rfl | rfl <;> rcases k5 hb with rfl | rfl | rfl | rfl | rfl <;>
  repeat' (first
    | exact mw_r0 rfl ⟨rfl, rfl⟩
    | (refine mw_if _ (fun hc => ?_) (fun hc => ?_) <;> first | (exact absurd hc (by decide)) | skip)
    | refine mw_cv (M_most_ok d h ha) rfl rfl rfl (Nat.le_of_ble_eq_true rfl) trivial ?_
    | refine mw_cv (M_most_ok d h hb) rfl rfl rfl (Nat.le_of_ble_eq_true rfl) trivial ?_
    | refine mw_cv (M_canFail_ok d h ha) rfl rfl rfl (Nat.le_of_ble_eq_true rfl) trivial ?_
    | refine mw_cv (M_canFail_ok d h hb) rfl rfl rfl (Nat.le_of_ble_eq_true rfl) trivial ?_
    | refine mw_cv (M_kindOf_ok d h true (m := 0) (by decide)) rfl rfl rfl (Nat.le_of_ble_eq_true rfl) trivial ?_
    | refine mw_cv (M_kindOf_ok d h true (m := 1) (by decide)) rfl rfl rfl (Nat.le_of_ble_eq_true rfl) trivial ?_
    | refine mw_cv (M_kindOf_ok d h true (m := 2) (by decide)) rfl rfl rfl (Nat.le_of_ble_eq_true rfl) trivial ?_
    | refine mw_cv (M_kindOf_ok d h false (m := 0) (by decide)) rfl rfl rfl (Nat.le_of_ble_eq_true rfl) trivial ?_
    | refine mw_cv (M_kindOf_ok d h false (m := 1) (by decide)) rfl rfl rfl (Nat.le_of_ble_eq_true rfl) trivial ?_
    | refine mw_cv (M_kindOf_ok d h false (m := 2) (by decide)) rfl rfl rfl (Nat.le_of_ble_eq_true rfl) trivial ?_
    | refine mw_go rfl rfl ?_)
