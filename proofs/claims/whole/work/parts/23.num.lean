/-! Small calls on numbers: known hooks, kinds, tenths, costs. -/
theorem z10 : (nI 1 = nI 0) ↔ False := by decide
theorem z_cases (x : Int32) : x < 0 ∨ ∃ j : Nat, j < 2147483648 ∧ x = nI j := by
  by_cases h : x < 0
  · exact Or.inl h
  · exact Or.inr (z_of h)
theorem z_negle {x : Int32} (h : x < 0) {j : Nat} (hj : j < 2147483648) : x < nI j := by
  rw [Int32.lt_iff_toInt_lt] at h ⊢
  rw [nI_toInt hj]
  rw [Int32.toInt_zero] at h
  omega
theorem z_negne {x : Int32} (h : x < 0) {j : Nat} (hj : j < 2147483648) : ¬ x = nI j := by
  intro e
  subst e
  exact nI_pos hj h
theorem z_neg0 {j : Nat} (hj : j < 2147483648) : ¬ nI j < 0 := nI_pos hj
theorem z_pred {n j : Nat} (hn : n < 1073741824) (hj : j < 2147483648) : nI n - nI 1 < nI j ↔ n ≤ j := by
  rw [Int32.lt_iff_toInt_lt, pk_sub_toInt hn (by omega), nI_toInt hj]
  omega
def zK (n : Nat) (x : Int32) : Bool := !decide (x < 0) && decide (x < nI n)
theorem zK_t {n : Nat} {x : Int32} (h : zK n x = true) (hn : n < 2147483648) : ∃ i, i < n ∧ x = nI i := by
  unfold zK at h
  rcases z_cases x with hx | ⟨j, hj, rfl⟩
  · simp [hx] at h
  · simp [z_lt hj hn] at h
    exact ⟨j, h.2, rfl⟩
theorem zK_nI {n i : Nat} (hi : i < 2147483648) (hn : n < 2147483648) : zK n (nI i) = decide (i < n) := by
  unfold zK
  have h1 := z_neg0 hi
  by_cases h : i < n
  · simp [h1, (z_lt hi hn).mpr h, h]
  · have : ¬ nI i < nI n := fun q => h ((z_lt hi hn).mp q)
    simp [this, h]
theorem zK_neg {n : Nat} {x : Int32} (h : x < 0) : zK n x = false := by simp [zK, h]
theorem pC_has {c : gw_S} {n : Nat} (hp : rdI c 3 3 = nI n) (hn : n ≤ 6) (x : Int32) : fX2_has x c = zb (zK n x) := by
  unfold fX2_has
  rw [hp]
  rcases z_cases x with hx | ⟨j, hj, rfl⟩
  · rw [zK_neg hx]; simp [hx, zb]
  · rw [zK_nI hj (by omega), if_neg (z_neg0 hj)]
    by_cases h : j < n
    · simp (disch := omega) only [gw_nm, gw_b2, Option.bind_some, Option.bind_none, z_ix, z_cl, z_le, z_lt, z_eq, decide_eq_true_eq, if_true, if_false, ite_true, ite_false, eq_self, not_true_eq_false, not_false_eq_true, zl0, zl1, zl2, zl3, zl4, zl5, zl6, zl7, zl8, zl9, zl10, zl12, zl16, zl20, zl24, zl32, zl40, zl44, zl48, zl49, zl56, zl57, zl59, zl60, zl64, zl90, zl126, zl600, h, decide_true, zb_t, if_neg]
    · simp (disch := omega) only [gw_nm, gw_b2, Option.bind_some, Option.bind_none, z_ix, z_cl, z_le, z_lt, z_eq, decide_eq_true_eq, if_true, if_false, ite_true, ite_false, eq_self, not_true_eq_false, not_false_eq_true, zl0, zl1, zl2, zl3, zl4, zl5, zl6, zl7, zl8, zl9, zl10, zl12, zl16, zl20, zl24, zl32, zl40, zl44, zl48, zl49, zl56, zl57, zl59, zl60, zl64, zl90, zl126, zl600, h, decide_false, zb_f, if_pos]
theorem pC_known {c : gw_S} {n : Nat} (hp : rdI c 3 3 = nI n) (hn : n ≤ 6) (x : Int32) : fX7_isKnown x c = zb (zK n x) := pC_has hp hn x
theorem pM_within_neg {m : gw_S} {x : Int32} (hx : x < 0) {a b : Nat} (ha : a < 2147483648) : fX8_within x (nI a) b.toInt32 m = 0 := by
  unfold fX8_within
  rw [if_pos (z_negle hx ha)]
theorem pM_within {m : gw_S} (x : Int32) {a b : Nat} (ha : a < 2147483648) (hb : b < 2147483648) : fX8_within x (nI a) (nI b) m = zb (!decide (x < nI a) && !decide (nI b < x)) := by
  unfold fX8_within
  by_cases h1 : x < nI a
  · simp [h1, zb]
  · by_cases h2 : nI b < x
    · simp [h1, h2, zb]
    · simp [h1, h2, zb]
theorem pM_hook {m : gw_S} {n : Nat} (hp : rdI m 0 1 = nI n) (hn : n ≤ 6) (x : Int32) : fX8_isHook x m = some (zb (zK n x)) := by
  have e : fX8_within x 0 (rdI m 0 1 - 1) m = zb (zK n x) := by
    unfold fX8_within
    rw [hp]
    rcases z_cases x with hx | ⟨j, hj, rfl⟩
    · rw [zK_neg hx, if_pos hx]; rfl
    · rw [zK_nI hj (by omega), if_neg (z_neg0 hj), zl1]
      by_cases h : j < n
      · rw [if_neg (fun q => by have := (z_pred (by omega) hj).mp q; omega)]; simp [h, zb]; rfl
      · rw [if_pos ((z_pred (by omega) hj).mpr (by omega))]; simp [h, zb]
  unfold fX8_isHook
  rw [e, zb_bl]; rfl
theorem pC_kind (c : gw_S) (x : Int32) : fX7_isKind x c = zb (zK 5 x) := by
  unfold fX7_isKind
  rcases z_cases x with hx | ⟨j, hj, rfl⟩
  · rw [zK_neg hx]; simp [hx, zb]
  · rw [zK_nI hj (by omega), if_neg (z_neg0 hj)]
    by_cases h : j < 5
    · simp (disch := omega) only [gw_nm, gw_b2, Option.bind_some, Option.bind_none, z_ix, z_cl, z_le, z_lt, z_eq, decide_eq_true_eq, if_true, if_false, ite_true, ite_false, eq_self, not_true_eq_false, not_false_eq_true, zl0, zl1, zl2, zl3, zl4, zl5, zl6, zl7, zl8, zl9, zl10, zl12, zl16, zl20, zl24, zl32, zl40, zl44, zl48, zl49, zl56, zl57, zl59, zl60, zl64, zl90, zl126, zl600, h, decide_true, zb_t, if_neg]
    · simp (disch := omega) only [gw_nm, gw_b2, Option.bind_some, Option.bind_none, z_ix, z_cl, z_le, z_lt, z_eq, decide_eq_true_eq, if_true, if_false, ite_true, ite_false, eq_self, not_true_eq_false, not_false_eq_true, zl0, zl1, zl2, zl3, zl4, zl5, zl6, zl7, zl8, zl9, zl10, zl12, zl16, zl20, zl24, zl32, zl40, zl44, zl48, zl49, zl56, zl57, zl59, zl60, zl64, zl90, zl126, zl600, h, decide_false, zb_f, if_pos]
/-- within 0 .. b, as zK -/
theorem pM_in0 (m : gw_S) (x : Int32) {b : Nat} (hb : b < 1000) : fX8_within x 0 (nI b) m = zb (zK (b + 1) x) := by
  unfold fX8_within
  rcases z_cases x with hx | ⟨j, hj, rfl⟩
  · rw [zK_neg hx, if_pos hx]; rfl
  · rw [zK_nI hj (by omega), if_neg (z_neg0 hj)]
    by_cases h : j < b + 1
    · rw [if_neg (fun q => by have := (z_lt (by omega) hj).mp q; omega)]; simp [h, zb]
    · rw [if_pos ((z_lt (by omega) hj).mpr (by omega))]; simp [h, zb]
def gw_z0 : gw_S := (fun _ _ => 0, fun _ _ => 0, fun _ _ => 0)
-- tenths
def zGripP (k : Nat) : Nat := if k = 1 then 1 else 0
def zGripM (k : Nat) : Nat := if k = 2 ∨ k = 4 then 2 else if k = 3 then 1 else 0
def zIn (k y : Nat) : Nat := Nat.min 10 (10 + zGripP k - (y + zGripM k))
def zNx (k y : Nat) (full : Bool) : Nat := if full then 0 else (10 - zIn k y) / 3
def zTen (k y : Nat) (full : Bool) (how : Nat) : Nat := if how = 0 then zIn k y else if how = 1 then zNx k y full else 10 - zIn k y - zNx k y full
def zCo (k y : Nat) (full : Bool) : Nat := 20 + 60 * zNx k y full + (2 * y + 3) * (10 - zIn k y - zNx k y full) + (if k = 3 then 9 * (zIn k y + zNx k y full) else 0)
def zGrip (k : Nat) : Int32 := if k = 1 then 1 else if k = 2 then -2 else if k = 3 then -1 else if k = 4 then -2 else 0
theorem zIn_le (k y : Nat) : zIn k y ≤ 10 := Nat.min_le_left _ _
theorem zNx_le (k y : Nat) (full : Bool) : zNx k y full ≤ 10 - zIn k y := by
  unfold zNx; split
  · exact Nat.zero_le _
  · omega
set_option maxRecDepth 20000 in
theorem pC_grip0 : ∀ k, k < 5 → fX7_gripOf (nI k) gw_z0 = some (zGrip k) := by decide +kernel
theorem pC_grip (c : gw_S) {k : Nat} (hk : k < 5) : fX7_gripOf (nI k) c = some (zGrip k) := (show fX7_gripOf (nI k) c = fX7_gripOf (nI k) gw_z0 from rfl).trans (pC_grip0 k hk)
set_option maxRecDepth 20000 in
theorem pC_ten0 : ∀ k, k < 5 → ∀ y, y < 9 → ∀ full : Bool, ∀ how, how < 3 → fX7_tenthsOf (nI k) (nI y) (zb full) (nI how) gw_z0 = some (nI (zTen k y full how)) := by decide +kernel
theorem pC_ten (c : gw_S) {k y how : Nat} (full : Bool) (hk : k < 5) (hy : y < 9) (hh : how < 3) : fX7_tenthsOf (nI k) (nI y) (zb full) (nI how) c = some (nI (zTen k y full how)) := (show fX7_tenthsOf (nI k) (nI y) (zb full) (nI how) c = fX7_tenthsOf (nI k) (nI y) (zb full) (nI how) gw_z0 from rfl).trans (pC_ten0 k hk y hy full how hh)
set_option maxRecDepth 20000 in
theorem pC_cost0 : ∀ k, k < 5 → ∀ y, y < 9 → ∀ full : Bool, fX7_costOf (nI k) (nI y) (zb full) gw_z0 = some (nI (zCo k y full)) := by decide +kernel
theorem pC_cost (c : gw_S) {k y : Nat} (full : Bool) (hk : k < 5) (hy : y < 9) : fX7_costOf (nI k) (nI y) (zb full) c = some (nI (zCo k y full)) := (show fX7_costOf (nI k) (nI y) (zb full) c = fX7_costOf (nI k) (nI y) (zb full) gw_z0 from rfl).trans (pC_cost0 k hk y hy full)
theorem pC_carryS (c : gw_S) (y : Nat) : fX7_carrySeconds (nI y) c = nI (2 * y + 3) := by
  unfold fX7_carrySeconds; simp (disch := omega) only [gw_nm, gw_b2, Option.bind_some, Option.bind_none, z_ix, z_cl, z_le, z_lt, z_eq, decide_eq_true_eq, if_true, if_false, ite_true, ite_false, eq_self, not_true_eq_false, not_false_eq_true, zl0, zl1, zl2, zl3, zl4, zl5, zl6, zl7, zl8, zl9, zl10, zl12, zl16, zl20, zl24, zl32, zl40, zl44, zl48, zl49, zl56, zl57, zl59, zl60, zl64, zl90, zl126, zl600, z_add, z_mul]
theorem pC_carryT (c : gw_S) (y : Nat) : fX7_carryTenths (nI y) c = nI (10 * (2 * y + 3)) := by
  unfold fX7_carryTenths; rw [pC_carryS]; simp (disch := omega) only [gw_nm, gw_b2, Option.bind_some, Option.bind_none, z_ix, z_cl, z_le, z_lt, z_eq, decide_eq_true_eq, if_true, if_false, ite_true, ite_false, eq_self, not_true_eq_false, not_false_eq_true, zl0, zl1, zl2, zl3, zl4, zl5, zl6, zl7, zl8, zl9, zl10, zl12, zl16, zl20, zl24, zl32, zl40, zl44, zl48, zl49, zl56, zl57, zl59, zl60, zl64, zl90, zl126, zl600, z_add, z_mul]
theorem pM_grip0 : ∀ k, k < 5 → fX8_gripOf (nI k) gw_z0 = zGrip k := by decide +kernel
theorem pM_grip (m : gw_S) {k : Nat} (hk : k < 5) : fX8_gripOf (nI k) m = zGrip k := (show fX8_gripOf (nI k) m = fX8_gripOf (nI k) gw_z0 from rfl).trans (pM_grip0 k hk)
set_option maxRecDepth 20000 in
theorem pM_in_tab : ∀ k, k < 5 → ∀ y, y < 9 → (if 0 ≤ ((10 : Int32) + zGrip k) - nI y then (if ((10 : Int32) + zGrip k) - nI y ≤ 10 then ((10 : Int32) + zGrip k) - nI y else 10) else 0) = nI (zIn k y) := by decide +kernel
theorem pM_in {m : gw_S} {k i y : Nat} (hy : rdI m 1 i = nI y) (hi : i < 6) (hk : k < 5) (hy9 : y < 9) : fX8_tenthsIn (nI k) (nI i) m = some (nI (zIn k y)) := by
  unfold fX8_tenthsIn
  have e := pM_in_tab k hk y hy9
  simp only [gw_nm, pM_grip m hk]
  rw [z_ix (by omega), z_cl (by omega), hy, if_pos (by simp [hi])]
  rw [← e]
  split
  · split <;> rfl
  · rfl
theorem pM_next (m : gw_S) {n i : Nat} (hp : rdI m 0 1 = nI n) (hn : n ≤ 6) (hi : i < n) (h3 : 3 ≤ n) : fX8_nextOf (nI i) m = nI (zHookNext n i) := by
  unfold fX8_nextOf zHookNext
  rw [hp]
  by_cases h : i + 1 < n
  · simp (disch := omega) only [gw_nm, gw_b2, Option.bind_some, Option.bind_none, z_ix, z_cl, z_le, z_lt, z_eq, decide_eq_true_eq, if_true, if_false, ite_true, ite_false, eq_self, not_true_eq_false, not_false_eq_true, zl0, zl1, zl2, zl3, zl4, zl5, zl6, zl7, zl8, zl9, zl10, zl12, zl16, zl20, zl24, zl32, zl40, zl44, zl48, zl49, zl56, zl57, zl59, zl60, zl64, zl90, zl126, zl600, z_sub, z_add, if_pos, if_neg]
  · simp (disch := omega) only [gw_nm, gw_b2, Option.bind_some, Option.bind_none, z_ix, z_cl, z_le, z_lt, z_eq, decide_eq_true_eq, if_true, if_false, ite_true, ite_false, eq_self, not_true_eq_false, not_false_eq_true, zl0, zl1, zl2, zl3, zl4, zl5, zl6, zl7, zl8, zl9, zl10, zl12, zl16, zl20, zl24, zl32, zl40, zl44, zl48, zl49, zl56, zl57, zl59, zl60, zl64, zl90, zl126, zl600, z_sub, z_add, if_pos, if_neg]
theorem pC_next (c : gw_S) {n i : Nat} (hn : n ≤ 6) (hi : i < n) (h3 : 3 ≤ n) : fX7_nextTo (nI i) (nI n) c = nI (zHookNext n i) := by
  unfold fX7_nextTo zHookNext
  by_cases h : i + 1 < n
  · simp (disch := omega) only [gw_nm, gw_b2, Option.bind_some, Option.bind_none, z_ix, z_cl, z_le, z_lt, z_eq, decide_eq_true_eq, if_true, if_false, ite_true, ite_false, eq_self, not_true_eq_false, not_false_eq_true, zl0, zl1, zl2, zl3, zl4, zl5, zl6, zl7, zl8, zl9, zl10, zl12, zl16, zl20, zl24, zl32, zl40, zl44, zl48, zl49, zl56, zl57, zl59, zl60, zl64, zl90, zl126, zl600, z_sub, z_add, if_pos, if_neg]
  · simp (disch := omega) only [gw_nm, gw_b2, Option.bind_some, Option.bind_none, z_ix, z_cl, z_le, z_lt, z_eq, decide_eq_true_eq, if_true, if_false, ite_true, ite_false, eq_self, not_true_eq_false, not_false_eq_true, zl0, zl1, zl2, zl3, zl4, zl5, zl6, zl7, zl8, zl9, zl10, zl12, zl16, zl20, zl24, zl32, zl40, zl44, zl48, zl49, zl56, zl57, zl59, zl60, zl64, zl90, zl126, zl600, z_sub, z_add, if_pos, if_neg]
theorem zHookNext_lt {n i : Nat} (hi : i < n) (h3 : 3 ≤ n) : zHookNext n i < n ∧ zHookNext n i ≠ i := by unfold zHookNext; split <;> omega
theorem rcV_row {c : gw_S} {b rb : Nat} (hv : rcV c b rb) (hrb : rb = 27 ∨ rb = 55) {h : Nat} (hh : h < 6) : gw_row (rdR c b h) = true := by
  obtain ⟨r, hr, e⟩ := hv.1 h hh
  rw [e]
  unfold gw_row
  rcases hrb with rfl | rfl <;> simp <;> omega
