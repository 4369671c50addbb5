/-! odds and count. -/
def zFull (R : Nat → Nat) (a : zS) (i : Nat) : Bool := decide (R i ≤ (zSack a i).length)
theorem pC_full {c : gw_S} {n : Nat} {Y R O : Nat → Nat} {a : zS} (hp : rcPlan c n Y R O) (hv : rcV c 9 27) (hs : rcS c 7 27 a) (hn : n ≤ 6) (hR : ∀ h, h < n → R h ≤ 9) {i : Nat} (hi : i < n) : fX7_isFull (nI i) c = some (zb (zFull R a i)) := by
  have hrow := rcV_row hv (Or.inl rfl) (show i < 6 by omega)
  have e2 := hs.2.1 i (by omega)
  have hl := e2.2.1
  have h9 := hR i hi
  unfold fX7_isFull zFull
  rw [pC_known hp.1 hn, zK_nI (by omega) (by omega)]
  simp only [gw_nm, decide_eq_true hi, zb_t, z_ix (show i < 2147483648 by omega), z_cl (show i < 2147483648 by omega), show (i < 6) = True from eq_true (by omega), decide_true, if_true, hrow, show ¬ ((1 : Int32) = 0) by decide, if_false, e2.1, (hp.2 i hi).2.1]
  by_cases h : R i ≤ (zSack a i).length
  · rw [if_neg (fun q => by have := (z_lt (by omega) (by omega)).mp q; omega), decide_eq_true h]; rfl
  · rw [if_pos ((z_lt (by omega) (by omega)).mpr (by omega)), decide_eq_false h]; rfl
theorem pM_full {m : gw_S} {n : Nat} {Y R O : Nat → Nat} {a : zS} (hp : rmPlan m n Y R O) (hs : rmN m n a) (hn : n ≤ 6) (hT : ∀ h, h < n → zTown a h < n) (hR : ∀ h, h < n → R h ≤ 9) (hl : ∀ h, h < 6 → (zSack a h).length ≤ 9) {i : Nat} (hi : i < n) : fX8_isFull (nI i) m = some (zb (zFull R a i)) := by
  obtain ⟨s1, s2, -⟩ := hs
  have e1 := s1 i hi
  have e2 := s2 i hi
  have h9 := hR i hi
  have hl := hl i (by omega)
  have ht := hT i hi
  unfold fX8_isFull zFull
  simp only [e1, e2.1, (hp.2 i hi).2.1, z_ix (show i < 2147483648 by omega), z_cl (show i < 2147483648 by omega), z_ix (show zTown a i < 2147483648 by omega), z_cl (show zTown a i < 2147483648 by omega), show (i < 6) = True from eq_true (by omega), show (i < 12) = True from eq_true (by omega), show (zTown a i < 12) = True from eq_true (by omega), decide_true, if_true]
  by_cases h : R i ≤ (zSack a i).length
  · rw [if_neg (fun q => by have := (z_lt (by omega) (by omega)).mp q; omega), decide_eq_true h]; rfl
  · rw [if_pos ((z_lt (by omega) (by omega)).mpr (by omega)), decide_eq_false h]; rfl
theorem pC_tenAt {c : gw_S} {n : Nat} {Y R O : Nat → Nat} {a : zS} (hp : rcPlan c n Y R O) (hv : rcV c 9 27) (hs : rcS c 7 27 a) (hF : zInvF n Y R O) {k i w : Nat} (hk : k < 5) (hi : i < n) (hw : w < 3) : fX7_tenthsAt (nI k) (nI i) (nI w) c = some (nI (zTen k (Y i) (zFull R a (zHookNext n i)) w)) := by
  have hn : n ≤ 6 := by have := hF.1; omega
  have h3 : 3 ≤ n := by have := hF.1; omega
  have hx := zHookNext_lt hi h3
  have hy := (hF.2 i hi).1.2
  unfold fX7_tenthsAt
  rw [pC_known hp.1 hn, zK_nI (by omega) (by omega), hp.1, pC_next c hn hi h3, pC_full hp hv hs hn (fun h hh => (hF.2 h hh).2.1.2) hx.1]
  simp only [decide_eq_true hi, zb_t, z_ix (show i < 2147483648 by omega), z_cl (show i < 2147483648 by omega), show (i < 6) = True from eq_true (by omega), decide_true, if_true, show ¬ ((1 : Int32) = 0) by decide, if_false, Option.bind_some, (hp.2 i hi).1]
  rw [pC_ten c _ hk (by omega) hw]
  rfl
def aOdds (n : Nat) (Y R : Nat → Nat) (a : zS) (x y w : Int32) : Int32 :=
  if zK 5 x = true then
    (if zK n y = true then
      (let k := Int32.toNatClampNeg x
       let i := Int32.toNatClampNeg y
       let f := zFull R a (zHookNext n i)
       if w = nI 0 then nI (zTen k (Y i) f 0) else if w = nI 1 then nI (zTen k (Y i) f 1) else if w = nI 2 then nI (zTen k (Y i) f 2) else if w = nI 3 then nI (zCo k (Y i) f) else if w = nI 4 then nI (10 * (2 * Y i + 3)) else if w = nI 5 then zb (decide (zCo k (Y i) f < 10 * (2 * Y i + 3))) else -102)
      else -101)
  else -102
theorem zCo_lt (k y : Nat) (full : Bool) (hy : y < 9) : zCo k y full < 100000 := by
  have h1 := zIn_le k y
  have h2 := zNx_le k y full
  have h3 : (2 * y + 3) * (10 - zIn k y - zNx k y full) ≤ (2 * y + 3) * 10 := Nat.mul_le_mul_left _ (by omega)
  unfold zCo
  split <;> omega
theorem pC_odds {c : gw_S} {P : List Nat} {n : Nat} {Y R O : Nat → Nat} {fl : Nat} {a : zS} {k : Option zS} (h : rcAll c P n Y R O fl a k) (hI : zInv P n Y R O fl a k) (x y w : Int32) : fX7_odds x y w c = some (aOdds n Y R a x y w) := by
  obtain ⟨-, hp, hv, -, hs, -⟩ := h
  have hn := hI.n6
  have hF := hI.2.1
  unfold fX7_odds aOdds
  rw [pC_kind, pC_known hp.1 hn]
  cases hk : zK 5 x with
  | false => simp [zb]
  | true =>
    cases hk2 : zK n y with
    | false => simp [zb]
    | true =>
      obtain ⟨kk, hkk, rfl⟩ := zK_t hk (by omega)
      obtain ⟨i, hi, rfl⟩ := zK_t hk2 (by omega)
      have h3 := hI.n3 (by omega)
      have hx := zHookNext_lt hi h3
      have hy := (hF.2 i hi).1.2
      have w0 := pC_tenAt hp hv hs hF hkk hi (show 0 < 3 by omega)
      have w1 := pC_tenAt hp hv hs hF hkk hi (show 1 < 3 by omega)
      have w2 := pC_tenAt hp hv hs hF hkk hi (show 2 < 3 by omega)
      have hco := zCo_lt kk (Y i) (zFull R a (zHookNext n i)) (by omega)
      rw [hp.1, pC_next c hn hi h3, pC_full hp hv hs hn (fun h hh => (hF.2 h hh).2.1.2) hx.1]
      simp only [zb_t, gw_nm, z_ix (show i < 2147483648 by omega), z_cl (show i < 2147483648 by omega), z_cl (show kk < 2147483648 by omega), show (i < 6) = True from eq_true (by omega), decide_true, if_true, show ¬ ((1 : Int32) = 0) by decide, if_false, Option.bind_some, (hp.2 i hi).1, pC_carryT, pC_cost c _ hkk (show Y i < 9 by omega)]
      simp only [zl0, zl1, zl2, zl3, zl4, zl5, zl6, zl7, zl8, zl9, zl10, zl12, zl16, zl20, zl24, zl32, zl40, zl44, zl48, zl49, zl56, zl57, zl59, zl60, zl64, zl90, zl126, zl600, w0, w1, w2, Option.bind_some]
      by_cases y0 : w = nI 0
      · simp only [eq_true y0, if_true, if_false]
      by_cases y1 : w = nI 1
      · simp only [eq_false y0, eq_true y1, if_true, if_false]
      by_cases y2 : w = nI 2
      · simp only [eq_false y0, eq_false y1, eq_true y2, if_true, if_false]
      by_cases y3 : w = nI 3
      · simp only [eq_false y0, eq_false y1, eq_false y2, eq_true y3, if_true, if_false]
      by_cases y4 : w = nI 4
      · simp only [eq_false y0, eq_false y1, eq_false y2, eq_false y3, eq_true y4, if_true, if_false]
      by_cases y5 : w = nI 5
      · simp only [eq_false y0, eq_false y1, eq_false y2, eq_false y3, eq_false y4, eq_true y5, if_true, if_false]
        by_cases hlt : zCo kk (Y i) (zFull R a (zHookNext n i)) < 10 * (2 * Y i + 3)
        · rw [if_neg (fun q => by have := (z_le (by omega) (by omega)).mp q; omega), decide_eq_true hlt]; rfl
        · rw [if_pos ((z_le (by omega) (by omega)).mpr (by omega)), decide_eq_false hlt]; rfl
      simp only [eq_false y0, eq_false y1, eq_false y2, eq_false y3, eq_false y4, eq_false y5, if_true, if_false]
theorem pM_walk {m : gw_S} {i y : Nat} (hy : rdI m 1 i = nI y) (hi : i < 6) : fX8_walk (nI i) m = some (nI (2 * y + 3)) := by
  unfold fX8_walk
  simp (disch := omega) only [gw_nm, gw_b2, Option.bind_some, Option.bind_none, z_ix, z_cl, z_le, z_lt, z_eq, decide_eq_true_eq, if_true, if_false, ite_true, ite_false, eq_self, not_true_eq_false, not_false_eq_true, zl0, zl1, zl2, zl3, zl4, zl5, zl6, zl7, zl8, zl9, zl10, zl12, zl16, zl20, zl24, zl32, zl40, zl44, zl48, zl49, zl56, zl57, zl59, zl60, zl64, zl90, zl126, zl600, hy, z_add, z_mul, if_pos]
theorem pM_tenN {m : gw_S} {k i y : Nat} (hy : rdI m 1 i = nI y) (hi : i < 6) (hk : k < 5) (hy9 : y < 9) : fX8_tenthsNext (nI k) (nI i) m = some (nI (zNx k y false)) := by
  have h1 := zIn_le k y
  unfold fX8_tenthsNext zNx
  rw [pM_in hy hi hk hy9]
  simp only [Option.bind_some, Bool.false_eq_true, if_false]
  rw [zl10, z_sub h1, zl3, pk_div (by omega) (by omega) (by omega)]
theorem pM_ten {m : gw_S} {n : Nat} {Y R O : Nat → Nat} {a : zS} (hp : rmPlan m n Y R O) (hs : rmN m n a) (hF : zInvF n Y R O) (hT : ∀ h, h < n → zTown a h < n) (hl : ∀ h, h < 6 → (zSack a h).length ≤ 9) {k i w : Nat} (hk : k < 5) (hi : i < n) (hw : w < 3) : fX8_tenthsOf (nI k) (nI i) (nI w) m = some (nI (zTen k (Y i) (zFull R a (zHookNext n i)) w)) := by
  have hn : n ≤ 6 := by have := hF.1; omega
  have h3 : 3 ≤ n := by have := hF.1; omega
  have hx := zHookNext_lt hi h3
  have hy := (hF.2 i hi).1.2
  have h1 := zIn_le k (Y i)
  unfold fX8_tenthsOf
  rw [pM_in (hp.2 i hi).1 (by omega) hk (by omega), pM_next m hp.1 hn hi h3, pM_full hp hs hn hT (fun h hh => (hF.2 h hh).2.1.2) hl hx.1, pM_tenN (hp.2 i hi).1 (by omega) hk (by omega)]
  simp only [Option.bind_some]
  have J : ∀ f : Bool, fX8_tenthsOf_J30 (nI w) (nI (zIn k (Y i))) (nI (zNx k (Y i) f)) m = some (nI (zTen k (Y i) f w)) := by
    intro f
    have h2 := zNx_le k (Y i) f
    unfold fX8_tenthsOf_J30 zTen
    rw [zl10, z_sub h1, z_sub h2]
    rcases (show w = 0 ∨ w = 1 ∨ w = 2 by omega) with rfl | rfl | rfl <;> rfl
  cases hf : zFull R a (zHookNext n i) with
  | false => exact J false
  | true => exact J true
theorem pM_costNow {m : gw_S} {n : Nat} {Y R O : Nat → Nat} {a : zS} (hp : rmPlan m n Y R O) (hs : rmN m n a) (hF : zInvF n Y R O) (hT : ∀ h, h < n → zTown a h < n) (hl : ∀ h, h < 6 → (zSack a h).length ≤ 9) {k i : Nat} (hk : k < 5) (hi : i < n) : fX8_costNow (nI k) (nI i) m = some (nI (zCo k (Y i) (zFull R a (zHookNext n i)))) := by
  have hn : n ≤ 6 := by have := hF.1; omega
  have hy := (hF.2 i hi).1.2
  generalize hf : zFull R a (zHookNext n i) = f
  have h1 := zIn_le k (Y i)
  have h2 := zNx_le k (Y i) f
  unfold fX8_costNow fX8_costBy fX8_costBy_J16
  have w0 := pM_ten hp hs hF hT hl hk hi (show 0 < 3 by omega)
  have w1 := pM_ten hp hs hF hT hl hk hi (show 1 < 3 by omega)
  rw [hf] at w0 w1
  rw [zl0, zl1, w0, w1]
  simp only [Option.bind_some, pM_walk (hp.2 i hi).1 (show i < 6 by omega), show zTen k (Y i) f 0 = zIn k (Y i) from rfl, show zTen k (Y i) f 1 = zNx k (Y i) f from rfl]
  unfold zCo
  by_cases h : k = 3
  · subst h
    simp (disch := omega) only [gw_nm, gw_b2, Option.bind_some, Option.bind_none, z_ix, z_cl, z_le, z_lt, z_eq, decide_eq_true_eq, if_true, if_false, ite_true, ite_false, eq_self, not_true_eq_false, not_false_eq_true, zl0, zl1, zl2, zl3, zl4, zl5, zl6, zl7, zl8, zl9, zl10, zl12, zl16, zl20, zl24, zl32, zl40, zl44, zl48, zl49, zl56, zl57, zl59, zl60, zl64, zl90, zl126, zl600, z_add, z_mul, z_sub, if_pos]
  · simp (disch := omega) only [gw_nm, gw_b2, Option.bind_some, Option.bind_none, z_ix, z_cl, z_le, z_lt, z_eq, decide_eq_true_eq, if_true, if_false, ite_true, ite_false, eq_self, not_true_eq_false, not_false_eq_true, zl0, zl1, zl2, zl3, zl4, zl5, zl6, zl7, zl8, zl9, zl10, zl12, zl16, zl20, zl24, zl32, zl40, zl44, zl48, zl49, zl56, zl57, zl59, zl60, zl64, zl90, zl126, zl600, z_add, z_mul, z_sub, if_neg, h]
theorem pM_oddsNow {m : gw_S} {n : Nat} {Y R O : Nat → Nat} {a : zS} (hp : rmPlan m n Y R O) (hs : rmN m n a) (hF : zInvF n Y R O) (hT : ∀ h, h < n → zTown a h < n) (hl : ∀ h, h < 6 → (zSack a h).length ≤ 9) {k i : Nat} (hk : k < 5) (hi : i < n) (w : Int32) (hw : zK 6 w = true) : fX8_oddsNow (nI k) (nI i) w m = some (aOdds n Y R a (nI k) (nI i) w) := by
  have hn : n ≤ 6 := by have := hF.1; omega
  have hy := (hF.2 i hi).1.2
  obtain ⟨j, hj, rfl⟩ := zK_t hw (by omega)
  unfold fX8_oddsNow aOdds
  have hco := zCo_lt k (Y i) (zFull R a (zHookNext n i)) (by omega)
  rw [zK_nI (by omega) (by omega), zK_nI (by omega) (by omega), pM_costNow hp hs hF hT hl hk hi, pM_walk (hp.2 i hi).1 (by omega)]
  simp only [decide_eq_true hk, decide_eq_true hi, if_true, z_cl (show i < 2147483648 by omega), z_cl (show k < 2147483648 by omega), Option.bind_some]
  rcases (show j = 0 ∨ j = 1 ∨ j = 2 ∨ j = 3 ∨ j = 4 ∨ j = 5 by omega) with rfl | rfl | rfl | rfl | rfl | rfl
  · rw [pM_ten hp hs hF hT hl hk hi (by omega)]; rfl
  · rw [pM_ten hp hs hF hT hl hk hi (by omega)]; rfl
  · rw [pM_ten hp hs hF hT hl hk hi (by omega)]; rfl
  · rfl
  · simp only [zl10, z_mul]; rfl
  · simp only [zl10, z_mul]
    show (if nI (10 * (2 * Y i + 3)) ≤ nI (zCo k (Y i) (zFull R a (zHookNext n i))) then some (0 : Int32) else some 1) = some (zb (decide (zCo k (Y i) (zFull R a (zHookNext n i)) < 10 * (2 * Y i + 3))))
    by_cases hlt : zCo k (Y i) (zFull R a (zHookNext n i)) < 10 * (2 * Y i + 3)
    · rw [if_neg (fun q => by have := (z_le (by omega) (by omega)).mp q; omega), decide_eq_true hlt]; rfl
    · rw [if_pos ((z_le (by omega) (by omega)).mpr (by omega)), decide_eq_false hlt]; rfl
theorem aOdds_out {n : Nat} {Y R : Nat → Nat} {a : zS} {k i : Nat} (hk : k < 5) (hi : i < n) (hn : n ≤ 6) {w : Int32} (hw : zK 6 w = false) : aOdds n Y R a (nI k) (nI i) w = -102 := by
  unfold aOdds
  rw [zK_nI (by omega) (by omega), zK_nI (by omega) (by omega)]
  have key : ∀ j, j < 6 → ¬ w = nI j := by
    intro j hj e
    subst e
    rw [zK_nI (by omega) (by omega)] at hw
    simp at hw
    omega
  simp only [decide_eq_true hi, decide_eq_true hk, if_true, if_neg (key 0 (by omega)), if_neg (key 1 (by omega)), if_neg (key 2 (by omega)), if_neg (key 3 (by omega)), if_neg (key 4 (by omega)), if_neg (key 5 (by omega))]
theorem pM_odds {m : gw_S} {P : List Nat} {n : Nat} {Y R O : Nat → Nat} {fl : Nat} {a : zS} {k : Option zS} (h : rmAll m P n Y R O fl a k) (hI : zInv P n Y R O fl a k) (x y w : Int32) : fX8_odds x y w m = some (aOdds n Y R a x y w) := by
  obtain ⟨-, hp, hs, -⟩ := h
  have hn := hI.n6
  have hF := hI.2.1
  unfold fX8_odds
  rw [zl4, zl5, pM_in0 m x (by omega), pM_in0 m w (by omega), pM_hook hp.1 hn]
  cases hk : zK (4 + 1) x with
  | false => simp [aOdds, hk, zb]
  | true =>
    cases hk2 : zK n y with
    | false => simp [aOdds, hk, hk2, zb]
    | true =>
      obtain ⟨kk, hkk, rfl⟩ := zK_t hk (by omega)
      obtain ⟨i, hi, rfl⟩ := zK_t hk2 (by omega)
      cases hw : zK (5 + 1) w with
      | false => simp [zb, aOdds_out hkk hi hn hw]
      | true => simp [zb, pM_oddsNow hp hs hF hI.2.2.2.1.1 hI.2.2.2.1.2.2.2.1 hkk hi w hw]
