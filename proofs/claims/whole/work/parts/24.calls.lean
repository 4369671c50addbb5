/-! Calls that only look: hook, belt, as, odds, count. What they answer, and that class and reference answer it. -/
def aHook (n : Nat) (Y R O : Nat → Nat) (a : zS) (x y : Int32) : Int32 :=
  if zK n x = true then
    (let i := Int32.toNatClampNeg x
     if y = nI 0 then nI (Y i) else if y = nI 1 then nI (R i) else if y = nI 2 then nI (zTown a i) else if y = nI 3 then nI (zSack a i).length else if y = nI 4 then nI (zWrong (zTown a i) (zSack a i)) else if y = nI 5 then nI (zGlass (zSack a i)) else if y = nI 6 then nI (O (zTown a i)) else -102)
  else -101
theorem pC_often {c : gw_S} {n : Nat} {Y R O : Nat → Nat} (hp : rcPlan c n Y R O) (hn : n ≤ 6) {t : Nat} (ht : t < n) : fX2_oftenOf (nI t) c = some (nI (O t)) := by
  unfold fX2_oftenOf
  rw [pC_has hp.1 hn, zK_nI (by omega) (by omega), decide_eq_true ht, if_neg (show ¬ zb true = 0 by decide)]
  simp (disch := omega) only [gw_nm, gw_b2, Option.bind_some, Option.bind_none, z_ix, z_cl, z_le, z_lt, z_eq, decide_eq_true_eq, if_true, if_false, ite_true, ite_false, eq_self, not_true_eq_false, not_false_eq_true, zl0, zl1, zl2, zl3, zl4, zl5, zl6, zl7, zl8, zl9, zl10, zl12, zl16, zl20, zl24, zl32, zl40, zl44, zl48, zl49, zl56, zl57, zl59, zl60, zl64, zl90, zl126, zl600, if_neg, if_pos, (hp.2 t ht).2.2]
theorem pC_hook {c : gw_S} {P : List Nat} {n : Nat} {Y R O : Nat → Nat} {fl : Nat} {a : zS} {k : Option zS} (h : rcAll c P n Y R O fl a k) (hI : zInv P n Y R O fl a k) (x y : Int32) : fX7_hook x y c = some (aHook n Y R O a x y) := by
  obtain ⟨-, hp, hv, -, hs, -⟩ := h
  have hn := hI.n6
  have hS := hI.2.2.2.1
  unfold fX7_hook aHook
  rw [pC_known hp.1 hn]
  cases hk : zK n x with
  | false => simp [zb]
  | true =>
    obtain ⟨i, hi, rfl⟩ := zK_t hk (by omega)
    have hrow := rcV_row hv (Or.inl rfl) (show i < 6 by omega)
    have hti := hS.1 i hi
    have e1 := hs.1 i (by omega)
    have e2 := hs.2.1 i (by omega)
    have hm := hS.2.2.2.2.1 i (by omega)
    have w1 := pR_notFor e2 (k := zTown a i) (by omega) (fun p hp => by have := (hm p hp).2; omega)
    have w2 := pR_ofKind e2 (k := 3) (by omega) (fun p hp => (hm p hp).1)
    have w3 := pC_often hp hn hti
    simp only [zb_t, gw_nm, z_ix (show i < 2147483648 by omega), z_cl (show i < 2147483648 by omega), show (i < 6) = True from eq_true (by omega), decide_true, if_true, hrow, show ¬ ((1 : Int32) = 0) by decide, if_false, e1, e2.1, (hp.2 i hi).1, (hp.2 i hi).2.1, zl0, zl1, zl2, zl3, zl4, zl5, zl6, zl7, zl8, zl9, zl10, zl12, zl16, zl20, zl24, zl32, zl40, zl44, zl48, zl49, zl56, zl57, zl59, zl60, zl64, zl90, zl126, zl600] at e2 w1 w2 w3 ⊢
    simp only [w1, w2, w3, Option.bind_some, z10, if_false]
    by_cases y0 : y = nI 0
    · simp only [if_pos y0]
    by_cases y1 : y = nI 1
    · simp only [if_neg y0, if_pos y1]
    by_cases y2 : y = nI 2
    · simp only [if_neg y0, if_neg y1, if_pos y2]
    by_cases y3 : y = nI 3
    · simp only [if_neg y0, if_neg y1, if_neg y2, if_pos y3]
    by_cases y4 : y = nI 4
    · simp only [if_neg y0, if_neg y1, if_neg y2, if_neg y3, if_pos y4]
    by_cases y5 : y = nI 5
    · simp only [if_neg y0, if_neg y1, if_neg y2, if_neg y3, if_neg y4, if_pos y5, zGlass]
    by_cases y6 : y = nI 6
    · simp only [if_neg y0, if_neg y1, if_neg y2, if_neg y3, if_neg y4, if_neg y5, if_pos y6]
    simp only [if_neg y0, if_neg y1, if_neg y2, if_neg y3, if_neg y4, if_neg y5, if_neg y6]
theorem pM_hookNow {m : gw_S} {n : Nat} {Y R O : Nat → Nat} {a : zS} (hp : rmPlan m n Y R O) (hs : rmN m n a) (hn : n ≤ 6) (hT : ∀ h, h < n → zTown a h < n) {i : Nat} (hi : i < n) (y : Int32) (hy : zK 7 y = true) : fX8_hookNow (nI i) y m = some (aHook n Y R O a (nI i) y) := by
  have hti := hT i hi
  obtain ⟨s1, s2, s3, s4, -⟩ := hs
  have e1 := s1 i hi
  have e2 := s2 i hi
  obtain ⟨j, hj, rfl⟩ := zK_t hy (by omega)
  unfold fX8_hookNow aHook
  rw [zK_nI (by omega) (by omega)]
  simp only [gw_nm, z_ix (show i < 2147483648 by omega), z_cl (show i < 2147483648 by omega), show (i < 6) = True from eq_true (by omega), show (i < 12) = True from eq_true (by omega), show (i < n) = True from eq_true hi, decide_true, if_true, e1, z_ix (show zTown a i < 2147483648 by omega), z_cl (show zTown a i < 2147483648 by omega), show (zTown a i < 12) = True from eq_true (by omega), show (zTown a i < 6) = True from eq_true (by omega), (hp.2 i hi).1, (hp.2 i hi).2.1, (hp.2 _ hti).2.2, e2.1, e2.2.1, e2.2.2.1, zl0, zl1, zl2, zl3, zl4, zl5, zl6, zl7, zl8, zl9, zl10, zl12, zl16, zl20, zl24, zl32, zl40, zl44, zl48, zl49, zl56, zl57, zl59, zl60, zl64, zl90, zl126, zl600]
  rcases (show j = 0 ∨ j = 1 ∨ j = 2 ∨ j = 3 ∨ j = 4 ∨ j = 5 ∨ j = 6 by omega) with rfl | rfl | rfl | rfl | rfl | rfl | rfl <;> rfl
theorem aHook_out {n : Nat} {Y R O : Nat → Nat} {a : zS} {i : Nat} (hi : i < n) (hn : n ≤ 6) {y : Int32} (hy : zK 7 y = false) : aHook n Y R O a (nI i) y = -102 := by
  unfold aHook
  rw [zK_nI (by omega) (by omega)]
  have key : ∀ j, j < 7 → ¬ y = nI j := by
    intro j hj e
    subst e
    rw [zK_nI (by omega) (by omega)] at hy
    simp at hy
    omega
  simp only [decide_eq_true hi, if_true, if_neg (key 0 (by omega)), if_neg (key 1 (by omega)), if_neg (key 2 (by omega)), if_neg (key 3 (by omega)), if_neg (key 4 (by omega)), if_neg (key 5 (by omega)), if_neg (key 6 (by omega))]
theorem pM_hookC {m : gw_S} {P : List Nat} {n : Nat} {Y R O : Nat → Nat} {fl : Nat} {a : zS} {k : Option zS} (h : rmAll m P n Y R O fl a k) (hI : zInv P n Y R O fl a k) (x y : Int32) : fX8_hook x y m = some (aHook n Y R O a x y) := by
  obtain ⟨-, hp, hs, -⟩ := h
  have hn := hI.n6
  unfold fX8_hook
  rw [pM_hook hp.1 hn, zl6, pM_in0 m y (by omega)]
  cases hk : zK n x with
  | false => simp [aHook, hk, zb]
  | true =>
    obtain ⟨i, hi, rfl⟩ := zK_t hk (by omega)
    cases hy : zK (6 + 1) y with
    | false => simp [zb, aHook_out hi hn hy]
    | true => simp [zb, pM_hookNow hp hs hn hI.2.2.2.1.1 hi y hy]
-- the belt
def aBelt (l : List zP) (x y : Int32) : Int32 :=
  if zK l.length x = true then
    (let j := Int32.toNatClampNeg x
     if y = nI 0 then zKat l j else if y = nI 1 then zTat l j else if y = nI 2 then zGrip (match l[j]? with | some p => p.1 | none => 0) else -102)
  else -101
theorem pC_belt {c : gw_S} {P : List Nat} {n : Nat} {Y R O : Nat → Nat} {fl : Nat} {a : zS} {k : Option zS} (h : rcAll c P n Y R O fl a k) (hI : zInv P n Y R O fl a k) (x y : Int32) : fX7_belt x y c = some (aBelt (zBelt a) x y) := by
  obtain ⟨-, hp, hv, -, hs, -⟩ := h
  have hS := hI.2.2.2.1
  have hb := hs.2.2.1
  have h8 := hS.2.2.2.2.2.1
  unfold fX7_belt aBelt
  rw [hb.1]
  rcases z_cases x with hx | ⟨j, hj, rfl⟩
  · rw [zK_neg hx]; simp [hx]
  · rw [zK_nI hj (by omega), if_neg (z_neg0 hj)]
    by_cases hl : j < (zBelt a).length
    · obtain ⟨p, hp⟩ := z_get hl
      have w1 := pR_kindAt hb (j := j) hj
      have w2 := pR_townAt hb (j := j) hj
      have w3 : zKat (zBelt a) j = nI p.1 := by simp [zKat, hp]
      have w4 := pC_grip c ((hS.2.2.2.2.2.2.1 p (z_mem hp)).1)
      simp only [z_lt hj (show (zBelt a).length < 2147483648 by omega), hl, if_true, w1, w2, w3, Option.bind_some, w4, decide_true, z_cl hj, hp, zl0, zl1, zl2, zl3, zl4, zl5, zl6, zl7, zl8, zl9, zl10, zl12, zl16, zl20, zl24, zl32, zl40, zl44, zl48, zl49, zl56, zl57, zl59, zl60, zl64, zl90, zl126, zl600]
      by_cases y0 : y = nI 0
      · simp only [if_pos y0]
      by_cases y1 : y = nI 1
      · simp only [if_neg y0, if_pos y1]
      by_cases y2 : y = nI 2
      · simp only [if_neg y0, if_neg y1, if_pos y2]
      simp only [if_neg y0, if_neg y1, if_neg y2]
    · simp only [z_lt hj (show (zBelt a).length < 2147483648 by omega), hl, if_false, decide_false, Bool.false_eq_true]
theorem pM_place {m : gw_S} {n : Nat} (hp : rdI m 0 10 = nI n) (hn : n ≤ 8) (x : Int32) : fX8_isPlace x m = some (zb (zK n x)) := by
  have e : fX8_within x 0 (rdI m 0 10 - 1) m = zb (zK n x) := by
    unfold fX8_within
    rw [hp]
    rcases z_cases x with hx | ⟨j, hj, rfl⟩
    · rw [zK_neg hx, if_pos hx]; rfl
    · rw [zK_nI hj (by omega), if_neg (z_neg0 hj), zl1]
      by_cases h : j < n
      · rw [if_neg (fun q => by have := (z_pred (by omega) hj).mp q; omega)]; simp [h, zb]; rfl
      · rw [if_pos ((z_pred (by omega) hj).mpr (by omega))]; simp [h, zb]
  unfold fX8_isPlace
  rw [e, zb_bl]; rfl
theorem pM_beltNow {m : gw_S} {n : Nat} {a : zS} (hs : rmN m n a) (h8 : (zBelt a).length ≤ 8) (h5 : ∀ p, p ∈ zBelt a → p.1 < 5 ∧ p.2.1 < n) {j : Nat} (hj : j < (zBelt a).length) (y : Int32) (hy : zK 3 y = true) : fX8_beltNow (nI j) y m = some (aBelt (zBelt a) (nI j) y) := by
  obtain ⟨s1, s2, s3, s4, -⟩ := hs
  obtain ⟨p, hp⟩ := z_get hj
  obtain ⟨i, hi, rfl⟩ := zK_t hy (by omega)
  have w4 := pM_grip m (h5 p (z_mem hp)).1
  have e := s4 j p hp
  unfold fX8_beltNow aBelt
  rw [zK_nI (by omega) (by omega)]
  simp only [z_ix (show j < 2147483648 by omega), z_cl (show j < 2147483648 by omega), show (j < 8) = True from eq_true (by omega), decide_true, if_true, show (j < (zBelt a).length) = True from eq_true hj, e.1, e.2, w4, zKat, zTat, hp, zl0, zl1, zl2, zl3, zl4, zl5, zl6, zl7, zl8, zl9, zl10, zl12, zl16, zl20, zl24, zl32, zl40, zl44, zl48, zl49, zl56, zl57, zl59, zl60, zl64, zl90, zl126, zl600]
  rcases (show i = 0 ∨ i = 1 ∨ i = 2 by omega) with rfl | rfl | rfl <;> rfl
theorem aBelt_out {l : List zP} {j : Nat} (hj : j < l.length) (h8 : l.length ≤ 8) {y : Int32} (hy : zK 3 y = false) : aBelt l (nI j) y = -102 := by
  unfold aBelt
  rw [zK_nI (by omega) (by omega)]
  have key : ∀ j, j < 3 → ¬ y = nI j := by
    intro j hj e
    subst e
    rw [zK_nI (by omega) (by omega)] at hy
    simp at hy
    omega
  simp only [decide_eq_true hj, if_true, if_neg (key 0 (by omega)), if_neg (key 1 (by omega)), if_neg (key 2 (by omega))]
theorem pM_belt {m : gw_S} {P : List Nat} {n : Nat} {Y R O : Nat → Nat} {fl : Nat} {a : zS} {k : Option zS} (h : rmAll m P n Y R O fl a k) (hI : zInv P n Y R O fl a k) (x y : Int32) : fX8_belt x y m = some (aBelt (zBelt a) x y) := by
  obtain ⟨-, hp, hs, -⟩ := h
  have h8 := hI.2.2.2.1.2.2.2.2.2.1
  unfold fX8_belt
  rw [pM_place hs.2.2.1 h8, zl2, pM_in0 m y (by omega)]
  cases hk : zK (zBelt a).length x with
  | false => simp [aBelt, hk, zb]
  | true =>
    obtain ⟨i, hi, rfl⟩ := zK_t hk (by omega)
    cases hy : zK (2 + 1) y with
    | false => simp [zb, aBelt_out hi h8 hy]
    | true => simp [zb, pM_beltNow hs h8 hI.2.2.2.1.2.2.2.2.2.2.1 hi y hy]
-- as
def aAs (l : List zP) (x y : Int32) : Int32 :=
  if zK l.length x = true then
    (if zK 5 y = true then
      (match l[Int32.toNatClampNeg x]? with
        | some p => if (y = nI 0 ∨ y = nI p.1) ∨ (y = nI 2 ∧ p.1 = 4) then nI p.2.1 else -1
        | none => -1)
      else -102)
  else -101
theorem pC_as {c : gw_S} {P : List Nat} {n : Nat} {Y R O : Nat → Nat} {fl : Nat} {a : zS} {k : Option zS} (h : rcAll c P n Y R O fl a k) (hI : zInv P n Y R O fl a k) (x y : Int32) : fX7_as x y c = some (aAs (zBelt a) x y) := by
  obtain ⟨-, hp, hv, -, hs, -⟩ := h
  have hS := hI.2.2.2.1
  have hb := hs.2.2.1
  have h8 := hS.2.2.2.2.2.1
  unfold fX7_as aAs
  rw [hb.1, pC_kind]
  rcases z_cases x with hx | ⟨j, hj, rfl⟩
  · rw [zK_neg hx]; simp [hx]
  · rw [zK_nI hj (by omega), if_neg (z_neg0 hj)]
    by_cases hl : j < (zBelt a).length
    · obtain ⟨p, hp⟩ := z_get hl
      have w1 := pR_kindAt hb (j := j) hj
      have w2 := pR_townAt hb (j := j) hj
      have w3 : zKat (zBelt a) j = nI p.1 := by simp [zKat, hp]
      have w4 : zTat (zBelt a) j = nI p.2.1 := by simp [zTat, hp]
      have h5 := (hS.2.2.2.2.2.2.1 p (z_mem hp)).1
      simp only [z_lt hj (show (zBelt a).length < 2147483648 by omega), hl, if_true, w1, w2, w3, w4, Option.bind_some, decide_true, z_cl hj, hp]
      cases hy : zK 5 y with
      | false => simp [zb]
      | true =>
        obtain ⟨i, hi, rfl⟩ := zK_t hy (by omega)
        unfold fX7_isA fX7_isA_J19
        simp (disch := omega) only [gw_nm, gw_b2, Option.bind_some, Option.bind_none, z_ix, z_cl, z_le, z_lt, z_eq, decide_eq_true_eq, if_true, if_false, ite_true, ite_false, eq_self, not_true_eq_false, not_false_eq_true, zl0, zl1, zl2, zl3, zl4, zl5, zl6, zl7, zl8, zl9, zl10, zl12, zl16, zl20, zl24, zl32, zl40, zl44, zl48, zl49, zl56, zl57, zl59, zl60, zl64, zl90, zl126, zl600, zb_t, show ¬ ((1 : Nat) = 0) by decide]
        by_cases e1 : p.1 = i
        · simp (disch := omega) only [gw_nm, gw_b2, Option.bind_some, Option.bind_none, z_ix, z_cl, z_le, z_lt, z_eq, decide_eq_true_eq, if_true, if_false, ite_true, ite_false, eq_self, not_true_eq_false, not_false_eq_true, zl0, zl1, zl2, zl3, zl4, zl5, zl6, zl7, zl8, zl9, zl10, zl12, zl16, zl20, zl24, zl32, zl40, zl44, zl48, zl49, zl56, zl57, zl59, zl60, zl64, zl90, zl126, zl600, e1, or_true, true_or, if_pos, show ¬ ((1 : Nat) = 0) by decide]
        by_cases e2 : i = 0
        · simp (disch := omega) only [gw_nm, gw_b2, Option.bind_some, Option.bind_none, z_ix, z_cl, z_le, z_lt, z_eq, decide_eq_true_eq, if_true, if_false, ite_true, ite_false, eq_self, not_true_eq_false, not_false_eq_true, zl0, zl1, zl2, zl3, zl4, zl5, zl6, zl7, zl8, zl9, zl10, zl12, zl16, zl20, zl24, zl32, zl40, zl44, zl48, zl49, zl56, zl57, zl59, zl60, zl64, zl90, zl126, zl600, e1, e2, or_true, true_or, if_pos, show ¬ ((1 : Nat) = 0) by decide, ite_self]
        by_cases e3 : p.1 = 4
        · by_cases e4 : i = 2
          · simp (disch := omega) only [gw_nm, gw_b2, Option.bind_some, Option.bind_none, z_ix, z_cl, z_le, z_lt, z_eq, decide_eq_true_eq, if_true, if_false, ite_true, ite_false, eq_self, not_true_eq_false, not_false_eq_true, zl0, zl1, zl2, zl3, zl4, zl5, zl6, zl7, zl8, zl9, zl10, zl12, zl16, zl20, zl24, zl32, zl40, zl44, zl48, zl49, zl56, zl57, zl59, zl60, zl64, zl90, zl126, zl600, e1, e2, e3, e4, or_true, true_or, show ¬ ((1 : Nat) = 0) by decide, and_self, show ¬ ((4 : Nat) = 2) by decide, ite_self, z10]
          · have : ¬ i = p.1 := fun q => e1 q.symm
            simp (disch := omega) only [gw_nm, gw_b2, Option.bind_some, Option.bind_none, z_ix, z_cl, z_le, z_lt, z_eq, decide_eq_true_eq, if_true, if_false, ite_true, ite_false, eq_self, not_true_eq_false, not_false_eq_true, zl0, zl1, zl2, zl3, zl4, zl5, zl6, zl7, zl8, zl9, zl10, zl12, zl16, zl20, zl24, zl32, zl40, zl44, zl48, zl49, zl56, zl57, zl59, zl60, zl64, zl90, zl126, zl600, e1, e2, e3, e4, or_false, false_or, false_and, show ¬ (i = 4) by omega, show ¬ ((4 : Nat) = i) by omega]
        · have : ¬ i = p.1 := fun q => e1 q.symm
          simp (disch := omega) only [gw_nm, gw_b2, Option.bind_some, Option.bind_none, z_ix, z_cl, z_le, z_lt, z_eq, decide_eq_true_eq, if_true, if_false, ite_true, ite_false, eq_self, not_true_eq_false, not_false_eq_true, zl0, zl1, zl2, zl3, zl4, zl5, zl6, zl7, zl8, zl9, zl10, zl12, zl16, zl20, zl24, zl32, zl40, zl44, zl48, zl49, zl56, zl57, zl59, zl60, zl64, zl90, zl126, zl600, e1, e2, e3, this, or_false, false_or, and_false]
    · simp only [z_lt hj (show (zBelt a).length < 2147483648 by omega), hl, if_false, decide_false, Bool.false_eq_true]
theorem pM_as {m : gw_S} {P : List Nat} {n : Nat} {Y R O : Nat → Nat} {fl : Nat} {a : zS} {k : Option zS} (h : rmAll m P n Y R O fl a k) (hI : zInv P n Y R O fl a k) (x y : Int32) : fX8_as x y m = some (aAs (zBelt a) x y) := by
  obtain ⟨-, hp, hs, -⟩ := h
  have h8 := hI.2.2.2.1.2.2.2.2.2.1
  unfold fX8_as aAs
  rw [pM_place hs.2.2.1 h8, zl4, pM_in0 m y (by omega)]
  obtain ⟨s1, s2, s3, s4, -⟩ := hs
  cases hk : zK (zBelt a).length x with
  | false => simp [zb]
  | true =>
    obtain ⟨j, hj, rfl⟩ := zK_t hk (by omega)
    obtain ⟨p, hp⟩ := z_get hj
    have h5 := (hI.2.2.2.1.2.2.2.2.2.2.1 p (z_mem hp)).1
    have e := s4 j p hp
    cases hy : zK (4 + 1) y with
    | false => simp [zb]
    | true =>
      obtain ⟨i, hi, rfl⟩ := zK_t hy (by omega)
      unfold fX8_as_J49
      simp (disch := omega) only [gw_nm, gw_b2, Option.bind_some, Option.bind_none, z_ix, z_cl, z_le, z_lt, z_eq, decide_eq_true_eq, if_true, if_false, ite_true, ite_false, eq_self, not_true_eq_false, not_false_eq_true, zl0, zl1, zl2, zl3, zl4, zl5, zl6, zl7, zl8, zl9, zl10, zl12, zl16, zl20, zl24, zl32, zl40, zl44, zl48, zl49, zl56, zl57, zl59, zl60, zl64, zl90, zl126, zl600, zb_t, show ¬ ((1 : Nat) = 0) by decide, e.1, e.2, hp, if_pos, show (j < 8) = True from eq_true (by omega)]
      by_cases e2 : i = 0
      · simp (disch := omega) only [gw_nm, gw_b2, Option.bind_some, Option.bind_none, z_ix, z_cl, z_le, z_lt, z_eq, decide_eq_true_eq, if_true, if_false, ite_true, ite_false, eq_self, not_true_eq_false, not_false_eq_true, zl0, zl1, zl2, zl3, zl4, zl5, zl6, zl7, zl8, zl9, zl10, zl12, zl16, zl20, zl24, zl32, zl40, zl44, zl48, zl49, zl56, zl57, zl59, zl60, zl64, zl90, zl126, zl600, e2, or_true, true_or, if_pos]
      by_cases e1 : p.1 = i
      · simp (disch := omega) only [gw_nm, gw_b2, Option.bind_some, Option.bind_none, z_ix, z_cl, z_le, z_lt, z_eq, decide_eq_true_eq, if_true, if_false, ite_true, ite_false, eq_self, not_true_eq_false, not_false_eq_true, zl0, zl1, zl2, zl3, zl4, zl5, zl6, zl7, zl8, zl9, zl10, zl12, zl16, zl20, zl24, zl32, zl40, zl44, zl48, zl49, zl56, zl57, zl59, zl60, zl64, zl90, zl126, zl600, e1, e2, or_true, true_or, if_pos]
      have e1' : ¬ i = p.1 := fun q => e1 q.symm
      by_cases e4 : i = 2
      · by_cases e3 : p.1 = 4
        · simp (disch := omega) only [gw_nm, gw_b2, Option.bind_some, Option.bind_none, z_ix, z_cl, z_le, z_lt, z_eq, decide_eq_true_eq, if_true, if_false, ite_true, ite_false, eq_self, not_true_eq_false, not_false_eq_true, zl0, zl1, zl2, zl3, zl4, zl5, zl6, zl7, zl8, zl9, zl10, zl12, zl16, zl20, zl24, zl32, zl40, zl44, zl48, zl49, zl56, zl57, zl59, zl60, zl64, zl90, zl126, zl600, e1, e1', e2, e3, e4, or_true, true_or, and_self, show ¬ ((2 : Nat) = 0) by decide, show ¬ ((4 : Nat) = 2) by decide]
        · simp (disch := omega) only [gw_nm, gw_b2, Option.bind_some, Option.bind_none, z_ix, z_cl, z_le, z_lt, z_eq, decide_eq_true_eq, if_true, if_false, ite_true, ite_false, eq_self, not_true_eq_false, not_false_eq_true, zl0, zl1, zl2, zl3, zl4, zl5, zl6, zl7, zl8, zl9, zl10, zl12, zl16, zl20, zl24, zl32, zl40, zl44, zl48, zl49, zl56, zl57, zl59, zl60, zl64, zl90, zl126, zl600, e1, e1', e2, e3, e4, or_false, false_or, and_false, show ¬ ((2 : Nat) = 0) by decide, show ¬ (p.1 = 2) by omega, show ¬ (2 = p.1) by omega]
      · simp (disch := omega) only [gw_nm, gw_b2, Option.bind_some, Option.bind_none, z_ix, z_cl, z_le, z_lt, z_eq, decide_eq_true_eq, if_true, if_false, ite_true, ite_false, eq_self, not_true_eq_false, not_false_eq_true, zl0, zl1, zl2, zl3, zl4, zl5, zl6, zl7, zl8, zl9, zl10, zl12, zl16, zl20, zl24, zl32, zl40, zl44, zl48, zl49, zl56, zl57, zl59, zl60, zl64, zl90, zl126, zl600, e1, e1', e2, e4, or_false, false_or, false_and]
