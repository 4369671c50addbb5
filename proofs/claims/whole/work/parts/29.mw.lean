/-! Calls that write, the reference's side. -/
set_option maxRecDepth 20000 in
theorem z_byte : ∀ j, j < 127 → vp_nar .byte (Int8.toInt32 (Int32.toInt8 (nI j))) = nI j := by decide +kernel
theorem pM_letter {m : gw_S} {P : List Nat} {n : Nat} {Y R O : Nat → Nat} {fl : Nat} {a : zS} {k : Option zS} (h : rmAll m P n Y R O fl a k) (hI : zInv P n Y R O fl a k) (x : Int32) : ∃ d, fX8_letter x m = some (aLetter P x, d) ∧ rmAll d (nLetter P x) n Y R O fl a k := by
  have hpg := h.1
  have hle := hI.1.1
  unfold fX8_letter aLetter nLetter
  rw [zl32, show (126 : Int32) = nI 126 from rfl, pM_within x (by omega) (by omega)]
  by_cases h1 : x < nI 32
  · exact ⟨m, by simp [h1, zb], by simp only [eq_true h1, if_true]; exact h⟩
  by_cases h2 : nI 126 < x
  · exact ⟨m, by simp [h1, h2, zb], by simp only [eq_false h1, eq_true h2, if_true, if_false]; exact h⟩
  obtain ⟨j, j1, j2, rfl⟩ := z_code h1 h2
  by_cases h3 : P.length < 24
  · refine ⟨wrI (wrI m 13 P.length (nI j)) 0 18 (nI (P.length + 1)), ?_, ?_⟩
    · have e1 : (zb (!decide (nI j < nI 32) && !decide (nI 126 < nI j)) = 0) = False := by simp [h1, h2, zb]
      have e2 : (nI P.length = 24) = False := eq_false (fun q => by have := (z_eq (a := P.length) (b := 24) (by omega) (by omega)).mp q; omega)
      simp only [e1, eq_false h1, eq_false h2, eq_true h3, if_true, if_false, hpg.1, e2, gw_nm, z_ix (show P.length < 2147483648 by omega), z_cl (show P.length < 2147483648 by omega), decide_true, z_byte j (by omega), rd_nk (show (0 : Nat) ≠ 13 by omega), rd_eq, zl1, z_add, show ¬ (nI 1 = 0) by decide, show ¬ ((1 : Int32) = 0) by decide, decide_false, Bool.not_false, Bool.and_self, zb_t]
    · simp only [eq_false h1, eq_false h2, eq_true h3, if_true, if_false, z_cl (show j < 2147483648 by omega)]
      refine h.page hI (fun x y h0 h13 => ?_) ⟨?_, fun i v hv => ?_⟩
      · rw [rd_wr, if_neg h0, rd_nk h13]
      · rw [rd_eq, List.length_append]; rfl
      · have hi := z_lt_of hv
        rw [List.length_append] at hi
        simp at hi
        rw [rd_nk (by omega)]
        by_cases e : i = P.length
        · subst e
          rw [List.getElem?_append_right (Nat.le_refl _), Nat.sub_self] at hv
          simp at hv
          subst hv
          rw [rd_eq]
        · rw [List.getElem?_append_left (by omega)] at hv
          rw [rd_nj e]
          exact hpg.2 i v hv
  · refine ⟨m, ?_, ?_⟩
    · have e1 : (zb (!decide (nI j < nI 32) && !decide (nI 126 < nI j)) = 0) = False := by simp [h1, h2, zb]
      have e2 : (nI P.length = 24) = True := eq_true (by rw [show P.length = 24 by omega]; rfl)
      simp only [e1, eq_false h1, eq_false h2, eq_false h3, if_true, if_false, hpg.1, e2, show ¬ ((1 : Int32) = 0) by decide, decide_false, Bool.not_false, Bool.and_self, zb_t]
    · simp only [eq_false h1, eq_false h2, eq_false h3, if_false]; exact h
theorem pM_blank {m : gw_S} {P : List Nat} {n : Nat} {Y R O : Nat → Nat} {fl : Nat} {a : zS} {k : Option zS} (h : rmAll m P n Y R O fl a k) (hI : zInv P n Y R O fl a k) : ∃ d, fX8_blank m = some (nI P.length, d) ∧ rmAll d [] n Y R O fl a k := by
  refine ⟨wrI m 0 18 0, ?_, ?_⟩
  · unfold fX8_blank
    simp only [gw_nm, h.1.1]
  · exact h.page hI (fun x y h0 h13 => by rw [rd_wr, if_neg h0]) ⟨by rw [rd_eq]; rfl, fun j v hv => by simp at hv⟩
theorem pM_parcel {m : gw_S} {P : List Nat} {n : Nat} {Y R O : Nat → Nat} {fl : Nat} {a : zS} {k : Option zS} (h : rmAll m P n Y R O fl a k) (hI : zInv P n Y R O fl a k) (x y : Int32) : ∃ d, fX8_parcel x y m = some (aParcel n a x y, d) ∧ rmAll d P n Y R O fl (nParcel n a x y) k := by
  obtain ⟨-, hp, hs, -⟩ := id h
  have hn := hI.n6
  have h8 := hI.2.2.2.1.2.2.2.2.2.1
  obtain ⟨s1, s2, s3, s4, s5, s6, s7, s8⟩ := hs
  unfold fX8_parcel aParcel nParcel
  rw [zl4, pM_in0 m x (by omega), pM_hook hp.1 hn]
  cases h1 : zK (4 + 1) x with
  | false => exact ⟨m, by simp [zb], by simpa using h⟩
  | true =>
    cases h2 : zK n y with
    | false => exact ⟨m, by simp [zb], by simpa using h⟩
    | true =>
      obtain ⟨kk, hkk, rfl⟩ := zK_t h1 (by omega)
      obtain ⟨t, ht, rfl⟩ := zK_t h2 (by omega)
      by_cases h3 : (zBelt a).length < 8
      · have e2 : (nI (zBelt a).length = 8) = False := eq_false (fun q => by have := (z_eq (a := (zBelt a).length) (b := 8) (by omega) (by omega)).mp q; omega)
        refine ⟨wrI (wrI (wrI m 9 (zBelt a).length (nI kk)) 10 (zBelt a).length (nI t)) 0 10 (nI ((zBelt a).length + 1)), ?_, ?_⟩
        · simp only [zb_t, show ¬ ((1 : Int32) = 0) by decide, if_false, Option.bind_some, s3, e2, gw_nm, z_ix (show (zBelt a).length < 2147483648 by omega), z_cl (show (zBelt a).length < 2147483648 by omega), eq_true h3, decide_true, if_true, rd_nk (show (0 : Nat) ≠ 9 by omega), rd_nk (show (0 : Nat) ≠ 10 by omega), rd_eq, zl1, z_add, show ¬ (nI 1 = 0) by decide, show ¬ ((1 : Int32) = 0) by decide, decide_false, Bool.not_false, Bool.and_self, zb_t]
        · simp only [eq_true h3, if_true, z_cl (show kk < 2147483648 by omega), z_cl (show t < 2147483648 by omega)]
          refine h.now hI (fun x y h0 hx => ?_) ⟨fun y hy => ?_, fun y hy => ?_, ?_, fun j p hp => ?_, ?_, fun j p hp => ?_, ?_, ?_⟩
          · rw [rd_wr, if_neg (by omega), rd_nk (by omega), rd_nk (by omega)]
          · rw [rd_nk (by omega), rd_nk (by omega), rd_nk (by omega)]; exact s1 y hy
          · simp (disch := omega) only [gw_nm, gw_b2, Option.bind_some, Option.bind_none, z_ix, z_cl, z_le, z_lt, z_eq, decide_eq_true_eq, if_true, if_false, ite_true, ite_false, eq_self, not_true_eq_false, not_false_eq_true, zl0, zl1, zl2, zl3, zl4, zl5, zl6, zl7, zl8, zl9, zl10, zl12, zl16, zl20, zl24, zl32, zl40, zl44, zl48, zl49, zl56, zl57, zl59, zl60, zl64, zl90, zl126, zl600, rd_nk]
            exact s2 y hy
          · show _ = nI (zBelt a ++ [(kk, t, false)]).length
            rw [rd_eq, List.length_append]; rfl
          · have hp : (zBelt a ++ [(kk, t, false)])[j]? = some p := hp
            have hj := z_lt_of hp
            rw [List.length_append] at hj
            simp at hj
            by_cases e : j = (zBelt a).length
            · subst e
              rw [List.getElem?_append_right (Nat.le_refl _), Nat.sub_self] at hp
              simp at hp
              subst hp
              simp (disch := omega) only [gw_nm, gw_b2, Option.bind_some, Option.bind_none, z_ix, z_cl, z_le, z_lt, z_eq, decide_eq_true_eq, if_true, if_false, ite_true, ite_false, eq_self, not_true_eq_false, not_false_eq_true, zl0, zl1, zl2, zl3, zl4, zl5, zl6, zl7, zl8, zl9, zl10, zl12, zl16, zl20, zl24, zl32, zl40, zl44, zl48, zl49, zl56, zl57, zl59, zl60, zl64, zl90, zl126, zl600, rd_nk, rd_eq, and_self]
            · rw [List.getElem?_append_left (by omega)] at hp
              simp (disch := omega) only [gw_nm, gw_b2, Option.bind_some, Option.bind_none, z_ix, z_cl, z_le, z_lt, z_eq, decide_eq_true_eq, if_true, if_false, ite_true, ite_false, eq_self, not_true_eq_false, not_false_eq_true, zl0, zl1, zl2, zl3, zl4, zl5, zl6, zl7, zl8, zl9, zl10, zl12, zl16, zl20, zl24, zl32, zl40, zl44, zl48, zl49, zl56, zl57, zl59, zl60, zl64, zl90, zl126, zl600, rd_nk, rd_nj, s4 j p hp, and_self]
          · simp (disch := omega) only [gw_nm, gw_b2, Option.bind_some, Option.bind_none, z_ix, z_cl, z_le, z_lt, z_eq, decide_eq_true_eq, if_true, if_false, ite_true, ite_false, eq_self, not_true_eq_false, not_false_eq_true, zl0, zl1, zl2, zl3, zl4, zl5, zl6, zl7, zl8, zl9, zl10, zl12, zl16, zl20, zl24, zl32, zl40, zl44, zl48, zl49, zl56, zl57, zl59, zl60, zl64, zl90, zl126, zl600, rd_nk, rd_nj]
            exact s5
          · simp (disch := omega) only [gw_nm, gw_b2, Option.bind_some, Option.bind_none, z_ix, z_cl, z_le, z_lt, z_eq, decide_eq_true_eq, if_true, if_false, ite_true, ite_false, eq_self, not_true_eq_false, not_false_eq_true, zl0, zl1, zl2, zl3, zl4, zl5, zl6, zl7, zl8, zl9, zl10, zl12, zl16, zl20, zl24, zl32, zl40, zl44, zl48, zl49, zl56, zl57, zl59, zl60, zl64, zl90, zl126, zl600, rd_nk]
            exact s6 j p hp
          · simp (disch := omega) only [gw_nm, gw_b2, Option.bind_some, Option.bind_none, z_ix, z_cl, z_le, z_lt, z_eq, decide_eq_true_eq, if_true, if_false, ite_true, ite_false, eq_self, not_true_eq_false, not_false_eq_true, zl0, zl1, zl2, zl3, zl4, zl5, zl6, zl7, zl8, zl9, zl10, zl12, zl16, zl20, zl24, zl32, zl40, zl44, zl48, zl49, zl56, zl57, zl59, zl60, zl64, zl90, zl126, zl600, rd_nk, rd_nj]
            exact s7
          · simp (disch := omega) only [gw_nm, gw_b2, Option.bind_some, Option.bind_none, z_ix, z_cl, z_le, z_lt, z_eq, decide_eq_true_eq, if_true, if_false, ite_true, ite_false, eq_self, not_true_eq_false, not_false_eq_true, zl0, zl1, zl2, zl3, zl4, zl5, zl6, zl7, zl8, zl9, zl10, zl12, zl16, zl20, zl24, zl32, zl40, zl44, zl48, zl49, zl56, zl57, zl59, zl60, zl64, zl90, zl126, zl600, rd_nk, rd_nj]
            exact s8
      · have e2 : (nI (zBelt a).length = 8) = True := eq_true (by rw [show (zBelt a).length = 8 by omega]; rfl)
        refine ⟨m, ?_, ?_⟩
        · simp only [zb_t, show ¬ ((1 : Int32) = 0) by decide, if_false, Option.bind_some, s3, e2, if_true, eq_false h3]
        · simp only [eq_false h3, if_true, if_false]; exact h
theorem pM_change {m : gw_S} {P : List Nat} {n : Nat} {Y R O : Nat → Nat} {fl : Nat} {a : zS} {k : Option zS} (h : rmAll m P n Y R O fl a k) (hI : zInv P n Y R O fl a k) (x : Int32) : ∃ d, fX8_change x m = some (aChange n a x, d) ∧ rmAll d P n Y R O fl (nChange n a x) k := by
  obtain ⟨-, hp, hs, -⟩ := id h
  have hn := hI.n6
  have hS := hI.2.2.2.1
  obtain ⟨s1, s2, s3, s4, s5, s6, s7, s8⟩ := hs
  unfold fX8_change aChange nChange
  rw [pM_hook hp.1 hn]
  cases h1 : zK n x with
  | false => exact ⟨m, by simp [zb], by simpa using h⟩
  | true =>
    obtain ⟨i, hi, rfl⟩ := zK_t h1 (by omega)
    have ht := hS.1 i hi
    refine ⟨wrI (wrI (wrI (wrI (wrI m 5 (zTown a i) 0) 6 (zTown a i) 0) 7 (zTown a i) 0) 8 (zTown a i) 0) 0 13 (zSec a + 40), ?_, ?_⟩
    · unfold fX8_empty
      simp only [zb_t, show ¬ ((1 : Int32) = 0) by decide, if_false, Option.bind_some, gw_nm, z_ix (show i < 2147483648 by omega), z_cl (show i < 2147483648 by omega), z_ix (show zTown a i < 2147483648 by omega), z_cl (show zTown a i < 2147483648 by omega), show (i < 12) = True from eq_true (by omega), show (zTown a i < 12) = True from eq_true (by omega), show (zTown a i < 6) = True from eq_true (by omega), decide_true, if_true, s1 i hi, (s2 i hi).1]
      rw [rd_nk (by omega), rd_nk (by omega), rd_nk (by omega), rd_nk (by omega), s7]
    · simp only [if_true, z_cl (show i < 2147483648 by omega)]
      refine h.now hI (fun x y h0 hx => ?_) ⟨fun y hy => ?_, fun y hy => ?_, ?_, fun j p hp => ?_, ?_, fun j p hp => ?_, ?_, ?_⟩
      · rw [rd_wr, if_neg (by omega), rd_nk (by omega), rd_nk (by omega), rd_nk (by omega), rd_nk (by omega)]
      · simp (disch := omega) only [gw_nm, gw_b2, Option.bind_some, Option.bind_none, z_ix, z_cl, z_le, z_lt, z_eq, decide_eq_true_eq, if_true, if_false, ite_true, ite_false, eq_self, not_true_eq_false, not_false_eq_true, zl0, zl1, zl2, zl3, zl4, zl5, zl6, zl7, zl8, zl9, zl10, zl12, zl16, zl20, zl24, zl32, zl40, zl44, zl48, zl49, zl56, zl57, zl59, zl60, zl64, zl90, zl126, zl600, rd_nk]
        exact s1 y hy
      · show rdI _ 5 (zTown a y) = nI (updN (zSack a) i [] y).length ∧ rdI _ 6 (zTown a y) = nI (zWrong (zTown a y) (updN (zSack a) i [] y)) ∧ rdI _ 7 (zTown a y) = nI (zGlass (updN (zSack a) i [] y)) ∧ rdI _ 8 (zTown a y) = nI (zWhole (updN (zSack a) i [] y))
        by_cases e : y = i
        · subst e
          rw [updN_eq]
          simp (disch := omega) only [gw_nm, gw_b2, Option.bind_some, Option.bind_none, z_ix, z_cl, z_le, z_lt, z_eq, decide_eq_true_eq, if_true, if_false, ite_true, ite_false, eq_self, not_true_eq_false, not_false_eq_true, zl0, zl1, zl2, zl3, zl4, zl5, zl6, zl7, zl8, zl9, zl10, zl12, zl16, zl20, zl24, zl32, zl40, zl44, zl48, zl49, zl56, zl57, zl59, zl60, zl64, zl90, zl126, zl600, rd_nk, rd_eq]
          exact ⟨rfl, rfl, rfl, rfl⟩
        · have hne : zTown a y ≠ zTown a i := fun q => e (hS.2.1 y i hy hi q)
          rw [updN_ne e]
          simp (disch := omega) only [gw_nm, gw_b2, Option.bind_some, Option.bind_none, z_ix, z_cl, z_le, z_lt, z_eq, decide_eq_true_eq, if_true, if_false, ite_true, ite_false, eq_self, not_true_eq_false, not_false_eq_true, zl0, zl1, zl2, zl3, zl4, zl5, zl6, zl7, zl8, zl9, zl10, zl12, zl16, zl20, zl24, zl32, zl40, zl44, zl48, zl49, zl56, zl57, zl59, zl60, zl64, zl90, zl126, zl600, rd_nk, rd_nj]
          exact s2 y hy
      · simp (disch := omega) only [gw_nm, gw_b2, Option.bind_some, Option.bind_none, z_ix, z_cl, z_le, z_lt, z_eq, decide_eq_true_eq, if_true, if_false, ite_true, ite_false, eq_self, not_true_eq_false, not_false_eq_true, zl0, zl1, zl2, zl3, zl4, zl5, zl6, zl7, zl8, zl9, zl10, zl12, zl16, zl20, zl24, zl32, zl40, zl44, zl48, zl49, zl56, zl57, zl59, zl60, zl64, zl90, zl126, zl600, rd_nk, rd_nj]
        exact s3
      · simp (disch := omega) only [gw_nm, gw_b2, Option.bind_some, Option.bind_none, z_ix, z_cl, z_le, z_lt, z_eq, decide_eq_true_eq, if_true, if_false, ite_true, ite_false, eq_self, not_true_eq_false, not_false_eq_true, zl0, zl1, zl2, zl3, zl4, zl5, zl6, zl7, zl8, zl9, zl10, zl12, zl16, zl20, zl24, zl32, zl40, zl44, zl48, zl49, zl56, zl57, zl59, zl60, zl64, zl90, zl126, zl600, rd_nk]
        exact s4 j p hp
      · simp (disch := omega) only [gw_nm, gw_b2, Option.bind_some, Option.bind_none, z_ix, z_cl, z_le, z_lt, z_eq, decide_eq_true_eq, if_true, if_false, ite_true, ite_false, eq_self, not_true_eq_false, not_false_eq_true, zl0, zl1, zl2, zl3, zl4, zl5, zl6, zl7, zl8, zl9, zl10, zl12, zl16, zl20, zl24, zl32, zl40, zl44, zl48, zl49, zl56, zl57, zl59, zl60, zl64, zl90, zl126, zl600, rd_nk, rd_nj]
        exact s5
      · simp (disch := omega) only [gw_nm, gw_b2, Option.bind_some, Option.bind_none, z_ix, z_cl, z_le, z_lt, z_eq, decide_eq_true_eq, if_true, if_false, ite_true, ite_false, eq_self, not_true_eq_false, not_false_eq_true, zl0, zl1, zl2, zl3, zl4, zl5, zl6, zl7, zl8, zl9, zl10, zl12, zl16, zl20, zl24, zl32, zl40, zl44, zl48, zl49, zl56, zl57, zl59, zl60, zl64, zl90, zl126, zl600, rd_nk]
        exact s6 j p hp
      · rw [rd_eq]; rfl
      · simp (disch := omega) only [gw_nm, gw_b2, Option.bind_some, Option.bind_none, z_ix, z_cl, z_le, z_lt, z_eq, decide_eq_true_eq, if_true, if_false, ite_true, ite_false, eq_self, not_true_eq_false, not_false_eq_true, zl0, zl1, zl2, zl3, zl4, zl5, zl6, zl7, zl8, zl9, zl10, zl12, zl16, zl20, zl24, zl32, zl40, zl44, zl48, zl49, zl56, zl57, zl59, zl60, zl64, zl90, zl126, zl600, rd_nk, rd_nj]
        exact s8
theorem pM_exch {m : gw_S} {P : List Nat} {n : Nat} {Y R O : Nat → Nat} {fl : Nat} {a : zS} {k : Option zS} (h : rmAll m P n Y R O fl a k) (hI : zInv P n Y R O fl a k) (x y : Int32) : ∃ d, fX8_exchange x y m = some (aExch n R a x y, d) ∧ rmAll d P n Y R O fl (nExch n R a x y) k := by
  obtain ⟨-, hp, hs, -⟩ := id h
  have hn := hI.n6
  have hS := hI.2.2.2.1
  obtain ⟨s1, s2, s3, s4, s5, s6, s7, s8⟩ := hs
  unfold fX8_exchange aExch nExch
  rw [pM_hook hp.1 hn, pM_hook hp.1 hn]
  cases h1 : zK n x with
  | false => exact ⟨m, by simp [zb], by simpa using h⟩
  | true =>
    cases h2 : zK n y with
    | false => exact ⟨m, by simp [zb], by simpa using h⟩
    | true =>
      obtain ⟨i, hi, rfl⟩ := zK_t h1 (by omega)
      obtain ⟨j, hj, rfl⟩ := zK_t h2 (by omega)
      by_cases hij : i = j
      · subst hij
        exact ⟨m, by simp [zb], by simpa using h⟩
      have hne : ¬ nI i = nI j := fun q => hij ((z_eq (by omega) (by omega)).mp q)
      have hti := hS.1 i hi
      have htj := hS.1 j hj
      have hRi := (hI.2.1.2 i hi).2.1.2
      have hRj := (hI.2.1.2 j hj).2.1.2
      have li := hS.2.2.2.1 i (by omega)
      have lj := hS.2.2.2.1 j (by omega)
      simp only [zb_t, show ¬ ((1 : Int32) = 0) by decide, if_false, if_true, Option.bind_some, hne, gw_nm, z_ix (show i < 2147483648 by omega), z_cl (show i < 2147483648 by omega), z_ix (show j < 2147483648 by omega), z_cl (show j < 2147483648 by omega), show (i < 12) = True from eq_true (by omega), show (j < 12) = True from eq_true (by omega), show (i < 6) = True from eq_true (by omega), show (j < 6) = True from eq_true (by omega), decide_true, s1 i hi, s1 j hj, z_ix (show zTown a i < 2147483648 by omega), z_cl (show zTown a i < 2147483648 by omega), z_ix (show zTown a j < 2147483648 by omega), z_cl (show zTown a j < 2147483648 by omega), show (zTown a i < 12) = True from eq_true (by omega), show (zTown a j < 12) = True from eq_true (by omega), (s2 i hi).1, (s2 j hj).1, (hp.2 i hi).2.1, (hp.2 j hj).2.1, z_lt (show R j < 2147483648 by omega) (show (zSack a i).length < 2147483648 by omega), z_le (show (zSack a j).length < 2147483648 by omega) (show R i < 2147483648 by omega)]
      by_cases h3 : R j < (zSack a i).length
      · exact ⟨m, by simp only [eq_true h3, if_true], by simp only [eq_true h3, if_true]; exact h⟩
      by_cases h4 : R i < (zSack a j).length
      · have : ¬ (zSack a j).length ≤ R i := by omega
        exact ⟨m, by simp only [eq_false h3, eq_true h4, eq_false this, if_true, if_false], by simp only [eq_false h3, eq_true h4, if_true, if_false]; exact h⟩
      have h4' : (zSack a j).length ≤ R i := by omega
      refine ⟨wrI (wrI (wrI m 4 i (nI (zTown a j))) 4 j (nI (zTown a i))) 0 13 (zSec a + 10), ?_, ?_⟩
      · simp only [eq_false h3, eq_false h4, eq_true h4', if_true, if_false, rd_nk (show (0 : Nat) ≠ 4 by omega), s7, rd_eq]
      · simp only [eq_false h3, eq_false h4, if_false]
        refine h.now hI (fun x y h0 hx => ?_) ⟨fun y hy => ?_, fun y hy => ?_, ?_, fun j p hp => ?_, ?_, fun j p hp => ?_, ?_, ?_⟩
        · rw [rd_wr, if_neg (by omega), rd_nk (by omega), rd_nk (by omega)]
        · show _ = nI (zSwap (zTown a) i j y)
          unfold zSwap updN
          rw [rd_nk (by omega), rd_wr]
          by_cases q1 : y = j
          · subst q1; simp
          · rw [if_neg (fun z => q1 z.2), rd_wr]
            by_cases q2 : y = i
            · subst q2; simp [q1]
            · rw [if_neg (fun z => q2 z.2), if_neg q1, if_neg q2]; exact s1 y hy
        · show rdI _ 5 (zSwap (zTown a) i j y) = nI (zSwap (zSack a) i j y).length ∧ rdI _ 6 (zSwap (zTown a) i j y) = nI (zWrong (zSwap (zTown a) i j y) (zSwap (zSack a) i j y)) ∧ rdI _ 7 (zSwap (zTown a) i j y) = nI (zGlass (zSwap (zSack a) i j y)) ∧ rdI _ 8 (zSwap (zTown a) i j y) = nI (zWhole (zSwap (zSack a) i j y))
          simp (disch := omega) only [gw_nm, gw_b2, Option.bind_some, Option.bind_none, z_ix, z_cl, z_le, z_lt, z_eq, decide_eq_true_eq, if_true, if_false, ite_true, ite_false, eq_self, not_true_eq_false, not_false_eq_true, zl0, zl1, zl2, zl3, zl4, zl5, zl6, zl7, zl8, zl9, zl10, zl12, zl16, zl20, zl24, zl32, zl40, zl44, zl48, zl49, zl56, zl57, zl59, zl60, zl64, zl90, zl126, zl600, rd_nk]
          unfold zSwap updN
          by_cases q1 : y = j
          · rw [if_pos q1, if_pos q1]; exact s2 i hi
          · rw [if_neg q1, if_neg q1]
            by_cases q2 : y = i
            · rw [if_pos q2, if_pos q2]; exact s2 j hj
            · rw [if_neg q2, if_neg q2]; exact s2 y hy
        · simp (disch := omega) only [gw_nm, gw_b2, Option.bind_some, Option.bind_none, z_ix, z_cl, z_le, z_lt, z_eq, decide_eq_true_eq, if_true, if_false, ite_true, ite_false, eq_self, not_true_eq_false, not_false_eq_true, zl0, zl1, zl2, zl3, zl4, zl5, zl6, zl7, zl8, zl9, zl10, zl12, zl16, zl20, zl24, zl32, zl40, zl44, zl48, zl49, zl56, zl57, zl59, zl60, zl64, zl90, zl126, zl600, rd_nk, rd_nj]
          exact s3
        · simp (disch := omega) only [gw_nm, gw_b2, Option.bind_some, Option.bind_none, z_ix, z_cl, z_le, z_lt, z_eq, decide_eq_true_eq, if_true, if_false, ite_true, ite_false, eq_self, not_true_eq_false, not_false_eq_true, zl0, zl1, zl2, zl3, zl4, zl5, zl6, zl7, zl8, zl9, zl10, zl12, zl16, zl20, zl24, zl32, zl40, zl44, zl48, zl49, zl56, zl57, zl59, zl60, zl64, zl90, zl126, zl600, rd_nk]
          exact s4 j p hp
        · simp (disch := omega) only [gw_nm, gw_b2, Option.bind_some, Option.bind_none, z_ix, z_cl, z_le, z_lt, z_eq, decide_eq_true_eq, if_true, if_false, ite_true, ite_false, eq_self, not_true_eq_false, not_false_eq_true, zl0, zl1, zl2, zl3, zl4, zl5, zl6, zl7, zl8, zl9, zl10, zl12, zl16, zl20, zl24, zl32, zl40, zl44, zl48, zl49, zl56, zl57, zl59, zl60, zl64, zl90, zl126, zl600, rd_nk, rd_nj]
          exact s5
        · simp (disch := omega) only [gw_nm, gw_b2, Option.bind_some, Option.bind_none, z_ix, z_cl, z_le, z_lt, z_eq, decide_eq_true_eq, if_true, if_false, ite_true, ite_false, eq_self, not_true_eq_false, not_false_eq_true, zl0, zl1, zl2, zl3, zl4, zl5, zl6, zl7, zl8, zl9, zl10, zl12, zl16, zl20, zl24, zl32, zl40, zl44, zl48, zl49, zl56, zl57, zl59, zl60, zl64, zl90, zl126, zl600, rd_nk]
          exact s6 j p hp
        · rw [rd_eq]; rfl
        · simp (disch := omega) only [gw_nm, gw_b2, Option.bind_some, Option.bind_none, z_ix, z_cl, z_le, z_lt, z_eq, decide_eq_true_eq, if_true, if_false, ite_true, ite_false, eq_self, not_true_eq_false, not_false_eq_true, zl0, zl1, zl2, zl3, zl4, zl5, zl6, zl7, zl8, zl9, zl10, zl12, zl16, zl20, zl24, zl32, zl40, zl44, zl48, zl49, zl56, zl57, zl59, zl60, zl64, zl90, zl126, zl600, rd_nk, rd_nj]
          exact s8
theorem pM_found {m : gw_S} {P : List Nat} {n : Nat} {Y R O : Nat → Nat} {fl : Nat} {a : zS} {k : Option zS} (h : rmAll m P n Y R O fl a k) (hI : zInv P n Y R O fl a k) (x y : Int32) : ∃ d, fX8_found x y m = some (aFound n a x y, d) ∧ rmAll d P n Y R O fl (nFound n a x y) k := by
  obtain ⟨-, hp, hs, -⟩ := id h
  have hn := hI.n6
  have hS := hI.2.2.2.1
  have h8 := hS.2.2.2.2.2.2.2.1
  obtain ⟨s1, s2, s3, s4, s5, s6, s7, s8⟩ := hs
  unfold fX8_found aFound nFound
  rw [pM_hook hp.1 hn, pM_hook hp.1 hn]
  cases h1 : zK n x with
  | false => exact ⟨m, by simp [zb], by simpa using h⟩
  | true =>
    cases h2 : zK n y with
    | false => exact ⟨m, by simp [zb], by simpa using h⟩
    | true =>
      obtain ⟨i, hi, rfl⟩ := zK_t h1 (by omega)
      obtain ⟨j, hj, rfl⟩ := zK_t h2 (by omega)
      by_cases hij : i = j
      · subst hij
        exact ⟨m, by simp [zb], by simpa using h⟩
      have hne : ¬ nI i = nI j := fun q => hij ((z_eq (by omega) (by omega)).mp q)
      by_cases h3 : (zFound a).length < 8
      · have e2 : (nI (zFound a).length = 8) = False := eq_false (fun q => by have := (z_eq (a := (zFound a).length) (b := 8) (by omega) (by omega)).mp q; omega)
        refine ⟨wrI (wrI (wrI m 11 (zFound a).length (nI i)) 12 (zFound a).length (nI j)) 0 15 (nI ((zFound a).length + 1)), ?_, ?_⟩
        · simp only [zb_t, show ¬ ((1 : Int32) = 0) by decide, if_false, if_true, Option.bind_some, hne, s5, e2, gw_nm, z_ix (show (zFound a).length < 2147483648 by omega), z_cl (show (zFound a).length < 2147483648 by omega), eq_true h3, decide_true, rd_nk (show (0 : Nat) ≠ 11 by omega), rd_nk (show (0 : Nat) ≠ 12 by omega), rd_eq, zl1, z_add, show ¬ (nI 1 = 0) by decide, show ¬ ((1 : Int32) = 0) by decide, decide_false, Bool.not_false, Bool.and_self, zb_t]
        · simp only [if_true, if_false, hne, eq_true h3, z_cl (show i < 2147483648 by omega), z_cl (show j < 2147483648 by omega)]
          refine h.now hI (fun x y h0 hx => ?_) ⟨fun y hy => ?_, fun y hy => ?_, ?_, fun j p hp => ?_, ?_, fun x p hp => ?_, ?_, ?_⟩
          · rw [rd_wr, if_neg (by omega), rd_nk (by omega), rd_nk (by omega)]
          · simp (disch := omega) only [gw_nm, gw_b2, Option.bind_some, Option.bind_none, z_ix, z_cl, z_le, z_lt, z_eq, decide_eq_true_eq, if_true, if_false, ite_true, ite_false, eq_self, not_true_eq_false, not_false_eq_true, zl0, zl1, zl2, zl3, zl4, zl5, zl6, zl7, zl8, zl9, zl10, zl12, zl16, zl20, zl24, zl32, zl40, zl44, zl48, zl49, zl56, zl57, zl59, zl60, zl64, zl90, zl126, zl600, rd_nk]
            exact s1 y hy
          · simp (disch := omega) only [gw_nm, gw_b2, Option.bind_some, Option.bind_none, z_ix, z_cl, z_le, z_lt, z_eq, decide_eq_true_eq, if_true, if_false, ite_true, ite_false, eq_self, not_true_eq_false, not_false_eq_true, zl0, zl1, zl2, zl3, zl4, zl5, zl6, zl7, zl8, zl9, zl10, zl12, zl16, zl20, zl24, zl32, zl40, zl44, zl48, zl49, zl56, zl57, zl59, zl60, zl64, zl90, zl126, zl600, rd_nk]
            exact s2 y hy
          · simp (disch := omega) only [gw_nm, gw_b2, Option.bind_some, Option.bind_none, z_ix, z_cl, z_le, z_lt, z_eq, decide_eq_true_eq, if_true, if_false, ite_true, ite_false, eq_self, not_true_eq_false, not_false_eq_true, zl0, zl1, zl2, zl3, zl4, zl5, zl6, zl7, zl8, zl9, zl10, zl12, zl16, zl20, zl24, zl32, zl40, zl44, zl48, zl49, zl56, zl57, zl59, zl60, zl64, zl90, zl126, zl600, rd_nk, rd_nj]
            exact s3
          · simp (disch := omega) only [gw_nm, gw_b2, Option.bind_some, Option.bind_none, z_ix, z_cl, z_le, z_lt, z_eq, decide_eq_true_eq, if_true, if_false, ite_true, ite_false, eq_self, not_true_eq_false, not_false_eq_true, zl0, zl1, zl2, zl3, zl4, zl5, zl6, zl7, zl8, zl9, zl10, zl12, zl16, zl20, zl24, zl32, zl40, zl44, zl48, zl49, zl56, zl57, zl59, zl60, zl64, zl90, zl126, zl600, rd_nk]
            exact s4 j p hp
          · show _ = nI (zFound a ++ [(i, j)]).length
            rw [rd_eq, List.length_append]; rfl
          · have hp : (zFound a ++ [(i, j)])[x]? = some p := hp
            have hx := z_lt_of hp
            rw [List.length_append] at hx
            simp at hx
            by_cases e : x = (zFound a).length
            · subst e
              rw [List.getElem?_append_right (Nat.le_refl _), Nat.sub_self] at hp
              simp at hp
              subst hp
              simp (disch := omega) only [gw_nm, gw_b2, Option.bind_some, Option.bind_none, z_ix, z_cl, z_le, z_lt, z_eq, decide_eq_true_eq, if_true, if_false, ite_true, ite_false, eq_self, not_true_eq_false, not_false_eq_true, zl0, zl1, zl2, zl3, zl4, zl5, zl6, zl7, zl8, zl9, zl10, zl12, zl16, zl20, zl24, zl32, zl40, zl44, zl48, zl49, zl56, zl57, zl59, zl60, zl64, zl90, zl126, zl600, rd_nk, rd_eq, and_self]
            · rw [List.getElem?_append_left (by omega)] at hp
              simp (disch := omega) only [gw_nm, gw_b2, Option.bind_some, Option.bind_none, z_ix, z_cl, z_le, z_lt, z_eq, decide_eq_true_eq, if_true, if_false, ite_true, ite_false, eq_self, not_true_eq_false, not_false_eq_true, zl0, zl1, zl2, zl3, zl4, zl5, zl6, zl7, zl8, zl9, zl10, zl12, zl16, zl20, zl24, zl32, zl40, zl44, zl48, zl49, zl56, zl57, zl59, zl60, zl64, zl90, zl126, zl600, rd_nk, rd_nj, s6 x p hp, and_self]
          · simp (disch := omega) only [gw_nm, gw_b2, Option.bind_some, Option.bind_none, z_ix, z_cl, z_le, z_lt, z_eq, decide_eq_true_eq, if_true, if_false, ite_true, ite_false, eq_self, not_true_eq_false, not_false_eq_true, zl0, zl1, zl2, zl3, zl4, zl5, zl6, zl7, zl8, zl9, zl10, zl12, zl16, zl20, zl24, zl32, zl40, zl44, zl48, zl49, zl56, zl57, zl59, zl60, zl64, zl90, zl126, zl600, rd_nk, rd_nj]
            exact s7
          · simp (disch := omega) only [gw_nm, gw_b2, Option.bind_some, Option.bind_none, z_ix, z_cl, z_le, z_lt, z_eq, decide_eq_true_eq, if_true, if_false, ite_true, ite_false, eq_self, not_true_eq_false, not_false_eq_true, zl0, zl1, zl2, zl3, zl4, zl5, zl6, zl7, zl8, zl9, zl10, zl12, zl16, zl20, zl24, zl32, zl40, zl44, zl48, zl49, zl56, zl57, zl59, zl60, zl64, zl90, zl126, zl600, rd_nk, rd_nj]
            exact s8
      · have e2 : (nI (zFound a).length = 8) = True := eq_true (by rw [show (zFound a).length = 8 by omega]; rfl)
        refine ⟨m, ?_, ?_⟩
        · simp only [zb_t, show ¬ ((1 : Int32) = 0) by decide, if_false, Option.bind_some, hne, s5, e2, if_true, eq_false h3]
        · simp only [eq_false h3, if_true, if_false, hne]; exact h
theorem pM_forget {m : gw_S} {P : List Nat} {n : Nat} {Y R O : Nat → Nat} {fl : Nat} {a : zS} {k : Option zS} (h : rmAll m P n Y R O fl a k) (hI : zInv P n Y R O fl a k) : ∃ d, fX8_forget m = some (nI (zFound a).length, d) ∧ rmAll d P n Y R O fl (nForget a) k := by
  obtain ⟨-, hp, hs, -⟩ := id h
  have hn := hI.n6
  obtain ⟨s1, s2, s3, s4, s5, s6, s7, s8⟩ := hs
  refine ⟨wrI m 0 15 0, ?_, ?_⟩
  · unfold fX8_forget
    simp only [gw_nm, s5]
  · refine h.now hI (fun x y h0 hx => ?_) ⟨fun y hy => ?_, fun y hy => ?_, ?_, fun j p hp => ?_, ?_, fun j p hp => ?_, ?_, ?_⟩
    · rw [rd_wr, if_neg (by omega)]
    · simp (disch := omega) only [gw_nm, gw_b2, Option.bind_some, Option.bind_none, z_ix, z_cl, z_le, z_lt, z_eq, decide_eq_true_eq, if_true, if_false, ite_true, ite_false, eq_self, not_true_eq_false, not_false_eq_true, zl0, zl1, zl2, zl3, zl4, zl5, zl6, zl7, zl8, zl9, zl10, zl12, zl16, zl20, zl24, zl32, zl40, zl44, zl48, zl49, zl56, zl57, zl59, zl60, zl64, zl90, zl126, zl600, rd_nk]
      exact s1 y hy
    · simp (disch := omega) only [gw_nm, gw_b2, Option.bind_some, Option.bind_none, z_ix, z_cl, z_le, z_lt, z_eq, decide_eq_true_eq, if_true, if_false, ite_true, ite_false, eq_self, not_true_eq_false, not_false_eq_true, zl0, zl1, zl2, zl3, zl4, zl5, zl6, zl7, zl8, zl9, zl10, zl12, zl16, zl20, zl24, zl32, zl40, zl44, zl48, zl49, zl56, zl57, zl59, zl60, zl64, zl90, zl126, zl600, rd_nk]
      exact s2 y hy
    · simp (disch := omega) only [gw_nm, gw_b2, Option.bind_some, Option.bind_none, z_ix, z_cl, z_le, z_lt, z_eq, decide_eq_true_eq, if_true, if_false, ite_true, ite_false, eq_self, not_true_eq_false, not_false_eq_true, zl0, zl1, zl2, zl3, zl4, zl5, zl6, zl7, zl8, zl9, zl10, zl12, zl16, zl20, zl24, zl32, zl40, zl44, zl48, zl49, zl56, zl57, zl59, zl60, zl64, zl90, zl126, zl600, rd_nk, rd_nj]
      exact s3
    · simp (disch := omega) only [gw_nm, gw_b2, Option.bind_some, Option.bind_none, z_ix, z_cl, z_le, z_lt, z_eq, decide_eq_true_eq, if_true, if_false, ite_true, ite_false, eq_self, not_true_eq_false, not_false_eq_true, zl0, zl1, zl2, zl3, zl4, zl5, zl6, zl7, zl8, zl9, zl10, zl12, zl16, zl20, zl24, zl32, zl40, zl44, zl48, zl49, zl56, zl57, zl59, zl60, zl64, zl90, zl126, zl600, rd_nk]
      exact s4 j p hp
    · rw [rd_eq]; rfl
    · have hp : ([] : List (Nat × Nat))[j]? = some p := hp
      simp at hp
    · simp (disch := omega) only [gw_nm, gw_b2, Option.bind_some, Option.bind_none, z_ix, z_cl, z_le, z_lt, z_eq, decide_eq_true_eq, if_true, if_false, ite_true, ite_false, eq_self, not_true_eq_false, not_false_eq_true, zl0, zl1, zl2, zl3, zl4, zl5, zl6, zl7, zl8, zl9, zl10, zl12, zl16, zl20, zl24, zl32, zl40, zl44, zl48, zl49, zl56, zl57, zl59, zl60, zl64, zl90, zl126, zl600, rd_nk, rd_nj]
      exact s7
    · simp (disch := omega) only [gw_nm, gw_b2, Option.bind_some, Option.bind_none, z_ix, z_cl, z_le, z_lt, z_eq, decide_eq_true_eq, if_true, if_false, ite_true, ite_false, eq_self, not_true_eq_false, not_false_eq_true, zl0, zl1, zl2, zl3, zl4, zl5, zl6, zl7, zl8, zl9, zl10, zl12, zl16, zl20, zl24, zl32, zl40, zl44, zl48, zl49, zl56, zl57, zl59, zl60, zl64, zl90, zl126, zl600, rd_nk, rd_nj]
      exact s8
