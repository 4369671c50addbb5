/-! Calls that write, the class's side. -/
def updN {α : Type} (f : Nat → α) (i : Nat) (v : α) : Nat → α := fun j => if j = i then v else f j
theorem updN_eq {α : Type} (f : Nat → α) (i : Nat) (v : α) : updN f i v i = v := by simp [updN]
theorem updN_ne {α : Type} {f : Nat → α} {i j : Nat} {v : α} (h : j ≠ i) : updN f i v j = f j := by simp [updN, h]
theorem rcS.belt {c d : gw_S} {a : zS} {l : List zP} (h : rcS c 7 27 a) (hv : rcV c 9 27) (hd : agI c d 27 31) (hr : rcRow d 27 l) : rcS d 7 27 (zTown a, zSack a, l, zFound a, zSec a, zHarm a) := by
  obtain ⟨a1, a2, a3, a4, a5, a6, a7⟩ := h
  have a2 : ∀ h, h < 6 → rcRow c (rdR c 9 h) (zSack a h) := a2
  refine ⟨fun k hk => by rw [hd.2 _ _ (by omega)]; exact a1 k hk, fun k hk => ?_, hr, by rw [hd.2 _ _ (by omega)]; exact a4, fun j p hp => by rw [hd.2 _ _ (by omega), hd.2 _ _ (by omega)]; exact a5 j p hp, by rw [hd.2 _ _ (by omega)]; exact a6, by rw [hd.2 _ _ (by omega)]; exact a7⟩
  rw [hd.R]
  obtain ⟨r, hr, e⟩ := hv.1 k hk
  exact (a2 k hk).fr (fun i j hi => hd.2 _ _ (by omega))
theorem rcS.sack {c d : gw_S} {a : zS} {l : List zP} {i : Nat} (h : rcS c 7 27 a) (hv : rcV c 9 27) (hi : i < 6) (hd : agI c d (rdR c 9 i) (rdR c 9 i + 4)) (hr : rcRow d (rdR c 9 i) l) : rcS d 7 27 (zTown a, updN (zSack a) i l, zBelt a, zFound a, zSec a, zHarm a) := by
  obtain ⟨a1, a2, a3, a4, a5, a6, a7⟩ := h
  have a2 : ∀ h, h < 6 → rcRow c (rdR c 9 h) (zSack a h) := a2
  obtain ⟨r, hr', e⟩ := hv.1 i hi
  refine ⟨fun k hk => by rw [hd.2 _ _ (by omega)]; exact a1 k hk, fun k hk => ?_, a3.fr (fun i j hi => hd.2 _ _ (by omega)), by rw [hd.2 _ _ (by omega)]; exact a4, fun j p hp => by rw [hd.2 _ _ (by omega), hd.2 _ _ (by omega)]; exact a5 j p hp, by rw [hd.2 _ _ (by omega)]; exact a6, by rw [hd.2 _ _ (by omega)]; exact a7⟩
  rw [hd.R]
  by_cases hki : k = i
  · subst hki
    show rcRow d _ (updN (zSack a) k l k)
    rw [updN_eq]; exact hr
  · show rcRow d _ (updN (zSack a) i l k)
    rw [updN_ne hki]
    obtain ⟨r2, hr2, e2⟩ := hv.1 k hk
    have hne : rdR c 9 k ≠ rdR c 9 i := fun z => hki (hv.2 k i hk hi z)
    exact (a2 k hk).fr (fun x y hx => hd.2 _ _ (by omega))
theorem rcS.sec {c : gw_S} {a : zS} (h : rcS c 7 27 a) (hv : rcV c 9 27) (v : Int32) : rcS (wrI c 7 6 v) 7 27 (zTown a, zSack a, zBelt a, zFound a, v, zHarm a) := by
  obtain ⟨a1, a2, a3, a4, a5, a6, a7⟩ := h
  refine ⟨fun k hk => by rw [rd_nk (by omega)]; exact a1 k hk, fun k hk => ?_, a3.fr (fun i j hi => rd_nk (by omega)), by rw [rd_nj (by omega)]; exact a4, fun j p hp => by rw [rd_nk (by omega), rd_nk (by omega)]; exact a5 j p hp, rd_eq _ _ _ _, by rw [rd_nj (by omega)]; exact a7⟩
  obtain ⟨r, hr, e⟩ := hv.1 k hk
  have e' : rdR c (7 + 2) k = 27 + 4 + 4 * r := e
  exact (a2 k hk).fr (fun i j hi => rd_nk (by omega))
theorem rcS.harm {c : gw_S} {a : zS} (h : rcS c 7 27 a) (hv : rcV c 9 27) (v : Int32) : rcS (wrI c 7 7 v) 7 27 (zTown a, zSack a, zBelt a, zFound a, zSec a, v) := by
  obtain ⟨a1, a2, a3, a4, a5, a6, a7⟩ := h
  refine ⟨fun k hk => by rw [rd_nk (by omega)]; exact a1 k hk, fun k hk => ?_, a3.fr (fun i j hi => rd_nk (by omega)), by rw [rd_nj (by omega)]; exact a4, fun j p hp => by rw [rd_nk (by omega), rd_nk (by omega)]; exact a5 j p hp, by rw [rd_nj (by omega)]; exact a6, rd_eq _ _ _ _⟩
  obtain ⟨r, hr, e⟩ := hv.1 k hk
  have e' : rdR c (7 + 2) k = 27 + 4 + 4 * r := e
  exact (a2 k hk).fr (fun i j hi => rd_nk (by omega))
theorem rcV.agI {c d : gw_S} {k rb lo hi : Nat} (h : rcV c k rb) (hd : agI c d lo hi) : rcV d k rb := h.fr (fun j => hd.R k j)
theorem rcV.wr {c : gw_S} {k rb x y : Nat} {v : Int32} (h : rcV c k rb) : rcV (wrI c x y v) k rb := h.fr (fun _ => rfl)
-- letter, blank
def aLetter (P : List Nat) (x : Int32) : Int32 := if x < nI 32 then -102 else if nI 126 < x then -102 else if P.length < 24 then nI (P.length + 1) else -104
def nLetter (P : List Nat) (x : Int32) : List Nat := if x < nI 32 then P else if nI 126 < x then P else if P.length < 24 then P ++ [Int32.toNatClampNeg x] else P
theorem z_code {x : Int32} (h1 : ¬ x < nI 32) (h2 : ¬ nI 126 < x) : ∃ j, 32 ≤ j ∧ j ≤ 126 ∧ x = nI j := by
  rcases z_cases x with hx | ⟨j, hj, rfl⟩
  · exact absurd (z_negle hx (by omega)) h1
  · refine ⟨j, ?_, ?_, rfl⟩
    · exact Nat.not_lt.mp (fun q => h1 ((z_lt hj (by omega)).mpr q))
    · exact Nat.not_lt.mp (fun q => h2 ((z_lt (by omega) hj).mpr q))
theorem pC_letter {c : gw_S} {P : List Nat} {n : Nat} {Y R O : Nat → Nat} {fl : Nat} {a : zS} {k : Option zS} (h : rcAll c P n Y R O fl a k) (x : Int32) : ∃ d, fX7_letter x c = some (aLetter P x, d) ∧ rcAll d (nLetter P x) n Y R O fl a k := by
  have hpg := h.1
  unfold fX7_letter aLetter nLetter
  by_cases h1 : x < nI 32
  · exact ⟨c, by simp only [zl32, eq_true h1, if_true], by simp only [eq_true h1, if_true]; exact h⟩
  by_cases h2 : nI 126 < x
  · have : ¬ x ≤ nI 126 := fun q => by
      rw [Int32.le_iff_toInt_le] at q
      rw [Int32.lt_iff_toInt_lt] at h2
      omega
    exact ⟨c, by simp only [zl32, zl126, eq_false h1, eq_true h2, eq_false this, if_true, if_false], by simp only [eq_false h1, eq_true h2, if_true, if_false]; exact h⟩
  obtain ⟨j, j1, j2, rfl⟩ := z_code h1 h2
  have hle := hpg.2.1
  by_cases h3 : P.length < 24
  · refine ⟨wrI (wrI c 2 P.length (nI j)) 1 1 (nI (P.length + 1)), ?_, ?_⟩
    · unfold fX1_add
      simp (disch := omega) only [gw_nm, gw_b2, Option.bind_some, Option.bind_none, z_ix, z_cl, z_le, z_lt, z_eq, decide_eq_true_eq, if_true, if_false, ite_true, ite_false, eq_self, not_true_eq_false, not_false_eq_true, zl0, zl1, zl2, zl3, zl4, zl5, zl6, zl7, zl8, zl9, zl10, zl12, zl16, zl20, zl24, zl32, zl40, zl44, zl48, zl49, zl56, zl57, zl59, zl60, zl64, zl90, zl126, zl600, if_pos, if_neg, hpg.1, rd_nk, rd_eq, z_add]
    · simp only [eq_false h1, eq_false h2, eq_true h3, if_true, if_false]
      refine h.page ((agI.wr c 2 _ _ (by omega) (by omega)).trans (agI.wr _ 1 _ _ (by omega) (by omega))) ⟨?_, ?_, fun i v hv => ?_⟩
      · rw [rd_eq, List.length_append]; rfl
      · rw [List.length_append]; simp; omega
      · have hi := z_lt_of hv
        rw [List.length_append] at hi
        simp at hi
        rw [rd_nk (by omega)]
        by_cases e : i = P.length
        · subst e
          rw [List.getElem?_append_right (Nat.le_refl _), Nat.sub_self] at hv
          simp at hv
          subst hv
          rw [rd_eq, z_cl (by omega)]
        · rw [List.getElem?_append_left (by omega)] at hv
          rw [rd_nj e]
          exact hpg.2.2 i v hv
  · refine ⟨c, ?_, ?_⟩
    · simp (disch := omega) only [gw_nm, gw_b2, Option.bind_some, Option.bind_none, z_ix, z_cl, z_le, z_lt, z_eq, decide_eq_true_eq, if_true, if_false, ite_true, ite_false, eq_self, not_true_eq_false, not_false_eq_true, zl0, zl1, zl2, zl3, zl4, zl5, zl6, zl7, zl8, zl9, zl10, zl12, zl16, zl20, zl24, zl32, zl40, zl44, zl48, zl49, zl56, zl57, zl59, zl60, zl64, zl90, zl126, zl600, if_pos, if_neg, hpg.1]
    · simp only [eq_false h1, eq_false h2, eq_false h3, if_false]; exact h
theorem pC_blank {c : gw_S} {P : List Nat} {n : Nat} {Y R O : Nat → Nat} {fl : Nat} {a : zS} {k : Option zS} (h : rcAll c P n Y R O fl a k) : ∃ d, fX7_blank c = some (nI P.length, d) ∧ rcAll d [] n Y R O fl a k := by
  refine ⟨wrI c 1 1 0, ?_, ?_⟩
  · unfold fX7_blank
    simp only [gw_nm, h.1.1]
  · exact h.page (agI.wr c 1 _ _ (by omega) (by omega)) ⟨by rw [rd_eq]; rfl, by simp, fun j v hv => by simp at hv⟩
-- parcel
def aParcel (n : Nat) (a : zS) (x y : Int32) : Int32 := if zK 5 x = true then (if zK n y = true then (if (zBelt a).length < 8 then nI ((zBelt a).length + 1) else -104) else -101) else -102
def nParcel (n : Nat) (a : zS) (x y : Int32) : zS := if zK 5 x = true then (if zK n y = true then (if (zBelt a).length < 8 then (zTown a, zSack a, zBelt a ++ [(Int32.toNatClampNeg x, Int32.toNatClampNeg y, false)], zFound a, zSec a, zHarm a) else a) else a) else a
theorem pC_parcel {c : gw_S} {P : List Nat} {n : Nat} {Y R O : Nat → Nat} {fl : Nat} {a : zS} {k : Option zS} (h : rcAll c P n Y R O fl a k) (hI : zInv P n Y R O fl a k) (x y : Int32) : ∃ d, fX7_parcel x y c = some (aParcel n a x y, d) ∧ rcAll d P n Y R O fl (nParcel n a x y) k := by
  obtain ⟨-, hp, hv, -, hs, -⟩ := id h
  have hn := hI.n6
  have hb := hs.2.2.1
  unfold fX7_parcel aParcel nParcel
  rw [pC_kind, pC_known hp.1 hn, hb.1]
  cases h1 : zK 5 x with
  | false => exact ⟨c, by simp [zb], by simpa using h⟩
  | true =>
    cases h2 : zK n y with
    | false => exact ⟨c, by simp [zb], by simpa using h⟩
    | true =>
      obtain ⟨kk, hkk, rfl⟩ := zK_t h1 (by omega)
      obtain ⟨t, ht, rfl⟩ := zK_t h2 (by omega)
      by_cases h3 : (zBelt a).length < 8
      · obtain ⟨d, d1, d2, d3⟩ := pR_add hb (by omega) kk t false
        refine ⟨d, ?_, ?_⟩
        · rw [zb_f] at d1
          have e := d3.1
          rw [List.length_append] at e
          simp only [zb_t, show ¬ ((1 : Int32) = 0) by decide, if_false, d1, Option.bind_some, e, zl8, z_lt (show (zBelt a).length < 2147483648 by omega) (show 8 < 2147483648 by omega), eq_true h3, if_true]
          rfl
        · simp only [eq_true h3, if_true, z_cl (show kk < 2147483648 by omega), z_cl (show t < 2147483648 by omega)]
          exact h.now (fun i j hij => d2.2 _ _ (by omega)) (fun j => d2.R _ _) (hv.agI d2) (hs.belt hv d2 d3) rfl
      · refine ⟨c, ?_, ?_⟩
        · simp only [zb_t, show ¬ ((1 : Int32) = 0) by decide, if_false, zl8, z_lt (show (zBelt a).length < 2147483648 by have := hb.2.1; omega) (show 8 < 2147483648 by omega), eq_false h3, if_true]
        · simp only [eq_false h3, if_true, if_false]; exact h
-- change
def aChange (n : Nat) (a : zS) (x : Int32) : Int32 := if zK n x = true then nI (zSack a (Int32.toNatClampNeg x)).length else -101
def nChange (n : Nat) (a : zS) (x : Int32) : zS := if zK n x = true then (zTown a, updN (zSack a) (Int32.toNatClampNeg x) [], zBelt a, zFound a, zSec a + 40, zHarm a) else a
theorem pC_change {c : gw_S} {P : List Nat} {n : Nat} {Y R O : Nat → Nat} {fl : Nat} {a : zS} {k : Option zS} (h : rcAll c P n Y R O fl a k) (hI : zInv P n Y R O fl a k) (x : Int32) : ∃ d, fX7_change x c = some (aChange n a x, d) ∧ rcAll d P n Y R O fl (nChange n a x) k := by
  obtain ⟨-, hp, hv, -, hs, -⟩ := id h
  have hn := hI.n6
  unfold fX7_change aChange nChange
  rw [pC_known hp.1 hn]
  cases h1 : zK n x with
  | false => exact ⟨c, by simp [zb], by simpa using h⟩
  | true =>
    obtain ⟨i, hi, rfl⟩ := zK_t h1 (by omega)
    have hrow := rcV_row hv (Or.inl rfl) (show i < 6 by omega)
    have e2 := hs.2.1 i (by omega)
    obtain ⟨r, hr, er⟩ := hv.1 i (by omega)
    have d2 : agI c (wrI c (rdR c 9 i) 3 0) (rdR c 9 i) (rdR c 9 i + 4) := agI.wr _ _ _ _ (by omega) (by omega)
    have d3 : rcRow (wrI c (rdR c 9 i) 3 0) (rdR c 9 i) [] := ⟨by rw [rd_eq]; rfl, by simp, fun j p hp => by simp at hp⟩
    have hs1 := hs.sack hv (by omega) d2 d3
    have hs2 := hs1.sec (hv.agI d2) (zSec a + 40)
    refine ⟨wrI (wrI c (rdR c 9 i) 3 0) 7 6 (zSec a + 40), ?_, ?_⟩
    · simp only [zb_t, show ¬ ((1 : Int32) = 0) by decide, if_false, gw_nm, z_ix (show i < 2147483648 by omega), z_cl (show i < 2147483648 by omega), show (i < 6) = True from eq_true (by omega), decide_true, if_true, hrow, e2.1]
      rw [rd_nk (by omega), hs.2.2.2.2.2.1]
    · simp only [if_true, z_cl (show i < 2147483648 by omega)]
      exact h.now (fun x y hxy => by rw [rd_nk (by omega), rd_nk (by omega)]) (fun _ => rfl) ((hv.agI d2).wr) hs2 rfl
-- exchange
def aExch (n : Nat) (R : Nat → Nat) (a : zS) (x y : Int32) : Int32 :=
  if zK n x = true then (if zK n y = true then (if x = y then -101 else
    (let i := Int32.toNatClampNeg x
     let j := Int32.toNatClampNeg y
     if R j < (zSack a i).length then -103 else if R i < (zSack a j).length then -103 else zSec a + 10)) else -101) else -101
def zSwap {α : Type} (f : Nat → α) (i j : Nat) : Nat → α := updN (updN f i (f j)) j (f i)
def nExch (n : Nat) (R : Nat → Nat) (a : zS) (x y : Int32) : zS :=
  if zK n x = true then (if zK n y = true then (if x = y then a else
    (let i := Int32.toNatClampNeg x
     let j := Int32.toNatClampNeg y
     if R j < (zSack a i).length then a else if R i < (zSack a j).length then a else (zSwap (zTown a) i j, zSwap (zSack a) i j, zBelt a, zFound a, zSec a + 10, zHarm a))) else a) else a
theorem pC_swap {c : gw_S} {a : zS} (hv : rcV c 9 27) (hs : rcS c 7 27 a) {i j : Nat} (hi : i < 6) (hj : j < 6) (hij : i ≠ j) : ∃ d, fX4_swap (nI i) (nI j) c = some d ∧ (∀ x y, x ≠ 8 → rdI d x y = rdI c x y) ∧ (∀ y, rdR d 14 y = rdR c 14 y) ∧ rcV d 9 27 ∧ rcS d 7 27 (zSwap (zTown a) i j, zSwap (zSack a) i j, zBelt a, zFound a, zSec a, zHarm a) := by
  have hri := rcV_row hv (Or.inl rfl) hi
  have hrj := rcV_row hv (Or.inl rfl) hj
  have hR : ∀ y, rdR (wrI (wrI (wrR (wrR c 9 i (rdR c 9 j)) 9 j (rdR c 9 i)) 8 i (nI (zTown a j))) 8 j (nI (zTown a i))) 9 y = zSwap (rdR c 9) i j y := by
    intro y
    simp only [rR_wI, rR_wr, true_and, zSwap, updN]
  have hv' : rcV (wrI (wrI (wrR (wrR c 9 i (rdR c 9 j)) 9 j (rdR c 9 i)) 8 i (nI (zTown a j))) 8 j (nI (zTown a i))) 9 27 := by
    refine ⟨fun y hy => ?_, fun y y' hy hy' e => ?_⟩
    · rw [hR]
      unfold zSwap updN
      split
      · exact hv.1 i hi
      · split
        · exact hv.1 j hj
        · exact hv.1 y hy
    · rw [hR, hR] at e
      unfold zSwap updN at e
      have inj := hv.2
      split at e <;> split at e <;> try (split at e) <;> try (split at e)
      all_goals (first | (have := inj _ _ (by assumption) (by assumption) e; omega) | (have := inj _ _ hi (by assumption) e; omega) | (have := inj _ _ hj (by assumption) e; omega) | (have := inj _ _ (by assumption) hi e; omega) | (have := inj _ _ (by assumption) hj e; omega) | (have := inj _ _ hi hj e; omega) | (have := inj _ _ hj hi e; omega) | omega)
  refine ⟨_, ?_, fun x y hx => ?_, fun y => ?_, hv', ?_⟩
  · unfold fX4_swap
    have e1 := hs.1 i hi
    have e2 := hs.1 j hj
    simp only [gw_nm, z_ix (show i < 2147483648 by omega), z_cl (show i < 2147483648 by omega), z_ix (show j < 2147483648 by omega), z_cl (show j < 2147483648 by omega), eq_true hi, eq_true hj, decide_true, if_true, hri, hrj, rd_wR, e1, e2]
  · rw [rd_nk hx, rd_nk hx, rd_wR, rd_wR]
  · simp [rR_wI, rR_wr]
  · obtain ⟨a1, a2, a3, a4, a5, a6, a7⟩ := hs
    have a2 : ∀ h, h < 6 → rcRow c (rdR c 9 h) (zSack a h) := a2
    refine ⟨fun y hy => ?_, fun y hy => ?_, a3.fr (fun x y hx => by rw [rd_nk (by omega), rd_nk (by omega), rd_wR, rd_wR]), by rw [rd_nk (by omega), rd_nk (by omega), rd_wR, rd_wR]; exact a4, fun x p hp => by rw [rd_nk (by omega), rd_nk (by omega), rd_wR, rd_wR, rd_nk (by omega), rd_nk (by omega), rd_wR, rd_wR]; exact a5 x p hp, by rw [rd_nk (by omega), rd_nk (by omega), rd_wR, rd_wR]; exact a6, by rw [rd_nk (by omega), rd_nk (by omega), rd_wR, rd_wR]; exact a7⟩
    · show _ = nI (zSwap (zTown a) i j y)
      unfold zSwap updN
      rw [rd_wr]
      by_cases h1 : y = j
      · subst h1; simp
      · rw [if_neg (fun z => h1 z.2), rd_wr]
        by_cases h2 : y = i
        · subst h2; simp [h1]
        · rw [if_neg (fun z => h2 z.2), if_neg h1, if_neg h2, rd_wR, rd_wR]; exact a1 y hy
    · show rcRow _ (rdR _ 9 y) (zSwap (zSack a) i j y)
      rw [hR]
      have key : ∀ z, z < 6 → rcRow (wrI (wrI (wrR (wrR c 9 i (rdR c 9 j)) 9 j (rdR c 9 i)) 8 i (nI (zTown a j))) 8 j (nI (zTown a i))) (rdR c 9 z) (zSack a z) := by
        intro z hz
        obtain ⟨r, hr, e⟩ := hv.1 z hz
        exact (a2 z hz).fr (fun x y hx => by rw [rd_nk (by omega), rd_nk (by omega), rd_wR, rd_wR])
      unfold zSwap updN
      split
      · exact key i hi
      · split
        · exact key j hj
        · exact key y hy
theorem pC_exch {c : gw_S} {P : List Nat} {n : Nat} {Y R O : Nat → Nat} {fl : Nat} {a : zS} {k : Option zS} (h : rcAll c P n Y R O fl a k) (hI : zInv P n Y R O fl a k) (x y : Int32) : ∃ d, fX7_exchange x y c = some (aExch n R a x y, d) ∧ rcAll d P n Y R O fl (nExch n R a x y) k := by
  obtain ⟨-, hp, hv, -, hs, -⟩ := id h
  have hn := hI.n6
  unfold fX7_exchange aExch nExch
  rw [pC_known hp.1 hn, pC_known hp.1 hn]
  cases h1 : zK n x with
  | false => exact ⟨c, by simp [zb], by simpa using h⟩
  | true =>
    cases h2 : zK n y with
    | false => exact ⟨c, by simp [zb], by simpa using h⟩
    | true =>
      obtain ⟨i, hi, rfl⟩ := zK_t h1 (by omega)
      obtain ⟨j, hj, rfl⟩ := zK_t h2 (by omega)
      by_cases hij : i = j
      · subst hij
        exact ⟨c, by simp [zb], by simpa using h⟩
      have hne : ¬ nI i = nI j := fun q => hij ((z_eq (by omega) (by omega)).mp q)
      have hri := rcV_row hv (Or.inl rfl) (show i < 6 by omega)
      have hrj := rcV_row hv (Or.inl rfl) (show j < 6 by omega)
      have ei := hs.2.1 i (by omega)
      have ej := hs.2.1 j (by omega)
      have hRi := (hI.2.1.2 i hi).2.1.2
      have hRj := (hI.2.1.2 j hj).2.1.2
      have li := ei.2.1
      have lj := ej.2.1
      simp only [zb_t, show ¬ ((1 : Int32) = 0) by decide, if_false, if_true, hne, gw_nm, z_ix (show i < 2147483648 by omega), z_cl (show i < 2147483648 by omega), z_ix (show j < 2147483648 by omega), z_cl (show j < 2147483648 by omega), show (i < 6) = True from eq_true (by omega), show (j < 6) = True from eq_true (by omega), decide_true, hri, hrj, ei.1, ej.1, (hp.2 i hi).2.1, (hp.2 j hj).2.1, z_lt (show R j < 2147483648 by omega) (show (zSack a i).length < 2147483648 by omega), z_le (show (zSack a j).length < 2147483648 by omega) (show R i < 2147483648 by omega)]
      by_cases h3 : R j < (zSack a i).length
      · exact ⟨c, by simp only [eq_true h3, if_true], by simp only [eq_true h3, if_true]; exact h⟩
      by_cases h4 : R i < (zSack a j).length
      · have : ¬ (zSack a j).length ≤ R i := by omega
        exact ⟨c, by simp only [eq_false h3, eq_true h4, eq_false this, if_true, if_false], by simp only [eq_false h3, eq_true h4, if_true, if_false]; exact h⟩
      have h4' : (zSack a j).length ≤ R i := by omega
      obtain ⟨d, d1, d2, d3, d4, d5⟩ := pC_swap hv hs (show i < 6 by omega) (show j < 6 by omega) hij
      refine ⟨wrI d 7 6 (zSec a + 10), ?_, ?_⟩
      · simp only [eq_false h3, eq_false h4, eq_true h4', if_true, if_false, d1, Option.bind_some, d2 7 6 (by omega), hs.2.2.2.2.2.1, rd_eq]
      · simp only [eq_false h3, eq_false h4, if_false]
        exact h.now (fun x y hxy => by rw [rd_nk (by omega), d2 _ _ (by omega)]) (fun y => d3 y) d4.wr (d5.sec d4 _) rfl
