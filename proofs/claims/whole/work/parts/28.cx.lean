/-! found, forget, toss, carry: the class's side. -/
theorem rcAll.nowW {c d : gw_S} {P : List Nat} {n : Nat} {Y R O : Nat → Nat} {fl : Nat} {a a' : zS} {k : Option zS} (h : rcAll c P n Y R O fl a k) (hd : ∀ i j, (i < 7 ∨ (12 ≤ i ∧ i < 27) ∨ 55 ≤ i) → ¬ (i = 21 ∧ j = 3) → rdI d i j = rdI c i j) (hw : rdI d 21 3 = 0) (hR : ∀ j, rdR d 14 j = rdR c 14 j) (hv : rcV d 9 27) (hs : rcS d 7 27 a') : rcAll d P n Y R O fl a' k := by
  obtain ⟨h1, h2, h3, h4, h5, h6, h7, h8, h9, h10⟩ := h
  refine ⟨h1.fr (hd _ _ (by omega) (by omega)) (fun j => hd _ _ (by omega) (by omega)), h2.fr (fun i j _ _ => hd _ _ (by omega) (by omega)), hv, h4.fr hR, hs, by rw [hd _ _ (by omega) (by omega)]; exact h6, fun ka hk => ?_, fun hk => by rw [hd _ _ (by omega) (by omega)]; exact h8 hk, fun h0 => ?_, Or.inl hw⟩
  · obtain ⟨x, y⟩ := h7 ka hk
    exact ⟨by rw [hd _ _ (by omega) (by omega)]; exact x, y.fr h4 hR (fun i j _ _ => hd _ _ (by omega) (by omega)) (fun i j _ _ => hd _ _ (by omega) (by omega))⟩
  · rw [hd _ _ (by omega) (by omega)]
    exact ⟨(h9 h0).1, fun x hx => by rw [hd _ _ (by omega) (by omega)]; exact (h9 h0).2 x hx⟩
def aFound (n : Nat) (a : zS) (x y : Int32) : Int32 := if zK n x = true then (if zK n y = true then (if x = y then -101 else if (zFound a).length < 8 then nI ((zFound a).length + 1) else -104) else -101) else -101
def nFound (n : Nat) (a : zS) (x y : Int32) : zS := if zK n x = true then (if zK n y = true then (if x = y then a else if (zFound a).length < 8 then (zTown a, zSack a, zBelt a, zFound a ++ [(Int32.toNatClampNeg x, Int32.toNatClampNeg y)], zSec a, zHarm a) else a) else a) else a
theorem pC_found {c : gw_S} {P : List Nat} {n : Nat} {Y R O : Nat → Nat} {fl : Nat} {a : zS} {k : Option zS} (h : rcAll c P n Y R O fl a k) (hI : zInv P n Y R O fl a k) (x y : Int32) : ∃ d, fX7_found x y c = some (aFound n a x y, d) ∧ rcAll d P n Y R O fl (nFound n a x y) k := by
  obtain ⟨-, hp, hv, -, hs, -⟩ := id h
  have hn := hI.n6
  unfold fX7_found aFound nFound
  rw [pC_known hp.1 hn, pC_known hp.1 hn]
  cases h1 : zK n x with
  | false => exact ⟨c, by simp [zb], by simpa using h⟩
  | true =>
    cases h2 : zK n y with
    | false => exact ⟨c, by simp [zb], by simpa using h⟩
    | true =>
      obtain ⟨i, hi, rfl⟩ := zK_t h1 (by omega)
      obtain ⟨j, hj, rfl⟩ := zK_t h2 (by omega)
      by_cases hij : i = j
      · subst hij
        exact ⟨c, by simp [zb], by simpa using h⟩
      have hne : ¬ nI i = nI j := fun q => hij ((z_eq (by omega) (by omega)).mp q)
      have h8 := hI.2.2.2.1.2.2.2.2.2.2.2.1
      obtain ⟨a1, a2, a3, a4, a5, a6, a7⟩ := hs
      have a2 : ∀ h, h < 6 → rcRow c (rdR c 9 h) (zSack a h) := a2
      have a5 : ∀ j p, (zFound a)[j]? = some p → rdI c 10 j = nI p.1 ∧ rdI c 11 j = nI p.2 := a5
      by_cases h3 : (zFound a).length < 8
      · refine ⟨wrI (wrI (wrI (wrI c 10 (zFound a).length (nI i)) 11 (zFound a).length (nI j)) 7 5 (nI ((zFound a).length + 1))) 21 3 0, ?_, ?_⟩
        · unfold fX4_addFound
          simp only [zb_t, hne, if_true, if_false, show ¬ ((1 : Int32) = 0) by decide]
          simp (disch := omega) only [gw_nm, gw_b2, Option.bind_some, Option.bind_none, z_ix, z_cl, z_le, z_lt, z_eq, decide_eq_true_eq, if_true, if_false, ite_true, ite_false, eq_self, not_true_eq_false, not_false_eq_true, zl0, zl1, zl2, zl3, zl4, zl5, zl6, zl7, zl8, zl9, zl10, zl12, zl16, zl20, zl24, zl32, zl40, zl44, zl48, zl49, zl56, zl57, zl59, zl60, zl64, zl90, zl126, zl600, if_pos, if_neg, a4, rd_nk, rd_eq, z_add, h3, z_neg0]
        · simp only [if_true, if_false, hne, eq_true h3, z_cl (show i < 2147483648 by omega), z_cl (show j < 2147483648 by omega)]
          refine h.nowW (fun x y hxy hne => ?_) (rd_eq _ _ _ _) (fun _ => rfl) (hv.wr.wr.wr.wr) ⟨fun y hy => ?_, fun y hy => ?_, a3.fr (fun x y hx => ?_), ?_, fun x p hp => ?_, ?_, ?_⟩
          · rw [rd_wr, if_neg hne]
            simp (disch := omega) only [gw_nm, gw_b2, Option.bind_some, Option.bind_none, z_ix, z_cl, z_le, z_lt, z_eq, decide_eq_true_eq, if_true, if_false, ite_true, ite_false, eq_self, not_true_eq_false, not_false_eq_true, zl0, zl1, zl2, zl3, zl4, zl5, zl6, zl7, zl8, zl9, zl10, zl12, zl16, zl20, zl24, zl32, zl40, zl44, zl48, zl49, zl56, zl57, zl59, zl60, zl64, zl90, zl126, zl600, rd_nk]
          · simp (disch := omega) only [gw_nm, gw_b2, Option.bind_some, Option.bind_none, z_ix, z_cl, z_le, z_lt, z_eq, decide_eq_true_eq, if_true, if_false, ite_true, ite_false, eq_self, not_true_eq_false, not_false_eq_true, zl0, zl1, zl2, zl3, zl4, zl5, zl6, zl7, zl8, zl9, zl10, zl12, zl16, zl20, zl24, zl32, zl40, zl44, zl48, zl49, zl56, zl57, zl59, zl60, zl64, zl90, zl126, zl600, rd_nk]
            exact a1 y hy
          · obtain ⟨r, hr, e⟩ := hv.1 y hy
            exact (a2 y hy).fr (fun x y hx => by simp (disch := omega) only [gw_nm, gw_b2, Option.bind_some, Option.bind_none, z_ix, z_cl, z_le, z_lt, z_eq, decide_eq_true_eq, if_true, if_false, ite_true, ite_false, eq_self, not_true_eq_false, not_false_eq_true, zl0, zl1, zl2, zl3, zl4, zl5, zl6, zl7, zl8, zl9, zl10, zl12, zl16, zl20, zl24, zl32, zl40, zl44, zl48, zl49, zl56, zl57, zl59, zl60, zl64, zl90, zl126, zl600, rd_nk])
          · simp (disch := omega) only [gw_nm, gw_b2, Option.bind_some, Option.bind_none, z_ix, z_cl, z_le, z_lt, z_eq, decide_eq_true_eq, if_true, if_false, ite_true, ite_false, eq_self, not_true_eq_false, not_false_eq_true, zl0, zl1, zl2, zl3, zl4, zl5, zl6, zl7, zl8, zl9, zl10, zl12, zl16, zl20, zl24, zl32, zl40, zl44, zl48, zl49, zl56, zl57, zl59, zl60, zl64, zl90, zl126, zl600, rd_nk]
          · show _ = nI (zFound a ++ [(i, j)]).length
            rw [List.length_append]
            simp (disch := omega) only [gw_nm, gw_b2, Option.bind_some, Option.bind_none, z_ix, z_cl, z_le, z_lt, z_eq, decide_eq_true_eq, if_true, if_false, ite_true, ite_false, eq_self, not_true_eq_false, not_false_eq_true, zl0, zl1, zl2, zl3, zl4, zl5, zl6, zl7, zl8, zl9, zl10, zl12, zl16, zl20, zl24, zl32, zl40, zl44, zl48, zl49, zl56, zl57, zl59, zl60, zl64, zl90, zl126, zl600, rd_nk, rd_eq]
            rfl
          · have hp : (zFound a ++ [(i, j)])[x]? = some p := hp
            have hx := z_lt_of hp
            rw [List.length_append] at hx
            simp at hx
            by_cases e : x = (zFound a).length
            · subst e
              rw [List.getElem?_append_right (Nat.le_refl _), Nat.sub_self] at hp
              simp at hp
              subst hp
              simp (disch := omega) only [gw_nm, gw_b2, Option.bind_some, Option.bind_none, z_ix, z_cl, z_le, z_lt, z_eq, decide_eq_true_eq, if_true, if_false, ite_true, ite_false, eq_self, not_true_eq_false, not_false_eq_true, zl0, zl1, zl2, zl3, zl4, zl5, zl6, zl7, zl8, zl9, zl10, zl12, zl16, zl20, zl24, zl32, zl40, zl44, zl48, zl49, zl56, zl57, zl59, zl60, zl64, zl90, zl126, zl600, rd_nk, rd_eq, and_self]
            · rw [List.getElem?_append_left (by omega)] at hp
              simp (disch := omega) only [gw_nm, gw_b2, Option.bind_some, Option.bind_none, z_ix, z_cl, z_le, z_lt, z_eq, decide_eq_true_eq, if_true, if_false, ite_true, ite_false, eq_self, not_true_eq_false, not_false_eq_true, zl0, zl1, zl2, zl3, zl4, zl5, zl6, zl7, zl8, zl9, zl10, zl12, zl16, zl20, zl24, zl32, zl40, zl44, zl48, zl49, zl56, zl57, zl59, zl60, zl64, zl90, zl126, zl600, rd_nk, rd_nj, a5 x p hp, and_self]
          · simp (disch := omega) only [gw_nm, gw_b2, Option.bind_some, Option.bind_none, z_ix, z_cl, z_le, z_lt, z_eq, decide_eq_true_eq, if_true, if_false, ite_true, ite_false, eq_self, not_true_eq_false, not_false_eq_true, zl0, zl1, zl2, zl3, zl4, zl5, zl6, zl7, zl8, zl9, zl10, zl12, zl16, zl20, zl24, zl32, zl40, zl44, zl48, zl49, zl56, zl57, zl59, zl60, zl64, zl90, zl126, zl600, rd_nk, rd_nj]
            exact a6
          · simp (disch := omega) only [gw_nm, gw_b2, Option.bind_some, Option.bind_none, z_ix, z_cl, z_le, z_lt, z_eq, decide_eq_true_eq, if_true, if_false, ite_true, ite_false, eq_self, not_true_eq_false, not_false_eq_true, zl0, zl1, zl2, zl3, zl4, zl5, zl6, zl7, zl8, zl9, zl10, zl12, zl16, zl20, zl24, zl32, zl40, zl44, zl48, zl49, zl56, zl57, zl59, zl60, zl64, zl90, zl126, zl600, rd_nk, rd_nj]
            exact a7
      · refine ⟨c, ?_, ?_⟩
        · simp only [zb_t, show ¬ ((1 : Int32) = 0) by decide, if_false, hne, a4, zl8, z_lt (show (zFound a).length < 2147483648 by omega) (show 8 < 2147483648 by omega), eq_false h3, if_true]
        · simp only [eq_false h3, if_true, if_false, hne]; exact h
def nForget (a : zS) : zS := (zTown a, zSack a, zBelt a, [], zSec a, zHarm a)
theorem pC_forget {c : gw_S} {P : List Nat} {n : Nat} {Y R O : Nat → Nat} {fl : Nat} {a : zS} {k : Option zS} (h : rcAll c P n Y R O fl a k) : ∃ d, fX7_forget c = some (nI (zFound a).length, d) ∧ rcAll d P n Y R O fl (nForget a) k := by
  obtain ⟨-, hp, hv, -, hs, -⟩ := id h
  obtain ⟨a1, a2, a3, a4, a5, a6, a7⟩ := hs
  have a2 : ∀ h, h < 6 → rcRow c (rdR c 9 h) (zSack a h) := a2
  refine ⟨wrI (wrI c 7 5 0) 21 3 0, ?_, ?_⟩
  · unfold fX7_forget
    simp only [gw_nm, a4]
  · refine h.nowW (fun x y hxy hne => ?_) (rd_eq _ _ _ _) (fun _ => rfl) (hv.wr.wr) ⟨fun y hy => ?_, fun y hy => ?_, a3.fr (fun x y hx => ?_), ?_, fun x p hp => ?_, ?_, ?_⟩
    · rw [rd_wr, if_neg hne]
      simp (disch := omega) only [gw_nm, gw_b2, Option.bind_some, Option.bind_none, z_ix, z_cl, z_le, z_lt, z_eq, decide_eq_true_eq, if_true, if_false, ite_true, ite_false, eq_self, not_true_eq_false, not_false_eq_true, zl0, zl1, zl2, zl3, zl4, zl5, zl6, zl7, zl8, zl9, zl10, zl12, zl16, zl20, zl24, zl32, zl40, zl44, zl48, zl49, zl56, zl57, zl59, zl60, zl64, zl90, zl126, zl600, rd_nk]
    · simp (disch := omega) only [gw_nm, gw_b2, Option.bind_some, Option.bind_none, z_ix, z_cl, z_le, z_lt, z_eq, decide_eq_true_eq, if_true, if_false, ite_true, ite_false, eq_self, not_true_eq_false, not_false_eq_true, zl0, zl1, zl2, zl3, zl4, zl5, zl6, zl7, zl8, zl9, zl10, zl12, zl16, zl20, zl24, zl32, zl40, zl44, zl48, zl49, zl56, zl57, zl59, zl60, zl64, zl90, zl126, zl600, rd_nk]
      exact a1 y hy
    · obtain ⟨r, hr, e⟩ := hv.1 y hy
      exact (a2 y hy).fr (fun x y hx => by simp (disch := omega) only [gw_nm, gw_b2, Option.bind_some, Option.bind_none, z_ix, z_cl, z_le, z_lt, z_eq, decide_eq_true_eq, if_true, if_false, ite_true, ite_false, eq_self, not_true_eq_false, not_false_eq_true, zl0, zl1, zl2, zl3, zl4, zl5, zl6, zl7, zl8, zl9, zl10, zl12, zl16, zl20, zl24, zl32, zl40, zl44, zl48, zl49, zl56, zl57, zl59, zl60, zl64, zl90, zl126, zl600, rd_nk])
    · simp (disch := omega) only [gw_nm, gw_b2, Option.bind_some, Option.bind_none, z_ix, z_cl, z_le, z_lt, z_eq, decide_eq_true_eq, if_true, if_false, ite_true, ite_false, eq_self, not_true_eq_false, not_false_eq_true, zl0, zl1, zl2, zl3, zl4, zl5, zl6, zl7, zl8, zl9, zl10, zl12, zl16, zl20, zl24, zl32, zl40, zl44, zl48, zl49, zl56, zl57, zl59, zl60, zl64, zl90, zl126, zl600, rd_nk]
    · simp (disch := omega) only [gw_nm, gw_b2, Option.bind_some, Option.bind_none, z_ix, z_cl, z_le, z_lt, z_eq, decide_eq_true_eq, if_true, if_false, ite_true, ite_false, eq_self, not_true_eq_false, not_false_eq_true, zl0, zl1, zl2, zl3, zl4, zl5, zl6, zl7, zl8, zl9, zl10, zl12, zl16, zl20, zl24, zl32, zl40, zl44, zl48, zl49, zl56, zl57, zl59, zl60, zl64, zl90, zl126, zl600, rd_nk, rd_eq]
      rfl
    · have hp : ([] : List (Nat × Nat))[x]? = some p := hp
      simp at hp
    · simp (disch := omega) only [gw_nm, gw_b2, Option.bind_some, Option.bind_none, z_ix, z_cl, z_le, z_lt, z_eq, decide_eq_true_eq, if_true, if_false, ite_true, ite_false, eq_self, not_true_eq_false, not_false_eq_true, zl0, zl1, zl2, zl3, zl4, zl5, zl6, zl7, zl8, zl9, zl10, zl12, zl16, zl20, zl24, zl32, zl40, zl44, zl48, zl49, zl56, zl57, zl59, zl60, zl64, zl90, zl126, zl600, rd_nk, rd_nj]
      exact a6
    · simp (disch := omega) only [gw_nm, gw_b2, Option.bind_some, Option.bind_none, z_ix, z_cl, z_le, z_lt, z_eq, decide_eq_true_eq, if_true, if_false, ite_true, ite_false, eq_self, not_true_eq_false, not_false_eq_true, zl0, zl1, zl2, zl3, zl4, zl5, zl6, zl7, zl8, zl9, zl10, zl12, zl16, zl20, zl24, zl32, zl40, zl44, zl48, zl49, zl56, zl57, zl59, zl60, zl64, zl90, zl126, zl600, rd_nk, rd_nj]
      exact a7
-- the first on the belt into a sack
def agN (c d : gw_S) : Prop := d.2 = c.2 ∧ ∀ i j, (i < 7 ∨ (12 ≤ i ∧ i < 27) ∨ 55 ≤ i) → rdI d i j = rdI c i j
theorem agN.trans {c d e : gw_S} (h1 : agN c d) (h2 : agN d e) : agN c e := ⟨h2.1.trans h1.1, fun i j h => (h2.2 i j h).trans (h1.2 i j h)⟩
theorem agN.refl (c : gw_S) : agN c c := ⟨rfl, fun _ _ _ => rfl⟩
theorem agN.of {c d : gw_S} {lo hi : Nat} (h : agI c d lo hi) (hr : (7 ≤ lo ∧ hi ≤ 12) ∨ (27 ≤ lo ∧ hi ≤ 55)) : agN c d := ⟨h.1, fun i j hij => h.2 i j (by omega)⟩
theorem agN.R {c d : gw_S} (h : agN c d) (a b : Nat) : rdR d a b = rdR c a b := by unfold rdR; rw [h.1]
theorem rcV.agN {c d : gw_S} {k rb : Nat} (h : rcV c k rb) (hd : agN c d) : rcV d k rb := h.fr (fun j => hd.R k j)
def zPut (a : zS) (i : Nat) (flew : Bool) : zS := match zBelt a with
  | [] => a
  | p :: rest => (zTown a, updN (zSack a) i ((if p.1 = 4 then (zSack a i).map zHz else zSack a i) ++ [(p.1, p.2.1, flew && decide (p.1 = 3))]), rest, zFound a, zSec a, zHarm a + ((if p.1 = 4 then nI (zWhole (zSack a i)) else 0) + zb (flew && decide (p.1 = 3))))
theorem zPut_found (a : zS) (i : Nat) (f : Bool) : zFound (zPut a i f) = zFound a := by unfold zPut; split <;> rfl
theorem zPut_sec (a : zS) (i : Nat) (f : Bool) : zSec (zPut a i f) = zSec a := by unfold zPut; split <;> rfl
theorem updN_updN {α : Type} (f : Nat → α) (i : Nat) (v w : α) : updN (updN f i v) i w = updN f i w := by
  funext j; unfold updN; split <;> rfl
theorem pC_J77 {c : gw_S} {a : zS} (hv : rcV c 9 27) (hs : rcS c 7 27 a) {i : Nat} (hi : i < 6) {p : zP} {rest : List zP} (hb : zBelt a = p :: rest) (hl : (zSack a i).length < 9) (f : Bool) : ∃ d, fX4_putFirst_J77 (nI i) (nI p.1) (zb f) c = some d ∧ agN c d ∧ rcS d 7 27 (zTown a, updN (zSack a) i (zSack a i ++ [(p.1, p.2.1, f)]), rest, zFound a, zSec a, zHarm a) := by
  have hri := rcV_row hv (Or.inl rfl) hi
  obtain ⟨r, hr, er⟩ := hv.1 i hi
  have hrow : rcRow c (rdR c 9 i) (zSack a i) := hs.2.1 i hi
  have hbelt := hs.2.2.1
  have w1 := pR_townAt hbelt (j := 0) (by omega)
  have w2 : zTat (zBelt a) 0 = nI p.2.1 := by rw [hb]; rfl
  obtain ⟨d, d1, d2, d3⟩ := pR_add hrow hl p.1 p.2.1 f
  have hs1 := hs.sack hv hi d2 d3
  have hb1 := hs1.2.2.1
  have hb1 : rcRow d 27 (p :: rest) := by rw [← hb]; exact hb1
  obtain ⟨e, e1, e2, e3⟩ := pR_drop hb1
  have hs2 := hs1.belt (hv.agI d2) e2 e3
  refine ⟨e, ?_, (agN.of d2 (Or.inr ⟨by omega, by omega⟩)).trans (agN.of e2 (Or.inr ⟨by omega, by omega⟩)), hs2⟩
  unfold fX4_putFirst_J77
  have d1' : fX3_add (rdR c 9 i) (nI p.1) (nI p.2.1) (zb f) c = some d := d1
  simp only [gw_nm, z_ix (show i < 2147483648 by omega), z_cl (show i < 2147483648 by omega), eq_true hi, decide_true, if_true, hri, zl0, w1, w2, Option.bind_some, d1', e1]
theorem pC_J62 {c : gw_S} {a : zS} (hv : rcV c 9 27) (hs : rcS c 7 27 a) {i : Nat} (hi : i < 6) {p : zP} {rest : List zP} (hb : zBelt a = p :: rest) (hl : (zSack a i).length < 9) (f : Bool) : ∃ d, fX4_putFirst_J62 (nI i) (nI p.1) (zb f) c = some d ∧ agN c d ∧ rcS d 7 27 (zTown a, updN (zSack a) i (zSack a i ++ [(p.1, p.2.1, f)]), rest, zFound a, zSec a, zHarm a + zb f) := by
  unfold fX4_putFirst_J62
  cases f with
  | false =>
    obtain ⟨d, d1, d2, d3⟩ := pC_J77 hv hs hi hb hl false
    rw [zb_f] at d1 ⊢
    refine ⟨d, by rw [if_pos rfl]; exact d1, d2, ?_⟩
    rw [Int32.add_zero]; exact d3
  | true =>
    have hs1 := hs.harm hv (zHarm a + 1)
    obtain ⟨d, d1, d2, d3⟩ := pC_J77 (c := wrI c 7 7 (zHarm a + 1)) hv.wr hs1 hi hb hl true
    refine ⟨d, ?_, (agN.of (agI.wr c 7 7 (zHarm a + 1) (Nat.le_refl 7) (show 7 < 12 by omega)) (Or.inl ⟨by omega, by omega⟩)).trans d2, d3⟩
    rw [zb_t, if_neg (by decide), hs.2.2.2.2.2.2]
    exact d1
theorem pC_put {c : gw_S} {a : zS} (hv : rcV c 9 27) (hs : rcS c 7 27 a) {i : Nat} (hi : i < 6) {p : zP} {rest : List zP} (hb : zBelt a = p :: rest) (hp5 : p.1 < 5) (hl5 : ∀ q, q ∈ zSack a i → q.1 < 5) (hl : (zSack a i).length < 9) (flew : Bool) : ∃ d, fX4_putFirst (nI i) (zb flew) c = some d ∧ agN c d ∧ rcS d 7 27 (zPut a i flew) := by
  have hbelt := hs.2.2.1
  have w1 := pR_kindAt hbelt (j := 0) (by omega)
  have w2 : zKat (zBelt a) 0 = nI p.1 := by rw [hb]; rfl
  have e1 : fX4_putFirst (nI i) (zb flew) c = fX4_putFirst_J37 (nI i) (nI p.1) (zb (flew && decide (p.1 = 3))) c := by
    unfold fX4_putFirst fX4_putFirst_J36
    rw [if_neg (z_neg0 (show i < 2147483648 by omega)), if_pos (show nI i < (6 : Int32) from (z_lt (a := i) (b := 6) (by omega) (by omega)).mpr hi)]
    simp only [zl0, w1, w2, Option.bind_some]
    cases flew with
    | false => simp [zb]; rfl
    | true =>
      by_cases h3 : p.1 = 3
      · have : nI p.1 = nI 3 := by rw [h3]
        simp [zb, z10, zl3, zl0, zl1, this, h3]
      · have : ¬ nI p.1 = nI 3 := fun q => h3 ((z_eq (by omega) (by omega)).mp q)
        simp [zb, z10, zl3, zl0, zl1, this, h3]
  rw [e1]
  unfold fX4_putFirst_J37 zPut
  rw [hb]
  dsimp only
  by_cases h4 : p.1 = 4
  · have hf : (flew && decide (p.1 = 3)) = false := by rw [h4]; simp
    rw [hf]
    have hri := rcV_row hv (Or.inl rfl) hi
    obtain ⟨r, hr, er⟩ := hv.1 i hi
    have hrow : rcRow c (rdR c 9 i) (zSack a i) := hs.2.1 i hi
    obtain ⟨d, d1, d2, d3⟩ := pR_harm hrow hl5
    have d1 : fX3_harmGlass (rdR c 9 i) c = some (nI (zWhole (zSack a i)), d) := d1
    have hs1 := hs.sack hv hi (d2.mono (by omega) (Nat.le_refl _)) d3
    have hs2 := hs1.harm (hv.agI d2) (zHarm a + nI (zWhole (zSack a i)))
    obtain ⟨e, e1, e2, e3⟩ := pC_J62 (hv.agI d2).wr hs2 hi hb (by show (updN (zSack a) i ((zSack a i).map zHz) i).length < 9; rw [updN_eq, List.length_map]; exact hl) false
    refine ⟨e, ?_, (agN.of d2 (Or.inr ⟨by have : rdR c 9 i = 27 + 4 + 4 * r := er; show 27 ≤ rdR c 9 i + 3; omega, by have : rdR c 9 i = 27 + 4 + 4 * r := er; show rdR c 9 i + 4 ≤ 55; omega⟩)).trans ((agN.of (agI.wr d 7 7 _ (Nat.le_refl 7) (show 7 < 12 by omega)) (Or.inl ⟨by omega, by omega⟩)).trans e2), ?_⟩
    · simp only [gw_nm, gw_b2, h4, zl4, if_true, z_ix (show i < 2147483648 by omega), z_cl (show i < 2147483648 by omega), eq_true hi, decide_true, hri, d1, Option.bind_some, hs.2.2.2.2.2.2]
      rw [← h4]; exact e1
    · rw [if_pos h4, if_pos h4]
      have e3 : rcS e 7 27 (zTown a, updN (updN (zSack a) i ((zSack a i).map zHz)) i (updN (zSack a) i ((zSack a i).map zHz) i ++ [(p.1, p.2.1, false)]), rest, zFound a, zSec a, (zHarm a + nI (zWhole (zSack a i))) + zb false) := e3
      rw [updN_eq, updN_updN, Int32.add_assoc] at e3
      exact e3
  · obtain ⟨d, d1, d2, d3⟩ := pC_J62 hv hs hi hb hl (flew && decide (p.1 = 3))
    refine ⟨d, ?_, d2, ?_⟩
    · rw [zl4, if_neg (fun q => h4 ((z_eq (by omega) (by omega)).mp q))]; exact d1
    · rw [if_neg h4, if_neg h4, Int32.zero_add]; exact d3
def zSecs (a : zS) (v : Int32) : zS := (zTown a, zSack a, zBelt a, zFound a, zSec a + v, zHarm a)
def aToss (n : Nat) (Y R : Nat → Nat) (a : zS) (x w : Int32) : Int32 × zS :=
  if zK n x = true then (if zK 3 w = true then (match zBelt a with
    | [] => (-103, a)
    | p :: _ =>
      (let i := Int32.toNatClampNeg x
       let j := Int32.toNatClampNeg w
       if zFull R a i = true then (-103, a) else if zTen p.1 (Y i) (zFull R a (zHookNext n i)) j = 0 then (-103, a)
       else (nI (if j = 1 then zHookNext n i else i), zPut (zSecs a (2 + (if j = 2 then nI (2 * Y i + 3) else 0))) (if j = 1 then zHookNext n i else i) (decide (j ≠ 2))))) else (-102, a)) else (-101, a)
theorem pC_toss {c : gw_S} {P : List Nat} {n : Nat} {Y R O : Nat → Nat} {fl : Nat} {a : zS} {k : Option zS} (h : rcAll c P n Y R O fl a k) (hI : zInv P n Y R O fl a k) (x w : Int32) : ∃ d, fX7_toss x w c = some ((aToss n Y R a x w).1, d) ∧ rcAll d P n Y R O fl (aToss n Y R a x w).2 k := by
  obtain ⟨-, hp, hv, -, hs, -⟩ := id h
  have hn := hI.n6
  have hF := hI.2.1
  have hS := hI.2.2.2.1
  have hbelt := hs.2.2.1
  unfold fX7_toss aToss
  rw [pC_known hp.1 hn]
  cases h1 : zK n x with
  | false => exact ⟨c, by simp [zb], by simpa using h⟩
  | true =>
    obtain ⟨i, hi, rfl⟩ := zK_t h1 (by omega)
    have h3 := hI.n3 (by omega)
    have hx := zHookNext_lt hi h3
    have hy := (hF.2 i hi).1.2
    rcases z_cases w with hw | ⟨j, hj, rfl⟩
    · refine ⟨c, ?_, ?_⟩
      · simp [zb, hw, zK_neg hw]
      · simp [zK_neg hw]; exact h
    · rw [zK_nI (by omega) (by omega)]
      by_cases hj3 : j < 3
      · have hle : (nI j ≤ 2) = True := eq_true ((z_le hj (show 2 < 2147483648 by omega)).mpr (by omega))
        simp only [zb_t, show ¬ ((1 : Int32) = 0) by decide, if_false, if_true, z_neg0 hj, hle, decide_eq_true hj3, hbelt.1, z_cl (show i < 2147483648 by omega), z_cl hj]
        cases hb : zBelt a with
        | nil =>
          refine ⟨c, ?_, h⟩
          simp [hb, zl0]
        | cons p rest =>
          have hp5 := hS.2.2.2.2.2.2.1 p (by rw [hb]; simp)
          have hlen : ¬ nI (p :: rest).length = (0 : Int32) := by
            rw [zl0]; intro q
            have h8 := hS.2.2.2.2.2.1
            rw [hb] at h8
            have := (z_eq (by omega) (by omega)).mp q
            simp at this
          have w1 : fX3_kindAt 27 0 c = some (zKat (zBelt a) 0) := pR_kindAt hbelt (j := 0) (by omega)
          have w2 : zKat (zBelt a) 0 = nI p.1 := by rw [hb]; rfl
          have w3 := pC_tenAt hp hv hs hF hp5.1 hi hj3
          simp only [hlen, if_false, pC_full hp hv hs hn (fun h hh => (hF.2 h hh).2.1.2) hi, Option.bind_some]
          cases hfu : zFull R a i with
          | true =>
            refine ⟨c, ?_, ?_⟩
            · simp [zb]
            · simpa using h
          | false =>
            simp only [zb_f, if_true, w1, w2, Option.bind_some, w3, Bool.false_eq_true, if_false]
            have hz := zIn_le p.1 (Y i)
            have hz2 := zNx_le p.1 (Y i) (zFull R a (zHookNext n i))
            have hzt : zTen p.1 (Y i) (zFull R a (zHookNext n i)) j < 2147483648 := by
              unfold zTen
              split
              · omega
              · split <;> omega
            by_cases hten : zTen p.1 (Y i) (zFull R a (zHookNext n i)) j = 0
            · refine ⟨c, ?_, ?_⟩
              · simp only [hten, if_true]
                rfl
              · simp only [hten, if_true]; exact h
            · have hten' : ¬ nI (zTen p.1 (Y i) (zFull R a (zHookNext n i)) j) = 0 := fun q => hten ((z_eq hzt (by omega)).mp q)
              simp only [hten, hten', if_false]
              have hli : (zSack a i).length < 9 := by
                have := (hF.2 i hi).2.1.2
                unfold zFull at hfu
                have := of_decide_eq_false hfu
                omega
              -- J130, J145
              have J130 : ∀ (e2 : Nat) (c2 : gw_S) (a2 : zS), e2 < n → (zSack a2 e2).length < 9 → (∀ q, q ∈ zSack a2 e2 → q.1 < 5) → zBelt a2 = p :: rest → rcV c2 9 27 → rcS c2 7 27 a2 → ∃ d, fX7_toss_J130 (nI j) (nI e2) c2 = some (nI e2, d) ∧ agN c2 d ∧ rcS d 7 27 (zPut a2 e2 (decide (j ≠ 2))) := by
                intro e2 c2 a2 he hl2 hk2 hb2 hv2 hs2
                obtain ⟨d, d1, d2, d3⟩ := pC_put hv2 hs2 (show e2 < 6 by omega) hb2 hp5.1 hk2 hl2 (decide (j ≠ 2))
                refine ⟨d, ?_, d2, d3⟩
                unfold fX7_toss_J130 fX7_toss_J145
                by_cases hj2 : j = 2
                · rw [hj2] at d1 ⊢
                  rw [zl2, if_pos rfl]
                  have d1 : fX4_putFirst (nI e2) 0 c2 = some d := d1
                  rw [d1]; rfl
                · rw [zl2, if_neg (fun q => hj2 ((z_eq (by omega) (by omega)).mp q))]
                  rw [decide_eq_true hj2] at d1
                  have d1 : fX4_putFirst (nI e2) 1 c2 = some d := d1
                  rw [d1]; rfl
              have J87 : ∀ (e2 : Nat), e2 < n → (zSack a e2).length < 9 → ∃ d, fX7_toss_J87 (nI i) (nI j) (nI e2) c = some (nI e2, d) ∧ agN c d ∧ rcS d 7 27 (zPut (zSecs a (2 + (if j = 2 then nI (2 * Y i + 3) else 0))) e2 (decide (j ≠ 2))) := by
                intro e2 he hl2
                have hk2 := fun q hq => (hS.2.2.2.2.1 e2 (by omega) q hq).1
                have hs1 := hs.sec hv (zSec a + 2)
                unfold fX7_toss_J87
                have hY : rdI (wrI c 7 6 (zSec a + 2)) 4 i = nI (Y i) := by rw [rd_nk (by omega)]; exact (hp.2 i hi).1
                simp only [gw_nm, hs.2.2.2.2.2.1]
                by_cases hj2 : j = 2
                · have hs2 := hs1.sec hv.wr (zSec a + 2 + nI (2 * Y i + 3))
                  obtain ⟨d, d1, d2, d3⟩ := J130 e2 _ (zTown a, zSack a, zBelt a, zFound a, zSec a + 2 + nI (2 * Y i + 3), zHarm a) he hl2 hk2 hb (hv.wr.wr) hs2
                  refine ⟨d, ?_, ((agN.of (agI.wr c 7 6 (zSec a + 2) (Nat.le_refl 7) (show 7 < 12 by omega)) (Or.inl ⟨by omega, by omega⟩)).trans (agN.of (agI.wr _ 7 6 _ (Nat.le_refl 7) (show 7 < 12 by omega)) (Or.inl ⟨by omega, by omega⟩))).trans d2, ?_⟩
                  · rw [if_pos (show nI j = 2 by rw [hj2]; rfl), z_ix (by omega), decide_eq_true (show i < 6 by omega), if_pos rfl, z_cl (by omega), hY, pC_carryS, rd_eq]
                    exact d1
                  · rw [if_pos hj2, zSecs, ← Int32.add_assoc]; exact d3
                · obtain ⟨d, d1, d2, d3⟩ := J130 e2 _ (zTown a, zSack a, zBelt a, zFound a, zSec a + 2, zHarm a) he hl2 hk2 hb hv.wr hs1
                  refine ⟨d, ?_, (agN.of (agI.wr c 7 6 (zSec a + 2) (Nat.le_refl 7) (show 7 < 12 by omega)) (Or.inl ⟨by omega, by omega⟩)).trans d2, ?_⟩
                  · rw [zl2, if_neg (fun q => hj2 ((z_eq (by omega) (by omega)).mp q))]
                    exact d1
                  · rw [if_neg hj2, zSecs, Int32.add_zero]; exact d3
              by_cases hj1 : j = 1
              · have hfn : zFull R a (zHookNext n i) = false := by
                  cases hq : zFull R a (zHookNext n i) with
                  | false => rfl
                  | true => rw [hq, hj1] at hten; exact absurd rfl hten
                have hln : (zSack a (zHookNext n i)).length < 9 := by
                  have := (hF.2 _ hx.1).2.1.2
                  unfold zFull at hfn
                  have := of_decide_eq_false hfn
                  omega
                obtain ⟨d, d1, d2, d3⟩ := J87 _ hx.1 hln
                refine ⟨d, ?_, ?_⟩
                · rw [zl1, if_pos (by rw [hj1]), hp.1, pC_next c hn hi h3, if_pos hj1]; exact d1
                · rw [if_pos hj1]
                  exact h.now d2.2 (fun y => d2.R _ _) (hv.agN d2) d3 (by rw [zPut_found]; rfl)
              · obtain ⟨d, d1, d2, d3⟩ := J87 i hi hli
                refine ⟨d, ?_, ?_⟩
                · rw [zl1, if_neg (fun q => hj1 ((z_eq (by omega) (by omega)).mp q)), if_neg hj1]; exact d1
                · rw [if_neg hj1]
                  exact h.now d2.2 (fun y => d2.R _ _) (hv.agN d2) d3 (by rw [zPut_found]; rfl)
      · refine ⟨c, ?_, ?_⟩
        · have hle : (nI j ≤ 2) = False := eq_false (fun q => by have := (z_le hj (show 2 < 2147483648 by omega)).mp q; omega)
          simp only [zb_t, show ¬ ((1 : Int32) = 0) by decide, if_false, if_true, z_neg0 hj, hle, decide_eq_false hj3, Bool.false_eq_true]
        · simp only [decide_eq_false hj3, if_true, if_false, Bool.false_eq_true]; exact h
def aCarry (n : Nat) (Y R : Nat → Nat) (a : zS) (x : Int32) : Int32 × zS :=
  if zK n x = true then (match zBelt a with
    | [] => (-103, a)
    | _ :: _ =>
      (let i := Int32.toNatClampNeg x
       if zFull R a i = true then (-103, a) else (zSec a + nI (2 * Y i + 3), zPut (zSecs a (nI (2 * Y i + 3))) i false))) else (-101, a)
theorem pC_carry {c : gw_S} {P : List Nat} {n : Nat} {Y R O : Nat → Nat} {fl : Nat} {a : zS} {k : Option zS} (h : rcAll c P n Y R O fl a k) (hI : zInv P n Y R O fl a k) (x : Int32) : ∃ d, fX7_carry x c = some ((aCarry n Y R a x).1, d) ∧ rcAll d P n Y R O fl (aCarry n Y R a x).2 k := by
  obtain ⟨-, hp, hv, -, hs, -⟩ := id h
  have hn := hI.n6
  have hF := hI.2.1
  have hS := hI.2.2.2.1
  have hbelt := hs.2.2.1
  unfold fX7_carry aCarry
  rw [pC_known hp.1 hn]
  cases h1 : zK n x with
  | false => exact ⟨c, by simp [zb], by simpa using h⟩
  | true =>
    obtain ⟨i, hi, rfl⟩ := zK_t h1 (by omega)
    simp only [zb_t, show ¬ ((1 : Int32) = 0) by decide, if_false, if_true, hbelt.1, z_cl (show i < 2147483648 by omega)]
    cases hb : zBelt a with
    | nil =>
      refine ⟨c, ?_, h⟩
      simp [zl0]
    | cons p rest =>
      have hp5 := hS.2.2.2.2.2.2.1 p (by rw [hb]; simp)
      have hlen : ¬ nI (p :: rest).length = (0 : Int32) := by
        rw [zl0]; intro q
        have h8 := hS.2.2.2.2.2.1
        rw [hb] at h8
        have := (z_eq (by omega) (by omega)).mp q
        simp at this
      simp only [hlen, if_false, pC_full hp hv hs hn (fun h hh => (hF.2 h hh).2.1.2) hi, Option.bind_some]
      cases hfu : zFull R a i with
      | true =>
        refine ⟨c, ?_, ?_⟩
        · simp [zb]
        · simpa using h
      | false =>
        have hli : (zSack a i).length < 9 := by
          have := (hF.2 i hi).2.1.2
          unfold zFull at hfu
          have := of_decide_eq_false hfu
          omega
        have hs1 := hs.sec hv (zSec a + nI (2 * Y i + 3))
        obtain ⟨d, d1, d2, d3⟩ := pC_put (c := wrI c 7 6 (zSec a + nI (2 * Y i + 3))) hv.wr hs1 (show i < 6 by omega) hb hp5.1 (fun q hq => (hS.2.2.2.2.1 i (by omega) q hq).1) hli false
        have hag := (agN.of (agI.wr c 7 6 (zSec a + nI (2 * Y i + 3)) (Nat.le_refl 7) (show 7 < 12 by omega)) (Or.inl ⟨by omega, by omega⟩)).trans d2
        refine ⟨d, ?_, ?_⟩
        · rw [zb_f] at d1
          have hsd : rdI d 7 6 = zSec a + nI (2 * Y i + 3) := by
            have := d3.2.2.2.2.2.1
            rw [this, zPut_sec]
            rfl
          simp only [gw_nm, zb_f, if_true, z_ix (show i < 2147483648 by omega), z_cl (show i < 2147483648 by omega), show (i < 6) = True from eq_true (by omega), decide_true, (hp.2 i hi).1, pC_carryS, hs.2.2.2.2.2.1, d1, Option.bind_some, hsd, Bool.false_eq_true, if_false]
        · simp only [Bool.false_eq_true, if_false]
          exact h.now hag.2 (fun y => hag.R _ _) (hv.agN hag) d3 (by rw [zPut_found]; rfl)
