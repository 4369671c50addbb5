/-! The reference: whether all found could be, hung, where. -/
theorem pM_could_L {n : Nat} {l : List Nat} {F : List (Nat × Nat)} {e : gw_S} (hn : n ≤ 6) (h3 : 3 ≤ n) (h1 : rdI e 0 1 = nI n) (h15 : rdI e 0 15 = nI F.length) (h8 : F.length ≤ 8) (hF : ∀ p, p ∈ F → p.1 < n ∧ p.2 < n ∧ p.1 ≠ p.2) (hc : ∀ j p, F[j]? = some p → rdI e 11 j = nI p.1 ∧ rdI e 12 j = nI p.2) (hl : l ∈ zAll n) (hT : ∀ j, j < n → rdI e 4 (6 + j) = nI (l.getD j 0)) (Kx : Int32 → Int32 → Option Int32) : ∀ f s b, s ≤ F.length → F.length - s < f → fX8_couldHang_L4 Kx e f (zb b) (nI s) = Kx (zb (b && (F.drop s).all (fun p => decide (zPos l p.2 = zHookNext n (zPos l p.1))))) (nI F.length) := by
  intro f
  induction f with
  | zero => intro s b _ h; omega
  | succ f ih =>
    intro s b hs hf
    rw [fX8_couldHang_L4, h15]
    by_cases e0 : s = F.length
    · rw [e0, if_pos ((z_le (a := F.length) (b := F.length) (by omega) (by omega)).mpr (Nat.le_refl _)), List.drop_eq_nil_of_le (Nat.le_refl _), List.all_nil, Bool.and_true]
    · rw [if_neg (show ¬ nI F.length ≤ nI s from fun q => by have := (z_le (a := F.length) (b := s) (by omega) (by omega)).mp q; omega)]
      obtain ⟨p, hp⟩ := z_get (show s < F.length by omega)
      obtain ⟨p1, p2, -⟩ := hF p (z_mem hp)
      obtain ⟨c1, c2⟩ := hc s p hp
      unfold fX8_couldHang_J51 fX8_couldHang_J52
      simp only [zNm]
      rw [zl1, z_add, z_drop hp, List.all_cons]
      cases b with
      | false =>
        rw [if_pos (show zb false = 0 from rfl)]
        have := ih (s + 1) false (by omega) (by omega)
        rw [Bool.false_and] at this ⊢
        exact this
      | true =>
        rw [if_neg (show ¬ zb true = 0 by decide), z_ix (show s < 2147483648 by omega), decide_eq_true (show s < 8 by omega), z_cl (show s < 2147483648 by omega), c1, c2, show (6 : Int32) = nI 6 from rfl, pM_hookBy hn (by omega) h1 hl hT p2, pM_hookBy hn (by omega) h1 hl hT p1]
        simp only [if_true, Option.bind_some]
        have hx1 := zPos_lt hl p1
        have hx2 := zPos_lt hl p2
        have hx3 := zHookNext_lt hx1 h3
        rw [pM_next e h1 hn hx1 h3, Bool.true_and]
        by_cases hq : zPos l p.2 = zHookNext n (zPos l p.1)
        · rw [if_pos (congrArg nI hq), decide_eq_true hq, Bool.true_and]
          have := ih (s + 1) true (by omega) (by omega)
          rw [Bool.true_and] at this
          exact this
        · rw [if_neg (fun q => hq ((z_eq (by omega) (by omega)).mp q)), decide_eq_false hq, Bool.false_and]
          have := ih (s + 1) false (by omega) (by omega)
          rw [Bool.false_and] at this
          exact this
theorem pM_could {n : Nat} {l : List Nat} {F : List (Nat × Nat)} {e : gw_S} (hn : n ≤ 6) (h3 : 3 ≤ n) (h1 : rdI e 0 1 = nI n) (h15 : rdI e 0 15 = nI F.length) (h8 : F.length ≤ 8) (hF : ∀ p, p ∈ F → p.1 < n ∧ p.2 < n ∧ p.1 ≠ p.2) (hc : ∀ j p, F[j]? = some p → rdI e 11 j = nI p.1 ∧ rdI e 12 j = nI p.2) (hl : l ∈ zAll n) (hT : ∀ j, j < n → rdI e 4 (6 + j) = nI (l.getD j 0)) : fX8_couldHang e = some (zb (zCould n F l)) := by
  have L := pM_could_L hn h3 h1 h15 h8 hF hc hl hT (fun v1_x4 v2_x4 => if gw_bl v1_x4 = true then (some v1_x4) else none) 2000 0 true (by omega) (by omega)
  rw [Bool.true_and, List.drop_zero, ← zl0, zb_bl, if_pos rfl] at L
  exact L
theorem pM_ways_fr {n : Nat} {F : List (Nat × Nat)} {e d : gw_S} (h : agH e d) (h15 : rdI e 0 15 = nI F.length) (hc : ∀ j p, F[j]? = some p → rdI e 11 j = nI p.1 ∧ rdI e 12 j = nI p.2) : rdI d 0 15 = nI F.length ∧ ∀ j p, F[j]? = some p → rdI d 11 j = nI p.1 ∧ rdI d 12 j = nI p.2 := by
  refine ⟨by rw [h.2 _ _ (by omega)]; exact h15, fun j p hp => ?_⟩
  rw [h.2 _ _ (by omega), h.2 _ _ (by omega)]
  exact hc j p hp
theorem pM_hung_L {n : Nat} {F : List (Nat × Nat)} (hn : n ≤ 6) (h3 : 3 ≤ n) (h8 : F.length ≤ 8) (hF : ∀ p, p ∈ F → p.1 < n ∧ p.2 < n ∧ p.1 ≠ p.2) (Kx : Int32 → Int32 → gw_S → Option (Int32 × gw_S)) : ∀ f c acc e, c ≤ zFac n → zFac n - c < f → rdI e 0 1 = nI n → rdI e 0 15 = nI F.length → (∀ j p, F[j]? = some p → rdI e 11 j = nI p.1 ∧ rdI e 12 j = nI p.2) → ∃ d, agH e d ∧ fX8_hungNow_L4 Kx f (nI acc) (nI c) e = Kx (nI (acc + (((zAll n).drop c).filter (zCould n F)).length)) (nI (zFac n)) d := by
  have hall := zAll_count n
  have h720 := zFac_le hn
  intro f
  induction f with
  | zero => intro c acc e _ h; omega
  | succ f ih =>
    intro c acc e hc hf h1 h15 hfc
    rw [fX8_hungNow_L4, pM_ways hn (by omega) h1, Option.bind_some]
    by_cases e0 : c = zFac n
    · refine ⟨e, agH.refl e, ?_⟩
      rw [e0, if_pos ((z_le (a := zFac n) (b := zFac n) (by omega) (by omega)).mpr (Nat.le_refl _)), List.drop_eq_nil_of_le (by omega)]
      rfl
    · rw [if_neg (show ¬ nI (zFac n) ≤ nI c from fun q => by have := (z_le (a := zFac n) (b := c) (by omega) (by omega)).mp q; omega)]
      obtain ⟨d, l, d1, d2, d3, d4⟩ := pM_hangBy hn (by omega) h1 (show c < zFac n by omega)
      have d2 : agH e d := d2
      have g1 : rdI d 0 1 = nI n := by rw [d2.2 _ _ (by omega)]; exact h1
      obtain ⟨g2, g3⟩ := pM_ways_fr (n := n) d2 h15 hfc
      rw [d1, Option.bind_some, pM_could hn h3 g1 g2 h8 hF g3 (List.mem_of_getElem? d3) d4, Option.bind_some, z_drop d3, List.filter_cons]
      unfold fX8_hungNow_J30
      simp only [zNm]
      cases hb : zCould n F l with
      | false =>
        obtain ⟨g, a1, a2⟩ := ih (c + 1) acc d (by omega) (by omega) g1 g2 g3
        refine ⟨g, d2.trans a1, ?_⟩
        rw [if_pos (show zb false = 0 from rfl), if_neg (show ¬ false = true from Bool.false_ne_true), ← a2, zl0, zl1, z_add, z_add]
        rfl
      | true =>
        obtain ⟨g, a1, a2⟩ := ih (c + 1) (acc + 1) d (by omega) (by omega) g1 g2 g3
        refine ⟨g, d2.trans a1, ?_⟩
        rw [if_neg (show ¬ zb true = 0 by decide), if_pos rfl, List.length_cons, show ∀ x, acc + (x + 1) = acc + 1 + x from fun x => by omega, ← a2, zl1, z_add, z_add]
theorem pM_hung {P : List Nat} {n : Nat} {Y R O : Nat → Nat} {fl : Nat} {a : zS} {k : Option zS} {m : gw_S} (h : rmAll m P n Y R O fl a k) (hI : zInv P n Y R O fl a k) : ∃ d, fX8_hung m = some (aHung n a, d) ∧ rmAll d P n Y R O fl a k := by
  have hn := hI.n6
  obtain ⟨-, -, -, -, -, -, -, q8, q9⟩ := hI.2.2.2.1
  obtain ⟨-, -, -, -, s5, s6, -⟩ := h.2.2.1
  unfold fX8_hung aHung
  rw [h.2.1.1]
  by_cases h0 : n = 0
  · rw [if_pos h0, if_pos (by rw [h0]; rfl)]
    exact ⟨m, rfl, h⟩
  · rw [if_neg h0, if_neg (show ¬ nI n = (0 : Int32) from fun q => h0 ((z_eq (a := n) (b := 0) (by omega) (by omega)).mp q))]
    have h3 := hI.n3 (by omega)
    obtain ⟨d, d1, d2⟩ := pM_hung_L hn h3 q8 q9 (fun v1_x4 v2_x4 t_x4 => some (v1_x4, t_x4)) 2000 0 0 m (by omega) (by have := zFac_le hn; omega) h.2.1.1 s5 s6
    refine ⟨d, ?_, h.scr hI d1.scr⟩
    unfold fX8_hungNow
    rw [List.drop_zero, Nat.zero_add, ← zl0] at d2
    rw [d2]
    rfl
theorem pM_hungNow {P : List Nat} {n : Nat} {Y R O : Nat → Nat} {fl : Nat} {a : zS} {k : Option zS} {m : gw_S} (h : rmAll m P n Y R O fl a k) (hI : zInv P n Y R O fl a k) (h0 : 0 < n) : ∃ d, fX8_hungNow m = some (aHung n a, d) ∧ agH m d := by
  have hn := hI.n6
  obtain ⟨-, -, -, -, -, -, -, q8, q9⟩ := hI.2.2.2.1
  obtain ⟨-, -, -, -, s5, s6, -⟩ := h.2.2.1
  unfold aHung
  rw [if_neg (by omega)]
  have h3 := hI.n3 h0
  obtain ⟨d, d1, d2⟩ := pM_hung_L hn h3 q8 q9 (fun v1_x4 v2_x4 t_x4 => some (v1_x4, t_x4)) 2000 0 0 m (by omega) (by have := zFac_le hn; omega) h.2.1.1 s5 s6
  refine ⟨d, ?_, d1⟩
  unfold fX8_hungNow
  rw [List.drop_zero, Nat.zero_add, ← zl0] at d2
  rw [d2]
  rfl
theorem pM_where_L {n t : Nat} {F : List (Nat × Nat)} (hn : n ≤ 6) (h3 : 3 ≤ n) (ht : t < n) (h8 : F.length ≤ 8) (hF : ∀ p, p ∈ F → p.1 < n ∧ p.2 < n ∧ p.1 ≠ p.2) (Kx : Int32 → Int32 → gw_S → Option (Int32 × gw_S)) : ∀ f c acc e, c ≤ zFac n → zFac n - c < f → rdI e 0 1 = nI n → rdI e 0 15 = nI F.length → (∀ j p, F[j]? = some p → rdI e 11 j = nI p.1 ∧ rdI e 12 j = nI p.2) → ∃ d, agH e d ∧ fX8_whereNow_L4 Kx (nI t) f acc (nI c) e = Kx ((((zAll n).drop c).filter (zCould n F)).foldl (fun b l => b ||| ((1 : Int32) <<< (nI (zPos l t) &&& 31))) acc) (nI (zFac n)) d := by
  have hall := zAll_count n
  have h720 := zFac_le hn
  intro f
  induction f with
  | zero => intro c acc e _ h; omega
  | succ f ih =>
    intro c acc e hc hf h1 h15 hfc
    rw [fX8_whereNow_L4, pM_ways hn (by omega) h1, Option.bind_some]
    by_cases e0 : c = zFac n
    · refine ⟨e, agH.refl e, ?_⟩
      rw [e0, if_pos ((z_le (a := zFac n) (b := zFac n) (by omega) (by omega)).mpr (Nat.le_refl _)), List.drop_eq_nil_of_le (by omega)]
      rfl
    · rw [if_neg (show ¬ nI (zFac n) ≤ nI c from fun q => by have := (z_le (a := zFac n) (b := c) (by omega) (by omega)).mp q; omega)]
      obtain ⟨d, l, d1, d2, d3, d4⟩ := pM_hangBy hn (by omega) h1 (show c < zFac n by omega)
      have d2 : agH e d := d2
      have g1 : rdI d 0 1 = nI n := by rw [d2.2 _ _ (by omega)]; exact h1
      obtain ⟨g2, g3⟩ := pM_ways_fr (n := n) d2 h15 hfc
      rw [d1, Option.bind_some, pM_could hn h3 g1 g2 h8 hF g3 (List.mem_of_getElem? d3) d4, Option.bind_some, z_drop d3, List.filter_cons]
      unfold fX8_whereNow_J38
      simp only [zNm]
      cases hb : zCould n F l with
      | false =>
        obtain ⟨g, a1, a2⟩ := ih (c + 1) acc d (by omega) (by omega) g1 g2 g3
        refine ⟨g, d2.trans a1, ?_⟩
        rw [if_pos (show zb false = 0 from rfl), if_neg (show ¬ false = true from Bool.false_ne_true), ← a2, Int32.or_zero, show nI c + 1 = nI (c + 1) from z_add c 1]
      | true =>
        obtain ⟨g, a1, a2⟩ := ih (c + 1) (acc ||| ((1 : Int32) <<< (nI (zPos l t) &&& 31))) d (by omega) (by omega) g1 g2 g3
        refine ⟨g, d2.trans a1, ?_⟩
        rw [if_neg (show ¬ zb true = 0 by decide), if_pos rfl, show (6 : Int32) = nI 6 from rfl, pM_hookBy hn (by omega) g1 (List.mem_of_getElem? d3) d4 ht, Option.bind_some, List.foldl_cons, ← a2, show nI c + 1 = nI (c + 1) from z_add c 1]
theorem pM_whereNow {P : List Nat} {n : Nat} {Y R O : Nat → Nat} {fl : Nat} {a : zS} {k : Option zS} {m : gw_S} (h : rmAll m P n Y R O fl a k) (hI : zInv P n Y R O fl a k) {t : Nat} (ht : t < n) : ∃ d, fX8_whereNow (nI t) m = some (zBits t (zWays n (zFound a)), d) ∧ agH m d := by
  have hn := hI.n6
  obtain ⟨-, -, -, -, -, -, -, q8, q9⟩ := hI.2.2.2.1
  obtain ⟨-, -, -, -, s5, s6, -⟩ := h.2.2.1
  have h3 := hI.n3 (by omega)
  obtain ⟨d, d1, d2⟩ := pM_where_L hn h3 ht q8 q9 (fun v2_x4 v3_x4 t_x4 => some (v2_x4, t_x4)) 2000 0 0 m (by omega) (by have := zFac_le hn; omega) h.2.1.1 s5 s6
  refine ⟨d, ?_, d1⟩
  unfold fX8_whereNow
  rw [List.drop_zero, ← zl0] at d2
  rw [d2]
  rfl
theorem pM_where {P : List Nat} {n : Nat} {Y R O : Nat → Nat} {fl : Nat} {a : zS} {k : Option zS} {m : gw_S} (h : rmAll m P n Y R O fl a k) (hI : zInv P n Y R O fl a k) (x : Int32) : ∃ d, fX8_where x m = some (aWhere n a x, d) ∧ rmAll d P n Y R O fl a k := by
  have hn := hI.n6
  unfold fX8_where aWhere
  rw [pM_hook h.2.1.1 hn, Option.bind_some]
  cases h1 : zK n x with
  | false => exact ⟨m, by rw [if_pos (show zb false = 0 from rfl), if_neg (show ¬ false = true from Bool.false_ne_true)], h⟩
  | true =>
    obtain ⟨t, ht, rfl⟩ := zK_t h1 (by omega)
    obtain ⟨d, d1, d2⟩ := pM_whereNow h hI ht
    refine ⟨d, ?_, h.scr hI d2.scr⟩
    rw [if_neg (show ¬ zb true = 0 by decide), if_pos rfl, d1, z_cl (by omega)]
    rfl
