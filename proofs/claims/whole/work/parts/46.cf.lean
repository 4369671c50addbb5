/-! The class: floor. -/
theorem pC_digit {c : gw_S} {P : List Nat} (h : rcPage c P) {j : Nat} (hj : j < 1000) (h48 : 48 ≤ P.getD j 0) : fX1_digitAt (nI j) c = some (nI (P.getD j 0 - 48)) := by
  unfold fX1_digitAt
  rw [pC_codeAt h hj, Option.bind_some, show (48 : Int32) = nI 48 from rfl, z_sub h48]
theorem pC_read_L {P : List Nat} {h : Nat} (hh : h ≤ 6) (hD : ∀ i, i < h → 48 ≤ P.getD (3 * i) 0 ∧ 48 ≤ P.getD (3 * i + 1) 0 ∧ 48 ≤ P.getD (3 * h + i) 0) (Kx : Int32 → gw_S → Option gw_S) : ∀ k f i c, i + k = h → k < f → rcPage c P → rdI c 3 3 = nI h → ∃ d, agI c d 4 7 ∧ (∀ x, x < i → rdI d 4 x = rdI c 4 x ∧ rdI d 5 x = rdI c 5 x ∧ rdI d 6 x = rdI c 6 x) ∧ (∀ x, i ≤ x → x < h → rdI d 4 x = nI (zfY P x) ∧ rdI d 5 x = nI (zfR P x) ∧ rdI d 6 x = nI (zfO P h x)) ∧ fX2_read_L15 Kx f (nI i) c = Kx (nI h) d := by
  intro k
  induction k with
  | zero =>
    intro f i c hi hf hp h3
    obtain ⟨f, rfl⟩ : ∃ g, f = g + 1 := ⟨f - 1, by omega⟩
    have : i = h := by omega
    subst this
    exact ⟨c, agI.refl c _ _, fun _ _ => ⟨rfl, rfl, rfl⟩, fun x _ _ => by omega, by rw [fX2_read_L15, h3, if_pos ((z_le (a := i) (b := i) (by omega) (by omega)).mpr (Nat.le_refl _))]⟩
  | succ k ih =>
    intro f i c hi hf hp h3
    obtain ⟨f, rfl⟩ : ∃ g, f = g + 1 := ⟨f - 1, by omega⟩
    obtain ⟨q1, q2, q3⟩ := hD i (by omega)
    have t1 : agI c (wrI c 4 i (nI (zfY P i))) 4 7 := agI.wr c 4 i _ (by omega) (by omega)
    have t2 : agI (wrI c 4 i (nI (zfY P i))) (wrI (wrI c 4 i (nI (zfY P i))) 5 i (nI (zfR P i))) 4 7 := agI.wr _ 5 i _ (by omega) (by omega)
    have t3 : agI (wrI (wrI c 4 i (nI (zfY P i))) 5 i (nI (zfR P i))) (wrI (wrI (wrI c 4 i (nI (zfY P i))) 5 i (nI (zfR P i))) 6 i (nI (zfO P h i))) 4 7 := agI.wr _ 6 i _ (by omega) (by omega)
    have ag := t1.trans (t2.trans t3)
    have hpg : ∀ g, agI c g 4 7 → rcPage g P := fun g hg => hp.fr (hg.2 _ _ (by omega)) (fun j => hg.2 _ _ (by omega))
    obtain ⟨d, d1, d2, d3, d4⟩ := ih f (i + 1) _ (by omega) (by omega) (hpg _ ag) (by rw [ag.2 _ _ (by omega)]; exact h3)
    refine ⟨d, ag.trans d1, fun x hx => ?_, fun x hx1 hx2 => ?_, ?_⟩
    · obtain ⟨e1, e2, e3⟩ := d2 x (by omega)
      rw [e1, e2, e3]
      refine ⟨?_, ?_, ?_⟩
      · rw [rd_nk (by omega), rd_nk (by omega), rd_nj (by omega)]
      · rw [rd_nk (by omega), rd_nj (by omega), rd_nk (by omega)]
      · rw [rd_nj (by omega), rd_nk (by omega), rd_nk (by omega)]
    · by_cases w : x = i
      · subst w
        obtain ⟨e1, e2, e3⟩ := d2 x (by omega)
        rw [e1, e2, e3]
        refine ⟨?_, ?_, ?_⟩
        · rw [rd_nk (by omega), rd_nk (by omega), rd_eq]
        · rw [rd_nk (by omega), rd_eq]
        · rw [rd_eq]
      · exact d3 x (by omega) hx2
    · rw [fX2_read_L15, h3, if_neg (show ¬ nI h ≤ nI i from fun q => by have := (z_le (a := h) (b := i) (by omega) (by omega)).mp q; omega)]
      simp only [zNm]
      rw [zl3, z_mul, pC_digit hp (show 3 * i < 1000 by omega) q1, Option.bind_some, z_ix (show i < 2147483648 by omega), decide_eq_true (show i < 6 by omega), if_pos rfl, z_cl (show i < 2147483648 by omega), show nI (3 * i) + 1 = nI (3 * i + 1) from z_add (3 * i) 1, show P.getD (3 * i) 0 - 48 = zfY P i from rfl, pC_digit (hpg _ t1) (show 3 * i + 1 < 1000 by omega) q2, Option.bind_some, if_pos rfl, show P.getD (3 * i + 1) 0 - 48 = zfR P i from rfl, rd_nk (show (3 : Nat) ≠ 5 by omega), rd_nk (show (3 : Nat) ≠ 4 by omega), h3, z_mul, z_add, pC_digit (hpg _ (t1.trans t2)) (show 3 * h + i < 1000 by omega) q3, Option.bind_some, if_pos rfl, show P.getD (3 * h + i) 0 - 48 = zfO P h i from rfl, show nI i + 1 = nI (i + 1) from z_add i 1]
      exact d4
theorem pC_read {c : gw_S} {P : List Nat} {h : Nat} (hp : rcPage c P) (hP : zCodes P) (hf : zFloor P = some h) : ∃ d, fX2_read c = some d ∧ agI c d 3 7 ∧ rcPlan d h (zfY P) (zfR P) (zfO P h) := by
  obtain ⟨a, b, l4, D⟩ := zFloor_facts hf
  have t1 : agI c (wrI c 3 3 (nI h)) 3 7 := agI.wr c 3 3 _ (by omega) (by omega)
  obtain ⟨d, d1, -, d3, d4⟩ := pC_read_L (P := P) (h := h) b (fun i hi => by have := D i hi; omega) (fun v2_x15 t_x15 => some t_x15) h 2000 0 (wrI c 3 3 (nI h)) (by omega) (by omega) (hp.fr (t1.2 _ _ (by omega)) (fun j => t1.2 _ _ (by omega))) (rd_eq _ _ _ _)
  refine ⟨d, ?_, t1.trans (d1.mono (by omega) (by omega)), by rw [d1.2 _ _ (by omega), rd_eq], fun x hx => d3 x (Nat.zero_le _) hx⟩
  unfold fX2_read
  rw [pC_told hp hP, zFloor_told2 hf, Option.bind_some, if_neg (show ¬ (6 : Int32) < nI h from fun q => by have := (z_lt (a := 6) (b := h) (by omega) (by omega)).mp q; omega)]
  simp only [zNm]
  rw [← zl0] at d4
  exact d4
theorem pC_start_L (Kx : Int32 → gw_S → Option gw_S) : ∀ k f h c, h + k = 6 → k < f → rcV c 9 27 → ∃ d, d.2 = c.2 ∧ (∀ x y, x ≠ 8 → ¬ (31 ≤ x ∧ x < 55 ∧ y = 3) → rdI d x y = rdI c x y) ∧ (∀ i, i < h → rdI d 8 i = rdI c 8 i) ∧ (∀ i, h ≤ i → i < 6 → rdI d 8 i = nI i) ∧ (∀ x, 31 ≤ x → x < 55 → rdI c x 3 = 0 → rdI d x 3 = 0) ∧ (∀ i, h ≤ i → i < 6 → rdI d (rdR c 9 i) 3 = 0) ∧ fX4_start_L2 Kx f (nI h) c = Kx (nI 6) d := by
  intro k
  induction k with
  | zero =>
    intro f h c hh hf hv
    obtain ⟨f, rfl⟩ : ∃ g, f = g + 1 := ⟨f - 1, by omega⟩
    have : h = 6 := by omega
    subst this
    exact ⟨c, rfl, fun _ _ _ _ => rfl, fun _ _ => rfl, fun i _ _ => by omega, fun _ _ _ h => h, fun i _ _ => by omega, by rw [fX4_start_L2, if_pos (show (6 : Int32) ≤ nI 6 by decide)]⟩
  | succ k ih =>
    intro f h c hh hf hv
    obtain ⟨f, rfl⟩ : ∃ g, f = g + 1 := ⟨f - 1, by omega⟩
    obtain ⟨r, hr, er⟩ := hv.1 h (by omega)
    have hrow := rcV_row hv (Or.inl rfl) (show h < 6 by omega)
    obtain ⟨d, d1, d2, d3, d4, d5, d6, d7⟩ := ih f (h + 1) (wrI (wrI c 8 h (nI h)) (rdR c 9 h) 3 0) (by omega) (by omega) (hv.fr (fun j => rfl))
    refine ⟨d, d1, fun x y hx hy => ?_, fun i hi => ?_, fun i h1 h2 => ?_, fun x h1 h2 h3 => ?_, fun i h1 h2 => ?_, ?_⟩
    · rw [d2 x y hx hy, rd_wr, if_neg (fun q => hy ⟨by omega, by omega, q.2⟩), rd_nk hx]
    · rw [d3 i (by omega), rd_nk (by omega), rd_nj (by omega)]
    · by_cases w : i = h
      · rw [w, d3 h (by omega), rd_nk (by omega), rd_eq]
      · exact d4 i (by omega) h2
    · refine d5 x h1 h2 ?_
      rw [rd_wr]
      split
      · rfl
      · rw [rd_nk (by omega)]; exact h3
    · by_cases w : i = h
      · rw [w]
        exact d5 _ (by omega) (by omega) (rd_eq _ _ _ _)
      · exact d6 i (by omega) h2
    · rw [fX4_start_L2, if_neg (show ¬ (6 : Int32) ≤ nI h from fun q => by have := (z_le (a := 6) (b := h) (by omega) (by omega)).mp q; omega)]
      simp only [zNm]
      rw [z_ix (show h < 2147483648 by omega), decide_eq_true (show h < 6 by omega), if_pos rfl, if_pos rfl, z_cl (show h < 2147483648 by omega), show rdR (wrI c 8 h (nI h)) 9 h = rdR c 9 h from rfl, hrow, if_pos rfl, show nI h + 1 = nI (h + 1) from z_add h 1]
      exact d7
theorem pC_start {c : gw_S} (hv : rcV c 9 27) : ∃ d, fX4_start c = some d ∧ d.2 = c.2 ∧ (∀ x y, (x < 7 ∨ (12 ≤ x ∧ x < 27) ∨ 55 ≤ x) → rdI d x y = rdI c x y) ∧ rcS d 7 27 zFresh := by
  obtain ⟨e, e1, e2, -, e4, -, e6, e7⟩ := pC_start_L (fun v1_x2 t_x2 => some (wrI (wrI (wrI (wrI t_x2 27 3 0) 7 5 0) 7 6 0) 7 7 0)) 6 2000 0 c (by omega) (by omega) hv
  have hR : ∀ k j, rdR (wrI (wrI (wrI (wrI e 27 3 0) 7 5 0) 7 6 0) 7 7 0) k j = rdR c k j := fun k j => by
    show rdR e k j = rdR c k j
    unfold rdR; rw [e1]
  refine ⟨wrI (wrI (wrI (wrI e 27 3 0) 7 5 0) 7 6 0) 7 7 0, ?_, e1, fun x y hx => ?_, fun h hh => ?_, fun h hh => ?_, ?_, ?_, fun j p hp => ?_, ?_, ?_⟩
  · unfold fX4_start
    simp only [zNm]
    rw [← zl0] at e7
    exact e7
  · rw [rd_nk (by omega), rd_nk (by omega), rd_nk (by omega), rd_nk (by omega), e2 x y (by omega) (by omega)]
  · rw [rd_nk (by omega), rd_nk (by omega), rd_nk (by omega), rd_nk (by omega), e4 h (Nat.zero_le _) hh]
    rfl
  · rw [hR]
    obtain ⟨r, hr, er⟩ := hv.1 h hh
    refine ⟨?_, Nat.zero_le _, fun j p hp => by simp [zSack, zFresh] at hp⟩
    have := e6 h (Nat.zero_le _) hh
    show rdI (wrI (wrI (wrI (wrI e 27 3 0) 7 5 0) 7 6 0) 7 7 0) (rdR c 9 h) 3 = _
    rw [rd_nk (by omega), rd_nk (by omega), rd_nk (by omega), rd_nk (by omega), this]
    rfl
  · refine ⟨?_, Nat.zero_le _, fun j p hp => by simp [zBelt, zFresh] at hp⟩
    rw [rd_nk (by omega), rd_nk (by omega), rd_nk (by omega), rd_eq]
    rfl
  · rw [rd_nj (by omega), rd_nj (by omega), rd_eq]; rfl
  · simp [zFound, zFresh] at hp
  · rw [rd_nj (by omega), rd_eq]; rfl
  · rw [rd_eq]; rfl
theorem pC_floor_no {P : List Nat} {n : Nat} {Y R O : Nat → Nat} {fl : Nat} {a : zS} {k : Option zS} {c : gw_S} (h : rcAll c P n Y R O fl a k) (hI : zInv P n Y R O fl a k) (hf : zFloor P = none) : fX7_floor c = some (-103, c) := by
  unfold fX7_floor
  rw [pC_isFloor h.1 hI.1, hf, Option.bind_some, if_pos (show zb (none : Option Nat).isSome = 0 from rfl)]
theorem pC_floor {P : List Nat} {n : Nat} {Y R O : Nat → Nat} {fl : Nat} {a : zS} {k : Option zS} {c : gw_S} (h : rcAll c P n Y R O fl a k) (hI : zInv P n Y R O fl a k) {hn : Nat} (hf : zFloor P = some hn) : ∃ d, fX7_floor c = some (nI hn, d) ∧ rcAll d [] hn (zfY P) (zfR P) (zfO P hn) (fl + 1) zFresh none := by
  obtain ⟨a3, b6, -, -⟩ := zFloor_facts hf
  obtain ⟨h1, h2, h3, h4, h5, h6, -⟩ := h
  obtain ⟨d1, x1, y1, z1⟩ := pC_read h1 hI.1 hf
  have hv2 : rcV (wrI d1 1 1 0) 9 27 := h3.fr (fun j => (y1.R 9 j))
  obtain ⟨d3, x3, y3, z3, w3⟩ := pC_start hv2
  have hp3 : rcPlan d3 hn (zfY P) (zfR P) (zfO P hn) := z1.fr (fun i j _ _ => by rw [z3 _ _ (by omega), rd_nk (by omega)])
  obtain ⟨d4, x4, y4, z4⟩ := pC_seekBest (zFloor_inv hf) hp3 (by omega)
  have R3 : ∀ k j, rdR d3 k j = rdR c k j := fun k j => by
    unfold rdR; rw [y3]; show rdR d1 k j = rdR c k j; exact y1.R k j
  have R4 : ∀ k j, rdR d4 k j = rdR c k j := fun k j => (y4.R k j).trans (R3 k j)
  have e08 : rdI d4 0 8 = nI fl := by rw [y4.2 _ _ (by omega), z3 _ _ (by omega), rd_nk (by omega), y1.2 _ _ (by omega)]; exact h6
  refine ⟨wrI (wrI (wrI d4 21 3 0) 0 7 0) 0 8 (nI (fl + 1)), ?_, ⟨?_, Nat.zero_le _, fun j v hv => by simp at hv⟩, ?_, ?_, ?_, ?_, ?_, (fun ka hk => by cases hk), fun _ => ?_, fun h0 => ⟨?_, fun i hi => ?_⟩, Or.inl ?_⟩
  · unfold fX7_floor
    rw [pC_isFloor h1 hI.1, hf, Option.bind_some, if_neg (show ¬ zb (some hn).isSome = 0 from (by decide : ¬ zb true = 0)), x1, Option.bind_some]
    simp only [zNm]
    rw [x3, Option.bind_some, x4, Option.bind_some, rd_nj (show (8 : Nat) ≠ 7 by omega), rd_nk (show (0 : Nat) ≠ 21 by omega), e08, show nI fl + 1 = nI (fl + 1) from z_add fl 1, rd_nk (show (3 : Nat) ≠ 0 by omega), rd_nk (show (3 : Nat) ≠ 0 by omega), rd_nk (show (3 : Nat) ≠ 21 by omega), y4.2 _ _ (by omega), hp3.1]
  · rw [rd_nk (by omega), rd_nk (by omega), rd_nk (by omega), y4.2 _ _ (by omega), z3 _ _ (by omega), rd_eq]; rfl
  · exact hp3.fr (fun i j _ _ => by rw [rd_nk (by omega), rd_nk (by omega), rd_nk (by omega), y4.2 _ _ (by omega)])
  · exact h3.fr (fun j => R4 9 j)
  · exact h4.fr (fun j => R4 14 j)
  · refine w3.fr (hv2.fr (fun j => by rw [R3]; exact (y1.R 9 j).symm)) (fun j => y4.R 9 j) (fun i j _ _ => ?_) (fun i j _ _ => ?_) <;> rw [rd_nk (by omega), rd_nk (by omega), rd_nk (by omega), y4.2 _ _ (by omega)]
  · rw [rd_eq]
  · rw [rd_nj (by omega), rd_eq]
  · rw [rd_nk (by omega), rd_nk (by omega), rd_nk (by omega)]; exact (z4 h0).1
  · rw [rd_nk (by omega), rd_nk (by omega), rd_nk (by omega)]; exact (z4 h0).2 i hi
  · rw [rd_nk (by omega), rd_nk (by omega), rd_eq]
theorem iI_floor {P : List Nat} {n : Nat} {Y R O : Nat → Nat} {fl : Nat} {a : zS} {k : Option zS} (hfl : fl + 1 < 1000000) {hn : Nat} (hf : zFloor P = some hn) : zInv [] hn (zfY P) (zfR P) (zfO P hn) (fl + 1) zFresh none := by
  obtain ⟨a3, b6, -, -⟩ := zFloor_facts hf
  exact ⟨⟨Nat.zero_le _, fun v hv => by simp at hv⟩, zFloor_inv hf, hfl, zFresh_inv b6, (fun ka hk => by cases hk), fun _ => rfl⟩
