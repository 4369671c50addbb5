/-! image and restore, the class. -/
theorem pC_image_L2 {c : gw_S} {a : zS} (hvS : rcV c 9 27) (hvD : rcV c 14 55) (hs : rcS c 7 27 a) (Kx : Int32 → gw_S → Option gw_S) : ∀ f i e, i ≤ 6 → 6 - i < f → e.2 = c.2 → (∀ x y, x ≠ 13 → (x < 55 ∨ 83 ≤ x) → rdI e x y = rdI c x y) → (∀ h, h < i → rdI e 13 h = nI (zTown a h)) → (∀ h, h < i → rcRow e (rdR c 14 h) (zSack a h)) →
    ∃ d, fX4_copy_12_7_L2 Kx f (nI i) e = Kx (nI 6) d ∧ d.2 = c.2 ∧ (∀ x y, x ≠ 13 → (x < 55 ∨ 83 ≤ x) → rdI d x y = rdI c x y) ∧ (∀ h, h < 6 → rdI d 13 h = nI (zTown a h)) ∧ (∀ h, h < 6 → rcRow d (rdR c 14 h) (zSack a h)) := by
  intro f
  induction f with
  | zero => intro i e _ h; omega
  | succ f ih =>
    intro i e hi hf he hfr h3 h4
    rw [fX4_copy_12_7_L2]
    by_cases e0 : i = 6
    · subst e0
      exact ⟨e, by rw [if_pos (by decide)], he, hfr, h3, h4⟩
    · have hi6 : i < 6 := by omega
      have hR : ∀ k j, rdR e k j = rdR c k j := fun k j => by unfold rdR; rw [he]
      obtain ⟨r, hr, er⟩ := hvD.1 i hi6
      obtain ⟨r', hr', er'⟩ := hvS.1 i hi6
      have g1 : gw_row (rdR c 14 i) = true := by rw [er]; simp only [gw_row, Bool.and_eq_true, decide_eq_true_eq]; omega
      have g2 : gw_row (rdR c 9 i) = true := by rw [er']; simp only [gw_row, Bool.and_eq_true, decide_eq_true_eq]; omega
      rw [if_neg (fun q => e0 (by have := (z_le (a := 6) (b := i) (by omega) (by omega)).mp q; omega))]
      simp only [zNm]
      rw [z_ix (show i < 2147483648 by omega), z_cl (show i < 2147483648 by omega), decide_eq_true hi6, zl1, z_add]
      simp only [if_true]
      rw [show gw_row (rdR (wrI e 13 i (rdI e 8 i)) 14 i) = true by rw [rR_wI, hR]; exact g1, show gw_row (rdR (wrI e 13 i (rdI e 8 i)) 9 i) = true by rw [rR_wI, hR]; exact g2]
      simp only [if_true]
      rw [rR_wI, rR_wI, hR, hR]
      have hsi : rcRow (wrI e 13 i (rdI e 8 i)) (rdR c 9 i) (zSack a i) := rcRow.fr (show rcRow c (rdR c 9 i) (zSack a i) from hs.2.1 i hi6) (fun x j hx => by rw [rd_nk (by omega), hfr _ _ (by omega) (by omega)])
      obtain ⟨g, gd, gag, grow⟩ := pR_copy (q := rdR c 14 i) hsi (by omega)
      rw [gd]
      simp only [Option.bind_some]
      refine ih (i + 1) g (by omega) (by omega) (gag.1.trans he) (fun x y hx hx2 => ?_) (fun h hh => ?_) (fun h hh => ?_)
      · rw [gag.2 _ _ (by omega), rd_nk hx]; exact hfr x y hx hx2
      · rw [gag.2 _ _ (by omega)]
        by_cases q : h = i
        · subst q
          rw [rd_eq, hfr _ _ (by omega) (by omega)]; exact hs.1 h hi6
        · rw [rd_nj q]; exact h3 h (by omega)
      · by_cases q : h = i
        · subst q; exact grow
        · obtain ⟨r2, hr2, er2⟩ := hvD.1 h (by omega)
          have hne : rdR c 14 h ≠ rdR c 14 i := fun w => q (hvD.2 h i (by omega) hi6 w)
          exact (h4 h (by omega)).fr (fun x j hx => by rw [gag.2 _ _ (by omega), rd_nk (by omega)])
theorem pC_image_L54 (Kx : Int32 → gw_S → Option gw_S) : ∀ f i e, i ≤ 8 → 8 - i < f → ∃ d, fX4_copy_12_7_L54 Kx f (nI i) e = Kx (nI 8) d ∧ d.2 = e.2 ∧ ∀ x y, rdI d x y = if 15 ≤ x ∧ x ≤ 16 ∧ i ≤ y ∧ y < 8 then rdI e (x - 5) y else rdI e x y := by
  intro f
  induction f with
  | zero => intro i e _ h; omega
  | succ f ih =>
    intro i e hi hf
    rw [fX4_copy_12_7_L54]
    by_cases e0 : i = 8
    · subst e0
      exact ⟨e, by rw [if_pos (by decide)], rfl, fun x y => by rw [if_neg (by omega)]⟩
    · rw [if_neg (fun q => e0 (by have := (z_le (a := 8) (b := i) (by omega) (by omega)).mp q; omega))]
      simp only [zNm]
      rw [z_ix (show i < 2147483648 by omega), z_cl (show i < 2147483648 by omega), decide_eq_true (show i < 8 by omega), zl1, z_add]
      simp only [if_true]
      obtain ⟨d, d1, d0, d2⟩ := ih (i + 1) _ (by omega) (by omega)
      refine ⟨d, d1, d0, fun x y => ?_⟩
      rw [d2]
      by_cases hy : y = i
      · subst hy
        rw [if_neg (by omega)]
        by_cases hx : 15 ≤ x ∧ x ≤ 16
        · rw [if_pos (by omega)]
          rcases (show x = 15 ∨ x = 16 by omega) with h | h <;> subst h <;> simp (disch := omega) only [rd_nk, rd_eq]
        · rw [if_neg (by omega)]
          simp (disch := omega) only [rd_nk]
      · by_cases hx : 15 ≤ x ∧ x ≤ 16 ∧ i + 1 ≤ y ∧ y < 8
        · rw [if_pos hx, if_pos (by omega)]
          simp (disch := omega) only [rd_nk]
        · rw [if_neg hx, if_neg (by omega)]
          simp (disch := omega) only [rd_nj]
theorem pC_image_copy {c : gw_S} {a : zS} (hvS : rcV c 9 27) (hvD : rcV c 14 55) (hs : rcS c 7 27 a) (hf8 : (zFound a).length ≤ 8) : ∃ d, fX4_copy_12_7 c = some d ∧ d.2 = c.2 ∧ (∀ x y, (x < 12 ∨ 16 < x) → (x < 55 ∨ 83 ≤ x) → rdI d x y = rdI c x y) ∧ rcS d 12 55 a := by
  unfold fX4_copy_12_7
  obtain ⟨e, e1, e2, e3, e4, e5⟩ := pC_image_L2 hvS hvD hs (fun v2_x2 t_x2 => (fX3_copy 55 27 t_x2).bind (fun t_49 => fX4_copy_12_7_L54 (fun v2_x54 t_x54 => gw_nm (wrI t_x54 12 5 (rdI t_x54 7 5)) (fun t_95 => gw_nm (wrI t_95 12 6 (rdI t_95 7 6)) (fun t_103 => gw_nm (wrI t_103 12 7 (rdI t_103 7 7)) (fun t_111 => some t_111)))) 2000 0 t_49)) 2000 0 c (by omega) (by omega) rfl (fun _ _ _ _ => rfl) (fun h hh => by omega) (fun h hh => by omega)
  have hb : rcRow e 27 (zBelt a) := hs.2.2.1.fr (fun x j hx => e3 _ _ (by omega) (by omega))
  obtain ⟨g, g1, g2, g3⟩ := pR_copy (q := 55) hb (by omega)
  obtain ⟨d, d1, d2, d3⟩ := pC_image_L54 (fun v2_x54 t_x54 => gw_nm (wrI t_x54 12 5 (rdI t_x54 7 5)) (fun t_95 => gw_nm (wrI t_95 12 6 (rdI t_95 7 6)) (fun t_103 => gw_nm (wrI t_103 12 7 (rdI t_103 7 7)) (fun t_111 => some t_111)))) 2000 0 g (by omega) (by omega)
  rw [← zl0] at e1 d1
  rw [e1, g1, Option.bind_some, d1]
  simp only [zNm]
  have src : ∀ j, rdI d 7 j = rdI c 7 j := fun j => by rw [d3, if_neg (by omega), g2.2 _ _ (by omega), e3 _ _ (by omega) (by omega)]
  refine ⟨_, rfl, d2.trans (g2.1.trans e2), fun x y hx hx2 => ?_, fun h hh => ?_, fun h hh => ?_, ?_, ?_, fun j p hp => ?_, ?_, ?_⟩
  · rw [rd_nk (by omega), rd_nk (by omega), rd_nk (by omega), d3, if_neg (by omega), g2.2 _ _ (by omega), e3 _ _ (by omega) (by omega)]
  · rw [rd_nk (by omega), rd_nk (by omega), rd_nk (by omega), d3, if_neg (by omega), g2.2 _ _ (by omega)]; exact e4 h hh
  · have hRR : rdR d 14 h = rdR c 14 h := by unfold rdR; rw [d2, g2.1, e2]
    simp only [rR_wI]
    rw [show (12 + 2 : Nat) = 14 from rfl, hRR]
    obtain ⟨r, hr, er⟩ := hvD.1 h hh
    exact (e5 h hh).fr (fun x j hx => by rw [rd_nk (by omega), rd_nk (by omega), rd_nk (by omega), d3, if_neg (by omega), g2.2 _ _ (by omega)])
  · exact g3.fr (fun x j hx => by rw [rd_nk (by omega), rd_nk (by omega), rd_nk (by omega), d3, if_neg (by omega)])
  · rw [rd_nj (by omega), rd_nj (by omega), rd_eq, src]; exact hs.2.2.2.1
  · have hj := z_lt_of hp
    rw [rd_nk (by omega), rd_nk (by omega), rd_nk (by omega), rd_nk (by omega), rd_nk (by omega), rd_nk (by omega), d3, d3, if_pos (by omega), if_pos (by omega), g2.2 _ _ (by omega), g2.2 _ _ (by omega), e3 _ _ (by omega) (by omega), e3 _ _ (by omega) (by omega)]
    exact hs.2.2.2.2.1 j p hp
  · rw [rd_nj (by omega), rd_eq, rd_nk (by omega), src]; exact hs.2.2.2.2.2.1
  · rw [rd_eq, rd_nk (by omega), rd_nk (by omega), src]; exact hs.2.2.2.2.2.2
theorem pC_restore_L2 {c : gw_S} {a : zS} (hvS : rcV c 14 55) (hvD : rcV c 9 27) (hs : rcS c 12 55 a) (Kx : Int32 → gw_S → Option gw_S) : ∀ f i e, i ≤ 6 → 6 - i < f → e.2 = c.2 → (∀ x y, x ≠ 8 → (x < 27 ∨ 55 ≤ x) → rdI e x y = rdI c x y) → (∀ h, h < i → rdI e 8 h = nI (zTown a h)) → (∀ h, h < i → rcRow e (rdR c 9 h) (zSack a h)) →
    ∃ d, fX4_copy_12_L2 Kx f (nI i) e = Kx (nI 6) d ∧ d.2 = c.2 ∧ (∀ x y, x ≠ 8 → (x < 27 ∨ 55 ≤ x) → rdI d x y = rdI c x y) ∧ (∀ h, h < 6 → rdI d 8 h = nI (zTown a h)) ∧ (∀ h, h < 6 → rcRow d (rdR c 9 h) (zSack a h)) := by
  intro f
  induction f with
  | zero => intro i e _ h; omega
  | succ f ih =>
    intro i e hi hf he hfr h3 h4
    rw [fX4_copy_12_L2]
    by_cases e0 : i = 6
    · subst e0
      exact ⟨e, by rw [if_pos (by decide)], he, hfr, h3, h4⟩
    · have hi6 : i < 6 := by omega
      have hR : ∀ k j, rdR e k j = rdR c k j := fun k j => by unfold rdR; rw [he]
      obtain ⟨r, hr, er⟩ := hvD.1 i hi6
      obtain ⟨r', hr', er'⟩ := hvS.1 i hi6
      have g1 : gw_row (rdR c 9 i) = true := by rw [er]; simp only [gw_row, Bool.and_eq_true, decide_eq_true_eq]; omega
      have g2 : gw_row (rdR c 14 i) = true := by rw [er']; simp only [gw_row, Bool.and_eq_true, decide_eq_true_eq]; omega
      rw [if_neg (fun q => e0 (by have := (z_le (a := 6) (b := i) (by omega) (by omega)).mp q; omega))]
      simp only [zNm]
      rw [z_ix (show i < 2147483648 by omega), z_cl (show i < 2147483648 by omega), decide_eq_true hi6, zl1, z_add]
      simp only [if_true]
      rw [show gw_row (rdR (wrI e 8 i (rdI e 13 i)) 9 i) = true by rw [rR_wI, hR]; exact g1, show gw_row (rdR (wrI e 8 i (rdI e 13 i)) 14 i) = true by rw [rR_wI, hR]; exact g2]
      simp only [if_true]
      rw [rR_wI, rR_wI, hR, hR]
      have hsi : rcRow (wrI e 8 i (rdI e 13 i)) (rdR c 14 i) (zSack a i) := rcRow.fr (show rcRow c (rdR c 14 i) (zSack a i) from hs.2.1 i hi6) (fun x j hx => by rw [rd_nk (by omega), hfr _ _ (by omega) (by omega)])
      obtain ⟨g, gd, gag, grow⟩ := pR_copy (q := rdR c 9 i) hsi (by omega)
      rw [gd]
      simp only [Option.bind_some]
      refine ih (i + 1) g (by omega) (by omega) (gag.1.trans he) (fun x y hx hx2 => ?_) (fun h hh => ?_) (fun h hh => ?_)
      · rw [gag.2 _ _ (by omega), rd_nk hx]; exact hfr x y hx hx2
      · rw [gag.2 _ _ (by omega)]
        by_cases q : h = i
        · subst q
          rw [rd_eq, hfr _ _ (by omega) (by omega)]; exact hs.1 h hi6
        · rw [rd_nj q]; exact h3 h (by omega)
      · by_cases q : h = i
        · subst q; exact grow
        · obtain ⟨r2, hr2, er2⟩ := hvD.1 h (by omega)
          have hne : rdR c 9 h ≠ rdR c 9 i := fun w => q (hvD.2 h i (by omega) hi6 w)
          exact (h4 h (by omega)).fr (fun x j hx => by rw [gag.2 _ _ (by omega), rd_nk (by omega)])
theorem pC_restore_L54 (Kx : Int32 → gw_S → Option gw_S) : ∀ f i e, i ≤ 8 → 8 - i < f → ∃ d, fX4_copy_12_L54 Kx f (nI i) e = Kx (nI 8) d ∧ d.2 = e.2 ∧ ∀ x y, rdI d x y = if 10 ≤ x ∧ x ≤ 11 ∧ i ≤ y ∧ y < 8 then rdI e (x + 5) y else rdI e x y := by
  intro f
  induction f with
  | zero => intro i e _ h; omega
  | succ f ih =>
    intro i e hi hf
    rw [fX4_copy_12_L54]
    by_cases e0 : i = 8
    · subst e0
      exact ⟨e, by rw [if_pos (by decide)], rfl, fun x y => by rw [if_neg (by omega)]⟩
    · rw [if_neg (fun q => e0 (by have := (z_le (a := 8) (b := i) (by omega) (by omega)).mp q; omega))]
      simp only [zNm]
      rw [z_ix (show i < 2147483648 by omega), z_cl (show i < 2147483648 by omega), decide_eq_true (show i < 8 by omega), zl1, z_add]
      simp only [if_true]
      obtain ⟨d, d1, d0, d2⟩ := ih (i + 1) _ (by omega) (by omega)
      refine ⟨d, d1, d0, fun x y => ?_⟩
      rw [d2]
      by_cases hy : y = i
      · subst hy
        rw [if_neg (by omega)]
        by_cases hx : 10 ≤ x ∧ x ≤ 11
        · rw [if_pos (by omega)]
          rcases (show x = 10 ∨ x = 11 by omega) with h | h <;> subst h <;> simp (disch := omega) only [rd_nk, rd_eq]
        · rw [if_neg (by omega)]
          simp (disch := omega) only [rd_nk]
      · by_cases hx : 10 ≤ x ∧ x ≤ 11 ∧ i + 1 ≤ y ∧ y < 8
        · rw [if_pos hx, if_pos (by omega)]
          simp (disch := omega) only [rd_nk]
        · rw [if_neg hx, if_neg (by omega)]
          simp (disch := omega) only [rd_nj]
theorem pC_restore_copy {c : gw_S} {a : zS} (hvS : rcV c 14 55) (hvD : rcV c 9 27) (hs : rcS c 12 55 a) (hf8 : (zFound a).length ≤ 8) : ∃ d, fX4_copy_12 c = some d ∧ d.2 = c.2 ∧ (∀ x y, (x < 7 ∨ 11 < x) → (x < 27 ∨ 55 ≤ x) → rdI d x y = rdI c x y) ∧ rcS d 7 27 a := by
  unfold fX4_copy_12
  obtain ⟨e, e1, e2, e3, e4, e5⟩ := pC_restore_L2 hvS hvD hs (fun v2_x2 t_x2 => (fX3_copy 27 55 t_x2).bind (fun t_49 => fX4_copy_12_L54 (fun v2_x54 t_x54 => gw_nm (wrI t_x54 7 5 (rdI t_x54 12 5)) (fun t_95 => gw_nm (wrI t_95 7 6 (rdI t_95 12 6)) (fun t_103 => gw_nm (wrI t_103 7 7 (rdI t_103 12 7)) (fun t_111 => some t_111)))) 2000 0 t_49)) 2000 0 c (by omega) (by omega) rfl (fun _ _ _ _ => rfl) (fun h hh => by omega) (fun h hh => by omega)
  have hb : rcRow e 55 (zBelt a) := hs.2.2.1.fr (fun x j hx => e3 _ _ (by omega) (by omega))
  obtain ⟨g, g1, g2, g3⟩ := pR_copy (q := 27) hb (by omega)
  obtain ⟨d, d1, d2, d3⟩ := pC_restore_L54 (fun v2_x54 t_x54 => gw_nm (wrI t_x54 7 5 (rdI t_x54 12 5)) (fun t_95 => gw_nm (wrI t_95 7 6 (rdI t_95 12 6)) (fun t_103 => gw_nm (wrI t_103 7 7 (rdI t_103 12 7)) (fun t_111 => some t_111)))) 2000 0 g (by omega) (by omega)
  rw [← zl0] at e1 d1
  rw [e1, g1, Option.bind_some, d1]
  simp only [zNm]
  have src : ∀ j, rdI d 12 j = rdI c 12 j := fun j => by rw [d3, if_neg (by omega), g2.2 _ _ (by omega), e3 _ _ (by omega) (by omega)]
  refine ⟨_, rfl, d2.trans (g2.1.trans e2), fun x y hx hx2 => ?_, fun h hh => ?_, fun h hh => ?_, ?_, ?_, fun j p hp => ?_, ?_, ?_⟩
  · rw [rd_nk (by omega), rd_nk (by omega), rd_nk (by omega), d3, if_neg (by omega), g2.2 _ _ (by omega), e3 _ _ (by omega) (by omega)]
  · rw [rd_nk (by omega), rd_nk (by omega), rd_nk (by omega), d3, if_neg (by omega), g2.2 _ _ (by omega)]; exact e4 h hh
  · have hRR : rdR d 9 h = rdR c 9 h := by unfold rdR; rw [d2, g2.1, e2]
    simp only [rR_wI]
    rw [show (7 + 2 : Nat) = 9 from rfl, hRR]
    obtain ⟨r, hr, er⟩ := hvD.1 h hh
    exact (e5 h hh).fr (fun x j hx => by rw [rd_nk (by omega), rd_nk (by omega), rd_nk (by omega), d3, if_neg (by omega), g2.2 _ _ (by omega)])
  · exact g3.fr (fun x j hx => by rw [rd_nk (by omega), rd_nk (by omega), rd_nk (by omega), d3, if_neg (by omega)])
  · rw [rd_nj (by omega), rd_nj (by omega), rd_eq, src]; exact hs.2.2.2.1
  · have hj := z_lt_of hp
    rw [rd_nk (by omega), rd_nk (by omega), rd_nk (by omega), rd_nk (by omega), rd_nk (by omega), rd_nk (by omega), d3, d3, if_pos (by omega), if_pos (by omega), g2.2 _ _ (by omega), g2.2 _ _ (by omega), e3 _ _ (by omega) (by omega), e3 _ _ (by omega) (by omega)]
    exact hs.2.2.2.2.1 j p hp
  · rw [rd_nj (by omega), rd_eq, rd_nk (by omega), src]; exact hs.2.2.2.2.2.1
  · rw [rd_eq, rd_nk (by omega), rd_nk (by omega), src]; exact hs.2.2.2.2.2.2
theorem pC_image {c : gw_S} {P : List Nat} {n : Nat} {Y R O : Nat → Nat} {fl : Nat} {a : zS} {k : Option zS} (h : rcAll c P n Y R O fl a k) (hI : zInv P n Y R O fl a k) : ∃ d, fX7_image c = some ((if n = 0 then -103 else zSec a), d) ∧ rcAll d P n Y R O fl a (if n = 0 then k else some a) := by
  obtain ⟨h1, h2, h3, h4, h5, h6, h7, h8, h9, h10⟩ := id h
  have hn := hI.n6
  unfold fX7_image
  rw [h2.1]
  by_cases n0 : n = 0
  · rw [if_pos n0, if_pos n0, if_pos (by rw [n0]; rfl)]
    exact ⟨c, rfl, h⟩
  · rw [if_neg n0, if_neg n0, if_neg (show ¬ nI n = 0 from fun q => n0 ((z_eq (a := n) (b := 0) (by omega) (by omega)).mp q))]
    obtain ⟨d, d1, d2, d3, d4⟩ := pC_image_copy h3 h4 h5 hI.2.2.2.1.2.2.2.2.2.2.2.1
    have hR : ∀ x y, rdR (wrI d 0 7 1) x y = rdR c x y := fun x y => by rw [rR_wI]; unfold rdR; rw [d2]
    have fr : ∀ x y, ¬ (x = 0 ∧ y = 7) → (x < 12 ∨ 16 < x) → (x < 55 ∨ 83 ≤ x) → rdI (wrI d 0 7 1) x y = rdI c x y := fun x y q q2 q3 => by
      rw [rd_wr, if_neg q]; exact d3 x y q2 q3
    have fv4 : rcV (wrI d 0 7 1) 14 55 := h4.fr (hR 14)
    refine ⟨wrI d 0 7 1, ?_, h1.fr (fr _ _ (by omega) (by omega) (by omega)) (fun j => fr _ _ (by omega) (by omega) (by omega)), h2.fr (fun i j _ _ => fr _ _ (by omega) (by omega) (by omega)), h3.fr (hR 9), fv4, h5.fr h3 (hR 9) (fun i j _ _ => fr _ _ (by omega) (by omega) (by omega)) (fun i j _ _ => fr _ _ (by omega) (by omega) (by omega)), by rw [fr _ _ (by omega) (by omega) (by omega)]; exact h6, fun ka hk => ?_, fun q => by simp at q, fun h0 => ?_, ?_⟩
    · rw [d1, Option.bind_some]
      simp only [zNm]
      rw [fr _ _ (by omega) (by omega) (by omega), h5.2.2.2.2.2.1]
    · cases hk
      have hv4 : rcV d 14 55 := h4.fr (fun j => by unfold rdR; rw [d2])
      exact ⟨rd_eq _ _ _ _, d4.fr hv4 (fun j => rR_wI _ _ _ _ _ _) (fun i j _ _ => rd_nk (by omega)) (fun i j _ _ => rd_nk (by omega))⟩
    · rw [fr _ _ (by omega) (by omega) (by omega)]
      exact ⟨(h9 h0).1, fun x hx => by rw [fr _ _ (by omega) (by omega) (by omega)]; exact (h9 h0).2 x hx⟩
    · unfold rcWays
      rw [fr _ _ (by omega) (by omega) (by omega), fr _ _ (by omega) (by omega) (by omega)]
      rcases h10 with h | ⟨h, h'⟩
      · exact Or.inl h
      · exact Or.inr ⟨h, fun h0 => ⟨(h' h0).1, fun t ht => by rw [fr _ _ (by omega) (by omega) (by omega)]; exact (h' h0).2 t ht⟩⟩
theorem pC_restore {c : gw_S} {P : List Nat} {n : Nat} {Y R O : Nat → Nat} {fl : Nat} {a : zS} {k : Option zS} (h : rcAll c P n Y R O fl a k) (hI : zInv P n Y R O fl a k) : ∃ d, fX7_restore c = some ((match k with | none => -103 | some ka => zSec ka), d) ∧ rcAll d P n Y R O fl (k.getD a) k := by
  obtain ⟨h1, h2, h3, h4, h5, h6, h7, h8, h9, h10⟩ := id h
  unfold fX7_restore
  cases k with
  | none =>
    rw [h8 rfl, if_pos rfl]
    exact ⟨c, rfl, h⟩
  | some ka =>
    obtain ⟨q1, q2⟩ := h7 ka rfl
    obtain ⟨d, d1, d2, d3, d4⟩ := pC_restore_copy h4 h3 q2 (hI.2.2.2.2.1 ka rfl).2.2.2.2.2.2.2.1
    have hR : ∀ x y, rdR (wrI d 21 3 0) x y = rdR c x y := fun x y => by rw [rR_wI]; unfold rdR; rw [d2]
    have hv3 : rcV d 9 27 := h3.fr (fun j => by unfold rdR; rw [d2])
    have hs : rcS (wrI d 21 3 0) 7 27 ka := d4.fr hv3 (fun j => rR_wI _ _ _ _ _ _) (fun i j _ _ => rd_nk (by omega)) (fun i j _ _ => rd_nk (by omega))
    rw [q1, if_neg (show ¬ (1 : Int32) = 0 by decide), d1, Option.bind_some]
    simp only [zNm]
    refine ⟨wrI d 21 3 0, ?_, h.nowW (fun i j q w => ?_) (rd_eq _ _ _ _) (hR 14) (h3.fr (hR 9)) hs⟩
    · rw [hs.2.2.2.2.2.1]
    · rw [rd_wr, if_neg w]; exact d3 i j (by omega) (by omega)
