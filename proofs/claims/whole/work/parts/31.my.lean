/-! image and restore, the reference's side. -/
theorem pM_im57 (Kx : Int32 → gw_S → Option (Int32 × gw_S)) : ∀ f i e, i ≤ 6 → 6 - i < f → ∃ d, fX8_image_L57 Kx f (nI i) e = Kx (nI 6) d ∧ ∀ x y, rdI d x y = if 14 ≤ x ∧ x ≤ 18 ∧ i ≤ y ∧ y < 6 then rdI e (x - 10) y else rdI e x y := by
  intro f
  induction f with
  | zero => intro i e _ h; omega
  | succ f ih =>
    intro i e hi hf
    rw [fX8_image_L57]
    by_cases e0 : i = 6
    · subst e0
      exact ⟨e, by rw [if_pos (by decide)], fun x y => by rw [if_neg (by omega)]⟩
    · rw [if_neg (fun q => e0 (by have := (z_le (a := 6) (b := i) (by omega) (by omega)).mp q; omega))]
      simp only [zNm]
      rw [z_ix (show i < 2147483648 by omega), z_ix (show i < 2147483648 by omega), z_cl (show i < 2147483648 by omega), decide_eq_true (show i < 6 by omega), decide_eq_true (show i < 12 by omega), zl1, z_add]
      simp only [if_true]
      obtain ⟨d, d1, d2⟩ := ih (i + 1) _ (by omega) (by omega)
      refine ⟨d, d1, fun x y => ?_⟩
      rw [d2]
      by_cases hy : y = i
      · subst hy
        rw [if_neg (by omega)]
        by_cases hx : 14 ≤ x ∧ x ≤ 18
        · rw [if_pos (by omega)]
          rcases (show x = 14 ∨ x = 15 ∨ x = 16 ∨ x = 17 ∨ x = 18 by omega) with h | h | h | h | h <;> subst h <;> simp (disch := omega) only [rd_nk, rd_eq]
        · rw [if_neg (by omega)]
          simp (disch := omega) only [rd_nk]
      · by_cases hx : 14 ≤ x ∧ x ≤ 18 ∧ i + 1 ≤ y ∧ y < 6
        · rw [if_pos hx, if_pos (by omega)]
          simp (disch := omega) only [rd_nk]
        · rw [if_neg hx, if_neg (by omega)]
          simp (disch := omega) only [rd_nj]
theorem pM_im131 (Kx : Int32 → gw_S → Option (Int32 × gw_S)) : ∀ f i e, i ≤ 8 → 8 - i < f → ∃ d, fX8_image_L131 Kx f (nI i) e = Kx (nI 8) d ∧ ∀ x y, rdI d x y = if 19 ≤ x ∧ x ≤ 22 ∧ i ≤ y ∧ y < 8 then rdI e (x - 10) y else rdI e x y := by
  intro f
  induction f with
  | zero => intro i e _ h; omega
  | succ f ih =>
    intro i e hi hf
    rw [fX8_image_L131]
    by_cases e0 : i = 8
    · subst e0
      exact ⟨e, by rw [if_pos (by decide)], fun x y => by rw [if_neg (by omega)]⟩
    · rw [if_neg (fun q => e0 (by have := (z_le (a := 8) (b := i) (by omega) (by omega)).mp q; omega))]
      simp only [zNm]
      rw [z_ix (show i < 2147483648 by omega), z_cl (show i < 2147483648 by omega), decide_eq_true (show i < 8 by omega), zl1, z_add]
      simp only [if_true]
      obtain ⟨d, d1, d2⟩ := ih (i + 1) _ (by omega) (by omega)
      refine ⟨d, d1, fun x y => ?_⟩
      rw [d2]
      by_cases hy : y = i
      · subst hy
        rw [if_neg (by omega)]
        by_cases hx : 19 ≤ x ∧ x ≤ 22
        · rw [if_pos (by omega)]
          rcases (show x = 19 ∨ x = 20 ∨ x = 21 ∨ x = 22 by omega) with h | h | h | h <;> subst h <;> simp (disch := omega) only [rd_nk, rd_eq]
        · rw [if_neg (by omega)]
          simp (disch := omega) only [rd_nk]
      · by_cases hx : 19 ≤ x ∧ x ≤ 22 ∧ i + 1 ≤ y ∧ y < 8
        · rw [if_pos hx, if_pos (by omega)]
          simp (disch := omega) only [rd_nk]
        · rw [if_neg hx, if_neg (by omega)]
          simp (disch := omega) only [rd_nj]
theorem pM_re55 (Kx : Int32 → gw_S → Option (Int32 × gw_S)) : ∀ f i e, i ≤ 6 → 6 - i < f → ∃ d, fX8_restore_L55 Kx f (nI i) e = Kx (nI 6) d ∧ ∀ x y, rdI d x y = if 4 ≤ x ∧ x ≤ 8 ∧ i ≤ y ∧ y < 6 then rdI e (x + 10) y else rdI e x y := by
  intro f
  induction f with
  | zero => intro i e _ h; omega
  | succ f ih =>
    intro i e hi hf
    rw [fX8_restore_L55]
    by_cases e0 : i = 6
    · subst e0
      exact ⟨e, by rw [if_pos (by decide)], fun x y => by rw [if_neg (by omega)]⟩
    · rw [if_neg (fun q => e0 (by have := (z_le (a := 6) (b := i) (by omega) (by omega)).mp q; omega))]
      simp only [zNm]
      rw [z_ix (show i < 2147483648 by omega), z_ix (show i < 2147483648 by omega), z_cl (show i < 2147483648 by omega), decide_eq_true (show i < 6 by omega), decide_eq_true (show i < 12 by omega), zl1, z_add]
      simp only [if_true]
      obtain ⟨d, d1, d2⟩ := ih (i + 1) _ (by omega) (by omega)
      refine ⟨d, d1, fun x y => ?_⟩
      rw [d2]
      by_cases hy : y = i
      · subst hy
        rw [if_neg (by omega)]
        by_cases hx : 4 ≤ x ∧ x ≤ 8
        · rw [if_pos (by omega)]
          rcases (show x = 4 ∨ x = 5 ∨ x = 6 ∨ x = 7 ∨ x = 8 by omega) with h | h | h | h | h <;> subst h <;> simp (disch := omega) only [rd_nk, rd_eq]
        · rw [if_neg (by omega)]
          simp (disch := omega) only [rd_nk]
      · by_cases hx : 4 ≤ x ∧ x ≤ 8 ∧ i + 1 ≤ y ∧ y < 6
        · rw [if_pos hx, if_pos (by omega)]
          simp (disch := omega) only [rd_nk]
        · rw [if_neg hx, if_neg (by omega)]
          simp (disch := omega) only [rd_nj]
theorem pM_re129 (Kx : Int32 → gw_S → Option (Int32 × gw_S)) : ∀ f i e, i ≤ 8 → 8 - i < f → ∃ d, fX8_restore_L129 Kx f (nI i) e = Kx (nI 8) d ∧ ∀ x y, rdI d x y = if 9 ≤ x ∧ x ≤ 12 ∧ i ≤ y ∧ y < 8 then rdI e (x + 10) y else rdI e x y := by
  intro f
  induction f with
  | zero => intro i e _ h; omega
  | succ f ih =>
    intro i e hi hf
    rw [fX8_restore_L129]
    by_cases e0 : i = 8
    · subst e0
      exact ⟨e, by rw [if_pos (by decide)], fun x y => by rw [if_neg (by omega)]⟩
    · rw [if_neg (fun q => e0 (by have := (z_le (a := 8) (b := i) (by omega) (by omega)).mp q; omega))]
      simp only [zNm]
      rw [z_ix (show i < 2147483648 by omega), z_cl (show i < 2147483648 by omega), decide_eq_true (show i < 8 by omega), zl1, z_add]
      simp only [if_true]
      obtain ⟨d, d1, d2⟩ := ih (i + 1) _ (by omega) (by omega)
      refine ⟨d, d1, fun x y => ?_⟩
      rw [d2]
      by_cases hy : y = i
      · subst hy
        rw [if_neg (by omega)]
        by_cases hx : 9 ≤ x ∧ x ≤ 12
        · rw [if_pos (by omega)]
          rcases (show x = 9 ∨ x = 10 ∨ x = 11 ∨ x = 12 by omega) with h | h | h | h <;> subst h <;> simp (disch := omega) only [rd_nk, rd_eq]
        · rw [if_neg (by omega)]
          simp (disch := omega) only [rd_nk]
      · by_cases hx : 9 ≤ x ∧ x ≤ 12 ∧ i + 1 ≤ y ∧ y < 8
        · rw [if_pos hx, if_pos (by omega)]
          simp (disch := omega) only [rd_nk]
        · rw [if_neg hx, if_neg (by omega)]
          simp (disch := omega) only [rd_nj]
/-- a standing read in other cells -/
theorem rmS.cp {m d : gw_S} {n : Nat} {kh km kw kg ko kk kt k1 k2 jb js jh jf kh' km' kw' kg' ko' kk' kt' k1' k2' jb' js' jh' jf' : Nat} {a : zS} (h : rmS m n kh km kw kg ko kk kt k1 k2 jb js jh jf a) (hn : n ≤ 6) (hS : zInvS n a)
    (c1 : ∀ y, y < 6 → rdI d kh' y = rdI m kh y) (c2 : ∀ y, y < 6 → rdI d km' y = rdI m km y) (c3 : ∀ y, y < 6 → rdI d kw' y = rdI m kw y) (c4 : ∀ y, y < 6 → rdI d kg' y = rdI m kg y) (c5 : ∀ y, y < 6 → rdI d ko' y = rdI m ko y)
    (c6 : ∀ y, y < 8 → rdI d kk' y = rdI m kk y) (c7 : ∀ y, y < 8 → rdI d kt' y = rdI m kt y) (c8 : ∀ y, y < 8 → rdI d k1' y = rdI m k1 y) (c9 : ∀ y, y < 8 → rdI d k2' y = rdI m k2 y)
    (g1 : rdI d 0 jb' = rdI m 0 jb) (g2 : rdI d 0 js' = rdI m 0 js) (g3 : rdI d 0 jh' = rdI m 0 jh) (g4 : rdI d 0 jf' = rdI m 0 jf) : rmS d n kh' km' kw' kg' ko' kk' kt' k1' k2' jb' js' jh' jf' a := by
  obtain ⟨s1, s2, s3, s4, s5, s6, s7, s8⟩ := h
  have t6 := z_town6 hn hS
  have hb := hS.2.2.2.2.2.1
  have hf := hS.2.2.2.2.2.2.2.1
  refine ⟨fun y hy => ?_, fun y hy => ?_, ?_, fun j p hp => ?_, ?_, fun j p hp => ?_, ?_, ?_⟩
  · rw [c1 y (by omega)]; exact s1 y hy
  · rw [c2 _ (t6 y hy), c3 _ (t6 y hy), c4 _ (t6 y hy), c5 _ (t6 y hy)]; exact s2 y hy
  · rw [g1]; exact s3
  · have := z_lt_of hp
    rw [c6 j (by omega), c7 j (by omega)]; exact s4 j p hp
  · rw [g4]; exact s5
  · have := z_lt_of hp
    rw [c8 j (by omega), c9 j (by omega)]; exact s6 j p hp
  · rw [g2]; exact s7
  · rw [g3]; exact s8
theorem pM_image {m : gw_S} {P : List Nat} {n : Nat} {Y R O : Nat → Nat} {fl : Nat} {a : zS} {k : Option zS} (h : rmAll m P n Y R O fl a k) (hI : zInv P n Y R O fl a k) : ∃ d, fX8_image m = some ((if n = 0 then -103 else zSec a), d) ∧ rmAll d P n Y R O fl a (if n = 0 then k else some a) := by
  obtain ⟨h1, h2, h3, h4, h5, h6⟩ := id h
  have hn := hI.n6
  have hS := hI.2.2.2.1
  unfold fX8_image
  rw [h2.1]
  by_cases n0 : n = 0
  · rw [if_pos n0, if_pos n0, if_pos (by rw [n0]; rfl)]
    exact ⟨m, rfl, h⟩
  · rw [if_neg n0, if_neg n0, if_neg (show ¬ nI n = 0 from fun q => n0 ((z_eq (a := n) (b := 0) (by omega) (by omega)).mp q))]
    simp only [zNm]
    simp (disch := omega) only [rd_nj]
    obtain ⟨e, e1, e2⟩ := pM_im57 (fun v1_x57 t_x57 => fX8_image_L131 (fun v1_x131 t_x131 => some ((rdI t_x131 0 13), t_x131)) 2000 0 t_x57) 2000 0 (wrI (wrI (wrI (wrI (wrI (wrI m 0 26 1) 0 27 (rdI m 0 0)) 0 28 (rdI m 0 10)) 0 29 (rdI m 0 13)) 0 30 (rdI m 0 14)) 0 31 (rdI m 0 15)) (by omega) (by omega)
    obtain ⟨d, d1, d2⟩ := pM_im131 (fun v1_x131 t_x131 => some ((rdI t_x131 0 13), t_x131)) 2000 0 e (by omega) (by omega)
    have fr : ∀ x y, ¬ (x = 0 ∧ 26 ≤ y) → (x < 14 ∨ 23 ≤ x) → rdI d x y = rdI m x y := fun x y h0 hx => by
      rw [d2, if_neg (by omega), e2, if_neg (by omega)]
      simp (disch := omega) only [rd_wr, if_neg]
    have cz : ∀ y, rdI d 0 y = rdI (wrI (wrI (wrI (wrI (wrI (wrI m 0 26 1) 0 27 (rdI m 0 0)) 0 28 (rdI m 0 10)) 0 29 (rdI m 0 13)) 0 30 (rdI m 0 14)) 0 31 (rdI m 0 15)) 0 y := fun y => by
      rw [d2, if_neg (by omega), e2, if_neg (by omega)]
    have cp : ∀ x y, 4 ≤ x → x ≤ 12 → (x ≤ 8 → y < 6) → y < 8 → rdI d (x + 10) y = rdI m x y := fun x y q1 q2 q3 q4 => by
      rw [d2]
      by_cases q : x ≤ 8
      · rw [if_neg (by omega), e2, if_pos (by omega)]
        simp (disch := omega) only [rd_nk, Nat.add_sub_cancel]
      · rw [if_pos (by omega), e2, if_neg (by omega)]
        simp (disch := omega) only [rd_nk, Nat.add_sub_cancel]
    refine ⟨d, ?_, h1.fr (fr _ _ (by omega) (by omega)) (fun j => fr _ _ (by omega) (by omega)), h2.fr (fr _ _ (by omega) (by omega)) (fun i j _ _ => fr _ _ (by omega) (by omega)), ?_, by rw [fr _ _ (by omega) (by omega)]; exact h4, fun ka hk => ?_, fun q => by simp at q⟩
    · rw [← zl0] at e1 d1
      rw [e1, d1, fr _ _ (by omega) (by omega), h3.2.2.2.2.2.2.1]
    · refine h3.fr hn hS.1 ?_ ?_ ?_ ?_ ?_ ?_ ?_ ?_ ?_ ?_ ?_ ?_ ?_ <;> intros <;> exact fr _ _ (by omega) (by omega)
    · cases hk
      refine ⟨?_, ?_, h3.cp hn hS (fun y hy => cp 4 y (by omega) (by omega) (fun _ => hy) (by omega)) (fun y hy => cp 5 y (by omega) (by omega) (fun _ => hy) (by omega)) (fun y hy => cp 6 y (by omega) (by omega) (fun _ => hy) (by omega)) (fun y hy => cp 7 y (by omega) (by omega) (fun _ => hy) (by omega)) (fun y hy => cp 8 y (by omega) (by omega) (fun _ => hy) (by omega)) (fun y hy => cp 9 y (by omega) (by omega) (by omega) hy) (fun y hy => cp 10 y (by omega) (by omega) (by omega) hy) (fun y hy => cp 11 y (by omega) (by omega) (by omega) hy) (fun y hy => cp 12 y (by omega) (by omega) (by omega) hy) ?_ ?_ ?_ ?_⟩
      · rw [cz]; simp (disch := omega) only [rd_nj, rd_eq]
      · rw [cz]; simp (disch := omega) only [rd_nj, rd_eq]; exact h4
      · rw [cz]; simp (disch := omega) only [rd_nj, rd_eq]
      · rw [cz]; simp (disch := omega) only [rd_nj, rd_eq]
      · rw [cz]; simp (disch := omega) only [rd_nj, rd_eq]
      · rw [cz]; simp (disch := omega) only [rd_nj, rd_eq]
theorem pM_restore {m : gw_S} {P : List Nat} {n : Nat} {Y R O : Nat → Nat} {fl : Nat} {a : zS} {k : Option zS} (h : rmAll m P n Y R O fl a k) (hI : zInv P n Y R O fl a k) : ∃ d, fX8_restore m = some ((match k with | none => -103 | some ka => zSec ka), d) ∧ rmAll d P n Y R O fl (k.getD a) k := by
  obtain ⟨h1, h2, h3, h4, h5, h6⟩ := id h
  have hn := hI.n6
  have hfl := hI.2.2.1
  unfold fX8_restore
  cases k with
  | none =>
    refine ⟨m, ?_, h⟩
    rcases h6 rfl with q | ⟨f, hf, q⟩
    · rw [if_pos q]
    · rw [q, h4, if_neg (show ¬ nI f = nI fl from fun w => by have := (z_eq (by omega) (by omega)).mp w; omega)]
      simp only [ite_self]
  | some ka =>
    obtain ⟨q1, q2, q3⟩ := h5 ka rfl
    have hS := hI.2.2.2.2.1 ka rfl
    rw [q1, q2, h4, if_neg (show ¬ (1 : Int32) = 0 by decide), if_pos rfl]
    simp only [zNm]
    simp (disch := omega) only [rd_nj]
    obtain ⟨e, e1, e2⟩ := pM_re55 (fun v1_x55 t_x55 => fX8_restore_L129 (fun v1_x129 t_x129 => some ((rdI t_x129 0 13), t_x129)) 2000 0 t_x55) 2000 0 (wrI (wrI (wrI (wrI m 0 10 (rdI m 0 28)) 0 13 (rdI m 0 29)) 0 14 (rdI m 0 30)) 0 15 (rdI m 0 31)) (by omega) (by omega)
    obtain ⟨d, d1, d2⟩ := pM_re129 (fun v1_x129 t_x129 => some ((rdI t_x129 0 13), t_x129)) 2000 0 e (by omega) (by omega)
    have fr : ∀ x y, ¬ (x = 0 ∧ (y = 10 ∨ y = 13 ∨ y = 14 ∨ y = 15)) → (x < 4 ∨ 13 ≤ x) → rdI d x y = rdI m x y := fun x y h0 hx => by
      rw [d2, if_neg (by omega), e2, if_neg (by omega)]
      simp (disch := omega) only [rd_wr, if_neg]
    have cz : ∀ y, rdI d 0 y = rdI (wrI (wrI (wrI (wrI m 0 10 (rdI m 0 28)) 0 13 (rdI m 0 29)) 0 14 (rdI m 0 30)) 0 15 (rdI m 0 31)) 0 y := fun y => by
      rw [d2, if_neg (by omega), e2, if_neg (by omega)]
    have cp : ∀ x y, 4 ≤ x → x ≤ 12 → (x ≤ 8 → y < 6) → y < 8 → rdI d x y = rdI m (x + 10) y := fun x y w1 w2 w3 w4 => by
      rw [d2]
      by_cases w : x ≤ 8
      · rw [if_neg (by omega), e2, if_pos (by omega)]
        simp (disch := omega) only [rd_nk]
      · rw [if_pos (by omega), e2, if_neg (by omega)]
        simp (disch := omega) only [rd_nk]
    have hs : rmN d n ka := by
      refine q3.cp hn hS (fun y hy => cp 4 y (by omega) (by omega) (fun _ => hy) (by omega)) (fun y hy => cp 5 y (by omega) (by omega) (fun _ => hy) (by omega)) (fun y hy => cp 6 y (by omega) (by omega) (fun _ => hy) (by omega)) (fun y hy => cp 7 y (by omega) (by omega) (fun _ => hy) (by omega)) (fun y hy => cp 8 y (by omega) (by omega) (fun _ => hy) (by omega)) (fun y hy => cp 9 y (by omega) (by omega) (by omega) hy) (fun y hy => cp 10 y (by omega) (by omega) (by omega) hy) (fun y hy => cp 11 y (by omega) (by omega) (by omega) hy) (fun y hy => cp 12 y (by omega) (by omega) (by omega) hy) ?_ ?_ ?_ ?_
      · rw [cz]; simp (disch := omega) only [rd_nj, rd_eq]
      · rw [cz]; simp (disch := omega) only [rd_nj, rd_eq]
      · rw [cz]; simp (disch := omega) only [rd_nj, rd_eq]
      · rw [cz]; simp (disch := omega) only [rd_nj, rd_eq]
    refine ⟨d, ?_, h.now hI fr hs⟩
    rw [← zl0] at e1 d1
    rw [e1, d1, hs.2.2.2.2.2.2.1]
