/-! The reference: floor. -/
theorem pM_pageAt {m : gw_S} {P : List Nat} (h : rmPage m P) {j : Nat} (hj : j < P.length) (h48 : 48 ≤ P.getD j 0) : rdI m 13 j - 48 = nI (P.getD j 0 - 48) := by
  obtain ⟨v, hv⟩ := z_get hj
  have e : P.getD j 0 = v := by rw [List.getD_eq_getElem?_getD, hv]; rfl
  rw [e] at h48 ⊢
  rw [h.2 j v hv, show (48 : Int32) = nI 48 from rfl, z_sub h48]
def rmHook (d : gw_S) (P : List Nat) (h x : Nat) : Prop := (rdI d 1 x = nI (zfY P x) ∧ rdI d 2 x = nI (zfR P x) ∧ rdI d 3 x = nI (zfO P h x)) ∧ rdI d 4 x = nI x ∧ rdI d 5 x = 0 ∧ rdI d 6 x = 0 ∧ rdI d 7 x = 0 ∧ rdI d 8 x = 0
theorem rmHook.fr {d g : gw_S} {P : List Nat} {h x : Nat} (a : rmHook d P h x) (e : ∀ c, 1 ≤ c → c ≤ 8 → rdI g c x = rdI d c x) : rmHook g P h x := by
  unfold rmHook
  rw [e 1 (by omega) (by omega), e 2 (by omega) (by omega), e 3 (by omega) (by omega), e 4 (by omega) (by omega), e 5 (by omega) (by omega), e 6 (by omega) (by omega), e 7 (by omega) (by omega), e 8 (by omega) (by omega)]
  exact a
theorem pM_floor_L {P : List Nat} {h : Nat} (hh : h ≤ 6) (hl : P.length = 4 * h) (hD : ∀ i, i < h → 48 ≤ P.getD (3 * i) 0 ∧ 48 ≤ P.getD (3 * i + 1) 0 ∧ 48 ≤ P.getD (3 * h + i) 0) (Kx : Int32 → gw_S → Option (Int32 × gw_S)) : ∀ k f i e, i + k = h → k < f → rmPage e P → rdI e 0 1 = nI h → ∃ d, (∀ x y, ¬ (1 ≤ x ∧ x ≤ 8) → rdI d x y = rdI e x y) ∧ (∀ x, x < i → ∀ c, rdI d c x = rdI e c x) ∧ (∀ x, i ≤ x → x < h → rmHook d P h x) ∧ fX8_floor_L24 Kx f (nI i) e = Kx (nI h) d := by
  intro k
  induction k with
  | zero =>
    intro f i e hi hf hp h1
    obtain ⟨f, rfl⟩ : ∃ g, f = g + 1 := ⟨f - 1, by omega⟩
    have : i = h := by omega
    subst this
    exact ⟨e, fun _ _ _ => rfl, fun _ _ _ => rfl, fun x _ _ => by omega, by rw [fX8_floor_L24, h1, if_pos ((z_le (a := i) (b := i) (by omega) (by omega)).mpr (Nat.le_refl _))]⟩
  | succ k ih =>
    intro f i e hi hf hp h1
    obtain ⟨f, rfl⟩ : ∃ g, f = g + 1 := ⟨f - 1, by omega⟩
    obtain ⟨q1, q2, q3⟩ := hD i (by omega)
    generalize hg1 : wrI e 1 i (nI (zfY P i)) = g1
    generalize hg2 : wrI g1 2 i (nI (zfR P i)) = g2
    generalize hg3 : wrI g2 3 i (nI (zfO P h i)) = g3
    generalize hg8 : wrI (wrI (wrI (wrI (wrI g3 4 i (nI i)) 5 i 0) 6 i 0) 7 i 0) 8 i 0 = g8
    have f1 : ∀ x y, x ≠ 1 → rdI g1 x y = rdI e x y := fun x y hx => by rw [← hg1, rd_nk hx]
    have f2 : ∀ x y, x ≠ 1 → x ≠ 2 → rdI g2 x y = rdI e x y := fun x y hx hx2 => by rw [← hg2, rd_nk hx2, f1 x y hx]
    have f8 : ∀ x y, ¬ (1 ≤ x ∧ x ≤ 8) → rdI g8 x y = rdI e x y := fun x y hx => by rw [← hg8, rd_nk (by omega), rd_nk (by omega), rd_nk (by omega), rd_nk (by omega), rd_nk (by omega), ← hg3, rd_nk (by omega), f2 x y (by omega) (by omega)]
    have p1 : rmPage g1 P := hp.fr (f1 _ _ (by omega)) (fun j => f1 _ _ (by omega))
    have p2 : rmPage g2 P := hp.fr (f2 _ _ (by omega) (by omega)) (fun j => f2 _ _ (by omega) (by omega))
    have p8 : rmPage g8 P := hp.fr (f8 _ _ (by omega)) (fun j => f8 _ _ (by omega))
    have o8 : ∀ x, x ≠ i → ∀ c, rdI g8 c x = rdI e c x := fun x hx c => by rw [← hg8, rd_nj hx, rd_nj hx, rd_nj hx, rd_nj hx, rd_nj hx, ← hg3, rd_nj hx, ← hg2, rd_nj hx, ← hg1, rd_nj hx]
    have H8 : rmHook g8 P h i := by
      refine ⟨⟨?_, ?_, ?_⟩, ?_, ?_, ?_, ?_, ?_⟩
      · rw [← hg8, rd_nk (by omega), rd_nk (by omega), rd_nk (by omega), rd_nk (by omega), rd_nk (by omega), ← hg3, rd_nk (by omega), ← hg2, rd_nk (by omega), ← hg1, rd_eq]
      · rw [← hg8, rd_nk (by omega), rd_nk (by omega), rd_nk (by omega), rd_nk (by omega), rd_nk (by omega), ← hg3, rd_nk (by omega), ← hg2, rd_eq]
      · rw [← hg8, rd_nk (by omega), rd_nk (by omega), rd_nk (by omega), rd_nk (by omega), rd_nk (by omega), ← hg3, rd_eq]
      · rw [← hg8, rd_nk (by omega), rd_nk (by omega), rd_nk (by omega), rd_nk (by omega), rd_eq]
      · rw [← hg8, rd_nk (by omega), rd_nk (by omega), rd_nk (by omega), rd_eq]
      · rw [← hg8, rd_nk (by omega), rd_nk (by omega), rd_eq]
      · rw [← hg8, rd_nk (by omega), rd_eq]
      · rw [← hg8, rd_eq]
    obtain ⟨d, d1, d2, d3, d4⟩ := ih f (i + 1) g8 (by omega) (by omega) p8 (by rw [f8 _ _ (by omega)]; exact h1)
    refine ⟨d, fun x y hx => (d1 x y hx).trans (f8 x y hx), fun x hx c => (d2 x (by omega) c).trans (o8 x (by omega) c), fun x hx1 hx2 => ?_, ?_⟩
    · by_cases w : x = i
      · rw [w]
        exact H8.fr (fun c _ _ => d2 i (by omega) c)
      · exact d3 x (by omega) hx2
    · rw [fX8_floor_L24, h1, if_neg (show ¬ nI h ≤ nI i from fun q => by have := (z_le (a := h) (b := i) (by omega) (by omega)).mp q; omega)]
      unfold fX8_empty
      simp only [zNm]
      rw [z_ix (show i < 2147483648 by omega), z_ix (show i < 2147483648 by omega), decide_eq_true (show i < 6 by omega), decide_eq_true (show i < 12 by omega), zl3, z_mul, z_cl (show i < 2147483648 by omega), z_ix (show 3 * i < 2147483648 by omega), decide_eq_true (show 3 * i < 24 by omega), if_pos rfl, if_pos rfl, z_cl (show 3 * i < 2147483648 by omega), pM_pageAt hp (show 3 * i < P.length by omega) q1, show P.getD (3 * i) 0 - 48 = zfY P i from rfl, hg1, show nI (3 * i) + 1 = nI (3 * i + 1) from z_add (3 * i) 1, z_ix (show 3 * i + 1 < 2147483648 by omega), decide_eq_true (show 3 * i + 1 < 24 by omega), if_pos rfl, if_pos rfl, z_cl (show 3 * i + 1 < 2147483648 by omega), pM_pageAt p1 (show 3 * i + 1 < P.length by omega) q2, show P.getD (3 * i + 1) 0 - 48 = zfR P i from rfl, hg2, f2 0 1 (by omega) (by omega), h1, z_mul, z_add, z_ix (show 3 * h + i < 2147483648 by omega), decide_eq_true (show 3 * h + i < 24 by omega), if_pos rfl, if_pos rfl, z_cl (show 3 * h + i < 2147483648 by omega), pM_pageAt p2 (show 3 * h + i < P.length by omega) q3, show P.getD (3 * h + i) 0 - 48 = zfO P h i from rfl, hg3, if_pos rfl, if_pos rfl, if_pos rfl, if_pos rfl, if_pos rfl, Option.bind_some, hg8, show nI i + 1 = nI (i + 1) from z_add i 1]
      exact d4
theorem pM_floor_no {P : List Nat} {n : Nat} {Y R O : Nat → Nat} {fl : Nat} {a : zS} {k : Option zS} {m : gw_S} (h : rmAll m P n Y R O fl a k) (hI : zInv P n Y R O fl a k) (hf : zFloor P = none) : ∃ d, fX8_floor m = some (-103, d) ∧ rmAll d P n Y R O fl a k := by
  obtain ⟨d, d1, d2, -, d4, -⟩ := pM_read hI.1 h.1
  refine ⟨d, ?_, h.scr hI d2.scr⟩
  unfold fX8_floor
  rw [List.drop_zero] at d4
  unfold zFloor at hf
  by_cases w : 0 < zEnd P 0 0 ∧ zScan P 0 0 = P.length ∧ P.length = 4 * zEnd P 0 0
  · rw [if_pos w] at hf
    simp at hf
  · rw [decide_eq_false w] at d4
    rw [d1, Option.bind_some, d4, if_pos (show zb false = 0 from rfl)]
theorem pM_floor {P : List Nat} {n : Nat} {Y R O : Nat → Nat} {fl : Nat} {a : zS} {k : Option zS} {m : gw_S} (h : rmAll m P n Y R O fl a k) (hI : zInv P n Y R O fl a k) {hn : Nat} (hf : zFloor P = some hn) : ∃ d, fX8_floor m = some (nI hn, d) ∧ rmAll d [] hn (zfY P) (zfR P) (zfO P hn) (fl + 1) zFresh none := by
  obtain ⟨a3, b6, l4, D⟩ := zFloor_facts hf
  obtain ⟨d, d1, d2, -, d4, d5⟩ := pM_read hI.1 h.1
  rw [List.drop_zero] at d4 d5
  have hf' := hf
  unfold zFloor at hf'
  by_cases w : 0 < zEnd P 0 0 ∧ zScan P 0 0 = P.length ∧ P.length = 4 * zEnd P 0 0
  · rw [if_pos w] at hf'
    have eE := Option.some.inj hf'
    rw [decide_eq_true w] at d4
    have d5 := d5 w.1
    rw [eE] at d5
    have hp := d2.pg h.1
    obtain ⟨g, g1, -, g3, g4⟩ := pM_floor_L (P := P) (h := hn) b6 l4 (fun i hi => by have := D i hi; omega) (fun v1_x24 t_x24 => some (rdI (wrI (wrI (wrI (wrI (wrI (wrI t_x24 0 0 (rdI t_x24 0 0 + 1)) 0 10 0) 0 13 0) 0 14 0) 0 15 0) 0 18 0) 0 1, (wrI (wrI (wrI (wrI (wrI (wrI t_x24 0 0 (rdI t_x24 0 0 + 1)) 0 10 0) 0 13 0) 0 14 0) 0 15 0) 0 18 0))) hn 2000 0 (wrI d 0 1 (nI hn)) (by omega) (by omega) (hp.fr (by rw [rd_nj (by omega)]) (fun j => rd_nk (by omega))) (rd_eq _ _ _ _)
    rw [← zl0] at g4
    have gE : ∀ x y, ¬ (x = 0 ∧ y = 1) → ¬ (1 ≤ x ∧ x ≤ 8) → ¬ (x = 0 ∧ 20 ≤ y ∧ y ≤ 22) → rdI g x y = rdI m x y := by
      intro x y q1 q2 q3
      rw [g1 x y q2, rd_wr, if_neg q1, d2 x y q3]
    have g00 : rdI g 0 0 = nI fl := (gE 0 0 (by omega) (by omega) (by omega)).trans h.2.2.2.1
    have g01 : rdI g 0 1 = nI hn := by rw [g1 0 1 (by omega), rd_eq]
    rw [g00, show nI fl + 1 = nI (fl + 1) from z_add fl 1] at g4
    generalize hD : wrI (wrI (wrI (wrI (wrI (wrI g 0 0 (nI (fl + 1))) 0 10 0) 0 13 0) 0 14 0) 0 15 0) 0 18 0 = q at g4
    have qn : ∀ x y, x ≠ 0 → rdI q x y = rdI g x y := fun x y hx => by rw [← hD, rd_nk hx, rd_nk hx, rd_nk hx, rd_nk hx, rd_nk hx, rd_nk hx]
    have q01 : rdI q 0 1 = nI hn := by rw [← hD, rd_nj (by omega), rd_nj (by omega), rd_nj (by omega), rd_nj (by omega), rd_nj (by omega), rd_nj (by omega)]; exact g01
    have qk : ∀ y, 26 ≤ y → rdI q 0 y = rdI m 0 y := fun y hy => by rw [← hD, rd_nj (by omega), rd_nj (by omega), rd_nj (by omega), rd_nj (by omega), rd_nj (by omega), rd_nj (by omega)]; exact gE 0 y (by omega) (by omega) (by omega)
    refine ⟨q, ?_, ⟨?_, fun j v hv => by simp at hv⟩, ⟨q01, fun x hx => ?_⟩, ⟨fun x hx => ?_, fun x hx => ?_, ?_, fun j p hp => by simp [zBelt, zFresh] at hp, ?_, fun j p hp => by simp [zFound, zFresh] at hp, ?_, ?_⟩, ?_, (fun ka hk => by cases hk), fun _ => ?_⟩
    · unfold fX8_floor
      simp only [zNm]
      rw [d1, Option.bind_some, d4, if_neg (show ¬ zb true = 0 by decide), d5, g4, q01]
    · rw [← hD, rd_eq]; rfl
    · rw [qn _ _ (by omega), qn _ _ (by omega), qn _ _ (by omega)]
      exact (g3 x (Nat.zero_le _) hx).1
    · rw [qn _ _ (by omega)]
      exact (g3 x (Nat.zero_le _) hx).2.1
    · rw [qn _ _ (by omega), qn _ _ (by omega), qn _ _ (by omega), qn _ _ (by omega)]
      obtain ⟨-, -, z5, z6, z7, z8⟩ := g3 x (Nat.zero_le _) hx
      exact ⟨z5, z6, z7, z8⟩
    · rw [← hD, rd_nj (by omega), rd_nj (by omega), rd_nj (by omega), rd_nj (by omega), rd_eq]; rfl
    · rw [← hD, rd_nj (by omega), rd_eq]; rfl
    · rw [← hD, rd_nj (by omega), rd_nj (by omega), rd_nj (by omega), rd_eq]; rfl
    · rw [← hD, rd_nj (by omega), rd_nj (by omega), rd_eq]; rfl
    · rw [← hD, rd_nj (by omega), rd_nj (by omega), rd_nj (by omega), rd_nj (by omega), rd_nj (by omega), rd_eq]
    · rw [qk 26 (by omega), qk 27 (by omega)]
      cases k with
      | none =>
        rcases h.2.2.2.2.2 rfl with u | ⟨f, u1, u2⟩
        · exact Or.inl u
        · exact Or.inr ⟨f, by omega, u2⟩
      | some ka =>
        obtain ⟨-, u, -⟩ := h.2.2.2.2.1 ka rfl
        exact Or.inr ⟨fl, by omega, u⟩
  · rw [if_neg w] at hf'
    simp at hf'
