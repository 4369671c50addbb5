/-! The class: hanging, exchanges. -/
theorem z_nm1 {a : Nat} (ha : a < 2147483648) : ¬ nI a = -1 := z_neg (b := 1) ha (by omega) (by omega)
theorem pC_hookOf_L {c : gw_S} {T : Nat → Nat} {t i : Nat} (hT : ∀ j, j < 6 → rdI c 8 j = nI (T j)) (h31 : ∀ j, j < 6 → T j < 100) (ht : t < 100) (hi : i < 6) (hit : T i = t) (hne : ∀ j, j < i → ¬ T j = t) (Kx : Int32 → Option Int32) : ∀ k f s, s + k = i → k < f → fX4_hookOf_L2 Kx (nI t) c f (nI s) = some (nI i) := by
  intro k
  induction k with
  | zero =>
    intro f s hs hf
    obtain ⟨f, rfl⟩ : ∃ g, f = g + 1 := ⟨f - 1, by omega⟩
    have : s = i := by omega
    subst this
    rw [fX4_hookOf_L2, if_neg (show ¬ (6 : Int32) ≤ nI s from fun q => by have := (z_le (a := 6) (b := s) (by omega) (by omega)).mp q; omega), z_ix (show s < 2147483648 by omega), decide_eq_true (show s < 6 by omega), if_pos rfl, z_cl (show s < 2147483648 by omega), hT s hi, hit, if_pos rfl]
  | succ k ih =>
    intro f s hs hf
    obtain ⟨f, rfl⟩ : ∃ g, f = g + 1 := ⟨f - 1, by omega⟩
    have h1 := h31 s (by omega)
    rw [fX4_hookOf_L2, if_neg (show ¬ (6 : Int32) ≤ nI s from fun q => by have := (z_le (a := 6) (b := s) (by omega) (by omega)).mp q; omega), z_ix (show s < 2147483648 by omega), decide_eq_true (show s < 6 by omega), if_pos rfl, z_cl (show s < 2147483648 by omega), hT s (by omega), if_neg (fun q => hne s (by omega) ((z_eq (by omega) (by omega)).mp q))]
    simp only [zNm]
    rw [zl1, z_add]
    exact ih f (s + 1) (by omega) (by omega)
theorem pC_hookOf {c : gw_S} {n : Nat} {a : zS} {rb : Nat} (hs : rcS c 7 rb a) (hS : zInvS n a) (hn : n ≤ 6) {t : Nat} (ht : t < n) : fX4_hookOf (nI t) c = some (nI (zHookOf n a t)) := by
  have h1 := zHookOf_lt hS ht
  have h2 := zHookOf_town hS ht
  unfold fX4_hookOf
  rw [zl0]
  refine pC_hookOf_L (T := zTown a) (i := zHookOf n a t) hs.1 (fun j hj => ?_) (by omega) (by omega) h2 (fun j hj q => ?_) _ (zHookOf n a t) 2000 0 (by omega) (by omega)
  · by_cases h : j < n
    · have := hS.1 j h; omega
    · rw [hS.2.2.1 j (by omega) hj (by omega)]; omega
  · have := hS.2.1 j (zHookOf n a t) (by omega) h1 (q.trans h2.symm)
    omega
theorem pC_exch_L34 {n : Nat} {s : Nat → Nat} {c : gw_S} (hn : n ≤ 6) (hs : ∀ v, v < n → s v < n ∧ fX4_hookOf (rdI c 18 v) c = some (nI (s v))) (Kx : Int32 → Int32 → Int32 → Option Int32) (v3 v5 : Int32) : ∀ k f st m v, st + k = n → k < f → m < 64 → v < n → ∃ y z, fX0_exchangesFrom_L34 Kx (nI n) v3 v5 c f (nI m) (nI v) (nI st) = Kx (nI (zRing s k m v)) y z := by
  intro k
  induction k with
  | zero =>
    intro f st m v h1 h2 hm hv
    obtain ⟨f, rfl⟩ : ∃ g, f = g + 1 := ⟨f - 1, by omega⟩
    refine ⟨nI v, nI st, ?_⟩
    rw [fX0_exchangesFrom_L34, if_pos ((z_le (a := n) (b := st) (by omega) (by omega)).mpr (by omega))]
    rfl
  | succ k ih =>
    intro f st m v h1 h2 hm hv
    obtain ⟨f, rfl⟩ : ∃ g, f = g + 1 := ⟨f - 1, by omega⟩
    rw [fX0_exchangesFrom_L34, if_neg (show ¬ nI n ≤ nI st from fun q => by have := (z_le (a := n) (b := st) (by omega) (by omega)).mp q; omega), if_neg (z_nm1 (show v < 2147483648 by omega)), z_bit m hm v (by omega)]
    unfold zRing
    cases hb : m.testBit v with
    | true =>
      refine ⟨nI v, nI st, ?_⟩
      rw [if_pos rfl, if_neg (show ¬ nI 1 = (0 : Int32) by decide), if_pos rfl]
    | false =>
      obtain ⟨y, z, hy⟩ := ih f (st + 1) (m ||| 2 ^ v) (s v) (by omega) (by omega) (z_or64 hm (by omega)) (hs v hv).1
      refine ⟨y, z, ?_⟩
      rw [if_neg (show ¬ false = true from Bool.false_ne_true), if_pos (show nI 0 = (0 : Int32) from rfl), if_neg (show ¬ false = true from Bool.false_ne_true)]
      simp only [zNm]
      rw [z_bitor m hm v (by omega), z_ix (show v < 2147483648 by omega), decide_eq_true (show v < 6 by omega), z_cl (show v < 2147483648 by omega), (hs v hv).2, Option.bind_some, show nI st + 1 = nI (st + 1) from z_add st 1]
      simp only [if_true]
      exact hy
theorem pC_exch_L8 {n : Nat} {s : Nat → Nat} {c : gw_S} (hn : n ≤ 6) (hs : ∀ v, v < n → s v < n ∧ fX4_hookOf (rdI c 18 v) c = some (nI (s v))) (Kx : Int32 → Int32 → Int32 → Option Int32) : ∀ k f h r m, h + k = n → k < f → m < 64 → ∃ y, fX0_exchangesFrom_L8 Kx (nI n) c f (nI r) (nI m) (nI h) = Kx (nI (zRings s n k h r m)) y (nI n) := by
  intro k
  induction k with
  | zero =>
    intro f h r m hk hf hm
    obtain ⟨f, rfl⟩ : ∃ g, f = g + 1 := ⟨f - 1, by omega⟩
    have : h = n := by omega
    subst this
    refine ⟨nI m, ?_⟩
    rw [fX0_exchangesFrom_L8, if_pos ((z_le (a := h) (b := h) (by omega) (by omega)).mpr (Nat.le_refl _))]
    rfl
  | succ k ih =>
    intro f h r m hk hf hm
    obtain ⟨f, rfl⟩ : ∃ g, f = g + 1 := ⟨f - 1, by omega⟩
    rw [fX0_exchangesFrom_L8, if_neg (show ¬ nI n ≤ nI h from fun q => by have := (z_le (a := n) (b := h) (by omega) (by omega)).mp q; omega), z_bit m hm h (by omega)]
    unfold zRings fX0_exchangesFrom_J27
    simp only [zNm]
    have hm2 := zRing_lt (s := s) hn (fun v hv => (hs v hv).1) n m h hm (by omega)
    cases hb : m.testBit h with
    | true =>
      obtain ⟨z, hz⟩ := ih f (h + 1) (r + 0) (zRing s n m h) (by omega) (by omega) hm2
      obtain ⟨y, w, hy⟩ := pC_exch_L34 hn hs (fun v4_x34 v6_x34 v7_x34 => fX0_exchangesFrom_L8 Kx (nI n) c f (nI r) v4_x34 (nI h + 1)) (nI r) (nI h) n 2000 0 m h (by omega) (by omega) hm (by omega)
      refine ⟨z, ?_⟩
      rw [← zl0] at hy
      rw [if_pos rfl, if_neg (show ¬ nI 1 = (0 : Int32) by decide), if_pos rfl, hy, ← hz, zl1, z_add]
      rfl
    | false =>
      obtain ⟨z, hz⟩ := ih f (h + 1) (r + 1) (zRing s n m h) (by omega) (by omega) hm2
      obtain ⟨y, w, hy⟩ := pC_exch_L34 hn hs (fun v4_x34 v6_x34 v7_x34 => fX0_exchangesFrom_L8 Kx (nI n) c f (nI r + 1) v4_x34 (nI h + 1)) (nI r + 1) (nI h) n 2000 0 m h (by omega) (by omega) hm (by omega)
      refine ⟨z, ?_⟩
      rw [← zl0] at hy
      rw [if_neg (show ¬ false = true from Bool.false_ne_true), if_pos (show nI 0 = (0 : Int32) from rfl), if_neg (show ¬ false = true from Bool.false_ne_true), hy, ← hz, zl1, z_add, z_add]
theorem pC_exchAll {n : Nat} {l : List Nat} {a : zS} {c : gw_S} {rb : Nat} (hn : n ≤ 6) (hs : rcS c 7 rb a) (hS : zInvS n a) (hl : l ∈ zAll n) (hc : ∀ j, j < n → rdI c 18 j = nI (l.getD j 0)) : fX0_exchangesFrom (nI n) c = some (nI (zExch n l a)) := by
  have hs : ∀ v, v < n → zHookOf n a (l.getD v 0) < n ∧ fX4_hookOf (rdI c 18 v) c = some (nI (zHookOf n a (l.getD v 0))) := by
    intro v hv
    have h2 := zAll_getlt hl hv
    refine ⟨zHookOf_lt hS h2, ?_⟩
    rw [hc v hv]
    exact pC_hookOf hs hS hn h2
  obtain ⟨y, hy⟩ := pC_exch_L8 hn hs (fun v3_x8 v4_x8 v5_x8 => some (nI n - v3_x8)) n 2000 0 0 0 (by omega) (by omega) (by omega)
  unfold fX0_exchangesFrom zExch
  rw [← zl0] at hy
  rw [hy]
  have := zRings_le (s := fun h => zHookOf n a (l.getD h 0)) (n := n) n 0 0 0
  rw [z_sub (by omega)]
theorem pC_hanging_J34 {P : List Nat} {n : Nat} {Y R O : Nat → Nat} {fl : Nat} {a : zS} {k : Option zS} {c : gw_S} (h : rcAll c P n Y R O fl a k) (hI : zInv P n Y R O fl a k) {j : Nat} (hj : j < 2 ∨ (10 ≤ j ∧ j ≤ 15)) : fX7_hanging_J34 (nI j) c = some (if n = 0 then -103 else aHangJ n Y O a j) := by
  have hn := hI.n6
  obtain ⟨-, hp, hv, -, hs, -, -, -, hb, -⟩ := h
  unfold fX7_hanging_J34
  rw [hp.1]
  by_cases h0 : n = 0
  · rw [if_pos h0, if_pos (by rw [h0]; rfl)]
  · rw [if_neg h0, if_neg (show ¬ nI n = (0 : Int32) from fun q => h0 ((z_eq (a := n) (b := 0) (by omega) (by omega)).mp q))]
    obtain ⟨b1, b2⟩ := hb (by omega)
    unfold aHangJ
    rcases (show j = 0 ∨ j = 1 ∨ 10 ≤ j by omega) with rfl | rfl | hj2
    · rw [if_pos (show nI 0 = (0 : Int32) from rfl), if_pos rfl, b1]
    · rw [if_neg (show ¬ nI 1 = (0 : Int32) by decide), if_pos (show nI 1 = (1 : Int32) from rfl), if_neg (by omega), if_pos rfl, pC_exchAll hn hs hI.2.2.2.1 zBest_mem b2]
      rfl
    · rw [if_neg (show ¬ nI j = (0 : Int32) from fun q => by have := (z_eq (a := j) (b := 0) (by omega) (by omega)).mp q; omega), if_neg (show ¬ nI j = (1 : Int32) from fun q => by have := (z_eq (a := j) (b := 1) (by omega) (by omega)).mp q; omega), if_neg (show ¬ j = 0 by omega), if_neg (show ¬ j = 1 by omega), zl10, z_sub hj2, pC_known hp.1 hn, zK_nI (by omega) (by omega)]
      by_cases h2 : j - 10 < n
      · rw [decide_eq_true h2, if_neg (show ¬ zb true = 0 by decide), if_pos h2, z_ix (show j - 10 < 2147483648 by omega), decide_eq_true (show j - 10 < 6 by omega), z_cl (show j - 10 < 2147483648 by omega), b2 _ h2, if_pos rfl]
      · rw [decide_eq_false h2, if_pos (show zb false = 0 from rfl), if_neg h2]
theorem pC_hanging {P : List Nat} {n : Nat} {Y R O : Nat → Nat} {fl : Nat} {a : zS} {k : Option zS} {c : gw_S} (h : rcAll c P n Y R O fl a k) (hI : zInv P n Y R O fl a k) (x : Int32) : fX7_hanging x c = some (aHanging n Y O a x) := by
  unfold fX7_hanging fX7_hanging_J16 fX7_hanging_J17 aHanging
  rw [show (10 : Int32) = nI 10 from rfl, show (16 : Int32) = nI 16 from rfl]
  rcases z_cases x with hx | ⟨j, hj, rfl⟩
  · rw [if_pos (z_negle hx (by omega)), if_neg (show ¬ x = 0 from z_negne (j := 0) hx (by omega)), if_neg (show ¬ x = 1 from z_negne (j := 1) hx (by omega)), if_pos rfl, if_neg]
    rintro (q | ⟨q, -⟩)
    · rw [zK_neg hx] at q
      exact Bool.false_ne_true q
    · exact q (z_negle hx (by omega))
  · have e0 : (nI j = (0 : Int32)) = (j = 0) := propext (z_eq (a := j) (b := 0) hj (by omega))
    have e1 : (nI j = (1 : Int32)) = (j = 1) := propext (z_eq (a := j) (b := 1) hj (by omega))
    have e2 : (nI j < nI 10) = (j < 10) := propext (z_lt hj (by omega))
    have e3 : (nI 15 < nI j) = (15 < j) := propext (z_lt (by omega) hj)
    have e4 : (nI 16 ≤ nI j) = (16 ≤ j) := propext (z_le (by omega) hj)
    have e5 : (zK 2 (nI j) = true) = (j < 2) := by rw [zK_nI hj (by omega)]; exact decide_eq_true_eq
    rw [z_cl hj]
    by_cases h1 : j < 2 ∨ (10 ≤ j ∧ j ≤ 15)
    · have L := pC_hanging_J34 h hI h1
      rw [L, if_pos (show zK 2 (nI j) = true ∨ (¬ nI j < nI 10 ∧ ¬ nI 15 < nI j) by rw [e2, e3, e5]; omega)]
      rcases h1 with h1 | h1
      · rw [if_pos (show nI j < nI 10 by rw [e2]; omega)]
        by_cases h2 : j = 0
        · rw [if_pos (show nI j = (0 : Int32) by rw [e0]; exact h2)]
        · rw [if_neg (show ¬ nI j = (0 : Int32) by rw [e0]; exact h2), if_pos (show nI j = (1 : Int32) by rw [e1]; omega)]
      · rw [if_neg (show ¬ nI j < nI 10 by rw [e2]; omega), if_neg (show ¬ nI 16 ≤ nI j by rw [e4]; omega), if_neg (show ¬ nI j = (0 : Int32) by rw [e0]; omega), if_neg (show ¬ nI j = (1 : Int32) by rw [e1]; omega), if_neg (show ¬ (1 : Int32) = 0 by decide)]
    · rw [if_neg (show ¬ (zK 2 (nI j) = true ∨ (¬ nI j < nI 10 ∧ ¬ nI 15 < nI j)) by rw [e2, e3, e5]; omega), if_neg (show ¬ nI j = (0 : Int32) by rw [e0]; omega), if_neg (show ¬ nI j = (1 : Int32) by rw [e1]; omega), if_pos (show (0 : Int32) = 0 from rfl)]
      by_cases h3 : j < 10
      · rw [if_pos (show nI j < nI 10 by rw [e2]; omega)]
      · rw [if_neg (show ¬ nI j < nI 10 by rw [e2]; omega), if_pos (show nI 16 ≤ nI j by rw [e4]; omega)]
