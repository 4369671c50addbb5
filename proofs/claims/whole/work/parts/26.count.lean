/-! Sums over hooks and over towns; count. -/
def zSum : Nat → (Nat → Nat) → Nat
  | 0, _ => 0
  | n + 1, g => zSum n g + g n
theorem zSum_congr {n : Nat} {f g : Nat → Nat} (h : ∀ i, i < n → f i = g i) : zSum n f = zSum n g := by
  induction n with
  | zero => rfl
  | succ n ih => rw [zSum, zSum, ih (fun i hi => h i (by omega)), h n (by omega)]
theorem zSum_one {n : Nat} {f g : Nat → Nat} {j : Nat} (hj : j < n) (h : ∀ i, i < n → i ≠ j → f i = g i) : zSum n f + g j = zSum n g + f j := by
  induction n with
  | zero => omega
  | succ n ih =>
    rw [zSum, zSum]
    by_cases e : j = n
    · subst e
      rw [zSum_congr (fun i hi => h i (by omega) (by omega))]
      omega
    · have := ih (by omega) (fun i hi => h i (by omega))
      have := h n (by omega) (fun z => e z.symm)
      omega
/-- a map of the numbers below n into themselves that takes none twice, with its last number's place closed up -/
theorem z_inj_sur : ∀ (n : Nat) (T : Nat → Nat), (∀ i, i < n → T i < n) → (∀ i j, i < n → j < n → T i = T j → i = j) → ∀ t, t < n → ∃ i, i < n ∧ T i = t := by
  intro n
  induction n with
  | zero => intro T _ _ t ht; omega
  | succ n ih =>
    intro T h1 h2 t ht
    have h3 : ∀ i, i < n → (if T i = n then T n else T i) < n := by
      intro i hi
      split
      · rename_i e
        have := h1 n (by omega)
        by_cases q : T n = n
        · have := h2 i n (by omega) (by omega) (e.trans q.symm); omega
        · omega
      · have := h1 i (by omega); omega
    have h4 : ∀ i j, i < n → j < n → (if T i = n then T n else T i) = (if T j = n then T n else T j) → i = j := by
      intro i j hi hj e
      split at e <;> split at e
      · rename_i a b
        exact h2 i j (by omega) (by omega) (a.trans b.symm)
      · have := h2 n j (by omega) (by omega) e; omega
      · have := h2 i n (by omega) (by omega) e; omega
      · exact h2 i j (by omega) (by omega) e
    by_cases q : T n = t
    · exact ⟨n, by omega, q⟩
    by_cases ht' : t < n
    · obtain ⟨i, hi, e⟩ := ih _ h3 h4 t ht'
      split at e
      · exact absurd e q
      · exact ⟨i, by omega, e⟩
    · have htn : t = n := by omega
      subst htn
      have hv := h1 t (by omega)
      obtain ⟨i, hi, e⟩ := ih _ h3 h4 (T t) (by omega)
      split at e
      · rename_i a; exact ⟨i, by omega, a⟩
      · have := h2 i t (by omega) (by omega) e; omega
theorem zSum_perm : ∀ (n : Nat) (T f : Nat → Nat), (∀ i, i < n → T i < n) → (∀ i j, i < n → j < n → T i = T j → i = j) → zSum n (fun i => f (T i)) = zSum n f := by
  intro n
  induction n with
  | zero => intros; rfl
  | succ n ih =>
    intro T f h1 h2
    have h3 : ∀ i, i < n → (if T i = n then T n else T i) < n := by
      intro i hi
      split
      · rename_i e
        have := h1 n (by omega)
        by_cases q : T n = n
        · have := h2 i n (by omega) (by omega) (e.trans q.symm); omega
        · omega
      · have := h1 i (by omega); omega
    have h4 : ∀ i j, i < n → j < n → (if T i = n then T n else T i) = (if T j = n then T n else T j) → i = j := by
      intro i j hi hj e
      split at e <;> split at e
      · rename_i a b
        exact h2 i j (by omega) (by omega) (a.trans b.symm)
      · have := h2 n j (by omega) (by omega) e; omega
      · have := h2 i n (by omega) (by omega) e; omega
      · exact h2 i j (by omega) (by omega) e
    have key := ih (fun i => if T i = n then T n else T i) f h3 h4
    rw [zSum, zSum, ← key]
    by_cases q : T n = n
    · rw [q, zSum_congr (f := fun i => f (T i)) (g := fun i => f (if T i = n then n else T i)) (fun i hi => by
        rw [if_neg (fun z => by have := h2 i n (by omega) (by omega) (z.trans q.symm); omega)])]
    · obtain ⟨j, hj, ej⟩ := z_inj_sur (n + 1) T h1 h2 n (by omega)
      have hjn : j ≠ n := fun z => q (by rw [z] at ej; exact ej)
      have := zSum_one (f := fun i => f (T i)) (g := fun i => f (if T i = n then T n else T i)) (show j < n by omega) (fun i hi hne => by
        rw [if_neg (fun z => hne (h2 i j (by omega) (by omega) (z.trans ej.symm)))])
      rw [if_pos ej, ej] at this
      omega
def aCount (P : List Nat) (n fl : Nat) (a : zS) (x : Int32) : Int32 :=
  if x = nI 0 then nI n else if x = nI 1 then nI (zBelt a).length else if x = nI 2 then nI (zSum n (fun i => (zSack a i).length)) else if x = nI 3 then nI (zSum n (fun i => zWrong (zTown a i) (zSack a i))) else if x = nI 4 then zSec a else if x = nI 5 then zHarm a else if x = nI 6 then nI (zFound a).length else if x = nI 7 then nI P.length else if x = nI 8 then nI fl else -102
theorem zSum_from {n i : Nat} (hi : i < n) (g : Nat → Nat) : zSum (i + 1) g = zSum i g + g i := rfl
theorem pC_inSacks_L {c : gw_S} {a : zS} (hv : rcV c 9 27) (hs : rcS c 7 27 a) {n : Nat} (hn : n ≤ 6) (Kx : Int32 → Int32 → Option Int32) : ∀ f i, i ≤ n → n - i < f → fX4_inSacks_L4 Kx (nI n) c f (nI (zSum i (fun i => (zSack a i).length))) (nI i) = Kx (nI (zSum n (fun i => (zSack a i).length))) (nI n) := by
  intro f
  induction f with
  | zero => intro i _ h; omega
  | succ f ih =>
    intro i hi hf
    rw [fX4_inSacks_L4]
    by_cases e : i = n
    · subst e
      simp (disch := omega) only [gw_nm, gw_b2, Option.bind_some, Option.bind_none, z_ix, z_cl, z_le, z_lt, z_eq, decide_eq_true_eq, if_true, if_false, ite_true, ite_false, eq_self, not_true_eq_false, not_false_eq_true, zl0, zl1, zl2, zl3, zl4, zl5, zl6, zl7, zl8, zl9, zl10, zl12, zl16, zl20, zl24, zl32, zl40, zl44, zl48, zl49, zl56, zl57, zl59, zl60, zl64, zl90, zl126, zl600, if_pos]
    · have hrow := rcV_row hv (Or.inl rfl) (show i < 6 by omega)
      have e2 := hs.2.1 i (by omega)
      simp (disch := omega) only [gw_nm, gw_b2, Option.bind_some, Option.bind_none, z_ix, z_cl, z_le, z_lt, z_eq, decide_eq_true_eq, if_true, if_false, ite_true, ite_false, eq_self, not_true_eq_false, not_false_eq_true, zl0, zl1, zl2, zl3, zl4, zl5, zl6, zl7, zl8, zl9, zl10, zl12, zl16, zl20, zl24, zl32, zl40, zl44, zl48, zl49, zl56, zl57, zl59, zl60, zl64, zl90, zl126, zl600, if_neg, if_pos, hrow, e2.1, z_add]
      have := ih (i + 1) (by omega) (by omega)
      rw [zSum] at this
      exact this
theorem pC_wrongIn_L {c : gw_S} {a : zS} (hv : rcV c 9 27) (hs : rcS c 7 27 a) {n : Nat} (hn : n ≤ 6) (hT : ∀ h, h < n → zTown a h < n) (hm : ∀ h, h < 6 → ∀ p, p ∈ zSack a h → p.1 < 5 ∧ p.2.1 < n) (Kx : Int32 → Int32 → Option Int32) : ∀ f i, i ≤ n → n - i < f → fX4_wrongInSacks_L4 Kx (nI n) c f (nI (zSum i (fun i => zWrong (zTown a i) (zSack a i)))) (nI i) = Kx (nI (zSum n (fun i => zWrong (zTown a i) (zSack a i)))) (nI n) := by
  intro f
  induction f with
  | zero => intro i _ h; omega
  | succ f ih =>
    intro i hi hf
    rw [fX4_wrongInSacks_L4]
    by_cases e : i = n
    · subst e
      simp (disch := omega) only [gw_nm, gw_b2, Option.bind_some, Option.bind_none, z_ix, z_cl, z_le, z_lt, z_eq, decide_eq_true_eq, if_true, if_false, ite_true, ite_false, eq_self, not_true_eq_false, not_false_eq_true, zl0, zl1, zl2, zl3, zl4, zl5, zl6, zl7, zl8, zl9, zl10, zl12, zl16, zl20, zl24, zl32, zl40, zl44, zl48, zl49, zl56, zl57, zl59, zl60, zl64, zl90, zl126, zl600, if_pos]
    · have hrow := rcV_row hv (Or.inl rfl) (show i < 6 by omega)
      have e2 := hs.2.1 i (by omega)
      have e1 := hs.1 i (by omega)
      have ht := hT i (by omega)
      have w1 := pR_notFor e2 (k := zTown a i) (by omega) (fun p hp => by have := (hm i (by omega) p hp).2; omega)
      simp (disch := omega) only [gw_nm, gw_b2, Option.bind_some, Option.bind_none, z_ix, z_cl, z_le, z_lt, z_eq, decide_eq_true_eq, if_true, if_false, ite_true, ite_false, eq_self, not_true_eq_false, not_false_eq_true, zl0, zl1, zl2, zl3, zl4, zl5, zl6, zl7, zl8, zl9, zl10, zl12, zl16, zl20, zl24, zl32, zl40, zl44, zl48, zl49, zl56, zl57, zl59, zl60, zl64, zl90, zl126, zl600, if_neg, if_pos, hrow, e1, w1, z_add]
      have := ih (i + 1) (by omega) (by omega)
      rw [zSum] at this
      exact this
theorem pC_count {c : gw_S} {P : List Nat} {n : Nat} {Y R O : Nat → Nat} {fl : Nat} {a : zS} {k : Option zS} (h : rcAll c P n Y R O fl a k) (hI : zInv P n Y R O fl a k) (x : Int32) : fX7_count x c = some (aCount P n fl a x) := by
  obtain ⟨hpg, hp, hv, -, hs, hfl, -⟩ := h
  have hn := hI.n6
  have hS := hI.2.2.2.1
  have w1 : fX4_inSacks (nI n) c = some (nI (zSum n (fun i => (zSack a i).length))) := by
    unfold fX4_inSacks
    exact pC_inSacks_L hv hs hn (fun v2_x4 _ => some v2_x4) 2000 0 (Nat.zero_le _) (by omega)
  have w2 : fX4_wrongInSacks (nI n) c = some (nI (zSum n (fun i => zWrong (zTown a i) (zSack a i)))) := by
    unfold fX4_wrongInSacks
    exact pC_wrongIn_L hv hs hn hS.1 hS.2.2.2.2.1 (fun v2_x4 _ => some v2_x4) 2000 0 (Nat.zero_le _) (by omega)
  unfold fX7_count aCount
  simp only [hp.1, w1, w2, hs.2.2.1.1, hs.2.2.2.1, hs.2.2.2.2.2.1, hs.2.2.2.2.2.2, hpg.1, hfl, Option.bind_some, zl0, zl1, zl2, zl3, zl4, zl5, zl6, zl7, zl8, zl9, zl10, zl12, zl16, zl20, zl24, zl32, zl40, zl44, zl48, zl49, zl56, zl57, zl59, zl60, zl64, zl90, zl126, zl600]
  by_cases y0 : x = nI 0
  · simp only [eq_true y0, if_true]
  by_cases y1 : x = nI 1
  · simp only [eq_false y0, eq_true y1, if_true, if_false]
  by_cases y2 : x = nI 2
  · simp only [eq_false y0, eq_false y1, eq_true y2, if_true, if_false]
  by_cases y3 : x = nI 3
  · simp only [eq_false y0, eq_false y1, eq_false y2, eq_true y3, if_true, if_false]
  by_cases y4 : x = nI 4
  · simp only [eq_false y0, eq_false y1, eq_false y2, eq_false y3, eq_true y4, if_true, if_false]
  by_cases y5 : x = nI 5
  · simp only [eq_false y0, eq_false y1, eq_false y2, eq_false y3, eq_false y4, eq_true y5, if_true, if_false]
  by_cases y6 : x = nI 6
  · simp only [eq_false y0, eq_false y1, eq_false y2, eq_false y3, eq_false y4, eq_false y5, eq_true y6, if_true, if_false]
  by_cases y7 : x = nI 7
  · simp only [eq_false y0, eq_false y1, eq_false y2, eq_false y3, eq_false y4, eq_false y5, eq_false y6, eq_true y7, if_true, if_false]
  by_cases y8 : x = nI 8
  · simp only [eq_false y0, eq_false y1, eq_false y2, eq_false y3, eq_false y4, eq_false y5, eq_false y6, eq_false y7, eq_true y8, if_true, if_false]
  simp only [eq_false y0, eq_false y1, eq_false y2, eq_false y3, eq_false y4, eq_false y5, eq_false y6, eq_false y7, eq_false y8, if_false]
theorem pM_inSacks_L {m : gw_S} {n : Nat} {g1 g2 : Nat → Nat} (hp : rdI m 0 1 = nI n) (hn : n ≤ 6) (w : Bool) (h : ∀ t, t < n → rdI m 5 t = nI (g1 t) ∧ rdI m 6 t = nI (g2 t)) (Kx : Int32 → Int32 → Option Int32) : ∀ f i, i ≤ n → n - i < f → fX8_inSacks_L4 Kx (zb w) m f (nI (zSum i (if w then g2 else g1))) (nI i) = Kx (nI (zSum n (if w then g2 else g1))) (nI n) := by
  intro f
  induction f with
  | zero => intro i _ h; omega
  | succ f ih =>
    intro i hi hf
    rw [fX8_inSacks_L4, hp]
    unfold fX8_inSacks_J32
    by_cases e : i = n
    · subst e
      simp (disch := omega) only [gw_nm, gw_b2, Option.bind_some, Option.bind_none, z_ix, z_cl, z_le, z_lt, z_eq, decide_eq_true_eq, if_true, if_false, ite_true, ite_false, eq_self, not_true_eq_false, not_false_eq_true, zl0, zl1, zl2, zl3, zl4, zl5, zl6, zl7, zl8, zl9, zl10, zl12, zl16, zl20, zl24, zl32, zl40, zl44, zl48, zl49, zl56, zl57, zl59, zl60, zl64, zl90, zl126, zl600, if_pos]
    · have hh := h i (by omega)
      have := ih (i + 1) (by omega) (by omega)
      rw [zSum] at this
      cases w with
      | false =>
        simp (disch := omega) only [gw_nm, gw_b2, Option.bind_some, Option.bind_none, z_ix, z_cl, z_le, z_lt, z_eq, decide_eq_true_eq, if_true, if_false, ite_true, ite_false, eq_self, not_true_eq_false, not_false_eq_true, zl0, zl1, zl2, zl3, zl4, zl5, zl6, zl7, zl8, zl9, zl10, zl12, zl16, zl20, zl24, zl32, zl40, zl44, zl48, zl49, zl56, zl57, zl59, zl60, zl64, zl90, zl126, zl600, if_neg, if_pos, hh.1, z_add, zb_f, Bool.false_eq_true]
        exact this
      | true =>
        simp (disch := omega) only [gw_nm, gw_b2, Option.bind_some, Option.bind_none, z_ix, z_cl, z_le, z_lt, z_eq, decide_eq_true_eq, if_true, if_false, ite_true, ite_false, eq_self, not_true_eq_false, not_false_eq_true, zl0, zl1, zl2, zl3, zl4, zl5, zl6, zl7, zl8, zl9, zl10, zl12, zl16, zl20, zl24, zl32, zl40, zl44, zl48, zl49, zl56, zl57, zl59, zl60, zl64, zl90, zl126, zl600, if_neg, if_pos, hh.2, z_add, zb_t, z10]
        exact this
theorem pM_inv {n : Nat} {a : zS} (h : zInvS n a) : ∃ H : Nat → Nat, (∀ t, t < n → H t < n ∧ zTown a (H t) = t) ∧ ∀ i, i < n → H (zTown a i) = i := by
  have sur := z_inj_sur n (zTown a) h.1 h.2.1
  have hx : ∀ t, ∃ i, t < n → i < n ∧ zTown a i = t := by
    intro t
    by_cases ht : t < n
    · obtain ⟨i, hi, e⟩ := sur t ht
      exact ⟨i, fun _ => ⟨hi, e⟩⟩
    · exact ⟨0, fun z => absurd z ht⟩
  refine ⟨fun t => Classical.choose (hx t), fun t ht => Classical.choose_spec (hx t) ht, fun i hi => ?_⟩
  have := Classical.choose_spec (hx (zTown a i)) (h.1 i hi)
  exact h.2.1 _ _ this.1 hi this.2
theorem pM_howMany {m : gw_S} {P : List Nat} {n : Nat} {Y R O : Nat → Nat} {fl : Nat} {a : zS} {k : Option zS} (h : rmAll m P n Y R O fl a k) (hI : zInv P n Y R O fl a k) (x : Int32) : fX8_howMany x m = some (aCount P n fl a x) := by
  obtain ⟨hpg, hp, hs, hfl, -⟩ := h
  have hn := hI.n6
  have hS := hI.2.2.2.1
  obtain ⟨s1, s2, s3, s4, s5, s6, s7, s8⟩ := hs
  obtain ⟨H, hH1, hH2⟩ := pM_inv hS
  have hg : ∀ t, t < n → rdI m 5 t = nI (zSack a (H t)).length ∧ rdI m 6 t = nI (zWrong t (zSack a (H t))) := by
    intro t ht
    obtain ⟨a1, a2⟩ := hH1 t ht
    have := s2 (H t) a1
    rw [a2] at this
    exact ⟨this.1, this.2.1⟩
  have p1 : zSum n (fun t => (zSack a (H t)).length) = zSum n (fun i => (zSack a i).length) := by
    rw [← zSum_perm n (zTown a) (fun t => (zSack a (H t)).length) hS.1 hS.2.1]
    exact zSum_congr (fun i hi => by rw [hH2 i hi])
  have p2 : zSum n (fun t => zWrong t (zSack a (H t))) = zSum n (fun i => zWrong (zTown a i) (zSack a i)) := by
    rw [← zSum_perm n (zTown a) (fun t => zWrong t (zSack a (H t))) hS.1 hS.2.1]
    exact zSum_congr (fun i hi => by rw [hH2 i hi])
  have w1 : fX8_inSacks (nI 0) m = some (nI (zSum n (fun i => (zSack a i).length))) := by
    unfold fX8_inSacks
    rw [← p1]
    exact pM_inSacks_L hp.1 hn false hg (fun v2_x4 _ => some v2_x4) 2000 0 (Nat.zero_le _) (by omega)
  have w2 : fX8_inSacks (nI 1) m = some (nI (zSum n (fun i => zWrong (zTown a i) (zSack a i)))) := by
    unfold fX8_inSacks
    rw [← p2]
    exact pM_inSacks_L hp.1 hn true hg (fun v2_x4 _ => some v2_x4) 2000 0 (Nat.zero_le _) (by omega)
  unfold fX8_howMany aCount
  simp only [hp.1, w1, w2, s3, s5, s7, s8, hpg.1, hfl, Option.bind_some, zl0, zl1, zl2, zl3, zl4, zl5, zl6, zl7, zl8, zl9, zl10, zl12, zl16, zl20, zl24, zl32, zl40, zl44, zl48, zl49, zl56, zl57, zl59, zl60, zl64, zl90, zl126, zl600]
  by_cases y0 : x = nI 0
  · simp only [eq_true y0, if_true]
  by_cases y1 : x = nI 1
  · simp only [eq_false y0, eq_true y1, if_true, if_false]
  by_cases y2 : x = nI 2
  · simp only [eq_false y0, eq_false y1, eq_true y2, if_true, if_false]
  by_cases y3 : x = nI 3
  · simp only [eq_false y0, eq_false y1, eq_false y2, eq_true y3, if_true, if_false]
  by_cases y4 : x = nI 4
  · simp only [eq_false y0, eq_false y1, eq_false y2, eq_false y3, eq_true y4, if_true, if_false]
  by_cases y5 : x = nI 5
  · simp only [eq_false y0, eq_false y1, eq_false y2, eq_false y3, eq_false y4, eq_true y5, if_true, if_false]
  by_cases y6 : x = nI 6
  · simp only [eq_false y0, eq_false y1, eq_false y2, eq_false y3, eq_false y4, eq_false y5, eq_true y6, if_true, if_false]
  by_cases y7 : x = nI 7
  · simp only [eq_false y0, eq_false y1, eq_false y2, eq_false y3, eq_false y4, eq_false y5, eq_false y6, eq_true y7, if_true, if_false]
  by_cases y8 : x = nI 8
  · simp only [eq_false y0, eq_false y1, eq_false y2, eq_false y3, eq_false y4, eq_false y5, eq_false y6, eq_false y7, eq_true y8, if_true, if_false]
  simp only [eq_false y0, eq_false y1, eq_false y2, eq_false y3, eq_false y4, eq_false y5, eq_false y6, eq_false y7, eq_false y8, if_false]
theorem pM_count {m : gw_S} {P : List Nat} {n : Nat} {Y R O : Nat → Nat} {fl : Nat} {a : zS} {k : Option zS} (h : rmAll m P n Y R O fl a k) (hI : zInv P n Y R O fl a k) (x : Int32) : fX8_count x m = some (aCount P n fl a x) := by
  unfold fX8_count
  rw [pM_howMany h hI]; rfl
