/-! The class: ways to hang. -/
theorem pC_fill23_L {v1 : Int32} (Kx : Int32 → gw_S → Option gw_S) : ∀ k f h c, h + k = 6 → k < f → ∃ d, agI c d 23 24 ∧ (∀ i, i < h → rdI d 23 i = rdI c 23 i) ∧ (∀ i, h ≤ i → i < 6 → rdI d 23 i = v1) ∧ fJ7_fill_53178_23_L5 Kx v1 6 f (nI h) c = Kx (nI 6) d := by
  intro k
  induction k with
  | zero =>
    intro f h c hs hf
    obtain ⟨f, rfl⟩ : ∃ g, f = g + 1 := ⟨f - 1, by omega⟩
    have : h = 6 := by omega
    subst this
    exact ⟨c, agI.refl c _ _, fun _ _ => rfl, fun i _ _ => by omega, by rw [fJ7_fill_53178_23_L5, if_pos (show (6 : Int32) ≤ nI 6 by decide)]⟩
  | succ k ih =>
    intro f h c hs hf
    obtain ⟨f, rfl⟩ : ∃ g, f = g + 1 := ⟨f - 1, by omega⟩
    obtain ⟨d, d1, d2, d3, d4⟩ := ih f (h + 1) (wrI c 23 h v1) (by omega) (by omega)
    refine ⟨d, (agI.wr c 23 h _ (by omega) (by omega)).trans d1, fun i hi => by rw [d2 i (by omega), rd_nj (by omega)], fun i h1 h2 => ?_, ?_⟩
    · by_cases q : i = h
      · subst q
        rw [d2 i (by omega), rd_eq]
      · exact d3 i (by omega) h2
    · rw [fJ7_fill_53178_23_L5, if_neg (show ¬ (6 : Int32) ≤ nI h from fun q => by have := (z_le (a := 6) (b := h) (by omega) (by omega)).mp q; omega)]
      simp only [zNm]
      rw [z_ix (show h < 2147483648 by omega), decide_eq_true (show h < 6 by omega), if_pos rfl, z_cl (show h < 2147483648 by omega), show nI h + 1 = nI (h + 1) from z_add h 1]
      exact d4
theorem pC_fill23 (v1 : Int32) (c : gw_S) : ∃ d, agI c d 23 24 ∧ (∀ i, i < 6 → rdI d 23 i = v1) ∧ fJ7_fill_53178_23 v1 c = some d := by
  obtain ⟨d, d1, -, d3, d4⟩ := pC_fill23_L (v1 := v1) (fun v2_x5 t_x5 => some t_x5) 6 2000 0 c (by omega) (by omega)
  rw [← zl0] at d4
  exact ⟨d, d1, fun i hi => d3 i (by omega) hi, d4⟩
theorem pC_fill24_L {v1 : Int32} (Kx : Int32 → gw_S → Option gw_S) : ∀ k f h c, h + k = 6 → k < f → ∃ d, agI c d 24 25 ∧ (∀ i, i < h → rdI d 24 i = rdI c 24 i) ∧ (∀ i, h ≤ i → i < 6 → rdI d 24 i = v1) ∧ fJ7_fill_53178_24_L5 Kx v1 6 f (nI h) c = Kx (nI 6) d := by
  intro k
  induction k with
  | zero =>
    intro f h c hs hf
    obtain ⟨f, rfl⟩ : ∃ g, f = g + 1 := ⟨f - 1, by omega⟩
    have : h = 6 := by omega
    subst this
    exact ⟨c, agI.refl c _ _, fun _ _ => rfl, fun i _ _ => by omega, by rw [fJ7_fill_53178_24_L5, if_pos (show (6 : Int32) ≤ nI 6 by decide)]⟩
  | succ k ih =>
    intro f h c hs hf
    obtain ⟨f, rfl⟩ : ∃ g, f = g + 1 := ⟨f - 1, by omega⟩
    obtain ⟨d, d1, d2, d3, d4⟩ := ih f (h + 1) (wrI c 24 h v1) (by omega) (by omega)
    refine ⟨d, (agI.wr c 24 h _ (by omega) (by omega)).trans d1, fun i hi => by rw [d2 i (by omega), rd_nj (by omega)], fun i h1 h2 => ?_, ?_⟩
    · by_cases q : i = h
      · subst q
        rw [d2 i (by omega), rd_eq]
      · exact d3 i (by omega) h2
    · rw [fJ7_fill_53178_24_L5, if_neg (show ¬ (6 : Int32) ≤ nI h from fun q => by have := (z_le (a := 6) (b := h) (by omega) (by omega)).mp q; omega)]
      simp only [zNm]
      rw [z_ix (show h < 2147483648 by omega), decide_eq_true (show h < 6 by omega), if_pos rfl, z_cl (show h < 2147483648 by omega), show nI h + 1 = nI (h + 1) from z_add h 1]
      exact d4
theorem pC_fill24 (v1 : Int32) (c : gw_S) : ∃ d, agI c d 24 25 ∧ (∀ i, i < 6 → rdI d 24 i = v1) ∧ fJ7_fill_53178_24 v1 c = some d := by
  obtain ⟨d, d1, -, d3, d4⟩ := pC_fill24_L (v1 := v1) (fun v2_x5 t_x5 => some t_x5) 6 2000 0 c (by omega) (by omega)
  rw [← zl0] at d4
  exact ⟨d, d1, fun i hi => d3 i (by omega) hi, d4⟩
theorem pC_fill26_L {v1 : Int32} (Kx : Int32 → gw_S → Option gw_S) : ∀ k f h c, h + k = 6 → k < f → ∃ d, agI c d 26 27 ∧ (∀ i, i < h → rdI d 26 i = rdI c 26 i) ∧ (∀ i, h ≤ i → i < 6 → rdI d 26 i = v1) ∧ fJ7_fill_53178_26_L5 Kx v1 6 f (nI h) c = Kx (nI 6) d := by
  intro k
  induction k with
  | zero =>
    intro f h c hs hf
    obtain ⟨f, rfl⟩ : ∃ g, f = g + 1 := ⟨f - 1, by omega⟩
    have : h = 6 := by omega
    subst this
    exact ⟨c, agI.refl c _ _, fun _ _ => rfl, fun i _ _ => by omega, by rw [fJ7_fill_53178_26_L5, if_pos (show (6 : Int32) ≤ nI 6 by decide)]⟩
  | succ k ih =>
    intro f h c hs hf
    obtain ⟨f, rfl⟩ : ∃ g, f = g + 1 := ⟨f - 1, by omega⟩
    obtain ⟨d, d1, d2, d3, d4⟩ := ih f (h + 1) (wrI c 26 h v1) (by omega) (by omega)
    refine ⟨d, (agI.wr c 26 h _ (by omega) (by omega)).trans d1, fun i hi => by rw [d2 i (by omega), rd_nj (by omega)], fun i h1 h2 => ?_, ?_⟩
    · by_cases q : i = h
      · subst q
        rw [d2 i (by omega), rd_eq]
      · exact d3 i (by omega) h2
    · rw [fJ7_fill_53178_26_L5, if_neg (show ¬ (6 : Int32) ≤ nI h from fun q => by have := (z_le (a := 6) (b := h) (by omega) (by omega)).mp q; omega)]
      simp only [zNm]
      rw [z_ix (show h < 2147483648 by omega), decide_eq_true (show h < 6 by omega), if_pos rfl, z_cl (show h < 2147483648 by omega), show nI h + 1 = nI (h + 1) from z_add h 1]
      exact d4
theorem pC_fill26 (v1 : Int32) (c : gw_S) : ∃ d, agI c d 26 27 ∧ (∀ i, i < 6 → rdI d 26 i = v1) ∧ fJ7_fill_53178_26 v1 c = some d := by
  obtain ⟨d, d1, -, d3, d4⟩ := pC_fill26_L (v1 := v1) (fun v2_x5 t_x5 => some t_x5) 6 2000 0 c (by omega) (by omega)
  rw [← zl0] at d4
  exact ⟨d, d1, fun i hi => d3 i (by omega) hi, d4⟩
def zB (o : Option Nat) : Int32 := match o with
  | none => -1
  | some u => nI u
theorem zB_none {o : Option Nat} (h : ∀ u, o = some u → u < 6) : (zB o = -1) ↔ (o = none) := by
  cases o with
  | none => exact ⟨fun _ => rfl, fun _ => rfl⟩
  | some u =>
    refine ⟨fun q => absurd q ?_, fun q => by simp at q⟩
    exact z_nm1 (by have := h u rfl; omega)
theorem zB_some {o : Option Nat} (h : ∀ u, o = some u → u < 6) {t : Nat} (ht : t < 6) : (zB o = nI t) ↔ (o = some t) := by
  cases o with
  | none =>
    refine ⟨fun q => absurd q.symm (z_nm1 (by omega)), fun q => by simp at q⟩
  | some u =>
    have := h u rfl
    refine ⟨fun q => ?_, fun q => ?_⟩
    · rw [(z_eq (a := u) (b := t) (by omega) (by omega)).mp q]
    · cases q; rfl
def rcB (c : gw_S) (n : Nat) (B : Nat → Option Nat) : Prop := ∀ t, t < n → rdI c 23 t = zB (B t)
theorem z_6le {t : Nat} (ht : t < 6) : ¬ (6 : Int32) ≤ nI t := fun q => by have := (z_le (a := 6) (b := t) (by omega) (by omega)).mp q; omega
theorem pC_beyond {c : gw_S} {n : Nat} {B : Nat → Option Nat} (hn : n ≤ 6) (hc : rcB c n B) {t : Nat} (ht : t < n) : fX6_beyondOf (nI t) c = some (zB (B t)) := by
  unfold fX6_beyondOf
  rw [if_neg (z_neg0 (show t < 2147483648 by omega)), if_neg (z_6le (show t < 6 by omega)), z_ix (show t < 2147483648 by omega), decide_eq_true (show t < 6 by omega), if_pos rfl, z_cl (show t < 2147483648 by omega), hc t ht]
theorem pC_ask_J54 {c : gw_S} {s t : Nat} {v : Int32} (ht : t < 6) (Kx Kh : Int32 → gw_S → Option (Int32 × gw_S)) : fX6_askAllFound_J54 Kx Kh (nI s) (nI t) v c = Kh (nI (s + 1)) (wrI c 23 t v) := by
  unfold fX6_askAllFound_J54 fX6_askAllFound_J75
  simp only [zNm]
  rw [if_neg (z_neg0 (show t < 2147483648 by omega)), if_neg (z_6le ht), z_ix (show t < 2147483648 by omega), decide_eq_true ht, if_pos rfl, z_cl (show t < 2147483648 by omega), show nI s + 1 = nI (s + 1) from z_add s 1]
theorem pC_ask_L {n : Nat} {F : List (Nat × Nat)} (hn : n ≤ 6) (h8 : F.length ≤ 8) (hF : ∀ p, p ∈ F → p.1 < n ∧ p.2 < n ∧ p.1 ≠ p.2) (Kx : Int32 → gw_S → Option (Int32 × gw_S)) : ∀ k f s B c, s + k = F.length → k < f → rcB c n B → (∀ t u, t < n → B t = some u → u < n) → rdI c 7 5 = nI F.length → (∀ j p, F[j]? = some p → rdI c 10 j = nI p.1 ∧ rdI c 11 j = nI p.2) → ∃ d, agI c d 23 24 ∧ (zAsk (F.drop s) B = none → fX6_askAllFound_L10 Kx f (nI s) c = some (0, d)) ∧ (∀ B', zAsk (F.drop s) B = some B' → rcB d n B' ∧ fX6_askAllFound_L10 Kx f (nI s) c = Kx (nI F.length) d) := by
  intro k
  induction k with
  | zero =>
    intro f s B c hs hf hc hB h5 hj
    obtain ⟨f, rfl⟩ : ∃ g, f = g + 1 := ⟨f - 1, by omega⟩
    have : s = F.length := by omega
    subst this
    rw [List.drop_eq_nil_of_le (Nat.le_refl _)]
    refine ⟨c, agI.refl c _ _, (fun q => by cases q), fun B' q => ?_⟩
    cases q
    exact ⟨hc, by rw [fX6_askAllFound_L10, h5, if_pos ((z_le (a := F.length) (b := F.length) (by omega) (by omega)).mpr (Nat.le_refl _))]⟩
  | succ k ih =>
    intro f s B c hs hf hc hB h5 hj
    obtain ⟨f, rfl⟩ : ∃ g, f = g + 1 := ⟨f - 1, by omega⟩
    obtain ⟨p, hp⟩ := z_get (show s < F.length by omega)
    obtain ⟨p1, p2, -⟩ := hF p (z_mem hp)
    obtain ⟨c1, c2⟩ := hj s p hp
    have hB6 : ∀ u, B p.1 = some u → u < 6 := fun u hu => by have := hB p.1 u p1 hu; omega
    rw [fX6_askAllFound_L10, h5, if_neg (show ¬ nI F.length ≤ nI s from fun q => by have := (z_le (a := F.length) (b := s) (by omega) (by omega)).mp q; omega), z_drop hp]
    unfold zAsk
    simp only [zNm]
    rw [z_ix (show s < 2147483648 by omega), decide_eq_true (show s < 8 by omega), if_pos rfl, if_pos rfl, z_cl (show s < 2147483648 by omega), c1, c2, pC_beyond hn hc p1, Option.bind_some, Option.bind_some, pC_ask_J54 (show p.1 < 6 by omega)]
    have hnext : ∃ d, agI (wrI c 23 p.1 (nI p.2)) d 23 24 ∧ (zAsk (F.drop (s + 1)) (fun t => if t = p.1 then some p.2 else B t) = none → fX6_askAllFound_L10 Kx f (nI (s + 1)) (wrI c 23 p.1 (nI p.2)) = some (0, d)) ∧ (∀ B', zAsk (F.drop (s + 1)) (fun t => if t = p.1 then some p.2 else B t) = some B' → rcB d n B' ∧ fX6_askAllFound_L10 Kx f (nI (s + 1)) (wrI c 23 p.1 (nI p.2)) = Kx (nI F.length) d) := by
      refine ih f (s + 1) _ _ (by omega) (by omega) (fun t ht => ?_) (fun t u ht hu => ?_) (by rw [rd_nk (by omega)]; exact h5) (fun j q hq => by rw [rd_nk (by omega), rd_nk (by omega)]; exact hj j q hq)
      · show rdI _ 23 t = zB (if t = p.1 then some p.2 else B t)
        by_cases e : t = p.1
        · rw [if_pos e, e, rd_eq]; rfl
        · rw [if_neg e, rd_nj e]; exact hc t ht
      · have hu : (if t = p.1 then some p.2 else B t) = some u := hu
        by_cases e : t = p.1
        · rw [if_pos e] at hu
          cases hu
          exact p2
        · rw [if_neg e] at hu
          exact hB t u ht hu
    obtain ⟨d, d1, d2, d3⟩ := hnext
    by_cases q1 : B p.1 = none
    · rw [if_pos ((zB_none hB6).mpr q1), if_pos (Or.inl q1)]
      exact ⟨d, (agI.wr c 23 p.1 _ (by omega) (by omega)).trans d1, d2, d3⟩
    · rw [if_neg (fun q => q1 ((zB_none hB6).mp q))]
      by_cases q2 : B p.1 = some p.2
      · rw [if_pos ((zB_some hB6 (by omega)).mpr q2), if_pos (Or.inr q2)]
        exact ⟨d, (agI.wr c 23 p.1 _ (by omega) (by omega)).trans d1, d2, d3⟩
      · rw [if_neg (fun q => q2 ((zB_some hB6 (by omega)).mp q)), if_neg (fun q => by rcases q with q | q; exact q1 q; exact q2 q)]
        exact ⟨c, agI.refl c _ _, fun _ => rfl, fun B' q => by cases q⟩
theorem pC_ask {n : Nat} {F : List (Nat × Nat)} {c : gw_S} (hn : n ≤ 6) (h8 : F.length ≤ 8) (hF : ∀ p, p ∈ F → p.1 < n ∧ p.2 < n ∧ p.1 ≠ p.2) (h5 : rdI c 7 5 = nI F.length) (hj : ∀ j p, F[j]? = some p → rdI c 10 j = nI p.1 ∧ rdI c 11 j = nI p.2) : ∃ d, agI c d 23 24 ∧ (zAsk F (fun _ => none) = none → fX6_askAllFound c = some (0, d)) ∧ (∀ B', zAsk F (fun _ => none) = some B' → rcB d n B' ∧ fX6_askAllFound c = some (1, d)) := by
  obtain ⟨e, e1, e2, e3⟩ := pC_fill23 (-1) c
  obtain ⟨d, d1, d2, d3⟩ := pC_ask_L hn h8 hF (fun v2_x10 t_x10 => some (1, t_x10)) F.length 2000 0 (fun _ => none) e (by omega) (by omega) (fun t ht => e2 t (by omega)) (fun t u _ hu => by simp at hu) (by rw [e1.2 _ _ (by omega)]; exact h5) (fun j p hp => by rw [e1.2 _ _ (by omega), e1.2 _ _ (by omega)]; exact hj j p hp)
  rw [List.drop_zero, ← zl0] at d2 d3
  unfold fX6_askAllFound
  rw [e3, Option.bind_some]
  exact ⟨d, e1.trans d1, d2, d3⟩
/-- one row is kept -/
def agK (c d : gw_S) (h : Nat) : Prop := d.2 = c.2 ∧ ∀ x y, ¬ (x = 21 ∧ y = 4) → x ≠ 24 → ¬ (x = 22 ∧ h ≤ y) → rdI d x y = rdI c x y
theorem agK.refl (c : gw_S) (h : Nat) : agK c c h := ⟨rfl, fun _ _ _ _ _ => rfl⟩
theorem agK.trans {c d e : gw_S} {h : Nat} (h1 : agK c d h) (h2 : agK d e h) : agK c e h := ⟨h2.1.trans h1.1, fun x y a b w => (h2.2 x y a b w).trans (h1.2 x y a b w)⟩
theorem agK.mono {c d : gw_S} {h h' : Nat} (h1 : agK c d h) (h2 : h' ≤ h) : agK c d h' := ⟨h1.1, fun x y a b w => h1.2 x y a b (by omega)⟩
theorem agK.ag {c d : gw_S} {h : Nat} (h1 : agK c d h) : agI c d 21 25 := ⟨h1.1, fun x y a => h1.2 x y (by omega) (by omega) (by omega)⟩
def zBit (l : List Nat) (t : Nat) : Int32 := (1 : Int32) <<< (nI (zPos l t) &&& 31)
theorem pC_keep_L {n : Nat} {l : List Nat} (hn : n ≤ 6) (hl : l ∈ zAll n) (Kx : Int32 → gw_S → Option gw_S) : ∀ k f h c, h + k = n → k < f → (∀ j, j < n → rdI c 22 j = nI (l.getD j 0)) → ∃ d, agI c d 24 25 ∧ (∀ t, t < n → rdI d 24 t = if h ≤ zPos l t then rdI c 24 t ||| zBit l t else rdI c 24 t) ∧ fX6_keep_L12 Kx (nI n) f (nI h) c = Kx (nI n) d := by
  intro k
  induction k with
  | zero =>
    intro f h c hs hf hc
    obtain ⟨f, rfl⟩ : ∃ g, f = g + 1 := ⟨f - 1, by omega⟩
    have : h = n := by omega
    subst this
    refine ⟨c, agI.refl c _ _, fun t ht => ?_, by rw [fX6_keep_L12, if_pos ((z_le (a := h) (b := h) (by omega) (by omega)).mpr (Nat.le_refl _))]⟩
    have := zPos_lt hl ht
    rw [if_neg (by omega)]
  | succ k ih =>
    intro f h c hs hf hc
    obtain ⟨f, rfl⟩ : ∃ g, f = g + 1 := ⟨f - 1, by omega⟩
    have hg := zAll_getlt hl (show h < n by omega)
    have hpo := zPos_of hl (show h < n by omega)
    obtain ⟨d, d1, d2, d3⟩ := ih f (h + 1) (wrI c 24 (l.getD h 0) (rdI c 24 (l.getD h 0) ||| zBit l (l.getD h 0))) (by omega) (by omega) (fun j hj => by rw [rd_nk (by omega)]; exact hc j hj)
    refine ⟨d, (agI.wr c 24 _ _ (by omega) (by omega)).trans d1, fun t ht => ?_, ?_⟩
    · rw [d2 t ht]
      by_cases e : t = l.getD h 0
      · subst e
        rw [hpo, if_neg (by omega), if_pos (Nat.le_refl _), rd_eq]
      · rw [rd_nj e]
        have : zPos l t ≠ h := by
          intro q
          have := zPos_get hl ht
          rw [q] at this
          exact e this.symm
        by_cases q : h ≤ zPos l t
        · rw [if_pos q, if_pos (by omega)]
        · rw [if_neg q, if_neg (by omega)]
    · rw [fX6_keep_L12, if_neg (show ¬ nI n ≤ nI h from fun q => by have := (z_le (a := n) (b := h) (by omega) (by omega)).mp q; omega)]
      unfold fX6_keep_J49
      simp only [zNm]
      rw [z_ix (show h < 2147483648 by omega), decide_eq_true (show h < 6 by omega), if_pos rfl, z_cl (show h < 2147483648 by omega), hc h (by omega), if_neg (z_neg0 (show l.getD h 0 < 2147483648 by omega)), if_neg (z_6le (show l.getD h 0 < 6 by omega)), z_ix (show l.getD h 0 < 2147483648 by omega), decide_eq_true (show l.getD h 0 < 6 by omega), if_pos rfl, if_pos rfl, z_cl (show l.getD h 0 < 2147483648 by omega), show nI h + 1 = nI (h + 1) from z_add h 1]
      unfold zBit at d3
      rw [hpo] at d3
      exact d3
theorem pC_keep {n : Nat} {l : List Nat} {c : gw_S} (hn : n ≤ 6) (hl : l ∈ zAll n) (hc : ∀ j, j < n → rdI c 22 j = nI (l.getD j 0)) : ∃ d, agK c d n ∧ rdI d 21 4 = rdI c 21 4 + 1 ∧ (∀ t, t < n → rdI d 24 t = rdI c 24 t ||| zBit l t) ∧ fX6_keep (nI n) c = some d := by
  obtain ⟨d, d1, d2, d3⟩ := pC_keep_L hn hl (fun v2_x12 t_x12 => some t_x12) n 2000 0 (wrI c 21 4 (rdI c 21 4 + 1)) (by omega) (by omega) (fun j hj => by rw [rd_nk (by omega)]; exact hc j hj)
  refine ⟨d, ⟨d1.1, fun x y a b w => ?_⟩, ?_, fun t ht => ?_, ?_⟩
  · rw [d1.2 x y (by omega), rd_wr, if_neg a]
  · rw [d1.2 _ _ (by omega), rd_eq]
  · rw [d2 t ht, if_pos (Nat.zero_le _), rd_nk (by omega)]
  · unfold fX6_keep
    simp only [zNm]
    rw [← zl0] at d3
    exact d3
theorem pC_canHang {n : Nat} {B : Nat → Option Nat} {pre : List Nat} {c : gw_S} (hn : n ≤ 6) (hB : ∀ t u, t < n → B t = some u → u < n) (hc : rcB c n B) (hpre : ∀ t, t ∈ pre → t < n) (hlen : pre.length < n) (h22 : ∀ j, j < pre.length → rdI c 22 j = nI (pre.getD j 0)) {t : Nat} (ht : t < n) : fX6_canHang (nI t) (nI pre.length) (nI n) c = some (zb (zCan n B pre t)) := by
  have hB6 : ∀ t, t < n → ∀ u, B t = some u → u < 6 := fun t ht u hu => by have := hB t u ht hu; omega
  unfold fX6_canHang fX6_canHang_J38 fX6_canHang_J64 zCan
  by_cases h0 : pre.length = 0
  · rw [h0, if_pos (show nI 0 = (0 : Int32) from rfl), decide_eq_true rfl, Bool.true_or]
    rfl
  · have hb : pre.getD (pre.length - 1) 0 < n := by
      rw [z_getD (by omega)]
      exact hpre _ (List.getElem_mem _)
    rw [if_neg (show ¬ nI pre.length = (0 : Int32) from fun q => h0 ((z_eq (a := pre.length) (b := 0) (by omega) (by omega)).mp q)), decide_eq_false h0, Bool.false_or, zl1, z_sub (show 1 ≤ pre.length by omega), z_sub (show 1 ≤ n by omega)]
    simp only [zNm]
    rw [z_ix (show pre.length - 1 < 2147483648 by omega), decide_eq_true (show pre.length - 1 < 6 by omega), if_pos rfl, z_cl (show pre.length - 1 < 2147483648 by omega), h22 _ (by omega)]
    generalize pre.getD (pre.length - 1) 0 = b at hb
    rw [pC_beyond hn hc hb, pC_beyond hn hc ht, Option.bind_some, Option.bind_some, Option.bind_some, Option.bind_some]
    have e1 : (zB (B b) = -nI 1) = (B b = none) := propext (zB_none (hB6 b hb))
    have e2 : (zB (B b) = nI t) = (B b = some t) := propext (zB_some (hB6 b hb) (by omega))
    have e3 : (zB (B t) = -nI 1) = (B t = none) := propext (zB_none (hB6 t ht))
    have e4 : (zB (B t) = nI b) = (B t = some b) := propext (zB_some (hB6 t ht) (by omega))
    have e5 : (nI pre.length < nI (n - 1)) = (pre.length < n - 1) := propext (z_lt (by omega) (by omega))
    have tail : ∀ Z : Bool, (if nI pre.length < nI (n - 1) then some (nI 1) else if zB (B t) = -nI 1 then some (nI 1) else if zB (B t) = nI b then some (nI 1) else some (0 : Int32)) = some (zb (decide (pre.length < n - 1) || (decide (B t = none) || decide (B t = some b)))) := by
      intro _
      by_cases q5 : pre.length < n - 1
      · rw [if_pos (by rw [e5]; exact q5), decide_eq_true q5]; rfl
      · rw [if_neg (by rw [e5]; exact q5), decide_eq_false q5]
        by_cases q3 : B t = none
        · rw [if_pos (by rw [e3]; exact q3), decide_eq_true q3]; rfl
        · rw [if_neg (by rw [e3]; exact q3), decide_eq_false q3]
          by_cases q4 : B t = some b
          · rw [if_pos (by rw [e4]; exact q4), decide_eq_true q4]; rfl
          · rw [if_neg (by rw [e4]; exact q4), decide_eq_false q4]; rfl
    by_cases q1 : B b = none
    · rw [if_pos (show zB (B b) = -nI 1 by rw [e1]; exact q1), decide_eq_true q1, Bool.true_or, Bool.true_and]
      exact tail true
    · rw [if_neg (show ¬ zB (B b) = -nI 1 by rw [e1]; exact q1), decide_eq_false q1, Bool.false_or]
      by_cases q2 : B b = some t
      · rw [if_pos (show zB (B b) = nI t by rw [e2]; exact q2), decide_eq_true q2, Bool.true_and]
        exact tail true
      · rw [if_neg (show ¬ zB (B b) = nI t by rw [e2]; exact q2), decide_eq_false q2, Bool.false_and]
        rfl
