/-! The reference: hanging, exchanges, hung, where. -/
def agH (e d : gw_S) : Prop := d.2 = e.2 ∧ ∀ x y, ¬ (x = 4 ∧ 6 ≤ y) → rdI d x y = rdI e x y
theorem agH.refl (e : gw_S) : agH e e := ⟨rfl, fun _ _ _ => rfl⟩
theorem agH.trans {e d g : gw_S} (h1 : agH e d) (h2 : agH d g) : agH e g := ⟨h2.1.trans h1.1, fun x y h => (h2.2 x y h).trans (h1.2 x y h)⟩
theorem agH.scr {e d : gw_S} (h : agH e d) : rmScr e d := fun x y _ h2 _ => h.2 x y h2
theorem agH.L {e d : gw_S} (h : agH e d) (x y : Nat) : rdL d x y = rdL e x y := by unfold rdL; rw [h.1]
theorem pM_hookOf_L {n b i t : Nat} {T : Nat → Nat} {e : gw_S} (hn : n ≤ 6) (hb : b + n ≤ 12) (h1 : rdI e 0 1 = nI n) (hT : ∀ j, j < n → rdI e 4 (b + j) = nI (T j)) (h31 : ∀ j, j < n → T j < 100) (ht : t < 100) (inj : ∀ j, j < n → T j = t → j = i) (hi : i < n) (hit : T i = t) (Kx : Int32 → Int32 → Option Int32) : ∀ f s, s ≤ n → n - s < f → fX8_hookOf_L5 Kx (nI b) (nI t) e f (nI (if i < s then i else 0)) (nI s) = Kx (nI i) (nI n) := by
  intro f
  induction f with
  | zero => intro s _ h; omega
  | succ f ih =>
    intro s hs hf
    rw [fX8_hookOf_L5, h1]
    by_cases e0 : s = n
    · subst e0
      rw [if_pos ((z_le (a := s) (b := s) (by omega) (by omega)).mpr (Nat.le_refl _)), if_pos hi]
    · rw [if_neg (show ¬ nI n ≤ nI s from fun q => by have := (z_le (a := n) (b := s) (by omega) (by omega)).mp q; omega)]
      unfold fX8_hookOf_J33
      simp only [zNm]
      rw [z_add, z_ix (show b + s < 2147483648 by omega), decide_eq_true (show b + s < 12 by omega), z_cl (show b + s < 2147483648 by omega), hT s (by omega), zl1, z_add]
      simp only [if_true]
      have hs1 := h31 s (by omega)
      by_cases hq : T s = t
      · have e2 := inj s (by omega) hq
        have := ih (s + 1) (by omega) (by omega)
        rw [if_pos (show i < s + 1 by omega)] at this
        rw [if_pos (show nI (T s) = nI t by rw [hq]), e2]
        rw [e2] at this
        exact this
      · have hne : i ≠ s := fun q => hq (by rw [← q]; exact hit)
        have := ih (s + 1) (by omega) (by omega)
        rw [if_neg (show ¬ nI (T s) = nI t from fun q => hq ((z_eq (by omega) (by omega)).mp q)), ← this]
        by_cases h2 : i < s
        · rw [if_pos h2, if_pos (show i < s + 1 by omega)]
        · rw [if_neg h2, if_neg (show ¬ i < s + 1 by omega)]
theorem pM_hookOf {n b i t : Nat} {T : Nat → Nat} {e : gw_S} (hn : n ≤ 6) (hb : b + n ≤ 12) (h1 : rdI e 0 1 = nI n) (hT : ∀ j, j < n → rdI e 4 (b + j) = nI (T j)) (h31 : ∀ j, j < n → T j < 100) (ht : t < 100) (inj : ∀ j, j < n → T j = t → j = i) (hi : i < n) (hit : T i = t) : fX8_hookOf (nI b) (nI t) e = some (nI i) := by
  have L := pM_hookOf_L hn hb h1 hT h31 ht inj hi hit (fun v3_x5 v4_x5 => some v3_x5) 2000 0 (by omega) (by omega)
  rw [if_neg (show ¬ i < 0 by omega), ← zl0] at L
  exact L
/-- the hook of a town, by a row of towns -/
theorem pM_hookBy {n b t : Nat} {l : List Nat} {e : gw_S} (hn : n ≤ 6) (hb : b + n ≤ 12) (h1 : rdI e 0 1 = nI n) (hl : l ∈ zAll n) (hT : ∀ j, j < n → rdI e 4 (b + j) = nI (l.getD j 0)) (ht : t < n) : fX8_hookOf (nI b) (nI t) e = some (nI (zPos l t)) := by
  refine pM_hookOf (T := fun j => l.getD j 0) hn hb h1 hT (fun j hj => ?_) (by omega) (fun j hj q => ?_) (zPos_lt hl ht) (zPos_get hl ht)
  · have := zAll_getlt hl hj
    omega
  · have := zPos_of hl hj
    rw [q] at this
    exact this.symm
theorem pM_takesOn {e : gw_S} {i y : Nat} (hy : rdI e 1 i = nI y) (hi : i < 6) (hy9 : y < 9) : fX8_takesOn (nI i) e = some (nI (zLess y)) := by
  have w0 := pM_in hy hi (show 0 < 5 by omega) hy9
  have w1 := pM_tenN hy hi (show 0 < 5 by omega) hy9
  rw [← zl0] at w0 w1
  have h1 := zIn_le 0 y
  have h2 := zNx_le 0 y false
  have h3 := zCo_lt 0 y false (by omega)
  have ec : fX8_costBy 0 (nI i) (nI (zIn 0 y)) (nI (zNx 0 y false)) e = some (nI (zCo 0 y false)) := by
    unfold fX8_costBy fX8_costBy_J16
    rw [if_neg (show ¬ (0 : Int32) = 3 by decide), pM_walk hy hi, Option.bind_some, show (20 : Int32) = nI 20 from rfl, show (60 : Int32) = nI 60 from rfl, zl10, zl0, z_mul, z_add, z_sub h1, z_sub h2, z_mul, z_add, z_add]
    rfl
  unfold fX8_takesOn
  rw [w0, w1, Option.bind_some, Option.bind_some, ec, Option.bind_some, pM_walk hy hi, Option.bind_some, Option.bind_some, zl10, z_mul, zLess_tab y hy9]
  by_cases h : 10 * (2 * y + 3) ≤ zCo 0 y false
  · rw [if_pos ((z_le (by omega) (by omega)).mpr h), show (zCo 0 y false).min (10 * (2 * y + 3)) = 10 * (2 * y + 3) from Nat.min_eq_right h]
  · rw [if_neg (fun q => h ((z_le (by omega) (by omega)).mp q)), show (zCo 0 y false).min (10 * (2 * y + 3)) = zCo 0 y false from Nat.min_eq_left (by omega)]
theorem pM_takesBy_L {n : Nat} {Y R O : Nat → Nat} {l : List Nat} {e : gw_S} (hF : zInvF n Y R O) (hp : rmPlan e n Y R O) (hl : l ∈ zAll n) (hc : ∀ j, j < n → rdI e 4 (6 + j) = nI (l.getD j 0)) (Kx : Int32 → Int32 → Option Int32) : ∀ f s acc, s ≤ n → n - s < f → fX8_takesBy_L4 Kx e f (nI acc) (nI s) = Kx (nI (acc + zCost Y O s (l.drop s))) (nI n) := by
  have hn : n ≤ 6 := by have := hF.1; omega
  have hlen := zAll_len hl
  intro f
  induction f with
  | zero => intro s acc _ h; omega
  | succ f ih =>
    intro s acc hs hf
    rw [fX8_takesBy_L4, hp.1]
    by_cases e0 : s = n
    · rw [e0, if_pos ((z_le (a := n) (b := n) (by omega) (by omega)).mpr (Nat.le_refl _)), List.drop_eq_nil_of_le (by omega)]
      rfl
    · rw [if_neg (show ¬ nI n ≤ nI s from fun q => by have := (z_le (a := n) (b := s) (by omega) (by omega)).mp q; omega)]
      have h1 := zAll_getlt hl (show s < n by omega)
      have h2 := hp.2 _ h1
      have h3 := (hF.2 s (by omega)).1
      simp only [zNm]
      rw [zl6, z_add, z_ix (show 6 + s < 2147483648 by omega), decide_eq_true (show 6 + s < 12 by omega), z_cl (show 6 + s < 2147483648 by omega), hc s (by omega), z_ix (show l.getD s 0 < 2147483648 by omega), decide_eq_true (show l.getD s 0 < 6 by omega), z_cl (show l.getD s 0 < 2147483648 by omega), h2.2.2, pM_takesOn (hp.2 s (by omega)).1 (by omega) (by omega), Option.bind_some, z_mul, z_add, zl1, z_add]
      simp only [if_true]
      rw [ih (s + 1) _ (by omega) (by omega)]
      have e1 : zCost Y O s (l.drop s) = O (l.getD s 0) * zLess (Y s) + zCost Y O (s + 1) (l.drop (s + 1)) := by
        rw [List.drop_eq_getElem_cons (show s < l.length by omega), z_getD (show s < l.length by omega)]
        rfl
      rw [e1, Nat.add_assoc]
/-- one number: hung by it, and what that takes -/
theorem pM_hangStep {n : Nat} {Y R O : Nat → Nat} {e : gw_S} (hF : zInvF n Y R O) (hp : rmPlan e n Y R O) (h0 : 0 < n) {c : Nat} (hc : c < zFac n) : ∃ d l, fX8_hangBy (nI c) e = some d ∧ agH e d ∧ (zAll n)[c]? = some l ∧ (∀ j, j < n → rdI d 4 (6 + j) = nI (l.getD j 0)) ∧ rmPlan d n Y R O ∧ fX8_takesBy d = some (nI (zCost Y O 0 l)) := by
  have hn : n ≤ 6 := by have := hF.1; omega
  obtain ⟨d, l, d1, d2, d3, d4⟩ := pM_hangBy hn h0 hp.1 hc
  have hp2 : rmPlan d n Y R O := hp.fr (d2.2 _ _ (by omega)) (fun i j _ _ => d2.2 _ _ (by omega))
  refine ⟨d, l, d1, d2, d3, d4, hp2, ?_⟩
  have L := pM_takesBy_L hF hp2 (List.mem_of_getElem? d3) d4 (fun v1_x4 v2_x4 => some v1_x4) 2000 0 0 (by omega) (by omega)
  rw [Nat.zero_add, ← zl0] at L
  exact L
theorem pM_hang_L8 {n : Nat} {Y R O : Nat → Nat} (hF : zInvF n Y R O) (h0 : 0 < n) (Kx : Int32 → Int32 → Int32 → gw_S → Option (Int32 × gw_S)) (v1 : Int32) : ∀ f c e b p, 1 ≤ c → c ≤ zFac n → zFac n - c < f → rmPlan e n Y R O → b < c → (zAll n)[b]? = some p → p = zMin (zCost Y O 0) ((zAll n).take c) → ∃ d b', agH e d ∧ b' < zFac n ∧ (zAll n)[b']? = some (zBest n Y O) ∧ fX8_hangingNow_L8 Kx v1 f (nI b) (nI (zCost Y O 0 p)) (nI c) e = Kx (nI b') (nI (zCost Y O 0 (zBest n Y O))) (nI (zFac n)) d := by
  have hn : n ≤ 6 := by have := hF.1; omega
  have hall := zAll_count n
  have h720 := zFac_le hn
  intro f
  induction f with
  | zero => intro c e b p _ _ h; omega
  | succ f ih =>
    intro c e b p c1 c2 hf hp hb hbp hpm
    rw [fX8_hangingNow_L8, pM_ways hn h0 hp.1, Option.bind_some]
    by_cases e0 : c = zFac n
    · refine ⟨e, b, agH.refl e, by omega, ?_, ?_⟩
      · rw [hbp, hpm, List.take_of_length_le (by omega)]; rfl
      · rw [e0, if_pos ((z_le (a := zFac n) (b := zFac n) (by omega) (by omega)).mpr (Nat.le_refl _)), hpm, List.take_of_length_le (by omega)]
        rfl
    · rw [if_neg (show ¬ nI (zFac n) ≤ nI c from fun q => by have := (z_le (a := zFac n) (b := c) (by omega) (by omega)).mp q; omega)]
      obtain ⟨d, l, d1, d2, d3, d4, d5, d6⟩ := pM_hangStep hF hp h0 (show c < zFac n by omega)
      rw [d1, Option.bind_some, d6, Option.bind_some]
      unfold fX8_hangingNow_J41 fX8_hangingNow_J54
      simp only [zNm]
      rw [zl1, z_add]
      have q1 := zCost_lt hF (List.mem_of_getElem? hbp)
      have q2 := zCost_lt hF (List.mem_of_getElem? d3)
      have hsn : (zAll n).take (c + 1) = (zAll n).take c ++ [l] := by rw [List.take_add_one, d3]; rfl
      have hne : (zAll n).take c ≠ [] := by
        intro q
        have := congrArg List.length q
        rw [List.length_take, hall] at this
        simp at this
        omega
      by_cases hle : zCost Y O 0 p ≤ zCost Y O 0 l
      · obtain ⟨g, b', g1, g2, g3, g4⟩ := ih (c + 1) d b p (by omega) (by omega) (by omega) d5 (by omega) hbp (by rw [hsn, zMin_snoc _ _ _ hne, ← hpm, if_neg (by omega)])
        refine ⟨g, b', d2.trans g1, g2, g3, ?_⟩
        rw [if_pos ((z_le (by omega) (by omega)).mpr hle), if_pos ((z_le (by omega) (by omega)).mpr hle)]
        exact g4
      · obtain ⟨g, b', g1, g2, g3, g4⟩ := ih (c + 1) d c l (by omega) (by omega) (by omega) d5 (by omega) d3 (by rw [hsn, zMin_snoc _ _ _ hne, ← hpm, if_pos (by omega)])
        refine ⟨g, b', d2.trans g1, g2, g3, ?_⟩
        rw [if_neg (fun q => hle ((z_le (by omega) (by omega)).mp q)), if_neg (fun q => hle ((z_le (by omega) (by omega)).mp q))]
        exact g4
theorem pM_exch_L33 {n : Nat} {s : Nat → Nat} {e : gw_S} (hn : n ≤ 6) (hs : ∀ v, v < n → s v < n ∧ fX8_hookOf 0 (rdI e 4 (6 + v)) e = some (nI (s v))) (Kx : Int32 → Int32 → Option Int32) (v1 v3 : Int32) : ∀ k f m v, (zLeft n m).length ≤ k → k < f → m < 64 → v < n → ∃ y, fX8_exchanges_L33 Kx v1 v3 e f (nI m) (nI v) = Kx (nI (zRing s k m v)) y := by
  intro k
  induction k with
  | zero =>
    intro f m v h1 h2 hm hv
    obtain ⟨f, rfl⟩ : ∃ g, f = g + 1 := ⟨f - 1, by omega⟩
    refine ⟨nI v, ?_⟩
    rw [fX8_exchanges_L33, z_bit m hm v (by omega), zLeft_none hv (by omega), if_pos rfl, if_neg (show ¬ nI 1 = (0 : Int32) by decide)]
    rfl
  | succ k ih =>
    intro f m v h1 h2 hm hv
    obtain ⟨f, rfl⟩ : ∃ g, f = g + 1 := ⟨f - 1, by omega⟩
    rw [fX8_exchanges_L33, z_bit m hm v (by omega)]
    unfold zRing
    cases hb : m.testBit v with
    | true =>
      refine ⟨nI v, ?_⟩
      rw [if_pos rfl, if_neg (show ¬ nI 1 = (0 : Int32) by decide), if_pos rfl]
    | false =>
      have hl := zLeft_len_or hv hb
      obtain ⟨y, hy⟩ := ih f (m ||| 2 ^ v) (s v) (by omega) (by omega) (z_or64 hm (by omega)) (hs v hv).1
      refine ⟨y, ?_⟩
      rw [if_neg (show ¬ false = true from Bool.false_ne_true), if_pos (show nI 0 = (0 : Int32) from rfl), if_neg (show ¬ false = true from Bool.false_ne_true)]
      simp only [zNm]
      rw [z_bitor m hm v (by omega), zl6, z_add, z_ix (show 6 + v < 2147483648 by omega), decide_eq_true (show 6 + v < 12 by omega), z_cl (show 6 + v < 2147483648 by omega), (hs v hv).2, Option.bind_some]
      simp only [if_true]
      exact hy
theorem pM_exch_L6 {n : Nat} {s : Nat → Nat} {e : gw_S} (hn : n ≤ 6) (h1 : rdI e 0 1 = nI n) (hs : ∀ v, v < n → s v < n ∧ fX8_hookOf 0 (rdI e 4 (6 + v)) e = some (nI (s v))) (Kx : Int32 → Int32 → Int32 → Option Int32) : ∀ k f h r m, h + k = n → k < f → m < 64 → ∃ y, fX8_exchanges_L6 Kx e f (nI r) (nI m) (nI h) = Kx (nI (zRings s n k h r m)) y (nI n) := by
  intro k
  induction k with
  | zero =>
    intro f h r m hk hf hm
    obtain ⟨f, rfl⟩ : ∃ g, f = g + 1 := ⟨f - 1, by omega⟩
    have : h = n := by omega
    subst this
    refine ⟨nI m, ?_⟩
    rw [fX8_exchanges_L6, h1, if_pos ((z_le (a := h) (b := h) (by omega) (by omega)).mpr (Nat.le_refl _))]
    rfl
  | succ k ih =>
    intro f h r m hk hf hm
    obtain ⟨f, rfl⟩ : ∃ g, f = g + 1 := ⟨f - 1, by omega⟩
    rw [fX8_exchanges_L6, h1, if_neg (show ¬ nI n ≤ nI h from fun q => by have := (z_le (a := n) (b := h) (by omega) (by omega)).mp q; omega), z_bit m hm h (by omega)]
    unfold zRings fX8_exchanges_J28
    simp only [zNm]
    have hl := zLeft_len n m
    have hm2 := zRing_lt (s := s) hn (fun v hv => (hs v hv).1) n m h hm (by omega)
    cases hb : m.testBit h with
    | true =>
      obtain ⟨z, hz⟩ := ih f (h + 1) (r + 0) (zRing s n m h) (by omega) (by omega) hm2
      obtain ⟨y, hy⟩ := pM_exch_L33 hn hs (fun v2_x33 v4_x33 => fX8_exchanges_L6 Kx e f (nI r + 0) v2_x33 (nI h + 1)) (nI r + 0) (nI h) n 2000 m h hl (by omega) hm (by omega)
      refine ⟨z, ?_⟩
      rw [if_pos rfl, if_neg (show ¬ nI 1 = (0 : Int32) by decide), if_pos rfl, hy, ← hz, zl0, zl1, z_add, z_add]
    | false =>
      obtain ⟨z, hz⟩ := ih f (h + 1) (r + 1) (zRing s n m h) (by omega) (by omega) hm2
      obtain ⟨y, hy⟩ := pM_exch_L33 hn hs (fun v2_x33 v4_x33 => fX8_exchanges_L6 Kx e f (nI r + 1) v2_x33 (nI h + 1)) (nI r + 1) (nI h) n 2000 m h hl (by omega) hm (by omega)
      refine ⟨z, ?_⟩
      rw [if_neg (show ¬ false = true from Bool.false_ne_true), if_pos (show nI 0 = (0 : Int32) from rfl), if_neg (show ¬ false = true from Bool.false_ne_true), hy, ← hz, zl1, z_add, z_add]
theorem pM_exchAll {n : Nat} {l : List Nat} {a : zS} {e : gw_S} (hn : n ≤ 6) (h1 : rdI e 0 1 = nI n) (hS : zInvS n a) (hl : l ∈ zAll n) (ha : ∀ h, h < n → rdI e 4 h = nI (zTown a h)) (hc : ∀ j, j < n → rdI e 4 (6 + j) = nI (l.getD j 0)) : fX8_exchanges e = some (nI (zExch n l a)) := by
  have hs : ∀ v, v < n → zHookOf n a (l.getD v 0) < n ∧ fX8_hookOf 0 (rdI e 4 (6 + v)) e = some (nI (zHookOf n a (l.getD v 0))) := by
    intro v hv
    have h2 := zAll_getlt hl hv
    refine ⟨zHookOf_lt hS h2, ?_⟩
    have := pM_hookBy (b := 0) hn (by omega) h1 (zNow_mem hS) (fun j hj => by rw [Nat.zero_add, zNow_get hj]; exact ha j hj) h2
    rw [hc v hv]
    rw [← zl0] at this
    exact this
  obtain ⟨y, hy⟩ := pM_exch_L6 hn h1 hs (fun v1_x6 v2_x6 v3_x6 => some ((rdI e 0 1) - v1_x6)) n 2000 0 0 0 (by omega) (by omega) (by omega)
  unfold fX8_exchanges zExch
  rw [← zl0] at hy
  rw [hy]
  have := zRings_le (s := fun h => zHookOf n a (l.getD h 0)) (n := n) n 0 0 0
  simp only [h1]
  rw [z_sub (by omega)]
theorem pM_hangingNow {P : List Nat} {n : Nat} {Y R O : Nat → Nat} {fl : Nat} {a : zS} {k : Option zS} {m : gw_S} (h : rmAll m P n Y R O fl a k) (hI : zInv P n Y R O fl a k) (h0 : 0 < n) {j : Nat} (hj : j < 2 ∨ (10 ≤ j ∧ j ≤ 15)) : ∃ d, fX8_hangingNow (nI j) m = some (aHangJ n Y O a j, d) ∧ agH m d := by
  have hF := hI.2.1
  have hn := hI.n6
  have hS := hI.2.2.2.1
  have hp := h.2.1
  have hfp := zFac_pos n
  have h720 := zFac_le hn
  unfold fX8_hangingNow
  rw [show (2000 : Nat) = 1999 + 1 from rfl, fX8_hangingNow_L8, pM_ways hn h0 hp.1, Option.bind_some, zl0, if_neg (show ¬ nI (zFac n) ≤ nI 0 from fun q => by have := (z_le (a := zFac n) (b := 0) (by omega) (by omega)).mp q; omega)]
  obtain ⟨d, l, d1, d2, d3, d4, d5, d6⟩ := pM_hangStep hF hp h0 (show 0 < zFac n by omega)
  have q2 := zCost_lt hF (List.mem_of_getElem? d3)
  rw [d1, Option.bind_some, d6, Option.bind_some]
  unfold fX8_hangingNow_J41 fX8_hangingNow_J54
  simp only [zNm]
  have hb0 : ¬ (268435456 : Int32) ≤ nI (zCost Y O 0 l) := by
    intro q
    have := (z_le (a := 268435456) (b := zCost Y O 0 l) (by omega) (by omega)).mp q
    omega
  rw [if_neg hb0, if_neg hb0, show nI 0 + 1 = nI (0 + 1) from rfl]
  have htk : l = zMin (zCost Y O 0) ((zAll n).take (0 + 1)) := by rw [List.take_add_one, d3]; rfl
  obtain ⟨g, b', g1, g2, g3, g4⟩ := pM_hang_L8 hF h0 (fun v2_x8 v3_x8 v4_x8 t_x8 => (fX8_hangBy v2_x8 t_x8).bind (fun t_63 => if 2 ≤ nI j then (if (rdI t_63 0 1) ≤ (nI j - 10) then (some ((-1), t_63)) else (if gw_ix ((6 + nI j) - 10) 12 = true then (some ((rdI t_63 4 (Int32.toNatClampNeg ((6 + nI j) - 10))), t_63)) else none)) else (if nI j = 0 then (some (v3_x8, t_63)) else ((fX8_exchanges t_63).bind (fun r80 => some (r80, t_63)))))) (nI j) 1999 (0 + 1) d 0 l (by omega) (by omega) (by omega) d5 (by omega) d3 htk
  rw [← zl0] at g4 ⊢
  rw [g4]
  have hpg : rmPlan g n Y R O := d5.fr (g1.2 _ _ (by omega)) (fun i j _ _ => g1.2 _ _ (by omega))
  obtain ⟨d', l', e1, e2, e3, e4, e5, e6⟩ := pM_hangStep hF hpg h0 g2
  have : l' = zBest n Y O := by rw [g3] at e3; exact (Option.some.inj e3).symm
  subst this
  have hag : agH m d' := (d2.trans g1).trans e2
  refine ⟨d', ?_, hag⟩
  rw [e1, Option.bind_some, e5.1]
  unfold aHangJ
  rcases (show j = 0 ∨ j = 1 ∨ 10 ≤ j by omega) with rfl | rfl | hj2
  · rw [if_neg (show ¬ (2 : Int32) ≤ nI 0 by decide), if_pos (show nI 0 = (0 : Int32) from rfl), if_pos rfl]
  · rw [if_neg (show ¬ (2 : Int32) ≤ nI 1 by decide), if_neg (show ¬ nI 1 = (0 : Int32) by decide), if_neg (by omega), if_pos rfl, pM_exchAll hn e5.1 hS (List.mem_of_getElem? e3) (fun x hx => by rw [hag.2 _ _ (by omega)]; exact h.2.2.1.1 x hx) e4]
    rfl
  · rw [if_pos (show (2 : Int32) ≤ nI j from (z_le (a := 2) (b := j) (by omega) (by omega)).mpr (by omega)), if_neg (show ¬ j = 0 by omega), if_neg (show ¬ j = 1 by omega), zl10, zl6, z_sub hj2, z_add, z_sub (show 10 ≤ 6 + j by omega), z_ix (show 6 + j - 10 < 2147483648 by omega), decide_eq_true (show 6 + j - 10 < 12 by omega), z_cl (show 6 + j - 10 < 2147483648 by omega)]
    simp only [if_true]
    by_cases h2 : j - 10 < n
    · rw [if_pos h2, if_neg (show ¬ nI n ≤ nI (j - 10) from fun q => by have := (z_le (a := n) (b := j - 10) (by omega) (by omega)).mp q; omega), show 6 + j - 10 = 6 + (j - 10) by omega, e4 _ h2]
    · rw [if_neg h2, if_pos ((z_le (a := n) (b := j - 10) (by omega) (by omega)).mpr (by omega))]
theorem pM_hanging {P : List Nat} {n : Nat} {Y R O : Nat → Nat} {fl : Nat} {a : zS} {k : Option zS} {m : gw_S} (h : rmAll m P n Y R O fl a k) (hI : zInv P n Y R O fl a k) (x : Int32) : ∃ d, fX8_hanging x m = some (aHanging n Y O a x, d) ∧ rmAll d P n Y R O fl a k := by
  have hn := hI.n6
  have J : (zK 2 x = true ∨ (¬ x < nI 10 ∧ ¬ nI 15 < x)) → ∃ d, fX8_hanging_J23 x m = some (aHanging n Y O a x, d) ∧ rmAll d P n Y R O fl a k := by
    intro hx
    obtain ⟨j, hj, rfl⟩ : ∃ j, (j < 2 ∨ (10 ≤ j ∧ j ≤ 15)) ∧ x = nI j := by
      rcases hx with hx | ⟨h1, h2⟩
      · obtain ⟨j, hj, e⟩ := zK_t hx (by omega)
        exact ⟨j, Or.inl hj, e⟩
      · rcases z_cases x with h3 | ⟨j, hj, rfl⟩
        · exact absurd (z_negle h3 (by omega)) h1
        · rw [z_lt hj (by omega)] at h1
          rw [z_lt (by omega) hj] at h2
          exact ⟨j, Or.inr (by omega), rfl⟩
    unfold fX8_hanging_J23 aHanging
    rw [h.2.1.1, if_pos hx, z_cl (by omega)]
    by_cases h0 : n = 0
    · rw [if_pos h0, if_pos (by rw [h0]; rfl)]
      exact ⟨m, rfl, h⟩
    · rw [if_neg h0, if_neg (show ¬ nI n = (0 : Int32) from fun q => h0 ((z_eq (a := n) (b := 0) (by omega) (by omega)).mp q))]
      obtain ⟨d, d1, d2⟩ := pM_hangingNow h hI (by omega) hj
      rw [d1]
      exact ⟨d, rfl, h.scr hI d2.scr⟩
  unfold fX8_hanging
  rw [zl1, show (10 : Int32) = nI 10 from rfl, show (15 : Int32) = nI 15 from rfl, pM_in0 m x (by omega), pM_within x (by omega) (by omega)]
  by_cases h1 : zK (1 + 1) x = true
  · rw [h1, if_neg (show ¬ zb true = 0 by decide)]
    exact J (Or.inl h1)
  · rw [(Bool.eq_false_iff.mpr h1 : zK (1 + 1) x = false), if_pos (show zb false = 0 from rfl)]
    by_cases h2 : x < nI 10
    · rw [decide_eq_true h2, Bool.not_true, Bool.false_and, if_pos (show zb false = 0 from rfl)]
      refine ⟨m, ?_, h⟩
      unfold aHanging
      rw [if_neg (fun q => by rcases q with q | q; exact h1 q; exact q.1 h2)]
    · by_cases h3 : nI 15 < x
      · rw [decide_eq_true h3, Bool.not_true, Bool.and_false, if_pos (show zb false = 0 from rfl)]
        refine ⟨m, ?_, h⟩
        unfold aHanging
        rw [if_neg (fun q => by rcases q with q | q; exact h1 q; exact q.2 h3)]
      · rw [decide_eq_false h2, decide_eq_false h3, Bool.not_false, Bool.and_self, if_neg (show ¬ zb true = 0 by decide)]
        exact J (Or.inr ⟨h2, h3⟩)
