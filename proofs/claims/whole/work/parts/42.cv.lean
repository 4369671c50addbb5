/-! The class: all ways to hang, and hung, where. -/
def zFold (t : Nat) (w : List (List Nat)) (b : Int32) : Int32 := w.foldl (fun b l => b ||| zBit l t) b
def rcGo (c d : gw_S) (n h : Nat) (w : List (List Nat)) : Prop := agK c d h ∧ rdI d 21 4 = rdI c 21 4 + nI w.length ∧ ∀ t, t < n → rdI d 24 t = zFold t w (rdI c 24 t)
theorem rcGo.refl (c : gw_S) (n h : Nat) : rcGo c c n h [] := ⟨agK.refl c h, by show _ = _ + nI 0; rw [← zl0, Int32.add_zero], fun _ _ => rfl⟩
theorem rcGo.trans {c d e : gw_S} {n h : Nat} {w w' : List (List Nat)} (h1 : rcGo c d n h w) (h2 : rcGo d e n h w') : rcGo c e n h (w ++ w') := by
  refine ⟨h1.1.trans h2.1, ?_, fun t ht => ?_⟩
  · rw [h2.2.1, h1.2.1, List.length_append, ← z_add, Int32.add_assoc]
  · rw [h2.2.2 t ht, h1.2.2 t ht]
    unfold zFold
    rw [List.foldl_append]
theorem rcGo.pre {c d e : gw_S} {n h : Nat} {w : List (List Nat)} (h1 : agK c d h) (h2 : rdI d 21 4 = rdI c 21 4) (h3 : ∀ t, rdI d 24 t = rdI c 24 t) (h4 : rcGo d e n (h + 1) w) : rcGo c e n h w := by
  refine ⟨h1.trans (h4.1.mono (by omega)), by rw [h4.2.1, h2], fun t ht => by rw [h4.2.2 t ht, h3]⟩
theorem pC_go_L14 {n m k : Nat} {B : Nat → Option Nat} {pre : List Nat} {frec : Int32 → Int32 → Int32 → gw_S → Option gw_S} (hn : n ≤ 6) (hm : m < 64) (hB : ∀ t u, t < n → B t = some u → u < n) (hpre : ∀ t, t ∈ pre → t < n) (hlen : pre.length < n)
    (hrec : ∀ t c, t < n → m.testBit t = false → rcB c n B → (∀ j, j < pre.length → rdI c 22 j = nI (pre.getD j 0)) → rdI c 22 pre.length = nI t → ∃ d, frec (nI (pre.length + 1)) (nI (m ||| 2 ^ t)) (nI n) c = some d ∧ rcGo c d n (pre.length + 1) (zGo n B k (pre ++ [t]) (m ||| 2 ^ t)))
    (Kx : Int32 → gw_S → Option gw_S) : ∀ j f s c, s + j = n → j < f → rcB c n B → (∀ j, j < pre.length → rdI c 22 j = nI (pre.getD j 0)) → ∃ d, rcGo c d n pre.length ((((List.range' s j).filter (fun t => !m.testBit t)).filter (zCan n B pre)).flatMap (fun t => zGo n B k (pre ++ [t]) (m ||| 2 ^ t))) ∧ fX6_hangFrom_L14 frec Kx (nI pre.length) (nI m) (nI n) f (nI s) c = Kx (nI n) d := by
  intro j
  induction j with
  | zero =>
    intro f s c hs hf hc h22
    obtain ⟨f, rfl⟩ : ∃ g, f = g + 1 := ⟨f - 1, by omega⟩
    have : s = n := by omega
    subst this
    exact ⟨c, rcGo.refl c _ _, by rw [fX6_hangFrom_L14, if_pos ((z_le (a := s) (b := s) (by omega) (by omega)).mpr (Nat.le_refl _))]⟩
  | succ j ih =>
    intro f s c hs hf hc h22
    obtain ⟨f, rfl⟩ : ∃ g, f = g + 1 := ⟨f - 1, by omega⟩
    rw [fX6_hangFrom_L14, if_neg (show ¬ nI n ≤ nI s from fun q => by have := (z_le (a := n) (b := s) (by omega) (by omega)).mp q; omega), z_bit m hm s (by omega), List.range'_succ, List.filter_cons]
    unfold fX6_hangFrom_J62
    simp only [zNm]
    rw [show nI s + 1 = nI (s + 1) from z_add s 1]
    cases hb : m.testBit s with
    | true =>
      rw [if_pos rfl, if_neg (show ¬ nI 1 = (0 : Int32) by decide), if_neg (show ¬ (!true) = true by decide)]
      exact ih f (s + 1) c (by omega) (by omega) hc h22
    | false =>
      rw [if_neg Bool.false_ne_true, if_pos (show nI 0 = (0 : Int32) from rfl), if_pos (show (!false) = true from rfl), pC_canHang hn hB hc hpre hlen h22 (show s < n by omega), Option.bind_some, List.filter_cons]
      cases hcan : zCan n B pre s with
      | false =>
        rw [if_pos (show zb false = 0 from rfl), if_neg Bool.false_ne_true]
        exact ih f (s + 1) c (by omega) (by omega) hc h22
      | true =>
        rw [if_neg (show ¬ zb true = 0 by decide), if_pos rfl, List.flatMap_cons, z_ix (show pre.length < 2147483648 by omega), decide_eq_true (show pre.length < 6 by omega), if_pos rfl, z_cl (show pre.length < 2147483648 by omega), z_bitor m hm s (by omega), show nI pre.length + 1 = nI (pre.length + 1) from z_add _ 1]
        obtain ⟨d, d1, d2⟩ := hrec s (wrI c 22 pre.length (nI s)) (by omega) hb (fun t ht => by rw [rd_nk (by omega)]; exact hc t ht) (fun i hi => by rw [rd_nj (by omega)]; exact h22 i hi) (rd_eq _ _ _ _)
        have g1 : rcGo c d n pre.length (zGo n B k (pre ++ [s]) (m ||| 2 ^ s)) := by
          refine rcGo.pre (d := wrI c 22 pre.length (nI s)) ⟨rfl, fun x y a b w => ?_⟩ (rd_nk (by omega)) (fun t => rd_nk (by omega)) d2
          rw [rd_wr, if_neg (fun q => w ⟨q.1, by omega⟩)]
        obtain ⟨e, e1, e2⟩ := ih f (s + 1) d (by omega) (by omega) (fun t ht => by rw [g1.1.2 _ _ (by omega) (by omega) (by omega)]; exact hc t ht) (fun i hi => by rw [g1.1.2 _ _ (by omega) (by omega) (by omega)]; exact h22 i hi)
        refine ⟨e, g1.trans e1, ?_⟩
        rw [d1, Option.bind_some]
        exact e2
theorem pC_hangFrom {n : Nat} {B : Nat → Option Nat} (hn : n ≤ 6) (hB : ∀ t u, t < n → B t = some u → u < n) : ∀ k f pre m c, pre.length + k = n → k < f → m < 2 ^ n → (zLeft n m).length = k → (pre ++ zLeft n m).Perm (List.range n) → rcB c n B → (∀ j, j < pre.length → rdI c 22 j = nI (pre.getD j 0)) → ∃ d, fX6_hangFrom f (nI pre.length) (nI m) (nI n) c = some d ∧ rcGo c d n pre.length (zGo n B k pre m) := by
  intro k
  induction k with
  | zero =>
    intro f pre m c hk hf hm hl hp hc h22
    obtain ⟨f, rfl⟩ : ∃ g, f = g + 1 := ⟨f - 1, by omega⟩
    have hz : zLeft n m = [] := List.length_eq_zero_iff.mp hl
    rw [hz, List.append_nil] at hp
    have hmem : pre ∈ zAll n := zAll_perm.mpr hp
    have hlen : pre.length = n := by omega
    obtain ⟨d, d1, d2, d3, d4⟩ := pC_keep hn hmem (fun j hj => h22 j (by omega))
    refine ⟨d, ?_, ⟨by rw [hlen]; exact d1, d2, d3⟩⟩
    rw [fX6_hangFrom]
    show (if nI pre.length < nI n then (fX6_hangFrom_L14 (fX6_hangFrom f) (fun v4_x14 t_x14 => some t_x14) (nI pre.length) (nI m) (nI n) 2000 0 c) else ((fX6_keep (nI n) c).bind (fun t_7 => some t_7))) = some d
    rw [if_neg (show ¬ nI pre.length < nI n from fun q => by have := (z_lt (a := pre.length) (b := n) (by omega) (by omega)).mp q; omega), d4]
    rfl
  | succ k ih =>
    intro f pre m c hk hf hm hl hp hc h22
    obtain ⟨f, rfl⟩ : ∃ g, f = g + 1 := ⟨f - 1, by omega⟩
    have hpre : ∀ t, t ∈ pre → t < n := fun t ht => List.mem_range.mp (hp.subset (List.mem_append_left _ ht))
    obtain ⟨d, d1, d2⟩ := pC_go_L14 (k := k) (frec := fX6_hangFrom f) hn (z_lt64 hn hm) hB hpre (by omega) (fun t c' ht hb hc' h22' hlast => by
      have hlo := zLeft_len_or ht hb
      have hmt : t ∈ zLeft n m := zLeft_mem.mpr ⟨ht, hb⟩
      have := ih f (pre ++ [t]) (m ||| 2 ^ t) c' (by rw [List.length_append, List.length_singleton]; omega) (by omega) (z_orlt hm ht) (by omega) (by
        rw [← zLeft_erase, List.append_assoc]
        exact (List.Perm.append_left pre (List.perm_cons_erase hmt).symm).trans hp) hc' (fun j hj => by
        rw [List.length_append, List.length_singleton] at hj
        by_cases e : j = pre.length
        · rw [e, hlast, List.getD_eq_getElem?_getD, List.getElem?_append_right (Nat.le_refl _), Nat.sub_self]
          rfl
        · rw [h22' j (by omega), List.getD_eq_getElem?_getD, List.getD_eq_getElem?_getD, List.getElem?_append_left (by omega)])
      rw [List.length_append, List.length_singleton] at this
      exact this) (fun v4_x14 t_x14 => some t_x14) n 2000 0 c (by omega) (by omega) hc h22
    refine ⟨d, ?_, ?_⟩
    · rw [fX6_hangFrom]
      show (if nI pre.length < nI n then (fX6_hangFrom_L14 (fX6_hangFrom f) (fun v4_x14 t_x14 => some t_x14) (nI pre.length) (nI m) (nI n) 2000 0 c) else ((fX6_keep (nI n) c).bind (fun t_7 => some t_7))) = some d
      rw [← zl0] at d2
      rw [if_pos ((z_lt (a := pre.length) (b := n) (by omega) (by omega)).mpr (by omega))]
      exact d2
    · rw [← List.range_eq_range'] at d1
      exact d1
theorem pC_seekWays {P : List Nat} {n : Nat} {Y R O : Nat → Nat} {fl : Nat} {a : zS} {k : Option zS} {c : gw_S} (h : rcAll c P n Y R O fl a k) (hI : zInv P n Y R O fl a k) (h0 : 0 < n) : ∃ d, fX6_seek (nI n) c = some d ∧ agI c d 21 25 ∧ rdI d 21 3 = 1 ∧ rdI d 21 4 = nI (zWays n (zFound a)).length ∧ ∀ t, t < n → rdI d 24 t = zBits t (zWays n (zFound a)) := by
  have hn := hI.n6
  have h3 := hI.n3 h0
  obtain ⟨-, -, -, -, -, -, -, q8, q9⟩ := hI.2.2.2.1
  obtain ⟨-, -, -, -, hs, -, -, -, -, hw⟩ := h
  obtain ⟨-, -, -, s4, s5, -⟩ := hs
  unfold fX6_seek
  rcases (show rdI c 21 3 = 0 ∨ (¬ rdI c 21 3 = 0 ∧ rdI c 21 3 = 1 ∧ (0 < n → rdI c 21 4 = nI (zWays n (zFound a)).length ∧ ∀ t, t < n → rdI c 24 t = zBits t (zWays n (zFound a)))) by
    rcases hw with hw | hw
    · exact Or.inl hw
    · exact Or.inr ⟨by rw [hw.1]; decide, hw⟩) with hw | ⟨hw0, hw1, hw2⟩
  · rw [if_pos hw]
    simp only [zNm]
    obtain ⟨e, e1, e2, e3⟩ := pC_fill24 0 (wrI (wrI c 21 3 1) 21 4 0)
    have ag1 : agI c (wrI (wrI c 21 3 1) 21 4 0) 21 25 := (agI.wr c 21 3 1 (by omega) (by omega)).trans (agI.wr _ 21 4 0 (by omega) (by omega))
    have ag2 : agI c e 21 25 := ag1.trans (e1.mono (by omega) (by omega))
    obtain ⟨d, d1, d2, d3⟩ := pC_ask (c := e) hn q8 q9 (by rw [ag2.2 _ _ (by omega)]; exact s4) (fun j p hp => by rw [ag2.2 _ _ (by omega), ag2.2 _ _ (by omega)]; exact s5 j p hp)
    have ag3 : agI c d 21 25 := ag2.trans (d1.mono (by omega) (by omega))
    have g3 : rdI d 21 3 = 1 := by rw [d1.2 _ _ (by omega), e1.2 _ _ (by omega), rd_nj (by omega), rd_eq]
    have g4 : rdI d 21 4 = 0 := by rw [d1.2 _ _ (by omega), e1.2 _ _ (by omega), rd_eq]
    have g24 : ∀ t, t < n → rdI d 24 t = 0 := fun t ht => by rw [d1.2 _ _ (by omega)]; exact e2 t (by omega)
    rw [e3, Option.bind_some]
    cases hA : zAsk (zFound a) (fun _ => none) with
    | none =>
      refine ⟨d, ?_, ag3, g3, ?_, fun t ht => ?_⟩
      · rw [d2 hA]
        rfl
      · rw [zAsk_ways q9 hA, g4]; rfl
      · rw [zAsk_ways q9 hA, g24 t ht]; rfl
    | some B =>
      obtain ⟨f1, f2⟩ := d3 B hA
      have hB := zAsk_lt (n := n) (zFound a) (fun _ => none) B q9 (fun t u _ hu => by simp at hu) hA
      obtain ⟨g, a1, a2⟩ := pC_hangFrom (n := n) (B := B) hn hB n 8 [] 0 d (by simp) (by omega) (Nat.pow_pos (by omega)) (by rw [zLeft_0, List.length_range]) (by rw [zLeft_0, List.nil_append]) f1 (fun j hj => by simp at hj)
      rw [zGo_ways h3 q9 hA hB] at a2
      have a1 : fX6_hangFrom 8 (nI 0) (nI 0) (nI n) d = some g := a1
      refine ⟨g, ?_, ag3.trans a2.1.ag, ?_, ?_, fun t ht => ?_⟩
      · rw [f2]
        show (if (1 : Int32) = 0 then some d else ((fX6_hangFrom 8 0 0 (if 6 < nI n then 6 else nI n) d).bind (fun t_43 => some t_43))) = some g
        rw [← zl0] at a1
        rw [if_neg (show ¬ (1 : Int32) = 0 by decide), if_neg (show ¬ (6 : Int32) < nI n from fun q => by have := (z_lt (a := 6) (b := n) (by omega) (by omega)).mp q; omega), a1]
        rfl
      · rw [a2.1.2 _ _ (by omega) (by omega) (by omega)]; exact g3
      · rw [a2.2.1, g4, Int32.zero_add]
      · rw [a2.2.2 t ht, g24 t ht]
        rfl
  · rw [if_neg hw0]
    exact ⟨c, rfl, agI.refl c _ _, hw1, (hw2 h0).1, (hw2 h0).2⟩
theorem rcAll.ways {c d : gw_S} {P : List Nat} {n : Nat} {Y R O : Nat → Nat} {fl : Nat} {a : zS} {k : Option zS} (h : rcAll c P n Y R O fl a k) (hd : agI c d 21 25) (hw : rcWays d n (zFound a)) : rcAll d P n Y R O fl a k := by
  obtain ⟨h1, h2, h3, h4, h5, h6, h7, h8, h9, -⟩ := h
  refine ⟨h1.fr (hd.2 _ _ (by omega)) (fun j => hd.2 _ _ (by omega)), h2.fr (fun i j _ _ => hd.2 _ _ (by omega)), h3.fr (hd.R 9), h4.fr (hd.R 14), h5.fr h3 (hd.R 9) (fun i j _ _ => hd.2 _ _ (by omega)) (fun i j _ _ => hd.2 _ _ (by omega)), by rw [hd.2 _ _ (by omega)]; exact h6, fun ka hk => ?_, fun hk => by rw [hd.2 _ _ (by omega)]; exact h8 hk, fun h0 => ?_, hw⟩
  · obtain ⟨x, y⟩ := h7 ka hk
    exact ⟨by rw [hd.2 _ _ (by omega)]; exact x, y.fr h4 (hd.R 14) (fun i j _ _ => hd.2 _ _ (by omega)) (fun i j _ _ => hd.2 _ _ (by omega))⟩
  · rw [hd.2 _ _ (by omega)]
    exact ⟨(h9 h0).1, fun x hx => by rw [hd.2 _ _ (by omega)]; exact (h9 h0).2 x hx⟩
theorem pC_hung {P : List Nat} {n : Nat} {Y R O : Nat → Nat} {fl : Nat} {a : zS} {k : Option zS} {c : gw_S} (h : rcAll c P n Y R O fl a k) (hI : zInv P n Y R O fl a k) : ∃ d, fX7_hung c = some (aHung n a, d) ∧ rcAll d P n Y R O fl a k := by
  have hn := hI.n6
  unfold fX7_hung aHung
  rw [h.2.1.1]
  by_cases h0 : n = 0
  · rw [if_pos h0, if_pos (by rw [h0]; rfl)]
    exact ⟨c, rfl, h⟩
  · rw [if_neg h0, if_neg (show ¬ nI n = (0 : Int32) from fun q => h0 ((z_eq (a := n) (b := 0) (by omega) (by omega)).mp q))]
    obtain ⟨d, d1, d2, d3, d4, d5⟩ := pC_seekWays h hI (by omega)
    refine ⟨d, ?_, h.ways d2 (Or.inr ⟨d3, fun _ => ⟨d4, d5⟩⟩)⟩
    rw [d1, Option.bind_some, d4]
theorem pC_where {P : List Nat} {n : Nat} {Y R O : Nat → Nat} {fl : Nat} {a : zS} {k : Option zS} {c : gw_S} (h : rcAll c P n Y R O fl a k) (hI : zInv P n Y R O fl a k) (x : Int32) : ∃ d, fX7_where x c = some (aWhere n a x, d) ∧ rcAll d P n Y R O fl a k := by
  have hn := hI.n6
  unfold fX7_where aWhere
  rw [pC_known h.2.1.1 hn, h.2.1.1]
  cases h1 : zK n x with
  | false => exact ⟨c, by rw [if_pos (show zb false = 0 from rfl), if_neg Bool.false_ne_true], h⟩
  | true =>
    obtain ⟨t, ht, rfl⟩ := zK_t h1 (by omega)
    obtain ⟨d, d1, d2, d3, d4, d5⟩ := pC_seekWays h hI (by omega)
    refine ⟨d, ?_, h.ways d2 (Or.inr ⟨d3, fun _ => ⟨d4, d5⟩⟩)⟩
    rw [if_neg (show ¬ zb true = 0 by decide), if_pos rfl, d1, Option.bind_some, z_ix (by omega), decide_eq_true (show t < 6 by omega), if_pos rfl, z_cl (by omega), d5 t ht]
