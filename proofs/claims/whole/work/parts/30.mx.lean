/-! toss and carry, the reference's side. -/
theorem zWhole_map (l : List zP) : zWhole (l.map zHz) = 0 := by
  unfold zWhole
  rw [List.countP_eq_zero]
  intro p hp
  obtain ⟨q, _, rfl⟩ := List.mem_map.mp hp
  unfold zHz
  split
  · simp
  · rename_i h; simp [h]
theorem zWrong_map (t : Nat) (l : List zP) : zWrong t (l.map zHz) = zWrong t l := by
  unfold zWrong
  rw [List.countP_map]
  congr 1
  funext p
  simp [zHz_2]
theorem zGlass_map (l : List zP) : zGlass (l.map zHz) = zGlass l := by
  unfold zGlass
  rw [List.countP_map]
  congr 1
  funext p
  simp [zHz_1]
theorem zWrong_app (t : Nat) (l : List zP) (p : zP) : zWrong t (l ++ [p]) = zWrong t l + (if p.2.1 = t then 0 else 1) := by
  unfold zWrong
  rw [List.countP_append, List.countP_singleton]
  by_cases h : p.2.1 = t <;> simp [h]
theorem zGlass_app (l : List zP) (p : zP) : zGlass (l ++ [p]) = zGlass l + (if p.1 = 3 then 1 else 0) := by
  unfold zGlass
  rw [List.countP_append, List.countP_singleton]
  by_cases h : p.1 = 3 <;> simp [h]
theorem zWhole_app (l : List zP) (p : zP) : zWhole (l ++ [p]) = zWhole l + (if p.1 = 3 then (if p.2.2 then 0 else 1) else 0) := by
  unfold zWhole
  rw [List.countP_append, List.countP_singleton]
  by_cases h : p.1 = 3
  · cases hb : p.2.2 <;> simp [h]
  · simp [h]
theorem zNm {α β : Type} (v : α) (f : α → β) : gw_nm v f = f v := id rfl
/-- the belt moves up -/
theorem pM_J129_L {len : Nat} {f1 f2 : Nat → Int32} (h8 : len < 8) (Kx : Int32 → gw_S → Option gw_S) : ∀ f i e, i ≤ len → len - i < f → rdI e 0 10 = nI len → (∀ j, j < i → rdI e 9 j = f1 (j + 1) ∧ rdI e 10 j = f2 (j + 1)) → (∀ j, i ≤ j → j ≤ len → rdI e 9 j = f1 j ∧ rdI e 10 j = f2 j) →
    ∃ d, fX8_comes_L142 Kx f (nI i) e = Kx (nI len) d ∧ (∀ x y, x ≠ 9 → x ≠ 10 → rdI d x y = rdI e x y) ∧ ∀ j, j < len → rdI d 9 j = f1 (j + 1) ∧ rdI d 10 j = f2 (j + 1) := by
  intro f
  induction f with
  | zero => intro i e _ h; omega
  | succ f ih =>
    intro i e hi hf h1 h2 h3
    rw [fX8_comes_L142, h1]
    by_cases e0 : i = len
    · subst e0
      exact ⟨e, by simp (disch := omega) only [gw_nm, gw_b2, Option.bind_some, Option.bind_none, z_ix, z_cl, z_le, z_lt, z_eq, decide_eq_true_eq, if_true, if_false, ite_true, ite_false, eq_self, not_true_eq_false, not_false_eq_true, zl0, zl1, zl2, zl3, zl4, zl5, zl6, zl7, zl8, zl9, zl10, zl12, zl16, zl20, zl24, zl32, zl40, zl44, zl48, zl49, zl56, zl57, zl59, zl60, zl64, zl90, zl126, zl600, if_pos], fun _ _ _ _ => rfl, h2⟩
    · have hp := h3 (i + 1) (by omega) (by omega)
      simp (disch := omega) only [gw_nm, gw_b2, Option.bind_some, Option.bind_none, z_ix, z_cl, z_le, z_lt, z_eq, decide_eq_true_eq, if_true, if_false, ite_true, ite_false, eq_self, not_true_eq_false, not_false_eq_true, zl0, zl1, zl2, zl3, zl4, zl5, zl6, zl7, zl8, zl9, zl10, zl12, zl16, zl20, zl24, zl32, zl40, zl44, zl48, zl49, zl56, zl57, zl59, zl60, zl64, zl90, zl126, zl600, if_neg, if_pos, z_add, rd_nk, hp.1, hp.2]
      obtain ⟨d, d1, d2, d3⟩ := ih (i + 1) (wrI (wrI e 9 i (f1 (i + 1))) 10 i (f2 (i + 1))) (by omega) (by omega) (by simp (disch := omega) only [gw_nm, gw_b2, Option.bind_some, Option.bind_none, z_ix, z_cl, z_le, z_lt, z_eq, decide_eq_true_eq, if_true, if_false, ite_true, ite_false, eq_self, not_true_eq_false, not_false_eq_true, zl0, zl1, zl2, zl3, zl4, zl5, zl6, zl7, zl8, zl9, zl10, zl12, zl16, zl20, zl24, zl32, zl40, zl44, zl48, zl49, zl56, zl57, zl59, zl60, zl64, zl90, zl126, zl600, rd_nk, h1]) (fun j hj => by
        by_cases ej : j = i
        · subst ej
          simp (disch := omega) only [gw_nm, gw_b2, Option.bind_some, Option.bind_none, z_ix, z_cl, z_le, z_lt, z_eq, decide_eq_true_eq, if_true, if_false, ite_true, ite_false, eq_self, not_true_eq_false, not_false_eq_true, zl0, zl1, zl2, zl3, zl4, zl5, zl6, zl7, zl8, zl9, zl10, zl12, zl16, zl20, zl24, zl32, zl40, zl44, zl48, zl49, zl56, zl57, zl59, zl60, zl64, zl90, zl126, zl600, rd_nk, rd_eq, and_self]
        · simp (disch := omega) only [gw_nm, gw_b2, Option.bind_some, Option.bind_none, z_ix, z_cl, z_le, z_lt, z_eq, decide_eq_true_eq, if_true, if_false, ite_true, ite_false, eq_self, not_true_eq_false, not_false_eq_true, zl0, zl1, zl2, zl3, zl4, zl5, zl6, zl7, zl8, zl9, zl10, zl12, zl16, zl20, zl24, zl32, zl40, zl44, zl48, zl49, zl56, zl57, zl59, zl60, zl64, zl90, zl126, zl600, rd_nk, rd_nj, h2 j (by omega), and_self]) (fun j hj hj2 => by simp (disch := omega) only [gw_nm, gw_b2, Option.bind_some, Option.bind_none, z_ix, z_cl, z_le, z_lt, z_eq, decide_eq_true_eq, if_true, if_false, ite_true, ite_false, eq_self, not_true_eq_false, not_false_eq_true, zl0, zl1, zl2, zl3, zl4, zl5, zl6, zl7, zl8, zl9, zl10, zl12, zl16, zl20, zl24, zl32, zl40, zl44, zl48, zl49, zl56, zl57, zl59, zl60, zl64, zl90, zl126, zl600, rd_nk, rd_nj, h3 j (by omega) hj2, and_self])
      refine ⟨d, d1, fun x y h9 h10 => ?_, d3⟩
      rw [d2 x y h9 h10, rd_nk h10, rd_nk h9]
theorem pM_J129 {e : gw_S} {p : zP} {rest : List zP} (h8 : rest.length < 8) (h1 : rdI e 0 10 = nI (rest.length + 1)) (h2 : ∀ j q, (p :: rest)[j]? = some q → rdI e 9 j = nI q.1 ∧ rdI e 10 j = nI q.2.1) : ∃ d, fX8_comes_J129 e = some d ∧ (∀ x y, x ≠ 9 → x ≠ 10 → ¬ (x = 0 ∧ y = 10) → rdI d x y = rdI e x y) ∧ rdI d 0 10 = nI rest.length ∧ ∀ j q, rest[j]? = some q → rdI d 9 j = nI q.1 ∧ rdI d 10 j = nI q.2.1 := by
  unfold fX8_comes_J129
  obtain ⟨d, d1, d2, d3⟩ := pM_J129_L (len := rest.length) (f1 := fun j => rdI e 9 j) (f2 := fun j => rdI e 10 j) h8 (fun _ t_x142 => some t_x142) 2000 0 (wrI e 0 10 (nI rest.length)) (Nat.zero_le _) (by omega) (rd_eq _ _ _ _) (fun j hj => by omega) (fun j _ _ => by rw [rd_nk (by omega), rd_nk (by omega)]; exact ⟨rfl, rfl⟩)
  refine ⟨d, ?_, fun x y h9 h10 h0 => ?_, ?_, fun j q hq => ?_⟩
  · simp only [gw_nm]
    rw [h1, zl1, z_sub (by omega), Nat.add_sub_cancel, zl0]
    exact d1
  · rw [d2 x y h9 h10, rd_wr, if_neg h0]
  · rw [d2 _ _ (by omega) (by omega), rd_eq]
  · have := d3 j (z_lt_of hq)
    have h := h2 (j + 1) q (by rw [List.getElem?_cons_succ]; exact hq)
    rw [this.1, this.2]
    exact h
theorem pM_fin {m : gw_S} {n : Nat} {a : zS} (hs : rmN m n a) (hn : n ≤ 6) (hS : zInvS n a) {i : Nat} (hi : i < n) {p : zP} {rest : List zP} (hb : zBelt a = p :: rest) (e : gw_S) (l' : List zP) (hm : Int32) (e1 : ∀ x y, ¬ (x = 0 ∧ y = 14) → (x < 5 ∨ 9 ≤ x) → rdI e x y = rdI m x y) (e2 : ∀ x y, 5 ≤ x → x ≤ 8 → y ≠ zTown a i → rdI e x y = rdI m x y) (e5 : rdI e 5 (zTown a i) = nI l'.length) (e6 : rdI e 6 (zTown a i) = nI (zWrong (zTown a i) l')) (e7 : rdI e 7 (zTown a i) = nI (zGlass l')) (e8 : rdI e 8 (zTown a i) = nI (zWhole l')) (e14 : rdI e 0 14 = hm) :
    ∃ d, fX8_comes_J129 e = some d ∧ (∀ x y, ¬ (x = 0 ∧ (y = 10 ∨ y = 14)) → (x < 5 ∨ 11 ≤ x) → rdI d x y = rdI m x y) ∧ rmN d n (zTown a, updN (zSack a) i l', rest, zFound a, zSec a, hm) := by
  obtain ⟨s1, s2, s3, s4, s5, s6, s7, s8⟩ := hs
  have h8 := hS.2.2.2.2.2.1
  rw [hb] at h8 s3 s4
  have h8 : rest.length + 1 ≤ 8 := h8
  obtain ⟨d, d1, d2, d3, d4⟩ := pM_J129 (e := e) (p := p) (rest := rest) (by omega) (by rw [e1 _ _ (by omega) (by omega)]; exact s3) (fun j q hq => by rw [e1 _ _ (by omega) (by omega), e1 _ _ (by omega) (by omega)]; exact s4 j q hq)
  refine ⟨d, d1, fun x y h0 hx => ?_, fun y hy => ?_, fun y hy => ?_, d3, d4, ?_, fun j q hq => ?_, ?_, ?_⟩
  · rw [d2 x y (by omega) (by omega) (by omega), e1 x y (by omega) (by omega)]
  · rw [d2 _ _ (by omega) (by omega) (by omega), e1 _ _ (by omega) (by omega)]; exact s1 y hy
  · show rdI d 5 (zTown a y) = nI (updN (zSack a) i l' y).length ∧ rdI d 6 (zTown a y) = nI (zWrong (zTown a y) (updN (zSack a) i l' y)) ∧ rdI d 7 (zTown a y) = nI (zGlass (updN (zSack a) i l' y)) ∧ rdI d 8 (zTown a y) = nI (zWhole (updN (zSack a) i l' y))
    rw [d2 _ _ (by omega) (by omega) (by omega), d2 _ _ (by omega) (by omega) (by omega), d2 _ _ (by omega) (by omega) (by omega), d2 _ _ (by omega) (by omega) (by omega)]
    by_cases q : y = i
    · subst q; rw [updN_eq]; exact ⟨e5, e6, e7, e8⟩
    · have hne : zTown a y ≠ zTown a i := fun z => q (hS.2.1 y i hy hi z)
      rw [updN_ne q, e2 _ _ (by omega) (by omega) hne, e2 _ _ (by omega) (by omega) hne, e2 _ _ (by omega) (by omega) hne, e2 _ _ (by omega) (by omega) hne]
      exact s2 y hy
  · rw [d2 _ _ (by omega) (by omega) (by omega), e1 _ _ (by omega) (by omega)]; exact s5
  · rw [d2 _ _ (by omega) (by omega) (by omega), d2 _ _ (by omega) (by omega) (by omega), e1 _ _ (by omega) (by omega), e1 _ _ (by omega) (by omega)]; exact s6 j q hq
  · rw [d2 _ _ (by omega) (by omega) (by omega), e1 _ _ (by omega) (by omega)]; exact s7
  · rw [d2 _ _ (by omega) (by omega) (by omega)]; exact e14
theorem pM_start {m : gw_S} {n : Nat} {a : zS} (hs : rmN m n a) (hn : n ≤ 6) (hS : zInvS n a) {i : Nat} (hi : i < n) {p : zP} {rest : List zP} (hb : zBelt a = p :: rest) (flew : Bool) : fX8_comes (nI i) (zb flew) m = fX8_comes_J47 (zb flew) (nI (zTown a i)) (nI p.1) (nI (zTown a i)) (nI (zWrong (zTown a i) (zSack a i))) (nI (if p.2.1 = zTown a i then 0 else 1)) (wrI m 5 (zTown a i) (nI ((zSack a i).length + 1))) := by
  obtain ⟨s1, s2, s3, s4, s5, s6, s7, s8⟩ := hs
  have ht := hS.1 i hi
  have hp5 := hS.2.2.2.2.2.2.1 p (by rw [hb]; simp)
  rw [hb] at s4
  have b0 := s4 0 p rfl
  have si := s2 i hi
  have c0 : Int32.toNatClampNeg 0 = 0 := by decide
  unfold fX8_comes
  rw [z_cl (show i < 2147483648 by omega), s1 i hi, c0, b0.1]
  simp only [gw_nm]
  rw [z_cl (show zTown a i < 2147483648 by omega), si.1, rd_nk (show (10 : Nat) ≠ 5 by omega), rd_nk (show (6 : Nat) ≠ 5 by omega), b0.2, si.2.1, z_ix (show i < 2147483648 by omega), z_ix (show zTown a i < 2147483648 by omega), z_ix (show zTown a i < 2147483648 by omega), decide_eq_true (show i < 12 by omega), decide_eq_true (show zTown a i < 12 by omega), decide_eq_true (show zTown a i < 6 by omega), show gw_ix 0 8 = true by decide]
  simp only [if_true]
  rw [zl1, z_add, zl0]
  by_cases q : p.2.1 = zTown a i
  · rw [if_pos q, if_pos (by rw [q])]
  · rw [if_neg q, if_neg (fun z => q ((z_eq (by omega) (by omega)).mp z))]
theorem pM_comes4 {m : gw_S} {n : Nat} {a : zS} (hs : rmN m n a) (hn : n ≤ 6) (hS : zInvS n a) {i : Nat} (hi : i < n) {p : zP} {rest : List zP} (hb : zBelt a = p :: rest) (flew : Bool) (h4 : p.1 = 4) : ∃ d, fX8_comes (nI i) (zb flew) m = some d ∧ (∀ x y, ¬ (x = 0 ∧ (y = 10 ∨ y = 14)) → (x < 5 ∨ 11 ≤ x) → rdI d x y = rdI m x y) ∧ rmN d n (zPut a i flew) := by
  have fin := pM_fin hs hn hS hi hb
  have start := pM_start hs hn hS hi hb flew
  obtain ⟨-, s2, -, -, -, -, -, s8⟩ := hs
  have ht := hS.1 i hi
  have si := s2 i hi
  have h3 : ¬ p.1 = 3 := by omega
  have e4 : nI p.1 = 4 := by rw [h4]; decide
  have e3 : ¬ nI p.1 = 3 := by rw [h4]; decide
  rw [start]
  unfold fX8_comes_J47 fX8_comes_J77
  simp only [gw_nm]
  rw [z_ix (show zTown a i < 2147483648 by omega), z_cl (show zTown a i < 2147483648 by omega), decide_eq_true (show zTown a i < 6 by omega), z_add, if_pos e4, if_neg e3]
  simp only [if_true]
  rw [rd_nk (show (0 : Nat) ≠ 6 by omega), rd_nk (show (0 : Nat) ≠ 5 by omega), rd_nk (show (8 : Nat) ≠ 6 by omega), rd_nk (show (8 : Nat) ≠ 5 by omega), s8, si.2.2.2]
  unfold zPut
  rw [hb]
  dsimp only
  rw [if_pos h4, if_pos h4, show decide (p.1 = 3) = false from decide_eq_false h3, Bool.and_false, zb_f, Int32.add_zero]
  refine fin _ _ _ (fun x y h0 hx => ?_) (fun x y hx hx2 hy => ?_) ?_ ?_ ?_ ?_ ?_
  · rw [rd_nk (by omega), rd_wr, if_neg h0, rd_nk (by omega), rd_nk (by omega)]
  · simp (disch := omega) only [gw_nm, gw_b2, Option.bind_some, Option.bind_none, z_ix, z_cl, z_le, z_lt, z_eq, decide_eq_true_eq, if_true, if_false, ite_true, ite_false, eq_self, not_true_eq_false, not_false_eq_true, zl0, zl1, zl2, zl3, zl4, zl5, zl6, zl7, zl8, zl9, zl10, zl12, zl16, zl20, zl24, zl32, zl40, zl44, zl48, zl49, zl56, zl57, zl59, zl60, zl64, zl90, zl126, zl600, rd_nk, rd_nj]
  · rw [List.length_append, List.length_map, rd_nk (by omega), rd_nk (by omega), rd_nk (by omega), rd_eq, List.length_singleton]
  · rw [zWrong_app, zWrong_map, rd_nk (by omega), rd_nk (by omega), rd_eq]
  · rw [zGlass_app, zGlass_map, if_neg h3, rd_nk (by omega), rd_nk (by omega), rd_nk (by omega), rd_nk (by omega), si.2.2.1, Nat.add_zero]
  · rw [zWhole_app, zWhole_map, if_neg h3, rd_eq, Nat.add_zero, zl0]
  · rw [rd_nk (by omega), rd_eq]
theorem pM_comes0 {m : gw_S} {n : Nat} {a : zS} (hs : rmN m n a) (hn : n ≤ 6) (hS : zInvS n a) {i : Nat} (hi : i < n) {p : zP} {rest : List zP} (hb : zBelt a = p :: rest) (flew : Bool) (h4 : ¬ p.1 = 4) (h3 : ¬ p.1 = 3) : ∃ d, fX8_comes (nI i) (zb flew) m = some d ∧ (∀ x y, ¬ (x = 0 ∧ (y = 10 ∨ y = 14)) → (x < 5 ∨ 11 ≤ x) → rdI d x y = rdI m x y) ∧ rmN d n (zPut a i flew) := by
  have fin := pM_fin hs hn hS hi hb
  have start := pM_start hs hn hS hi hb flew
  obtain ⟨-, s2, -, -, -, -, -, s8⟩ := hs
  have ht := hS.1 i hi
  have hp5 := hS.2.2.2.2.2.2.1 p (by rw [hb]; simp)
  have si := s2 i hi
  have e4 : ¬ nI p.1 = 4 := fun q => h4 ((z_eq (a := p.1) (b := 4) (by omega) (by omega)).mp q)
  have e3 : ¬ nI p.1 = 3 := fun q => h3 ((z_eq (a := p.1) (b := 3) (by omega) (by omega)).mp q)
  rw [start]
  unfold fX8_comes_J47 fX8_comes_J77
  simp only [gw_nm]
  rw [z_ix (show zTown a i < 2147483648 by omega), z_cl (show zTown a i < 2147483648 by omega), decide_eq_true (show zTown a i < 6 by omega), z_add, if_neg e4, if_neg e3]
  simp only [if_true]
  unfold zPut
  rw [hb]
  dsimp only
  rw [if_neg h4, if_neg h4, show decide (p.1 = 3) = false from decide_eq_false h3, Bool.and_false, zb_f, Int32.add_zero, Int32.add_zero]
  refine fin _ _ _ (fun x y h0 hx => ?_) (fun x y hx hx2 hy => ?_) ?_ ?_ ?_ ?_ ?_
  · rw [rd_nk (by omega), rd_nk (by omega)]
  · simp (disch := omega) only [gw_nm, gw_b2, Option.bind_some, Option.bind_none, z_ix, z_cl, z_le, z_lt, z_eq, decide_eq_true_eq, if_true, if_false, ite_true, ite_false, eq_self, not_true_eq_false, not_false_eq_true, zl0, zl1, zl2, zl3, zl4, zl5, zl6, zl7, zl8, zl9, zl10, zl12, zl16, zl20, zl24, zl32, zl40, zl44, zl48, zl49, zl56, zl57, zl59, zl60, zl64, zl90, zl126, zl600, rd_nk, rd_nj]
  · rw [List.length_append, rd_nk (by omega), rd_eq, List.length_singleton]
  · rw [zWrong_app, rd_eq]
  · rw [zGlass_app, if_neg h3, rd_nk (by omega), rd_nk (by omega), si.2.2.1, Nat.add_zero]
  · rw [zWhole_app, if_neg h3, rd_nk (by omega), rd_nk (by omega), si.2.2.2, Nat.add_zero]
  · rw [rd_nk (by omega), rd_nk (by omega)]; exact s8
theorem pM_comes3f {m : gw_S} {n : Nat} {a : zS} (hs : rmN m n a) (hn : n ≤ 6) (hS : zInvS n a) {i : Nat} (hi : i < n) {p : zP} {rest : List zP} (hb : zBelt a = p :: rest) (h3 : p.1 = 3) : ∃ d, fX8_comes (nI i) (zb false) m = some d ∧ (∀ x y, ¬ (x = 0 ∧ (y = 10 ∨ y = 14)) → (x < 5 ∨ 11 ≤ x) → rdI d x y = rdI m x y) ∧ rmN d n (zPut a i false) := by
  have fin := pM_fin hs hn hS hi hb
  have start := pM_start hs hn hS hi hb false
  obtain ⟨-, s2, -, -, -, -, -, s8⟩ := hs
  have ht := hS.1 i hi
  have hp5 := hS.2.2.2.2.2.2.1 p (by rw [hb]; simp)
  have si := s2 i hi
  have h4 : ¬ p.1 = 4 := by omega
  have e4 : ¬ nI p.1 = 4 := by rw [h3]; decide
  have e3 : nI p.1 = 3 := by rw [h3]; decide
  rw [start]
  generalize hv : zb false = v
  unfold fX8_comes_J47 fX8_comes_J77
  simp only [zNm]
  rw [z_ix (show zTown a i < 2147483648 by omega), z_cl (show zTown a i < 2147483648 by omega), decide_eq_true (show zTown a i < 6 by omega), z_add, if_neg e4, if_pos e3]
  simp only [if_true]
  unfold fX8_comes_J107
  simp only [zNm]
  rw [if_pos (show v = 0 from hv.symm), z_ix (show zTown a i < 2147483648 by omega), z_cl (show zTown a i < 2147483648 by omega), decide_eq_true (show zTown a i < 6 by omega)]
  simp only [if_true]
  unfold fX8_comes_J127
  simp only [zNm]
  rw [z_ix (show zTown a i < 2147483648 by omega), z_cl (show zTown a i < 2147483648 by omega), decide_eq_true (show zTown a i < 6 by omega)]
  simp only [if_true]
  rw [if_pos (show v = 0 from hv.symm)]
  unfold zPut
  rw [hb]
  dsimp only
  rw [if_neg h4, if_neg h4, show decide (p.1 = 3) = true from decide_eq_true h3, Bool.and_true]
  rw [zb_f]
  simp only [rd_nk (show (0 : Nat) ≠ 7 by omega), rd_nk (show (0 : Nat) ≠ 6 by omega), rd_nk (show (0 : Nat) ≠ 5 by omega), rd_nk (show (8 : Nat) ≠ 0 by omega), rd_nk (show (8 : Nat) ≠ 7 by omega), rd_nk (show (8 : Nat) ≠ 6 by omega), rd_nk (show (8 : Nat) ≠ 5 by omega), rd_nk (show (7 : Nat) ≠ 6 by omega), rd_nk (show (7 : Nat) ≠ 5 by omega), s8, si.2.2.1, si.2.2.2, Int32.zero_add, Int32.add_zero]
  refine fin _ _ _ (fun x y h0 hx => ?_) (fun x y hx hx2 hy => ?_) ?_ ?_ ?_ ?_ ?_
  · rw [rd_nk (by omega), rd_wr, if_neg h0, rd_nk (by omega), rd_nk (by omega), rd_nk (by omega)]
  · simp (disch := omega) only [gw_nm, gw_b2, Option.bind_some, Option.bind_none, z_ix, z_cl, z_le, z_lt, z_eq, decide_eq_true_eq, if_true, if_false, ite_true, ite_false, eq_self, not_true_eq_false, not_false_eq_true, zl0, zl1, zl2, zl3, zl4, zl5, zl6, zl7, zl8, zl9, zl10, zl12, zl16, zl20, zl24, zl32, zl40, zl44, zl48, zl49, zl56, zl57, zl59, zl60, zl64, zl90, zl126, zl600, rd_nk, rd_nj]
  · rw [List.length_append, rd_nk (by omega), rd_nk (by omega), rd_nk (by omega), rd_nk (by omega), rd_eq, List.length_singleton]
  · rw [zWrong_app, rd_nk (by omega), rd_nk (by omega), rd_nk (by omega), rd_eq]
  · rw [zGlass_app, if_pos h3, rd_nk (by omega), rd_nk (by omega), rd_eq, zl1, z_add]
  · rw [zWhole_app, if_pos h3, rd_eq]
    rw [if_neg (by simp), zl1, z_add]
  · rw [rd_nk (by omega), rd_eq]
theorem pM_comes3t {m : gw_S} {n : Nat} {a : zS} (hs : rmN m n a) (hn : n ≤ 6) (hS : zInvS n a) {i : Nat} (hi : i < n) {p : zP} {rest : List zP} (hb : zBelt a = p :: rest) (h3 : p.1 = 3) : ∃ d, fX8_comes (nI i) (zb true) m = some d ∧ (∀ x y, ¬ (x = 0 ∧ (y = 10 ∨ y = 14)) → (x < 5 ∨ 11 ≤ x) → rdI d x y = rdI m x y) ∧ rmN d n (zPut a i true) := by
  have fin := pM_fin hs hn hS hi hb
  have start := pM_start hs hn hS hi hb true
  obtain ⟨-, s2, -, -, -, -, -, s8⟩ := hs
  have ht := hS.1 i hi
  have hp5 := hS.2.2.2.2.2.2.1 p (by rw [hb]; simp)
  have si := s2 i hi
  have h4 : ¬ p.1 = 4 := by omega
  have e4 : ¬ nI p.1 = 4 := by rw [h3]; decide
  have e3 : nI p.1 = 3 := by rw [h3]; decide
  rw [start]
  generalize hv : zb true = v
  unfold fX8_comes_J47 fX8_comes_J77
  simp only [zNm]
  rw [z_ix (show zTown a i < 2147483648 by omega), z_cl (show zTown a i < 2147483648 by omega), decide_eq_true (show zTown a i < 6 by omega), z_add, if_neg e4, if_pos e3]
  simp only [if_true]
  unfold fX8_comes_J107
  simp only [zNm]
  rw [if_neg (show ¬ v = 0 by rw [← hv]; decide), z_ix (show zTown a i < 2147483648 by omega), z_cl (show zTown a i < 2147483648 by omega), decide_eq_true (show zTown a i < 6 by omega)]
  simp only [if_true]
  unfold fX8_comes_J127
  simp only [zNm]
  rw [z_ix (show zTown a i < 2147483648 by omega), z_cl (show zTown a i < 2147483648 by omega), decide_eq_true (show zTown a i < 6 by omega)]
  simp only [if_true]
  rw [if_neg (show ¬ v = 0 by rw [← hv]; decide)]
  unfold zPut
  rw [hb]
  dsimp only
  rw [if_neg h4, if_neg h4, show decide (p.1 = 3) = true from decide_eq_true h3, Bool.and_true]
  rw [zb_t]
  simp only [rd_nk (show (0 : Nat) ≠ 7 by omega), rd_nk (show (0 : Nat) ≠ 6 by omega), rd_nk (show (0 : Nat) ≠ 5 by omega), rd_nk (show (8 : Nat) ≠ 0 by omega), rd_nk (show (8 : Nat) ≠ 7 by omega), rd_nk (show (8 : Nat) ≠ 6 by omega), rd_nk (show (8 : Nat) ≠ 5 by omega), rd_nk (show (7 : Nat) ≠ 6 by omega), rd_nk (show (7 : Nat) ≠ 5 by omega), s8, si.2.2.1, si.2.2.2, Int32.zero_add, Int32.add_zero]
  refine fin _ _ _ (fun x y h0 hx => ?_) (fun x y hx hx2 hy => ?_) ?_ ?_ ?_ ?_ ?_
  · rw [rd_nk (by omega), rd_wr, if_neg h0, rd_nk (by omega), rd_nk (by omega), rd_nk (by omega)]
  · simp (disch := omega) only [gw_nm, gw_b2, Option.bind_some, Option.bind_none, z_ix, z_cl, z_le, z_lt, z_eq, decide_eq_true_eq, if_true, if_false, ite_true, ite_false, eq_self, not_true_eq_false, not_false_eq_true, zl0, zl1, zl2, zl3, zl4, zl5, zl6, zl7, zl8, zl9, zl10, zl12, zl16, zl20, zl24, zl32, zl40, zl44, zl48, zl49, zl56, zl57, zl59, zl60, zl64, zl90, zl126, zl600, rd_nk, rd_nj]
  · rw [List.length_append, rd_nk (by omega), rd_nk (by omega), rd_nk (by omega), rd_nk (by omega), rd_eq, List.length_singleton]
  · rw [zWrong_app, rd_nk (by omega), rd_nk (by omega), rd_nk (by omega), rd_eq]
  · rw [zGlass_app, if_pos h3, rd_nk (by omega), rd_nk (by omega), rd_eq, zl1, z_add]
  · rw [zWhole_app, if_pos h3, rd_eq]
    rw [if_pos rfl, Nat.add_zero]
  · rw [rd_nk (by omega), rd_eq]
theorem pM_comes {m : gw_S} {n : Nat} {a : zS} (hs : rmN m n a) (hn : n ≤ 6) (hS : zInvS n a) {i : Nat} (hi : i < n) {p : zP} {rest : List zP} (hb : zBelt a = p :: rest) (flew : Bool) : ∃ d, fX8_comes (nI i) (zb flew) m = some d ∧ (∀ x y, ¬ (x = 0 ∧ (y = 10 ∨ y = 14)) → (x < 5 ∨ 11 ≤ x) → rdI d x y = rdI m x y) ∧ rmN d n (zPut a i flew) := by
  by_cases h4 : p.1 = 4
  · exact pM_comes4 hs hn hS hi hb flew h4
  · by_cases h3 : p.1 = 3
    · cases flew
      · exact pM_comes3f hs hn hS hi hb h3
      · exact pM_comes3t hs hn hS hi hb h3
    · exact pM_comes0 hs hn hS hi hb flew h4 h3
theorem rmN.sec {m : gw_S} {n : Nat} {a : zS} (h : rmN m n a) (v : Int32) : rmN (wrI m 0 13 v) n (zTown a, zSack a, zBelt a, zFound a, v, zHarm a) := by
  obtain ⟨s1, s2, s3, s4, s5, s6, s7, s8⟩ := h
  refine ⟨fun y hy => ?_, fun y hy => ?_, ?_, fun j p hp => ?_, ?_, fun j p hp => ?_, rd_eq _ _ _ _, ?_⟩
  · simp (disch := omega) only [gw_nm, gw_b2, Option.bind_some, Option.bind_none, z_ix, z_cl, z_le, z_lt, z_eq, decide_eq_true_eq, if_true, if_false, ite_true, ite_false, eq_self, not_true_eq_false, not_false_eq_true, zl0, zl1, zl2, zl3, zl4, zl5, zl6, zl7, zl8, zl9, zl10, zl12, zl16, zl20, zl24, zl32, zl40, zl44, zl48, zl49, zl56, zl57, zl59, zl60, zl64, zl90, zl126, zl600, rd_nk]
    exact s1 y hy
  · simp (disch := omega) only [gw_nm, gw_b2, Option.bind_some, Option.bind_none, z_ix, z_cl, z_le, z_lt, z_eq, decide_eq_true_eq, if_true, if_false, ite_true, ite_false, eq_self, not_true_eq_false, not_false_eq_true, zl0, zl1, zl2, zl3, zl4, zl5, zl6, zl7, zl8, zl9, zl10, zl12, zl16, zl20, zl24, zl32, zl40, zl44, zl48, zl49, zl56, zl57, zl59, zl60, zl64, zl90, zl126, zl600, rd_nk]
    exact s2 y hy
  · simp (disch := omega) only [gw_nm, gw_b2, Option.bind_some, Option.bind_none, z_ix, z_cl, z_le, z_lt, z_eq, decide_eq_true_eq, if_true, if_false, ite_true, ite_false, eq_self, not_true_eq_false, not_false_eq_true, zl0, zl1, zl2, zl3, zl4, zl5, zl6, zl7, zl8, zl9, zl10, zl12, zl16, zl20, zl24, zl32, zl40, zl44, zl48, zl49, zl56, zl57, zl59, zl60, zl64, zl90, zl126, zl600, rd_nj]
    exact s3
  · simp (disch := omega) only [gw_nm, gw_b2, Option.bind_some, Option.bind_none, z_ix, z_cl, z_le, z_lt, z_eq, decide_eq_true_eq, if_true, if_false, ite_true, ite_false, eq_self, not_true_eq_false, not_false_eq_true, zl0, zl1, zl2, zl3, zl4, zl5, zl6, zl7, zl8, zl9, zl10, zl12, zl16, zl20, zl24, zl32, zl40, zl44, zl48, zl49, zl56, zl57, zl59, zl60, zl64, zl90, zl126, zl600, rd_nk]
    exact s4 j p hp
  · simp (disch := omega) only [gw_nm, gw_b2, Option.bind_some, Option.bind_none, z_ix, z_cl, z_le, z_lt, z_eq, decide_eq_true_eq, if_true, if_false, ite_true, ite_false, eq_self, not_true_eq_false, not_false_eq_true, zl0, zl1, zl2, zl3, zl4, zl5, zl6, zl7, zl8, zl9, zl10, zl12, zl16, zl20, zl24, zl32, zl40, zl44, zl48, zl49, zl56, zl57, zl59, zl60, zl64, zl90, zl126, zl600, rd_nj]
    exact s5
  · simp (disch := omega) only [gw_nm, gw_b2, Option.bind_some, Option.bind_none, z_ix, z_cl, z_le, z_lt, z_eq, decide_eq_true_eq, if_true, if_false, ite_true, ite_false, eq_self, not_true_eq_false, not_false_eq_true, zl0, zl1, zl2, zl3, zl4, zl5, zl6, zl7, zl8, zl9, zl10, zl12, zl16, zl20, zl24, zl32, zl40, zl44, zl48, zl49, zl56, zl57, zl59, zl60, zl64, zl90, zl126, zl600, rd_nk]
    exact s6 j p hp
  · simp (disch := omega) only [gw_nm, gw_b2, Option.bind_some, Option.bind_none, z_ix, z_cl, z_le, z_lt, z_eq, decide_eq_true_eq, if_true, if_false, ite_true, ite_false, eq_self, not_true_eq_false, not_false_eq_true, zl0, zl1, zl2, zl3, zl4, zl5, zl6, zl7, zl8, zl9, zl10, zl12, zl16, zl20, zl24, zl32, zl40, zl44, zl48, zl49, zl56, zl57, zl59, zl60, zl64, zl90, zl126, zl600, rd_nj]
    exact s8
theorem pM_toss {m : gw_S} {P : List Nat} {n : Nat} {Y R O : Nat → Nat} {fl : Nat} {a : zS} {k : Option zS} (h : rmAll m P n Y R O fl a k) (hI : zInv P n Y R O fl a k) (x w : Int32) : ∃ d, fX8_toss x w m = some ((aToss n Y R a x w).1, d) ∧ rmAll d P n Y R O fl (aToss n Y R a x w).2 k := by
  obtain ⟨-, hp, hs, -⟩ := id h
  have hn := hI.n6
  have hF := hI.2.1
  have hS := hI.2.2.2.1
  unfold fX8_toss aToss
  rw [pM_hook hp.1 hn, show fX8_within w 0 2 m = zb (zK (2 + 1) w) from pM_in0 (b := 2) m w (by omega)]
  cases h1 : zK n x with
  | false => exact ⟨m, by simp [zb], by simpa using h⟩
  | true =>
    cases h2 : zK (2 + 1) w with
    | false => exact ⟨m, by simp [zb], by simpa using h⟩
    | true =>
      obtain ⟨i, hi, rfl⟩ := zK_t h1 (by omega)
      obtain ⟨j, hj3, rfl⟩ := zK_t h2 (by omega)
      have h3 := hI.n3 (by omega)
      have hx := zHookNext_lt hi h3
      have hy := (hF.2 i hi).1.2
      simp only [zb_t, show ¬ ((1 : Int32) = 0) by decide, if_false, if_true, Option.bind_some, hs.2.2.1, z_cl (show i < 2147483648 by omega), z_cl (show j < 2147483648 by omega)]
      cases hb : zBelt a with
      | nil =>
        refine ⟨m, ?_, h⟩
        simp [zl0]
      | cons p rest =>
        have hp5 := hS.2.2.2.2.2.2.1 p (by rw [hb]; simp)
        have hlen : ¬ nI (p :: rest).length = (0 : Int32) := by
          rw [zl0]; intro q
          have h8 := hS.2.2.2.2.2.1
          rw [hb] at h8
          have := (z_eq (by omega) (by omega)).mp q
          simp at this
        have b0 : rdI m 9 0 = nI p.1 := (hs.2.2.2.1 0 p (by rw [hb]; rfl)).1
        have w3 := pM_ten hp hs hF hS.1 hS.2.2.2.1 hp5.1 hi hj3
        simp only [hlen, if_false, pM_full hp hs hn hS.1 (fun h hh => (hF.2 h hh).2.1.2) hS.2.2.2.1 hi, Option.bind_some]
        cases hfu : zFull R a i with
        | true =>
          refine ⟨m, ?_, ?_⟩
          · simp [zb]
          · simpa using h
        | false =>
          have g0 : gw_ix 0 8 = true := by decide
          have c0 : Int32.toNatClampNeg 0 = 0 := by decide
          simp only [zb_f, if_true, g0, c0, b0, w3, Option.bind_some, Bool.false_eq_true, if_false]
          have hz := zIn_le p.1 (Y i)
          have hz2 := zNx_le p.1 (Y i) (zFull R a (zHookNext n i))
          have hzt : zTen p.1 (Y i) (zFull R a (zHookNext n i)) j < 2147483648 := by
            unfold zTen
            split
            · omega
            · split <;> omega
          by_cases hten : zTen p.1 (Y i) (zFull R a (zHookNext n i)) j = 0
          · refine ⟨m, ?_, ?_⟩
            · simp only [hten, if_true]
              rfl
            · simp only [hten, if_true]; exact h
          · have hten' : ¬ nI (zTen p.1 (Y i) (zFull R a (zHookNext n i)) j) = 0 := fun q => hten ((z_eq hzt (by omega)).mp q)
            simp only [hten, hten', if_false]
            have J91 : ∀ (e2 : Nat) (v : Nat), e2 < n → ∃ d, fX8_toss_J91 (nI j) (nI e2) (rdI m 0 13) 2 (nI v) m = some (nI e2, d) ∧ (∀ x y, ¬ (x = 0 ∧ (y = 10 ∨ y = 13 ∨ y = 14)) → (x < 5 ∨ 11 ≤ x) → rdI d x y = rdI m x y) ∧ rmN d n (zPut (zSecs a (2 + nI v)) e2 (decide (j ≠ 2))) := by
              intro e2 v he
              have hs1 := hs.sec (zSec a + (2 + nI v))
              have hS1 : zInvS n (zTown a, zSack a, zBelt a, zFound a, zSec a + (2 + nI v), zHarm a) := hS
              obtain ⟨d, d1, d2, d3⟩ := pM_comes hs1 hn hS1 he hb (decide (j ≠ 2))
              refine ⟨d, ?_, fun x y h0 hx => ?_, d3⟩
              · unfold fX8_toss_J91 fX8_toss_J108
                simp only [gw_nm, hs.2.2.2.2.2.2.1]
                by_cases hj2 : j = 2
                · rw [if_pos (show (2 : Int32) ≤ nI j by rw [hj2]; decide)]
                  rw [hj2] at d1
                  have d1 : fX8_comes (nI e2) 0 _ = some d := d1
                  rw [d1]; rfl
                · rw [if_neg (fun q : (2 : Int32) ≤ nI j => by have := (z_le (a := 2) (b := j) (by omega) (by omega)).mp q; omega)]
                  rw [decide_eq_true hj2] at d1
                  have d1 : fX8_comes (nI e2) 1 _ = some d := d1
                  rw [d1]; rfl
              · rw [d2 x y (by omega) hx, rd_wr, if_neg (by omega)]
            have J70 : ∀ (e2 : Nat), e2 < n → ∃ d, fX8_toss_J70 (nI i) (nI j) (nI e2) m = some (nI e2, d) ∧ (∀ x y, ¬ (x = 0 ∧ (y = 10 ∨ y = 13 ∨ y = 14)) → (x < 5 ∨ 11 ≤ x) → rdI d x y = rdI m x y) ∧ rmN d n (zPut (zSecs a (2 + (if j = 2 then nI (2 * Y i + 3) else 0))) e2 (decide (j ≠ 2))) := by
              intro e2 he
              unfold fX8_toss_J70
              by_cases hj2 : j = 2
              · rw [if_pos (show nI j = 2 by rw [hj2]; rfl), if_pos hj2, pM_walk (hp.2 i hi).1 (by omega)]
                exact J91 e2 (2 * Y i + 3) he
              · rw [if_neg (fun q : nI j = 2 => hj2 ((z_eq (a := j) (b := 2) (by omega) (by omega)).mp q)), if_neg hj2]
                exact J91 e2 0 he
            have done : ∀ (e2 : Nat) (d : gw_S), (∀ x y, ¬ (x = 0 ∧ (y = 10 ∨ y = 13 ∨ y = 14)) → (x < 5 ∨ 11 ≤ x) → rdI d x y = rdI m x y) → rmN d n (zPut (zSecs a (2 + (if j = 2 then nI (2 * Y i + 3) else 0))) e2 (decide (j ≠ 2))) → rmAll d P n Y R O fl (zPut (zSecs a (2 + (if j = 2 then nI (2 * Y i + 3) else 0))) e2 (decide (j ≠ 2))) k := fun e2 d d2 d3 => h.now hI (fun x y h0 hx => d2 x y (by omega) (by omega)) d3
            by_cases hj1 : j = 1
            · obtain ⟨d, d1, d2, d3⟩ := J70 _ hx.1
              refine ⟨d, ?_, ?_⟩
              · rw [if_pos (show nI j = 1 by rw [hj1]; rfl), pM_next m hp.1 hn hi h3, if_pos hj1]; exact d1
              · rw [if_pos hj1]; exact done _ d d2 d3
            · obtain ⟨d, d1, d2, d3⟩ := J70 i hi
              refine ⟨d, ?_, ?_⟩
              · rw [if_neg (fun q : nI j = 1 => hj1 ((z_eq (a := j) (b := 1) (by omega) (by omega)).mp q)), if_neg hj1]; exact d1
              · rw [if_neg hj1]; exact done _ d d2 d3
theorem pM_carry {m : gw_S} {P : List Nat} {n : Nat} {Y R O : Nat → Nat} {fl : Nat} {a : zS} {k : Option zS} (h : rmAll m P n Y R O fl a k) (hI : zInv P n Y R O fl a k) (x : Int32) : ∃ d, fX8_carry x m = some ((aCarry n Y R a x).1, d) ∧ rmAll d P n Y R O fl (aCarry n Y R a x).2 k := by
  obtain ⟨-, hp, hs, -⟩ := id h
  have hn := hI.n6
  have hF := hI.2.1
  have hS := hI.2.2.2.1
  unfold fX8_carry aCarry
  rw [pM_hook hp.1 hn]
  cases h1 : zK n x with
  | false => exact ⟨m, by simp [zb], by simpa using h⟩
  | true =>
    obtain ⟨i, hi, rfl⟩ := zK_t h1 (by omega)
    simp only [zb_t, show ¬ ((1 : Int32) = 0) by decide, if_false, if_true, Option.bind_some, hs.2.2.1, z_cl (show i < 2147483648 by omega)]
    cases hb : zBelt a with
    | nil =>
      refine ⟨m, ?_, h⟩
      simp [zl0]
    | cons p rest =>
      have hlen : ¬ nI (p :: rest).length = (0 : Int32) := by
        rw [zl0]; intro q
        have h8 := hS.2.2.2.2.2.1
        rw [hb] at h8
        have := (z_eq (by omega) (by omega)).mp q
        simp at this
      simp only [hlen, if_false, pM_full hp hs hn hS.1 (fun h hh => (hF.2 h hh).2.1.2) hS.2.2.2.1 hi, Option.bind_some]
      cases hfu : zFull R a i with
      | true =>
        refine ⟨m, ?_, ?_⟩
        · simp [zb]
        · simpa using h
      | false =>
        have hs1 := hs.sec (zSec a + nI (2 * Y i + 3))
        have hS1 : zInvS n (zTown a, zSack a, zBelt a, zFound a, zSec a + nI (2 * Y i + 3), zHarm a) := hS
        obtain ⟨d, d1, d2, d3⟩ := pM_comes hs1 hn hS1 hi hb false
        refine ⟨d, ?_, ?_⟩
        · rw [zb_f] at d1
          have hsd : rdI d 0 13 = zSec a + nI (2 * Y i + 3) := by
            rw [d3.2.2.2.2.2.2.1, zPut_sec]; rfl
          simp only [gw_nm, zb_f, if_true, pM_walk (hp.2 i hi).1 (show i < 6 by omega), Option.bind_some, hs.2.2.2.2.2.2.1, d1, hsd, Bool.false_eq_true, if_false]
        · simp only [Bool.false_eq_true, if_false]
          exact h.now hI (fun x y h0 hx => by rw [d2 x y (by omega) (by omega), rd_wr, if_neg (by omega)]) d3
