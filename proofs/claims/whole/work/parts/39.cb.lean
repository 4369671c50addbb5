/-! The class: the best hanging, by towns hung already. -/
def zPick (w : Nat → Nat) : List Nat → Nat
  | [] => 0
  | a :: l => match l with
    | [] => a
    | _ :: _ => if w (zPick w l) < w a then zPick w l else a
theorem zPick_cons (w : Nat → Nat) (a b : Nat) (l : List Nat) : zPick w (a :: b :: l) = if w (zPick w (b :: l)) < w a then zPick w (b :: l) else a := rfl
theorem zPick_snoc (w : Nat → Nat) (q : Nat) : ∀ l, l ≠ [] → zPick w (l ++ [q]) = if w q < w (zPick w l) then q else zPick w l := by
  intro l
  induction l with
  | nil => intro h; exact absurd rfl h
  | cons a l ih =>
    intro _
    cases l with
    | nil => rfl
    | cons b l =>
      have := ih (by simp)
      show zPick w (a :: b :: (l ++ [q])) = _
      rw [zPick_cons, zPick_cons, show b :: (l ++ [q]) = (b :: l) ++ [q] from rfl, this]
      generalize zPick w (b :: l) = r
      by_cases h1 : w q < w r
      · rw [if_pos h1]
        by_cases h2 : w r < w a
        · rw [if_pos h2, if_pos h1, if_pos (by omega)]
        · rw [if_neg h2]
      · rw [if_neg h1]
        by_cases h2 : w r < w a
        · rw [if_pos h2, if_neg h1]
        · rw [if_neg h2, if_neg (by omega)]
theorem zPick_mem (w : Nat → Nat) : ∀ l, l ≠ [] → zPick w l ∈ l := by
  intro l
  induction l with
  | nil => intro h; exact absurd rfl h
  | cons a l ih =>
    intro _
    cases l with
    | nil => exact List.mem_cons_self
    | cons b l =>
      rw [zPick_cons]
      have := ih (by simp)
      split
      · exact List.mem_cons_of_mem _ this
      · exact List.mem_cons_self
theorem zPick_congr {w w' : Nat → Nat} : ∀ l, (∀ t, t ∈ l → w t = w' t) → zPick w l = zPick w' l := by
  intro l
  induction l with
  | nil => intro _; rfl
  | cons a l ih =>
    intro h
    cases l with
    | nil => rfl
    | cons b l =>
      have e := ih (fun t ht => h t (List.mem_cons_of_mem _ ht))
      have m := zPick_mem w' (b :: l) (by simp)
      rw [zPick_cons, zPick_cons, e, h a List.mem_cons_self, h _ (List.mem_cons_of_mem _ m)]
theorem zMin_append (f : List Nat → Nat) : ∀ A B, A ≠ [] → B ≠ [] → zMin f (A ++ B) = if f (zMin f B) < f (zMin f A) then zMin f B else zMin f A := by
  intro A
  induction A with
  | nil => intro B h; exact absurd rfl h
  | cons a A ih =>
    intro B _ hB
    cases A with
    | nil =>
      cases B with
      | nil => exact absurd rfl hB
      | cons b B => rfl
    | cons a2 A =>
      have := ih B (by simp) hB
      show zMin f (a :: a2 :: (A ++ B)) = _
      rw [zMin_cons, zMin_cons, show a2 :: (A ++ B) = (a2 :: A) ++ B from rfl, this]
      generalize zMin f (a2 :: A) = r
      generalize zMin f B = q
      by_cases h1 : f q < f r
      · rw [if_pos h1]
        by_cases h2 : f r < f a
        · rw [if_pos h2, if_pos h1, if_pos (by omega)]
        · rw [if_neg h2]
      · rw [if_neg h1]
        by_cases h2 : f r < f a
        · rw [if_pos h2, if_neg h1]
        · rw [if_neg h2, if_neg (by omega)]
theorem zMin_map {f g : List Nat → Nat} {t c : Nat} (hf : ∀ l, f (t :: l) = c + g l) : ∀ L, L ≠ [] → zMin f (L.map (fun l => t :: l)) = t :: zMin g L := by
  intro L
  induction L with
  | nil => intro h; exact absurd rfl h
  | cons a L ih =>
    intro _
    cases L with
    | nil => rfl
    | cons b L =>
      have := ih (by simp)
      show zMin f ((t :: a) :: (t :: b) :: L.map (fun l => t :: l)) = _
      rw [zMin_cons, zMin_cons, show (t :: b) :: L.map (fun l => t :: l) = (b :: L).map (fun l => t :: l) from rfl, this, hf, hf]
      by_cases h : g (zMin g (b :: L)) < g a
      · rw [if_pos h, if_pos (by omega)]
      · rw [if_neg h, if_neg (by omega)]
theorem zMin_flat {f g : List Nat → Nat} {c : Nat → Nat} {L : Nat → List (List Nat)} (hf : ∀ t l, f (t :: l) = c t + g l) : ∀ ts, ts ≠ [] → (∀ t, t ∈ ts → L t ≠ []) → zMin f (ts.flatMap (fun t => (L t).map (fun l => t :: l))) = zPick (fun t => f (t :: zMin g (L t))) ts :: zMin g (L (zPick (fun t => f (t :: zMin g (L t))) ts)) := by
  intro ts
  induction ts with
  | nil => intro h; exact absurd rfl h
  | cons a ts ih =>
    intro _ hL
    cases ts with
    | nil =>
      rw [List.flatMap_cons, List.flatMap_nil, List.append_nil]
      exact zMin_map (hf a) (L a) (hL a List.mem_cons_self)
    | cons b ts =>
      have := ih (by simp) (fun t ht => hL t (List.mem_cons_of_mem _ ht))
      have n1 : (L a).map (fun l => a :: l) ≠ [] := by
        intro q
        exact hL a List.mem_cons_self (List.map_eq_nil_iff.mp q)
      have n2 : (b :: ts).flatMap (fun t => (L t).map (fun l => t :: l)) ≠ [] := by
        intro q
        rw [List.flatMap_cons] at q
        exact hL b (List.mem_cons_of_mem _ List.mem_cons_self) (List.map_eq_nil_iff.mp (List.append_eq_nil_iff.mp q).1)
      rw [List.flatMap_cons, zMin_append f _ _ n1 n2, this, zMin_map (hf a) (L a) (hL a List.mem_cons_self), zPick_cons]
      show (if f (zPick (fun t => f (t :: zMin g (L t))) (b :: ts) :: zMin g (L (zPick (fun t => f (t :: zMin g (L t))) (b :: ts)))) < f (a :: zMin g (L a)) then _ else _) = _
      split <;> rfl
def zH (n m : Nat) : Nat := n - (zLeft n m).length
/-- the best row of towns for the hooks not yet hung -/
def zR (n : Nat) (Y O : Nat → Nat) (m : Nat) : List Nat := zMin (zCost Y O (zH n m)) (zPerms (zLeft n m).length (zLeft n m))
def zV (n : Nat) (Y O : Nat → Nat) (m : Nat) : Nat := zCost Y O (zH n m) (zR n Y O m)
def zW (n : Nat) (Y O : Nat → Nat) (m t : Nat) : Nat := O t * zLess (Y (zH n m)) + zV n Y O (m ||| 2 ^ t)
theorem zPerms_ne {k : Nat} {rem : List Nat} (h : rem.length = k) : zPerms k rem ≠ [] := by
  intro q
  have h1 := zPerms_len k rem h
  have h2 := zFac_pos k
  rw [q] at h1
  simp at h1
  omega
theorem zR_mem {n : Nat} {Y O : Nat → Nat} {m : Nat} : zR n Y O m ∈ zPerms (zLeft n m).length (zLeft n m) := zMin_mem _ _ (zPerms_ne rfl)
theorem zR_perm {n : Nat} {Y O : Nat → Nat} {m : Nat} : (zR n Y O m).Perm (zLeft n m) := (zPerms_perm _ _ _ rfl).mp zR_mem
theorem zLeft_mem {n m t : Nat} : t ∈ zLeft n m ↔ t < n ∧ m.testBit t = false := by
  unfold zLeft
  rw [List.mem_filter, List.mem_range]
  simp
theorem zR_step {n : Nat} {Y O : Nat → Nat} {m : Nat} (h : zLeft n m ≠ []) : zR n Y O m = zPick (zW n Y O m) (zLeft n m) :: zR n Y O (m ||| 2 ^ zPick (zW n Y O m) (zLeft n m)) := by
  obtain ⟨k, hk⟩ : ∃ k, (zLeft n m).length = k + 1 := by
    cases hq : zLeft n m with
    | nil => exact absurd hq h
    | cons a l => exact ⟨l.length, rfl⟩
  have hle := zLeft_len n m
  have hsub : ∀ t, t ∈ zLeft n m → (zLeft n (m ||| 2 ^ t)).length = k ∧ zLeft n (m ||| 2 ^ t) = (zLeft n m).erase t ∧ zH n (m ||| 2 ^ t) = zH n m + 1 := by
    intro t ht
    have h1 : (zLeft n (m ||| 2 ^ t)).length = k := by rw [← zLeft_erase, List.length_erase_of_mem ht]; omega
    refine ⟨h1, zLeft_erase.symm, ?_⟩
    unfold zH
    omega
  have F := zMin_flat (f := zCost Y O (zH n m)) (g := zCost Y O (zH n m + 1)) (c := fun t => O t * zLess (Y (zH n m))) (L := fun t => zPerms k ((zLeft n m).erase t)) (fun t l => rfl) (zLeft n m) h (fun t ht => zPerms_ne (by rw [List.length_erase_of_mem ht]; omega))
  have ew : zPick (fun t => zCost Y O (zH n m) (t :: zMin (zCost Y O (zH n m + 1)) (zPerms k ((zLeft n m).erase t)))) (zLeft n m) = zPick (zW n Y O m) (zLeft n m) := by
    apply zPick_congr
    intro t ht
    obtain ⟨s1, s2, s3⟩ := hsub t ht
    show O t * zLess (Y (zH n m)) + zCost Y O (zH n m + 1) (zMin (zCost Y O (zH n m + 1)) (zPerms k ((zLeft n m).erase t))) = O t * zLess (Y (zH n m)) + zCost Y O (zH n (m ||| 2 ^ t)) (zMin (zCost Y O (zH n (m ||| 2 ^ t))) (zPerms (zLeft n (m ||| 2 ^ t)).length (zLeft n (m ||| 2 ^ t))))
    rw [s1, s2, s3]
  have hp := zPick_mem (zW n Y O m) (zLeft n m) h
  rw [ew] at F
  obtain ⟨s1, s2, s3⟩ := hsub _ hp
  show zMin (zCost Y O (zH n m)) (zPerms (zLeft n m).length (zLeft n m)) = _ :: zMin (zCost Y O (zH n _)) (zPerms (zLeft n _).length (zLeft n _))
  rw [s1, s2, s3, ← F, hk]
  rfl
theorem zV_step {n : Nat} {Y O : Nat → Nat} {m : Nat} (h : zLeft n m ≠ []) : zV n Y O m = zW n Y O m (zPick (zW n Y O m) (zLeft n m)) := by
  have hp := zPick_mem (zW n Y O m) (zLeft n m) h
  have hm := zLeft_mem.mp hp
  have hl := zLeft_len_or hm.1 hm.2
  have hle := zLeft_len n m
  unfold zV
  rw [zR_step h]
  show O _ * zLess (Y (zH n m)) + zCost Y O (zH n m + 1) _ = O _ * zLess (Y (zH n m)) + zCost Y O (zH n _) _
  rw [show zH n (m ||| 2 ^ zPick (zW n Y O m) (zLeft n m)) = zH n m + 1 by unfold zH; omega]
theorem zV_lt {n : Nat} {Y R O : Nat → Nat} (hF : zInvF n Y R O) (m : Nat) : zV n Y O m < 20000 := by
  have hle := zLeft_len n m
  have hl : (zR n Y O m).length = (zLeft n m).length := zR_perm.length_eq
  have := zCost_le (n := n) (Y := Y) (O := O) (fun h hh => by have := (hF.2 h hh).1.2; omega) (fun h hh => (hF.2 h hh).2.2) (zR n Y O m) (zH n m) (fun t ht => (zLeft_mem.mp (zR_perm.subset ht)).1) (by unfold zH; omega)
  have hn := hF.1
  unfold zV
  omega
theorem zW_lt {n : Nat} {Y R O : Nat → Nat} (hF : zInvF n Y R O) {m t : Nat} (ht : t < n) (hb : m.testBit t = false) : zW n Y O m t < 100000 := by
  have h1 := zV_lt hF (m ||| 2 ^ t)
  have hl := zLeft_len_or ht hb
  have hle := zLeft_len n m
  have h2 := (hF.2 t ht).2.2
  have h3 := zLess_le (Y (zH n m)) (by have := (hF.2 (zH n m) (by unfold zH; omega)).1.2; omega)
  have h4 : O t * zLess (Y (zH n m)) ≤ 9 * 190 := Nat.mul_le_mul h2 h3
  unfold zW
  omega
-- tables
theorem z_bitcnt0 : ∀ n, n < 7 → ∀ m, m < 2 ^ n → fJ6_bitCount_0f7a4 (nI m) gw_z0 = nI (zH n m) := by decide +kernel
theorem z_bitcnt (c : gw_S) {n m : Nat} (hn : n ≤ 6) (hm : m < 2 ^ n) : fJ6_bitCount_0f7a4 (nI m) c = nI (zH n m) := (show fJ6_bitCount_0f7a4 (nI m) c = fJ6_bitCount_0f7a4 (nI m) gw_z0 from rfl).trans (z_bitcnt0 n (by omega) m hm)
theorem z_notall0 : ∀ n, n < 7 → ∀ m, m < 2 ^ n → m + 1 ≠ 2 ^ n → zLeft n m ≠ [] := by decide +kernel
theorem z_all0 : ∀ n, n < 7 → zLeft n (2 ^ n - 1) = [] := by decide +kernel
theorem z_shl0 : ∀ n, n < 7 → ((1 : Int32) <<< (nI n &&& 31)) - 1 = nI (2 ^ n - 1) := by decide +kernel
theorem z_lt64 {n m : Nat} (hn : n ≤ 6) (hm : m < 2 ^ n) : m < 64 := Nat.lt_of_lt_of_le hm (Nat.pow_le_pow_right (by omega) hn : 2 ^ n ≤ 2 ^ 6)
theorem z_orlt {n m t : Nat} (hm : m < 2 ^ n) (ht : t < n) : m ||| 2 ^ t < 2 ^ n := Nat.or_lt_two_pow hm (Nat.pow_lt_pow_right (by omega) ht)
theorem z_orgt {m t : Nat} (hb : m.testBit t = false) : m < m ||| 2 ^ t := by
  refine Nat.lt_of_le_of_ne Nat.left_le_or (fun q => ?_)
  have h1 : (m ||| 2 ^ t).testBit t = true := by rw [Nat.testBit_or, Nat.testBit_two_pow]; simp
  rw [← q, hb] at h1
  exact Bool.false_ne_true h1
-- loops
def rcLess (c : gw_S) (n : Nat) (Y : Nat → Nat) : Prop := ∀ h, h < n → rdI c 19 h = nI (zLess (Y h))
theorem pC_withTown {c : gw_S} {n : Nat} {Y R O : Nat → Nat} (hF : zInvF n Y R O) (hp : rcPlan c n Y R O) (h19 : rcLess c n Y) {m s : Nat} (hm : m < 2 ^ n) (hs : s < n) (hb : m.testBit s = false) (h20 : rdI c 20 (m ||| 2 ^ s) = nI (zV n Y O (m ||| 2 ^ s))) : fX0_withTown (nI m) (nI s) c = some (nI (zW n Y O m s)) := by
  have hn : n ≤ 6 := by have := hF.1; omega
  have hl := zLeft_len_or hs hb
  have hle := zLeft_len n m
  have hh : zH n m < n := by unfold zH; omega
  have ho := z_lt64 hn (z_orlt hm hs)
  unfold fX0_withTown
  simp only [zNm]
  rw [z_bitcnt c hn hm, z_bitor m (z_lt64 hn hm) s (by omega), hp.1, if_neg (show ¬ nI n ≤ nI (zH n m) from fun q => by have := (z_le (a := n) (b := zH n m) (by omega) (by omega)).mp q; omega), if_pos (show nI (m ||| 2 ^ s) < (64 : Int32) from (z_lt (a := m ||| 2 ^ s) (b := 64) (by omega) (by omega)).mpr ho)]
  have eo : fX2_oftenOf (nI s) c = some (nI (O s)) := pC_often hp hn hs
  rw [eo, Option.bind_some, z_ix (show zH n m < 2147483648 by omega), decide_eq_true (show zH n m < 6 by omega), if_pos rfl, z_ix (show m ||| 2 ^ s < 2147483648 by omega), decide_eq_true ho, if_pos rfl, z_cl (show zH n m < 2147483648 by omega), z_cl (show m ||| 2 ^ s < 2147483648 by omega), h19 _ hh, h20, z_mul, z_add]
  rfl
theorem pC_best_L {c : gw_S} {n : Nat} {Y R O : Nat → Nat} (hF : zInvF n Y R O) (hp : rcPlan c n Y R O) (h19 : rcLess c n Y) {m : Nat} (hm : m < 2 ^ n) (h20 : ∀ m', m < m' → m' < 2 ^ n → rdI c 20 m' = nI (zV n Y O m')) (hne : zLeft n m ≠ []) (Kx : Int32 → Int32 → Int32 → Option Int32) : ∀ k f s v3 v4, s + k = n → k < f → (((List.range s).filter (fun t => !m.testBit t) = [] ∧ v3 = -1) ∨ ((List.range s).filter (fun t => !m.testBit t) ≠ [] ∧ v3 = nI (zPick (zW n Y O m) ((List.range s).filter (fun t => !m.testBit t))) ∧ v4 = nI (zW n Y O m (zPick (zW n Y O m) ((List.range s).filter (fun t => !m.testBit t)))))) → ∃ y, fX0_bestTown_L8 Kx (nI m) c f v3 v4 (nI s) = Kx (nI (zPick (zW n Y O m) (zLeft n m))) y (nI n) := by
  have hn : n ≤ 6 := by have := hF.1; omega
  have h64 := z_lt64 hn hm
  intro k
  induction k with
  | zero =>
    intro f s v3 v4 hs hf hi
    obtain ⟨f, rfl⟩ : ∃ g, f = g + 1 := ⟨f - 1, by omega⟩
    have : s = n := by omega
    subst this
    rcases hi with ⟨hi, -⟩ | ⟨-, hi, hi2⟩
    · exact absurd hi hne
    · refine ⟨v4, ?_⟩
      rw [fX0_bestTown_L8, hp.1, if_pos ((z_le (a := s) (b := s) (by omega) (by omega)).mpr (Nat.le_refl _)), hi]
      rfl
  | succ k ih =>
    intro f s v3 v4 hs hf hi
    obtain ⟨f, rfl⟩ : ∃ g, f = g + 1 := ⟨f - 1, by omega⟩
    rw [fX0_bestTown_L8, hp.1, if_neg (show ¬ nI n ≤ nI s from fun q => by have := (z_le (a := n) (b := s) (by omega) (by omega)).mp q; omega), z_bit m h64 s (by omega)]
    unfold fX0_bestTown_J48 fX0_bestTown_J55
    simp only [zNm]
    rw [show nI s + 1 = nI (s + 1) from z_add s 1]
    have hr : (List.range (s + 1)).filter (fun t => !m.testBit t) = (List.range s).filter (fun t => !m.testBit t) ++ (if m.testBit s then [] else [s]) := by
      rw [List.range_succ, List.filter_append, List.filter_cons]
      cases m.testBit s <;> rfl
    generalize hd : (List.range s).filter (fun t => !m.testBit t) = dn at hi hr
    cases hb : m.testBit s with
    | true =>
      rw [if_pos rfl, if_neg (show ¬ nI 1 = (0 : Int32) by decide)]
      rw [hb, if_pos rfl, List.append_nil] at hr
      refine ih f (s + 1) v3 v4 (by omega) (by omega) ?_
      rw [hr]
      exact hi
    | false =>
      rw [if_neg (show ¬ false = true from Bool.false_ne_true), if_pos (show nI 0 = (0 : Int32) from rfl), pC_withTown hF hp h19 hm (by omega) hb (h20 _ (z_orgt hb) (z_orlt hm (by omega))), Option.bind_some]
      rw [hb, if_neg Bool.false_ne_true] at hr
      rcases hi with ⟨hi, h3⟩ | ⟨hi, h3, h4⟩
      · rw [if_pos h3]
        refine ih f (s + 1) _ _ (by omega) (by omega) (Or.inr ?_)
        rw [hr, hi]
        exact ⟨by simp, rfl, rfl⟩
      · have hmem := zPick_mem (zW n Y O m) dn hi
        rw [← hd] at hmem
        have hmem2 := List.mem_filter.mp hmem
        rw [hd] at hmem2
        have hlt := List.mem_range.mp hmem2.1
        have q1 := zW_lt hF (show zPick (zW n Y O m) dn < n by omega) (by simpa using hmem2.2)
        have q2 := zW_lt hF (show s < n by omega) hb
        rw [h3, if_neg (z_nm1 (by omega)), h4]
        by_cases hle : zW n Y O m (zPick (zW n Y O m) dn) ≤ zW n Y O m s
        · rw [if_pos ((z_le (by omega) (by omega)).mpr hle)]
          refine ih f (s + 1) _ _ (by omega) (by omega) (Or.inr ?_)
          rw [hr, zPick_snoc _ _ _ hi, if_neg (by omega)]
          exact ⟨by simp, rfl, rfl⟩
        · rw [if_neg (fun q => hle ((z_le (by omega) (by omega)).mp q))]
          refine ih f (s + 1) _ _ (by omega) (by omega) (Or.inr ?_)
          rw [hr, zPick_snoc _ _ _ hi, if_pos (by omega)]
          exact ⟨by simp, rfl, rfl⟩
theorem pC_best {c : gw_S} {n : Nat} {Y R O : Nat → Nat} (hF : zInvF n Y R O) (hp : rcPlan c n Y R O) (h19 : rcLess c n Y) {m : Nat} (hm : m < 2 ^ n) (h20 : ∀ m', m < m' → m' < 2 ^ n → rdI c 20 m' = nI (zV n Y O m')) (hne : zLeft n m ≠ []) : fX0_bestTown (nI m) c = some (nI (zPick (zW n Y O m) (zLeft n m))) := by
  have hn : n ≤ 6 := by have := hF.1; omega
  have hp2 := (zLeft_mem.mp (zPick_mem (zW n Y O m) (zLeft n m) hne)).1
  obtain ⟨y, hy⟩ := pC_best_L hF hp h19 hm h20 hne (fun v3_x8 v4_x8 v5_x8 => if v3_x8 = (-1) then (some 0) else (some v3_x8)) n 2000 0 (-1) 0 (by omega) (by omega) (Or.inl ⟨rfl, rfl⟩)
  unfold fX0_bestTown
  rw [← zl0] at hy
  rw [hy, if_neg (z_nm1 (by omega))]
theorem pC_seek_L2 {n : Nat} {Y R O : Nat → Nat} (hF : zInvF n Y R O) (Kx : Int32 → gw_S → Option gw_S) : ∀ k f h c, h + k = n → k < f → rcPlan c n Y R O → ∃ d, agI c d 19 20 ∧ (∀ i, i < h → rdI d 19 i = rdI c 19 i) ∧ (∀ i, h ≤ i → i < n → rdI d 19 i = nI (zLess (Y i))) ∧ fX0_seek_L2 Kx f (nI h) c = Kx (nI n) d := by
  have hn : n ≤ 6 := by have := hF.1; omega
  intro k
  induction k with
  | zero =>
    intro f h c hs hf hp
    obtain ⟨f, rfl⟩ : ∃ g, f = g + 1 := ⟨f - 1, by omega⟩
    have : h = n := by omega
    subst this
    exact ⟨c, agI.refl c _ _, fun _ _ => rfl, fun i _ _ => by omega, by rw [fX0_seek_L2, hp.1, if_pos ((z_le (a := h) (b := h) (by omega) (by omega)).mpr (Nat.le_refl _))]⟩
  | succ k ih =>
    intro f h c hs hf hp
    obtain ⟨f, rfl⟩ : ∃ g, f = g + 1 := ⟨f - 1, by omega⟩
    have hy := (hF.2 h (by omega)).1.2
    have e1 : (if fX7_carryTenths (nI (Y h)) c < nI (zCo 0 (Y h) false) then fX7_carryTenths (nI (Y h)) c else nI (zCo 0 (Y h) false)) = nI (zLess (Y h)) := by
      have hco := zCo_lt 0 (Y h) false (by omega)
      rw [pC_carryT, zLess_tab (Y h) (by omega)]
      by_cases q : 10 * (2 * Y h + 3) < zCo 0 (Y h) false
      · rw [if_pos ((z_lt (by omega) (by omega)).mpr q), show (zCo 0 (Y h) false).min (10 * (2 * Y h + 3)) = 10 * (2 * Y h + 3) from Nat.min_eq_right (by omega)]
      · rw [if_neg (fun w => q ((z_lt (by omega) (by omega)).mp w)), show (zCo 0 (Y h) false).min (10 * (2 * Y h + 3)) = zCo 0 (Y h) false from Nat.min_eq_left (by omega)]
    have ec := pC_cost c (k := 0) (y := Y h) false (by omega) (by omega)
    rw [← zl0, zb_f] at ec
    obtain ⟨d, d1, d2, d3, d4⟩ := ih f (h + 1) (wrI c 19 h (nI (zLess (Y h)))) (by omega) (by omega) (hp.fr (fun i j _ _ => rd_nk (by omega)))
    refine ⟨d, (agI.wr c 19 h _ (by omega) (by omega)).trans d1, fun i hi => by rw [d2 i (by omega), rd_nj (by omega)], fun i h1 h2 => ?_, ?_⟩
    · by_cases q : i = h
      · subst q
        rw [d2 i (by omega), rd_eq]
      · exact d3 i (by omega) h2
    · rw [fX0_seek_L2, hp.1, if_neg (show ¬ nI n ≤ nI h from fun q => by have := (z_le (a := n) (b := h) (by omega) (by omega)).mp q; omega)]
      simp only [zNm]
      rw [z_ix (show h < 2147483648 by omega), decide_eq_true (show h < 6 by omega), if_pos rfl, z_cl (show h < 2147483648 by omega), (hp.2 h (by omega)).1, ec, Option.bind_some, if_pos rfl, e1, show nI h + 1 = nI (h + 1) from z_add h 1]
      exact d4
theorem pC_seek_L62 {n : Nat} {Y R O : Nat → Nat} (hF : zInvF n Y R O) (Kx : Int32 → gw_S → Option gw_S) : ∀ j f c, j < f → j < 2 ^ n → rcPlan c n Y R O → rcLess c n Y → (∀ m', j ≤ m' → m' < 2 ^ n → rdI c 20 m' = nI (zV n Y O m')) → ∃ d, agI c d 20 21 ∧ (∀ m', m' < 2 ^ n → rdI d 20 m' = nI (zV n Y O m')) ∧ fX0_seek_L62 Kx f (nI j - 1) c = Kx (-1) d := by
  have hn : n ≤ 6 := by have := hF.1; omega
  intro j
  induction j with
  | zero =>
    intro f c hf hj hp h19 h20
    obtain ⟨f, rfl⟩ : ∃ g, f = g + 1 := ⟨f - 1, by omega⟩
    refine ⟨c, agI.refl c _ _, fun m' h => h20 m' (Nat.zero_le _) h, ?_⟩
    rw [fX0_seek_L62, if_pos (show nI 0 - 1 < (0 : Int32) by decide)]
    rfl
  | succ j ih =>
    intro f c hf hj hp h19 h20
    obtain ⟨f, rfl⟩ : ∃ g, f = g + 1 := ⟨f - 1, by omega⟩
    have h64 := z_lt64 hn hj
    have hne := z_notall0 n (by omega) j (by omega) (by omega)
    have hpm := zLeft_mem.mp (zPick_mem (zW n Y O j) (zLeft n j) hne)
    obtain ⟨d, d1, d2, d3⟩ := ih f (wrI c 20 j (nI (zV n Y O j))) (by omega) (by omega) (hp.fr (fun i x _ _ => rd_nk (by omega))) (fun i hi => by rw [rd_nk (by omega)]; exact h19 i hi) (fun m' h1 h2 => by
      by_cases q : m' = j
      · rw [q, rd_eq]
      · rw [rd_nj q]; exact h20 m' (by omega) h2)
    refine ⟨d, (agI.wr c 20 j _ (by omega) (by omega)).trans d1, d2, ?_⟩
    rw [fX0_seek_L62, show nI (j + 1) - 1 = nI j from z_sub (a := j + 1) (b := 1) (by omega), if_neg (z_neg0 (by omega)), pC_best hF hp h19 (show j < 2 ^ n by omega) (fun m' h1 h2 => h20 m' (by omega) h2) hne, Option.bind_some, pC_withTown hF hp h19 (show j < 2 ^ n by omega) hpm.1 hpm.2 (h20 _ (z_orgt hpm.2) (z_orlt (by omega) hpm.1)), Option.bind_some, ← zV_step hne, z_ix (show j < 2147483648 by omega), decide_eq_true (show j < 64 by omega), if_pos rfl, z_cl (show j < 2147483648 by omega)]
    simp only [zNm]
    rw [show nI j + (-1) = nI j - 1 from (Int32.sub_eq_add_neg _ _).symm]
    exact d3
theorem pC_seek_L105 {n : Nat} {Y R O : Nat → Nat} (hF : zInvF n Y R O) (Kx : Int32 → Int32 → gw_S → Option gw_S) : ∀ k f h m c, h + k = n → k < f → (zLeft n m).length = k → m < 2 ^ n → rcPlan c n Y R O → rcLess c n Y → (∀ m', m' < 2 ^ n → rdI c 20 m' = nI (zV n Y O m')) → ∃ d y, agI c d 18 19 ∧ (∀ i, i < h → rdI d 18 i = rdI c 18 i) ∧ (∀ i, i < k → rdI d 18 (h + i) = nI ((zR n Y O m).getD i 0)) ∧ fX0_seek_L105 Kx f (nI m) (nI h) c = Kx y (nI n) d := by
  have hn : n ≤ 6 := by have := hF.1; omega
  intro k
  induction k with
  | zero =>
    intro f h m c hs hf hl hm hp h19 h20
    obtain ⟨f, rfl⟩ : ∃ g, f = g + 1 := ⟨f - 1, by omega⟩
    have : h = n := by omega
    subst this
    exact ⟨c, nI m, agI.refl c _ _, fun _ _ => rfl, fun i _ => by omega, by rw [fX0_seek_L105, hp.1, if_pos ((z_le (a := h) (b := h) (by omega) (by omega)).mpr (Nat.le_refl _))]⟩
  | succ k ih =>
    intro f h m c hs hf hl hm hp h19 h20
    obtain ⟨f, rfl⟩ : ∃ g, f = g + 1 := ⟨f - 1, by omega⟩
    have hne : zLeft n m ≠ [] := by intro q; rw [q] at hl; simp at hl
    have hpm := zLeft_mem.mp (zPick_mem (zW n Y O m) (zLeft n m) hne)
    generalize ht : zPick (zW n Y O m) (zLeft n m) = t at hpm
    have hlo := zLeft_len_or hpm.1 hpm.2
    obtain ⟨d, y, d1, d2, d3, d4⟩ := ih f (h + 1) (m ||| 2 ^ t) (wrI c 18 h (nI t)) (by omega) (by omega) (by omega) (z_orlt hm hpm.1) (hp.fr (fun i x _ _ => rd_nk (by omega))) (fun i hi => by rw [rd_nk (by omega)]; exact h19 i hi) (fun m' h1 => by rw [rd_nk (by omega)]; exact h20 m' h1)
    refine ⟨d, y, (agI.wr c 18 h _ (by omega) (by omega)).trans d1, fun i hi => by rw [d2 i (by omega), rd_nj (by omega)], fun i hi => ?_, ?_⟩
    · rw [zR_step hne, ht]
      cases i with
      | zero => rw [Nat.add_zero, d2 h (by omega), rd_eq]; rfl
      | succ i =>
        rw [show h + (i + 1) = h + 1 + i by omega, d3 i (by omega)]
        rfl
    · rw [fX0_seek_L105, hp.1, if_neg (show ¬ nI n ≤ nI h from fun q => by have := (z_le (a := n) (b := h) (by omega) (by omega)).mp q; omega), pC_best hF hp h19 hm (fun m' h1 h2 => h20 m' h2) hne, ht, Option.bind_some]
      simp only [zNm]
      rw [z_ix (show h < 2147483648 by omega), decide_eq_true (show h < 6 by omega), if_pos rfl, if_pos rfl, z_cl (show h < 2147483648 by omega), rd_eq, z_bitor m (z_lt64 hn hm) t (by omega), show nI h + 1 = nI (h + 1) from z_add h 1]
      exact d4
theorem pC_seekBest {c : gw_S} {n : Nat} {Y R O : Nat → Nat} (hF : zInvF n Y R O) (hp : rcPlan c n Y R O) (h0 : 0 < n) : ∃ d, fX0_seek c = some d ∧ agI c d 17 21 ∧ rcBest d n Y O := by
  have hn : n ≤ 6 := by have := hF.1; omega
  have hpw : 0 < 2 ^ n := Nat.pow_pos (by omega)
  have hpw2 : 2 ^ n ≤ 2 ^ 6 := Nat.pow_le_pow_right (by omega) hn
  have hall := z_all0 n (by omega)
  unfold fX0_seek
  obtain ⟨d1, a1, -, a3, a4⟩ := pC_seek_L2 hF (fun v2_x2 t_x2 => gw_nm (((1 <<< ((rdI t_x2 3 3) &&& 31)) - 1)) (fun v2_50 => if gw_ix v2_50 64 = true then (gw_nm (wrI t_x2 20 (Int32.toNatClampNeg v2_50) 0) (fun t_57 => gw_nm ((v2_50 - 1)) (fun v3_61 => fX0_seek_L62 (fun v3_x62 t_x62 => if gw_ix 0 64 = true then (gw_nm (wrI t_x62 17 3 (rdI t_x62 20 (Int32.toNatClampNeg 0))) (fun t_97 => fX0_seek_L105 (fun v3_x105 v4_x105 t_x105 => some t_x105) 2000 0 0 t_97)) else none) 2000 v3_61 t_57))) else none)) n 2000 0 c (by omega) (by omega) hp
  rw [← zl0] at a4
  rw [a4]
  simp only [zNm]
  have hp1 : rcPlan d1 n Y R O := hp.fr (fun i j _ _ => a1.2 _ _ (by omega))
  rw [hp1.1, z_shl0 n (by omega), z_ix (show 2 ^ n - 1 < 2147483648 by omega), decide_eq_true (show 2 ^ n - 1 < 64 by omega), if_pos rfl, z_cl (show 2 ^ n - 1 < 2147483648 by omega)]
  obtain ⟨d2, b1, b2, b3⟩ := pC_seek_L62 hF (fun v3_x62 t_x62 => if gw_ix 0 64 = true then (fX0_seek_L105 (fun v3_x105 v4_x105 t_x105 => some t_x105) 2000 0 0 (wrI t_x62 17 3 (rdI t_x62 20 (Int32.toNatClampNeg 0)))) else none) (2 ^ n - 1) 2000 (wrI d1 20 (2 ^ n - 1) 0) (by omega) (by omega) (hp1.fr (fun i j _ _ => rd_nk (by omega))) (fun i hi => by rw [rd_nk (by omega)]; exact a3 i (by omega) hi) (fun m' h1 h2 => by
    have : m' = 2 ^ n - 1 := by omega
    subst this
    have e0 : zV n Y O (2 ^ n - 1) = 0 := by unfold zV zR; rw [hall]; rfl
    rw [rd_eq, e0]; rfl)
  rw [b3, if_pos (show gw_ix 0 64 = true by decide), show Int32.toNatClampNeg 0 = 0 from rfl, b2 0 hpw]
  have hp2 : rcPlan (wrI d2 17 3 (nI (zV n Y O 0))) n Y R O := hp1.fr (fun i j _ _ => by rw [rd_nk (by omega), b1.2 _ _ (by omega), rd_nk (by omega)])
  obtain ⟨d3, y, c1, c2, c3, c4⟩ := pC_seek_L105 hF (fun v3_x105 v4_x105 t_x105 => some t_x105) n 2000 0 0 (wrI d2 17 3 (nI (zV n Y O 0))) (by omega) (by omega) (by rw [zLeft_0, List.length_range]) hpw hp2 (fun i hi => by rw [rd_nk (by omega), b1.2 _ _ (by omega), rd_nk (by omega)]; exact a3 i (by omega) hi) (fun m' h1 => by rw [rd_nk (by omega)]; exact b2 m' h1)
  have eR : zR n Y O 0 = zBest n Y O := by unfold zR zBest zAll zH; rw [zLeft_0, List.length_range, Nat.sub_self]
  have eV : zV n Y O 0 = zCost Y O 0 (zBest n Y O) := by
    unfold zV
    rw [eR]
    unfold zH
    rw [zLeft_0, List.length_range, Nat.sub_self]
  rw [eR] at c3
  rw [← zl0] at c4
  refine ⟨d3, c4, ?_, fun _ => ⟨?_, fun h hh => ?_⟩⟩
  · have t1 : agI d1 (wrI d1 20 (2 ^ n - 1) 0) 17 21 := agI.wr d1 20 (2 ^ n - 1) 0 (by omega) (by omega)
    have t2 : agI d2 (wrI d2 17 3 (nI (zV n Y O 0))) 17 21 := agI.wr d2 17 3 (nI (zV n Y O 0)) (by omega) (by omega)
    exact (a1.mono (by omega) (by omega)).trans (t1.trans ((b1.mono (by omega) (by omega)).trans (t2.trans (c1.mono (by omega) (by omega)))))
  · rw [c1.2 _ _ (by omega), rd_eq, eV]
  · have := c3 h hh
    rw [Nat.zero_add] at this
    exact this
