/-! rows of towns: each is the towns, otherwise ordered. -/
theorem z_perm {α : Type} [BEq α] [LawfulBEq α] : ∀ l r : List α, l.Nodup → (∀ x, x ∈ l → x ∈ r) → l.length = r.length → l.Perm r := by
  intro l
  induction l with
  | nil =>
    intro r _ _ hl
    cases r with
    | nil => exact List.Perm.nil
    | cons _ _ => simp at hl
  | cons x l ih =>
    intro r nd hs hl
    have hx : x ∈ r := hs x List.mem_cons_self
    have hnd := List.nodup_cons.mp nd
    refine List.Perm.trans (List.Perm.cons x (ih (r.erase x) hnd.2 (fun y hy => ?_) ?_)) (List.perm_cons_erase hx).symm
    · refine (List.mem_erase_of_ne (fun q => ?_)).mpr (hs y (List.mem_cons_of_mem _ hy))
      subst q
      exact hnd.1 hy
    · rw [List.length_erase_of_mem hx, ← hl, List.length_cons]; rfl
theorem zPerms_perm : ∀ k rem l, rem.length = k → (l ∈ zPerms k rem ↔ l.Perm rem) := by
  intro k
  induction k with
  | zero =>
    intro rem l h
    have : rem = [] := List.length_eq_zero_iff.mp h
    subst this
    show l ∈ [[]] ↔ _
    simp
  | succ k ih =>
    intro rem l h
    show l ∈ rem.flatMap (fun t => (zPerms k (rem.erase t)).map (fun l => t :: l)) ↔ _
    rw [List.mem_flatMap]
    constructor
    · rintro ⟨t, ht, hl⟩
      obtain ⟨q, hq, rfl⟩ := List.mem_map.mp hl
      have := (ih (rem.erase t) q (by rw [List.length_erase_of_mem ht]; omega)).mp hq
      exact (List.Perm.cons t this).trans (List.perm_cons_erase ht).symm
    · intro hp
      cases l with
      | nil => have := hp.length_eq; simp at this; omega
      | cons t q =>
        have ht : t ∈ rem := hp.subset List.mem_cons_self
        refine ⟨t, ht, List.mem_map.mpr ⟨q, ?_, rfl⟩⟩
        rw [ih (rem.erase t) q (by rw [List.length_erase_of_mem ht]; omega)]
        exact (hp.trans (List.perm_cons_erase ht)).cons_inv
theorem zAll_perm {n : Nat} {l : List Nat} : l ∈ zAll n ↔ l.Perm (List.range n) := zPerms_perm n (List.range n) l List.length_range
theorem zAll_len {n : Nat} {l : List Nat} (h : l ∈ zAll n) : l.length = n := by rw [(zAll_perm.mp h).length_eq, List.length_range]
theorem zAll_nd {n : Nat} {l : List Nat} (h : l ∈ zAll n) : l.Nodup := (zAll_perm.mp h).nodup_iff.mpr List.nodup_range
theorem zAll_lt {n : Nat} {l : List Nat} (h : l ∈ zAll n) {t : Nat} (ht : t ∈ l) : t < n := List.mem_range.mp ((zAll_perm.mp h).subset ht)
theorem zAll_mem {n : Nat} {l : List Nat} (h : l ∈ zAll n) {t : Nat} (ht : t < n) : t ∈ l := (zAll_perm.mp h).symm.subset (List.mem_range.mpr ht)
theorem zAll_count (n : Nat) : (zAll n).length = zFac n := zPerms_len n _ List.length_range
theorem z_getD {l : List Nat} {i : Nat} (h : i < l.length) : l.getD i 0 = l[i] := by rw [List.getD_eq_getElem?_getD, List.getElem?_eq_getElem h, Option.getD_some]
theorem zAll_getlt {n : Nat} {l : List Nat} (h : l ∈ zAll n) {i : Nat} (hi : i < n) : l.getD i 0 < n := by
  have := zAll_len h
  rw [z_getD (by omega)]
  exact zAll_lt h (List.getElem_mem _)
theorem zPos_lt {n : Nat} {l : List Nat} (h : l ∈ zAll n) {t : Nat} (ht : t < n) : zPos l t < n := by
  unfold zPos
  have := List.idxOf_lt_length_of_mem (zAll_mem h ht)
  rw [zAll_len h] at this
  exact this
theorem zPos_get {n : Nat} {l : List Nat} (h : l ∈ zAll n) {t : Nat} (ht : t < n) : l.getD (zPos l t) 0 = t := by
  unfold zPos
  have := List.idxOf_lt_length_of_mem (zAll_mem h ht)
  rw [z_getD this]
  exact List.getElem_idxOf this
theorem zPos_of {n : Nat} {l : List Nat} (h : l ∈ zAll n) {i : Nat} (hi : i < n) : zPos l (l.getD i 0) = i := by
  have hl := zAll_len h
  unfold zPos
  rw [z_getD (by omega)]
  exact (zAll_nd h).idxOf_getElem _ _
/-- the first least of a row that grows at its end -/
theorem zMin_cons (f : List Nat → Nat) (p q : List Nat) (ps : List (List Nat)) : zMin f (p :: q :: ps) = if f (zMin f (q :: ps)) < f p then zMin f (q :: ps) else p := rfl
theorem zMin_snoc (f : List Nat → Nat) (q : List Nat) : ∀ l, l ≠ [] → zMin f (l ++ [q]) = if f q < f (zMin f l) then q else zMin f l := by
  intro l
  induction l with
  | nil => intro h; exact absurd rfl h
  | cons a l ih =>
    intro _
    cases l with
    | nil => rfl
    | cons b l =>
      have := ih (by simp)
      show zMin f (a :: b :: (l ++ [q])) = _
      rw [zMin_cons, zMin_cons, show b :: (l ++ [q]) = (b :: l) ++ [q] from rfl, this]
      generalize zMin f (b :: l) = r
      by_cases h1 : f q < f r
      · rw [if_pos h1]
        by_cases h2 : f r < f a
        · rw [if_pos h2, if_pos h1, if_pos (by omega)]
        · rw [if_neg h2]
      · rw [if_neg h1]
        by_cases h2 : f r < f a
        · rw [if_pos h2, if_neg h1]
        · rw [if_neg h2, if_neg (by omega)]
theorem zMin_mem (f : List Nat → Nat) : ∀ l, l ≠ [] → zMin f l ∈ l := by
  intro l
  induction l with
  | nil => intro h; exact absurd rfl h
  | cons a l ih =>
    intro _
    cases l with
    | nil => exact List.mem_cons_self
    | cons b l =>
      rw [zMin_cons]
      have := ih (by simp)
      split
      · exact List.mem_cons_of_mem _ this
      · exact List.mem_cons_self
theorem zBest_mem {n : Nat} {Y O : Nat → Nat} : zBest n Y O ∈ zAll n := by
  unfold zBest
  apply zMin_mem
  intro q
  have h1 := zAll_count n
  have h2 := zFac_pos n
  rw [q] at h1
  simp at h1
  omega
theorem zLess_tab : ∀ y, y < 9 → zLess y = Nat.min (zCo 0 y false) (10 * (2 * y + 3)) := by decide +kernel
theorem zLess_le : ∀ y, y < 9 → zLess y ≤ 190 := by decide +kernel
theorem zCost_le {n : Nat} {Y O : Nat → Nat} (hY : ∀ h, h < n → Y h < 9) (hO : ∀ h, h < n → O h ≤ 9) : ∀ l h, (∀ t, t ∈ l → t < n) → h + l.length ≤ n → zCost Y O h l ≤ 1710 * l.length := by
  intro l
  induction l with
  | nil => intro h _ _; exact Nat.le_refl _
  | cons t l ih =>
    intro h hl hn
    rw [List.length_cons] at hn ⊢
    have h1 := ih (h + 1) (fun x hx => hl x (List.mem_cons_of_mem _ hx)) (by omega)
    have h2 := hO t (hl t List.mem_cons_self)
    have h3 := zLess_le (Y h) (hY h (by omega))
    have h4 : O t * zLess (Y h) ≤ 9 * 190 := Nat.mul_le_mul h2 h3
    show O t * zLess (Y h) + zCost Y O (h + 1) l ≤ _
    omega
theorem zCost_lt {n : Nat} {Y R O : Nat → Nat} (hF : zInvF n Y R O) {l : List Nat} (h : l ∈ zAll n) : zCost Y O 0 l < 20000 := by
  have hl := zAll_len h
  have := zCost_le (n := n) (Y := Y) (O := O) (fun h hh => by have := (hF.2 h hh).1.2; omega) (fun h hh => (hF.2 h hh).2.2) l 0 (fun t ht => zAll_lt h ht) (by omega)
  have hn := hF.1
  omega
/-- on which hook of a standing a town hangs -/
def zNow (n : Nat) (a : zS) : List Nat := (List.range n).map (zTown a)
theorem zNow_mem {n : Nat} {a : zS} (h : zInvS n a) : zNow n a ∈ zAll n := by
  rw [zAll_perm]
  unfold zNow
  refine z_perm _ _ ?_ (fun x hx => ?_) (by simp)
  · rw [List.Nodup, List.pairwise_map]
    refine List.Pairwise.imp_of_mem ?_ (List.nodup_range (n := n))
    intro x y hx hy hne e
    exact hne (h.2.1 x y (List.mem_range.mp hx) (List.mem_range.mp hy) e)
  · obtain ⟨i, hi, rfl⟩ := List.mem_map.mp hx
    exact List.mem_range.mpr (h.1 i (List.mem_range.mp hi))
theorem zNow_get {n : Nat} {a : zS} {i : Nat} (hi : i < n) : (zNow n a).getD i 0 = zTown a i := by
  unfold zNow
  rw [z_getD (by simp [hi])]
  simp
def zHookOf (n : Nat) (a : zS) (t : Nat) : Nat := zPos (zNow n a) t
theorem zHookOf_lt {n : Nat} {a : zS} (h : zInvS n a) {t : Nat} (ht : t < n) : zHookOf n a t < n := zPos_lt (zNow_mem h) ht
theorem zHookOf_town {n : Nat} {a : zS} (h : zInvS n a) {t : Nat} (ht : t < n) : zTown a (zHookOf n a t) = t := by
  rw [← zNow_get (zHookOf_lt h ht)]
  exact zPos_get (zNow_mem h) ht
/-- rings of hooks -/
def zRing (s : Nat → Nat) : Nat → Nat → Nat → Nat
  | 0, m, _ => m
  | k + 1, m, v => if m.testBit v then m else zRing s k (m ||| 2 ^ v) (s v)
def zRings (s : Nat → Nat) (n : Nat) : Nat → Nat → Nat → Nat → Nat
  | 0, _, r, _ => r
  | k + 1, h, r, m => zRings s n k (h + 1) (r + (if m.testBit h then 0 else 1)) (zRing s n m h)
def zExch (n : Nat) (l : List Nat) (a : zS) : Nat := n - zRings (fun h => zHookOf n a (l.getD h 0)) n n 0 0 0
def aHangJ (n : Nat) (Y O : Nat → Nat) (a : zS) (j : Nat) : Int32 := if j = 0 then nI (zCost Y O 0 (zBest n Y O)) else if j = 1 then nI (zExch n (zBest n Y O) a) else if j - 10 < n then nI ((zBest n Y O).getD (j - 10) 0) else -1
def aHanging (n : Nat) (Y O : Nat → Nat) (a : zS) (x : Int32) : Int32 := if zK 2 x = true ∨ (¬ x < nI 10 ∧ ¬ nI 15 < x) then (if n = 0 then -103 else aHangJ n Y O a (Int32.toNatClampNeg x)) else -102
def aHung (n : Nat) (a : zS) : Int32 := if n = 0 then -103 else nI (zWays n (zFound a)).length
def aWhere (n : Nat) (a : zS) (x : Int32) : Int32 := if zK n x = true then zBits (Int32.toNatClampNeg x) (zWays n (zFound a)) else -101
theorem zRing_lt {s : Nat → Nat} {n : Nat} (hn : n ≤ 6) (hs : ∀ h, h < n → s h < n) : ∀ k m v, m < 64 → v < n → zRing s k m v < 64 := by
  intro k
  induction k with
  | zero => intro m v hm _; exact hm
  | succ k ih =>
    intro m v hm hv
    unfold zRing
    split
    · exact hm
    · exact ih _ _ (z_or64 hm (by omega)) (hs v hv)
theorem zRings_le {s : Nat → Nat} {n : Nat} : ∀ k h r m, zRings s n k h r m ≤ r + k := by
  intro k
  induction k with
  | zero => intro h r m; exact Nat.le_refl _
  | succ k ih =>
    intro h r m
    unfold zRings
    have := ih (h + 1) (r + (if m.testBit h then 0 else 1)) (zRing s n m h)
    have h2 : (if m.testBit h = true then 0 else 1) ≤ 1 := by split <;> omega
    omega
/-- towns not yet seen: fewer, once one more is seen -/
theorem zLeft_len_or {n m t : Nat} (ht : t < n) (hb : m.testBit t = false) : (zLeft n (m ||| 2 ^ t)).length + 1 = (zLeft n m).length := by
  rw [← zLeft_erase]
  have hm : t ∈ zLeft n m := by
    unfold zLeft
    exact List.mem_filter.mpr ⟨List.mem_range.mpr ht, by simp [hb]⟩
  have := List.length_pos_of_mem hm
  rw [List.length_erase_of_mem hm]
  omega
theorem zLeft_none {n m t : Nat} (ht : t < n) (h : (zLeft n m).length = 0) : m.testBit t = true := by
  cases hb : m.testBit t with
  | true => rfl
  | false =>
    have hm : t ∈ zLeft n m := by
      unfold zLeft
      exact List.mem_filter.mpr ⟨List.mem_range.mpr ht, by simp [hb]⟩
    have := List.length_pos_of_mem hm
    omega
theorem zLeft_len (n m : Nat) : (zLeft n m).length ≤ n := by
  have := List.length_filter_le (fun t => !m.testBit t) (List.range n)
  rw [List.length_range] at this
  exact this
