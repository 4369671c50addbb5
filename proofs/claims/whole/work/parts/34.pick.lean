/-! hanging by a number: the reference's hangBy. -/
theorem z_bit : ∀ m : Nat, m < 64 → ∀ v : Nat, v < 6 → ((nI m >>> (nI v &&& 31)) &&& 1) = nI (if m.testBit v then 1 else 0) := by decide +kernel
theorem z_bitor : ∀ m : Nat, m < 64 → ∀ v : Nat, v < 6 → (nI m ||| ((1 : Int32) <<< (nI v &&& 31))) = nI (m ||| 2 ^ v) := by decide +kernel
theorem z_or64 {m v : Nat} (hm : m < 64) (hv : v < 6) : m ||| 2 ^ v < 64 := Nat.or_lt_two_pow (n := 6) hm (Nat.pow_lt_pow_right (by omega) hv)
theorem z_div {a b : Nat} (ha : a < 2147483648) (hb : b < 2147483648) (h0 : 0 < b) : nI a / nI b = nI (a / b) := by
  rw [← Int32.toInt_inj, Int32.toInt_div_of_ne_right, nI_toInt ha, nI_toInt hb, nI_toInt (Nat.lt_of_le_of_lt (Nat.div_le_self _ _) ha)]
  · exact (Int.ofNat_tdiv a b).symm
  · intro q
    have := congrArg Int32.toInt q
    rw [nI_toInt hb] at this
    have h1 : (-1 : Int32).toInt = -1 := by decide
    rw [h1] at this
    omega
def zFac : Nat → Nat
  | 0 => 1
  | k + 1 => (k + 1) * zFac k
theorem zFac_pos : ∀ k, 0 < zFac k := by
  intro k
  induction k with
  | zero => exact Nat.one_pos
  | succ k ih => exact Nat.mul_pos (Nat.succ_pos k) ih
theorem zFac_le {k : Nat} (hk : k ≤ 6) : zFac k ≤ 720 := by
  rcases (show k = 0 ∨ k = 1 ∨ k = 2 ∨ k = 3 ∨ k = 4 ∨ k = 5 ∨ k = 6 by omega) with h | h | h | h | h | h | h <;> subst h <;> decide
/-- the towns not yet hung -/
def zLeft (n m : Nat) : List Nat := (List.range n).filter (fun t => !m.testBit t)
def zNth : Nat → List Nat → Nat → List Nat
  | 0, _, _ => []
  | k + 1, rem, c => rem.getD (c / zFac k) 0 :: zNth k (rem.erase (rem.getD (c / zFac k) 0)) (c % zFac k)
theorem zPerms_len : ∀ k rem, rem.length = k → (zPerms k rem).length = zFac k := by
  intro k
  induction k with
  | zero => intro rem _; rfl
  | succ k ih =>
    intro rem h
    show (rem.flatMap (fun t => (zPerms k (rem.erase t)).map (fun l => t :: l))).length = (k + 1) * zFac k
    rw [List.length_flatMap]
    have : rem.map (fun a => ((zPerms k (rem.erase a)).map (fun l => a :: l)).length) = rem.map (fun _ => zFac k) := by
      apply List.map_congr_left
      intro t ht
      rw [List.length_map]
      exact ih _ (by rw [List.length_erase_of_mem ht]; omega)
    rw [this, List.map_const', List.sum_replicate_nat, h]
/-- blocks of the same length, laid one after another -/
theorem z_block {α β : Type} (f : α → List β) (b : Nat) (hb : 0 < b) : ∀ (l : List α), (∀ t, t ∈ l → (f t).length = b) → ∀ c, c < l.length * b → (l.flatMap f)[c]? = (l[c / b]?).bind (fun t => (f t)[c % b]?) := by
  intro l
  induction l with
  | nil => intro _ c hc; simp at hc
  | cons a l ih =>
    intro hl c hc
    have ha := hl a List.mem_cons_self
    rw [List.flatMap_cons]
    by_cases h : c < b
    · rw [List.getElem?_append_left (by omega), Nat.div_eq_of_lt h, Nat.mod_eq_of_lt h]
      rfl
    · have e1 : c / b = (c - b) / b + 1 := by rw [← Nat.add_div_right _ hb, Nat.sub_add_cancel (by omega)]
      have e2 : c % b = (c - b) % b := by rw [← Nat.add_mod_right (c - b) b, Nat.sub_add_cancel (by omega)]
      rw [List.getElem?_append_right (by omega), ha, e1, e2, List.getElem?_cons_succ]
      refine ih (fun t ht => hl t (List.mem_cons_of_mem _ ht)) (c - b) ?_
      rw [List.length_cons, Nat.succ_mul] at hc
      omega
theorem zPerms_nth : ∀ k rem c, rem.length = k → c < zFac k → (zPerms k rem)[c]? = some (zNth k rem c) := by
  intro k
  induction k with
  | zero =>
    intro rem c _ hc
    have : c = 0 := by unfold zFac at hc; omega
    subst this; rfl
  | succ k ih =>
    intro rem c h hc
    have hp := zFac_pos k
    have hc : c < (k + 1) * zFac k := hc
    have hd : c / zFac k < rem.length := by rw [h]; exact Nat.div_lt_of_lt_mul (by rw [Nat.mul_comm]; exact hc)
    show (rem.flatMap (fun t => (zPerms k (rem.erase t)).map (fun l => t :: l)))[c]? = some (rem.getD (c / zFac k) 0 :: zNth k (rem.erase (rem.getD (c / zFac k) 0)) (c % zFac k))
    rw [z_block (fun t => (zPerms k (rem.erase t)).map (fun l => t :: l)) (zFac k) hp rem (fun t ht => by rw [List.length_map]; exact zPerms_len k _ (by rw [List.length_erase_of_mem ht]; omega)) c (by rw [h]; exact hc)]
    rw [List.getD_eq_getElem?_getD, List.getElem?_eq_getElem hd]
    rw [Option.bind_some, Option.getD_some, List.getElem?_map, ih _ _ (by rw [List.length_erase_of_mem (List.getElem_mem hd)]; omega) (Nat.mod_lt _ hp)]
    rfl
theorem zLeft_erase {n m t : Nat} : (zLeft n m).erase t = zLeft n (m ||| 2 ^ t) := by
  unfold zLeft
  have nd : ((List.range n).filter (fun t => !m.testBit t)).Nodup := List.Pairwise.filter _ List.nodup_range
  rw [nd.erase_eq_filter, List.filter_filter]
  apply List.filter_congr
  intro s _
  rw [Nat.testBit_or, Nat.testBit_two_pow]
  by_cases q : s = t
  · subst q; simp
  · have : ¬ t = s := fun w => q w.symm
    simp [q, this]
/-- from town s on: the c-th not yet hung -/
theorem pM_hangBy_L44 {n mk : Nat} (hn : n ≤ 6) (hm : mk < 64) (Kx : Int32 → Int32 → gw_S → Option gw_S) (v2 v3 v5 : Int32) (e : gw_S) {t : Nat} : ∀ f s c, n - s < f → ((List.range' s (n - s)).filter (fun t => !mk.testBit t))[c]? = some t → fX8_hangBy_L44 Kx v2 v3 (nI mk) v5 f (nI c) (nI s) e = Kx 0 (nI t) e := by
  intro f
  induction f with
  | zero => intro s c h; omega
  | succ f ih =>
    intro s c hf hc
    by_cases hs : n ≤ s
    · rw [show n - s = 0 by omega] at hc
      simp at hc
    · have hs6 : s < 6 := by omega
      rw [show n - s = (n - (s + 1)) + 1 by omega, List.range'_succ, List.filter_cons] at hc
      rw [fX8_hangBy_L44, z_bit mk hm s hs6]
      by_cases hb : mk.testBit s = true
      · rw [if_pos hb, if_pos (show nI 1 = (1 : Int32) from rfl)]
        unfold fX8_hangBy_J60 fX8_hangBy_J77
        rw [z_bit mk hm s hs6, if_pos hb, if_neg (show ¬ nI 1 = (0 : Int32) by decide)]
        simp only [zNm]
        rw [zl0, z_sub (by omega), Nat.sub_zero, zl1, z_add]
        rw [if_neg (by simp [hb])] at hc
        exact ih (s + 1) c (by omega) hc
      · rw [if_pos (by simp [hb])] at hc
        rw [if_neg hb, if_neg (show ¬ nI 0 = (1 : Int32) by decide)]
        cases c with
        | zero =>
          rw [List.getElem?_cons_zero] at hc
          cases hc
          rw [if_pos (by decide)]
          rfl
        | succ c =>
          have hlen := z_lt_of hc
          have hl2 : ((List.range' (s + 1) (n - (s + 1))).filter (fun t => !mk.testBit t)).length ≤ n - (s + 1) := Nat.le_trans (List.length_filter_le _ _) (by rw [List.length_range']; exact Nat.le_refl _)
          rw [List.length_cons] at hlen
          rw [List.getElem?_cons_succ] at hc
          rw [if_neg (fun q : nI (c + 1) ≤ 0 => by have := (z_le (a := c + 1) (b := 0) (by omega) (by omega)).mp q; omega)]
          unfold fX8_hangBy_J60 fX8_hangBy_J77
          rw [z_bit mk hm s hs6, if_neg hb, if_pos (show nI 0 = (0 : Int32) from rfl)]
          simp only [zNm]
          rw [zl1, z_sub (by omega), Nat.add_sub_cancel, z_add]
          exact ih (s + 1) c (by omega) hc
theorem pM_ways_L4 {n : Nat} (hn : n ≤ 6) {e : gw_S} (h1 : rdI e 0 1 = nI n) (Kx : Int32 → Int32 → Option Int32) : ∀ f k, k ≤ n → n - k < f → fX8_ways_L4 Kx e f (nI (zFac k)) (nI (k + 1)) = Kx (nI (zFac n)) (nI (n + 1)) := by
  intro f
  induction f with
  | zero => intro k _ h; omega
  | succ f ih =>
    intro k hk hf
    rw [fX8_ways_L4, h1]
    by_cases e0 : k = n
    · subst e0
      rw [if_pos ((z_lt (a := k) (b := k + 1) (by omega) (by omega)).mpr (by omega))]
    · rw [if_neg (fun q => by have := (z_lt (a := n) (b := k + 1) (by omega) (by omega)).mp q; omega)]
      simp only [zNm]
      rw [z_mul, Nat.mul_comm, zl1, z_add]
      exact ih (k + 1) (by omega) (by omega)
theorem pM_ways {n : Nat} (hn : n ≤ 6) (h0 : 0 < n) {e : gw_S} (h1 : rdI e 0 1 = nI n) : fX8_ways e = some (nI (zFac n)) := by
  unfold fX8_ways
  exact pM_ways_L4 hn h1 (fun v1_x4 v2_x4 => some v1_x4) 2000 1 (by omega) (by omega)
theorem zLeft_lt {n m t : Nat} (h : t ∈ zLeft n m) : t < n := by
  unfold zLeft at h
  exact List.mem_range.mp (List.mem_filter.mp h).1
theorem pM_hangBy_L13 {n : Nat} (hn : n ≤ 6) : ∀ k f i c mk e, i + k = n → (zLeft n mk).length = k → mk < 64 → c < zFac k → k < f → rdI e 0 1 = nI n → ∃ d, fX8_hangBy_L13 (fun v2_x13 v3_x13 v4_x13 v5_x13 t_x13 => some t_x13) f (nI c) (nI (zFac k)) (nI mk) (nI i) e = some d ∧ (d.2 = e.2 ∧ ∀ x y, ¬ (x = 4 ∧ 6 + i ≤ y) → rdI d x y = rdI e x y) ∧ ∀ j, j < k → rdI d 4 (6 + i + j) = nI ((zNth k (zLeft n mk) c).getD j 0) := by
  intro k
  induction k with
  | zero =>
    intro f i c mk e hi _ _ _ hf h1
    obtain ⟨f, rfl⟩ : ∃ g, f = g + 1 := ⟨f - 1, by omega⟩
    rw [fX8_hangBy_L13, h1]
    have : i = n := by omega
    subst this
    exact ⟨e, by rw [if_pos ((z_le (a := i) (b := i) (by omega) (by omega)).mpr (Nat.le_refl _))], ⟨rfl, fun _ _ _ => rfl⟩, fun j hj => by omega⟩
  | succ k ih =>
    intro f i c mk e hi hl hm hc hf h1
    obtain ⟨f, rfl⟩ : ∃ g, f = g + 1 := ⟨f - 1, by omega⟩
    have hp := zFac_pos k
    have hp1 := zFac_le (k := k) (by omega)
    have hp2 := zFac_le (k := k + 1) (by omega)
    have hd : c / zFac k < (zLeft n mk).length := by rw [hl]; exact Nat.div_lt_of_lt_mul (by rw [Nat.mul_comm]; exact hc)
    have hdc : c / zFac k ≤ c := Nat.div_le_self _ _
    have hcm : c / zFac k * zFac k ≤ c := Nat.div_mul_le_self _ _
    rw [fX8_hangBy_L13, h1, if_neg (fun q => by have := (z_le (a := n) (b := i) (by omega) (by omega)).mp q; omega), z_sub (show i ≤ n by omega), show n - i = k + 1 by omega, if_neg (show ¬ nI (k + 1) = 0 from fun q => by have := (z_eq (a := k + 1) (b := 0) (by omega) (by omega)).mp q; omega)]
    simp only [zNm]
    rw [z_div (show zFac (k + 1) < 2147483648 by omega) (show k + 1 < 2147483648 by omega) (by omega), show zFac (k + 1) / (k + 1) = zFac k from Nat.mul_div_cancel_left _ (by omega), if_neg (show ¬ nI (zFac k) = 0 from fun q => by have := (z_eq (a := zFac k) (b := 0) (by omega) (by omega)).mp q; omega), if_neg (show ¬ nI (zFac k) = 0 from fun q => by have := (z_eq (a := zFac k) (b := 0) (by omega) (by omega)).mp q; omega), z_div (show c < 2147483648 by omega) (show zFac k < 2147483648 by omega) hp, z_mul, z_sub hcm, ← Nat.mod_eq_sub_div_mul]
    have hget : (zLeft n mk)[c / zFac k]? = some ((zLeft n mk).getD (c / zFac k) 0) := by
      rw [List.getD_eq_getElem?_getD, List.getElem?_eq_getElem hd, Option.getD_some]
    generalize hq : (zLeft n mk).getD (c / zFac k) 0 = q at hget
    have hmem : q ∈ zLeft n mk := List.mem_of_getElem? hget
    have hqn := zLeft_lt hmem
    have hget2 : ((List.range' 0 (n - 0)).filter (fun t => !mk.testBit t))[c / zFac k]? = some q := by
      rw [Nat.sub_zero, ← List.range_eq_range']; exact hget
    have L := pM_hangBy_L44 hn hm (fun v6_x44 v7_x44 t_x44 => if gw_ix (6 + nI i) 12 = true then fX8_hangBy_L13 (fun v2_x13 v3_x13 v4_x13 v5_x13 t_x13 => some t_x13) f (nI (c % zFac k)) (nI (zFac k)) (nI mk ||| 1 <<< (v7_x44 &&& 31)) (nI i + 1) (wrI t_x44 4 (Int32.toNatClampNeg (6 + nI i)) v7_x44) else none) (nI (c % zFac k)) (nI (zFac k)) (nI i) e 2000 0 (c / zFac k) (by omega) hget2
    obtain ⟨d, d1, d2, d3⟩ := ih f (i + 1) (c % zFac k) (mk ||| 2 ^ q) (wrI e 4 (6 + i) (nI q)) (by omega) (by rw [← zLeft_erase, List.length_erase_of_mem hmem]; omega) (z_or64 hm (by omega)) (Nat.mod_lt _ hp) (by omega) (by rw [rd_nk (by omega)]; exact h1)
    refine ⟨d, ?_, ⟨d2.1, fun x y hxy => ?_⟩, fun j hj => ?_⟩
    · rw [← zl0] at L
      rw [L, zl6, z_add, z_ix (show 6 + i < 2147483648 by omega), decide_eq_true (show 6 + i < 12 by omega), z_cl (show 6 + i < 2147483648 by omega), z_bitor mk hm q (by omega), zl1, z_add]
      simp only [if_true]
      exact d1
    · rw [d2.2 x y (by omega), rd_wr, if_neg (by omega)]
    · show rdI d 4 (6 + i + j) = nI (((zLeft n mk).getD (c / zFac k) 0 :: zNth k ((zLeft n mk).erase ((zLeft n mk).getD (c / zFac k) 0)) (c % zFac k)).getD j 0)
      rw [hq]
      cases j with
      | zero =>
        rw [d2.2 _ _ (by omega), Nat.add_zero, rd_eq]
        rfl
      | succ j =>
        rw [show 6 + i + (j + 1) = 6 + (i + 1) + j by omega, d3 j (by omega), zLeft_erase]
        rfl
theorem zLeft_0 (n : Nat) : zLeft n 0 = List.range n := by
  unfold zLeft
  rw [List.filter_eq_self]
  intro t _
  simp
/-- the c-th of all rows of towns is laid -/
theorem pM_hangBy {n : Nat} (hn : n ≤ 6) (h0 : 0 < n) {e : gw_S} (h1 : rdI e 0 1 = nI n) {c : Nat} (hc : c < zFac n) : ∃ d l, fX8_hangBy (nI c) e = some d ∧ (d.2 = e.2 ∧ ∀ x y, ¬ (x = 4 ∧ 6 ≤ y) → rdI d x y = rdI e x y) ∧ (zAll n)[c]? = some l ∧ ∀ j, j < n → rdI d 4 (6 + j) = nI (l.getD j 0) := by
  unfold fX8_hangBy
  rw [pM_ways hn h0 h1, Option.bind_some]
  obtain ⟨d, d1, d2, d3⟩ := pM_hangBy_L13 hn n 2000 0 c 0 e (by omega) (by rw [zLeft_0, List.length_range]) (by omega) hc (by omega) h1
  rw [zLeft_0] at d3
  refine ⟨d, zNth n (List.range n) c, d1, ⟨d2.1, fun x y h => d2.2 x y (by omega)⟩, ?_, fun j hj => ?_⟩
  · exact zPerms_nth n (List.range n) c (by rw [List.length_range]) hc
  · have := d3 j hj
    rw [Nat.add_zero] at this
    exact this
