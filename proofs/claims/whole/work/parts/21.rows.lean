/-! Rows of parcels: what the class's Row does. -/
theorem z_drop {α : Type} {l : List α} {i : Nat} {p : α} (h : l[i]? = some p) : l.drop i = p :: l.drop (i + 1) := by
  obtain ⟨h1, h2⟩ := List.getElem?_eq_some_iff.mp h
  rw [← h2]; exact List.drop_eq_getElem_cons h1
theorem z_get {α : Type} {l : List α} {i : Nat} (h : i < l.length) : ∃ p, l[i]? = some p := ⟨l[i], List.getElem?_eq_getElem h⟩
theorem z_lt_of {α : Type} {l : List α} {i : Nat} {p : α} (h : l[i]? = some p) : i < l.length := (List.getElem?_eq_some_iff.mp h).1
theorem z_mem {α : Type} {l : List α} {i : Nat} {p : α} (h : l[i]? = some p) : p ∈ l := List.mem_of_getElem? h
def zKat (l : List zP) (j : Nat) : Int32 := match l[j]? with
  | some p => nI p.1
  | none => -1
def zTat (l : List zP) (j : Nat) : Int32 := match l[j]? with
  | some p => nI p.2.1
  | none => -1
theorem pR_kindAt {c : gw_S} {q : Nat} {l : List zP} (h : rcRow c q l) {j : Nat} (hj : j < 2147483648) : fX3_kindAt q (nI j) c = some (zKat l j) := by
  obtain ⟨h1, h2, h3⟩ := h
  unfold fX3_kindAt zKat
  rw [h1]
  cases hp : l[j]? with
  | none =>
    have : l.length ≤ j := List.getElem?_eq_none_iff.mp hp
    simp (disch := omega) only [gw_nm, gw_b2, Option.bind_some, Option.bind_none, z_ix, z_cl, z_le, z_lt, z_eq, decide_eq_true_eq, if_true, if_false, ite_true, ite_false, eq_self, not_true_eq_false, not_false_eq_true, zl0, zl1, zl2, zl3, zl4, zl5, zl6, zl7, zl8, zl9, zl10, zl12, zl16, zl20, zl24, zl32, zl40, zl44, zl48, zl49, zl56, zl57, zl59, zl60, zl64, zl90, zl126, zl600, if_pos, if_neg]
  | some p =>
    have := z_lt_of hp
    simp (disch := omega) only [gw_nm, gw_b2, Option.bind_some, Option.bind_none, z_ix, z_cl, z_le, z_lt, z_eq, decide_eq_true_eq, if_true, if_false, ite_true, ite_false, eq_self, not_true_eq_false, not_false_eq_true, zl0, zl1, zl2, zl3, zl4, zl5, zl6, zl7, zl8, zl9, zl10, zl12, zl16, zl20, zl24, zl32, zl40, zl44, zl48, zl49, zl56, zl57, zl59, zl60, zl64, zl90, zl126, zl600, if_pos, if_neg, (h3 j p hp).1]
theorem pR_townAt {c : gw_S} {q : Nat} {l : List zP} (h : rcRow c q l) {j : Nat} (hj : j < 2147483648) : fX3_townAt q (nI j) c = some (zTat l j) := by
  obtain ⟨h1, h2, h3⟩ := h
  unfold fX3_townAt zTat
  rw [h1]
  cases hp : l[j]? with
  | none =>
    have : l.length ≤ j := List.getElem?_eq_none_iff.mp hp
    simp (disch := omega) only [gw_nm, gw_b2, Option.bind_some, Option.bind_none, z_ix, z_cl, z_le, z_lt, z_eq, decide_eq_true_eq, if_true, if_false, ite_true, ite_false, eq_self, not_true_eq_false, not_false_eq_true, zl0, zl1, zl2, zl3, zl4, zl5, zl6, zl7, zl8, zl9, zl10, zl12, zl16, zl20, zl24, zl32, zl40, zl44, zl48, zl49, zl56, zl57, zl59, zl60, zl64, zl90, zl126, zl600, if_pos, if_neg]
  | some p =>
    have := z_lt_of hp
    simp (disch := omega) only [gw_nm, gw_b2, Option.bind_some, Option.bind_none, z_ix, z_cl, z_le, z_lt, z_eq, decide_eq_true_eq, if_true, if_false, ite_true, ite_false, eq_self, not_true_eq_false, not_false_eq_true, zl0, zl1, zl2, zl3, zl4, zl5, zl6, zl7, zl8, zl9, zl10, zl12, zl16, zl20, zl24, zl32, zl40, zl44, zl48, zl49, zl56, zl57, zl59, zl60, zl64, zl90, zl126, zl600, if_pos, if_neg, (h3 j p hp).2.1]
theorem pR_ofKind_L {c : gw_S} {q : Nat} {l : List zP} (h : rcRow c q l) {k : Nat} (hk : k < 2147483648) (hl : ∀ p, p ∈ l → p.1 < 5) (Kx : Int32 → Int32 → Option Int32) : ∀ n i a, i ≤ l.length → l.length - i < n → fX3_ofKind_L4 Kx q (nI k) c n (nI a) (nI i) = Kx (nI (a + (l.drop i).countP (fun p => decide (p.1 = k)))) (nI l.length) := by
  obtain ⟨h1, h2, h3⟩ := h
  intro n
  induction n with
  | zero => intro i a _ h; omega
  | succ n ih =>
    intro i a hi hn
    rw [fX3_ofKind_L4, h1]
    by_cases e : i = l.length
    · subst e
      rw [List.drop_length, List.countP_nil]
      simp (disch := omega) only [gw_nm, gw_b2, Option.bind_some, Option.bind_none, z_ix, z_cl, z_le, z_lt, z_eq, decide_eq_true_eq, if_true, if_false, ite_true, ite_false, eq_self, not_true_eq_false, not_false_eq_true, zl0, zl1, zl2, zl3, zl4, zl5, zl6, zl7, zl8, zl9, zl10, zl12, zl16, zl20, zl24, zl32, zl40, zl44, zl48, zl49, zl56, zl57, zl59, zl60, zl64, zl90, zl126, zl600, if_pos, if_neg, Nat.add_zero]
    · obtain ⟨p, hp⟩ := z_get (show i < l.length by omega)
      have hp5 := hl p (z_mem hp)
      rw [z_drop hp, List.countP_cons]
      unfold fX3_ofKind_J25
      by_cases hpk : p.1 = k
      · simp (disch := omega) only [gw_nm, gw_b2, Option.bind_some, Option.bind_none, z_ix, z_cl, z_le, z_lt, z_eq, decide_eq_true_eq, if_true, if_false, ite_true, ite_false, eq_self, not_true_eq_false, not_false_eq_true, zl0, zl1, zl2, zl3, zl4, zl5, zl6, zl7, zl8, zl9, zl10, zl12, zl16, zl20, zl24, zl32, zl40, zl44, zl48, zl49, zl56, zl57, zl59, zl60, zl64, zl90, zl126, zl600, if_pos, if_neg, (h3 i p hp).1, hpk, z_add]
        rw [ih (i + 1) (a + 1) (by omega) (by omega)]
        congr 2
        first | omega | (simp; omega)
      · simp (disch := omega) only [gw_nm, gw_b2, Option.bind_some, Option.bind_none, z_ix, z_cl, z_le, z_lt, z_eq, decide_eq_true_eq, if_true, if_false, ite_true, ite_false, eq_self, not_true_eq_false, not_false_eq_true, zl0, zl1, zl2, zl3, zl4, zl5, zl6, zl7, zl8, zl9, zl10, zl12, zl16, zl20, zl24, zl32, zl40, zl44, zl48, zl49, zl56, zl57, zl59, zl60, zl64, zl90, zl126, zl600, if_pos, if_neg, (h3 i p hp).1, hpk, z_add]
        rw [ih (i + 1) a (by omega) (by omega)]
        simp
theorem pR_ofKind {c : gw_S} {q : Nat} {l : List zP} (h : rcRow c q l) {k : Nat} (hk : k < 2147483648) (hl : ∀ p, p ∈ l → p.1 < 5) : fX3_ofKind q (nI k) c = some (nI (l.countP (fun p => decide (p.1 = k)))) := by
  unfold fX3_ofKind
  rw [zl0, pR_ofKind_L h hk hl _ 2000 0 0 (Nat.zero_le _) (by have := h.2.1; omega)]
  simp
theorem pR_notFor_L {c : gw_S} {q : Nat} {l : List zP} (h : rcRow c q l) {k : Nat} (hk : k < 2147483648) (hl : ∀ p, p ∈ l → p.2.1 < 6) (Kx : Int32 → Int32 → Option Int32) : ∀ n i a, i ≤ l.length → l.length - i < n → fX3_notFor_L4 Kx q (nI k) c n (nI a) (nI i) = Kx (nI (a + zWrong k (l.drop i))) (nI l.length) := by
  obtain ⟨h1, h2, h3⟩ := h
  intro n
  induction n with
  | zero => intro i a _ h; omega
  | succ n ih =>
    intro i a hi hn
    rw [fX3_notFor_L4, h1]
    by_cases e : i = l.length
    · subst e
      rw [List.drop_length]
      simp (disch := omega) only [gw_nm, gw_b2, Option.bind_some, Option.bind_none, z_ix, z_cl, z_le, z_lt, z_eq, decide_eq_true_eq, if_true, if_false, ite_true, ite_false, eq_self, not_true_eq_false, not_false_eq_true, zl0, zl1, zl2, zl3, zl4, zl5, zl6, zl7, zl8, zl9, zl10, zl12, zl16, zl20, zl24, zl32, zl40, zl44, zl48, zl49, zl56, zl57, zl59, zl60, zl64, zl90, zl126, zl600, if_pos, if_neg, zWrong, List.countP_nil, Nat.add_zero]
    · obtain ⟨p, hp⟩ := z_get (show i < l.length by omega)
      have hp5 := hl p (z_mem hp)
      unfold zWrong at ih ⊢
      rw [z_drop hp, List.countP_cons]
      unfold fX3_notFor_J25
      by_cases hpk : p.2.1 = k
      · simp (disch := omega) only [gw_nm, gw_b2, Option.bind_some, Option.bind_none, z_ix, z_cl, z_le, z_lt, z_eq, decide_eq_true_eq, if_true, if_false, ite_true, ite_false, eq_self, not_true_eq_false, not_false_eq_true, zl0, zl1, zl2, zl3, zl4, zl5, zl6, zl7, zl8, zl9, zl10, zl12, zl16, zl20, zl24, zl32, zl40, zl44, zl48, zl49, zl56, zl57, zl59, zl60, zl64, zl90, zl126, zl600, if_pos, if_neg, (h3 i p hp).2.1, hpk, z_add]
        rw [ih (i + 1) a (by omega) (by omega)]
        simp
      · simp (disch := omega) only [gw_nm, gw_b2, Option.bind_some, Option.bind_none, z_ix, z_cl, z_le, z_lt, z_eq, decide_eq_true_eq, if_true, if_false, ite_true, ite_false, eq_self, not_true_eq_false, not_false_eq_true, zl0, zl1, zl2, zl3, zl4, zl5, zl6, zl7, zl8, zl9, zl10, zl12, zl16, zl20, zl24, zl32, zl40, zl44, zl48, zl49, zl56, zl57, zl59, zl60, zl64, zl90, zl126, zl600, if_pos, if_neg, (h3 i p hp).2.1, hpk, z_add]
        rw [ih (i + 1) (a + 1) (by omega) (by omega)]
        congr 2
        first | omega | (simp; omega)
theorem pR_notFor {c : gw_S} {q : Nat} {l : List zP} (h : rcRow c q l) {k : Nat} (hk : k < 2147483648) (hl : ∀ p, p ∈ l → p.2.1 < 6) : fX3_notFor q (nI k) c = some (nI (zWrong k l)) := by
  unfold fX3_notFor
  rw [zl0, pR_notFor_L h hk hl _ 2000 0 0 (Nat.zero_le _) (by have := h.2.1; omega)]
  simp
theorem pR_add {c : gw_S} {q : Nat} {l : List zP} (h : rcRow c q l) (hl : l.length < 9) (k t : Nat) (b : Bool) : ∃ d, fX3_add q (nI k) (nI t) (zb b) c = some d ∧ agI c d q (q + 4) ∧ rcRow d q (l ++ [(k, t, b)]) := by
  obtain ⟨h1, h2, h3⟩ := h
  unfold fX3_add
  rw [h1]
  simp (disch := omega) only [gw_nm, gw_b2, Option.bind_some, Option.bind_none, z_ix, z_cl, z_le, z_lt, z_eq, decide_eq_true_eq, if_true, if_false, ite_true, ite_false, eq_self, not_true_eq_false, not_false_eq_true, zl0, zl1, zl2, zl3, zl4, zl5, zl6, zl7, zl8, zl9, zl10, zl12, zl16, zl20, zl24, zl32, zl40, zl44, zl48, zl49, zl56, zl57, zl59, zl60, zl64, zl90, zl126, zl600, if_pos, if_neg, rd_nk, h1, zb_bl, rd_eq, z_add]
  refine ⟨_, rfl, ⟨rfl, fun x y hxy => ?_⟩, ?_⟩
  · simp (disch := omega) only [gw_nm, gw_b2, Option.bind_some, Option.bind_none, z_ix, z_cl, z_le, z_lt, z_eq, decide_eq_true_eq, if_true, if_false, ite_true, ite_false, eq_self, not_true_eq_false, not_false_eq_true, zl0, zl1, zl2, zl3, zl4, zl5, zl6, zl7, zl8, zl9, zl10, zl12, zl16, zl20, zl24, zl32, zl40, zl44, zl48, zl49, zl56, zl57, zl59, zl60, zl64, zl90, zl126, zl600, rd_nk]
  · refine ⟨?_, ?_, fun j p hp => ?_⟩
    · rw [rd_eq, List.length_append]; rfl
    · rw [List.length_append]; simp; omega
    · have hj := z_lt_of hp
      rw [List.length_append] at hj
      simp at hj
      by_cases e : j = l.length
      · subst e
        rw [List.getElem?_append_right (Nat.le_refl _), Nat.sub_self] at hp
        simp at hp
        subst hp
        simp (disch := omega) only [gw_nm, gw_b2, Option.bind_some, Option.bind_none, z_ix, z_cl, z_le, z_lt, z_eq, decide_eq_true_eq, if_true, if_false, ite_true, ite_false, eq_self, not_true_eq_false, not_false_eq_true, zl0, zl1, zl2, zl3, zl4, zl5, zl6, zl7, zl8, zl9, zl10, zl12, zl16, zl20, zl24, zl32, zl40, zl44, zl48, zl49, zl56, zl57, zl59, zl60, zl64, zl90, zl126, zl600, rd_nk, rd_eq, and_self]
      · rw [List.getElem?_append_left (by omega)] at hp
        simp (disch := omega) only [gw_nm, gw_b2, Option.bind_some, Option.bind_none, z_ix, z_cl, z_le, z_lt, z_eq, decide_eq_true_eq, if_true, if_false, ite_true, ite_false, eq_self, not_true_eq_false, not_false_eq_true, zl0, zl1, zl2, zl3, zl4, zl5, zl6, zl7, zl8, zl9, zl10, zl12, zl16, zl20, zl24, zl32, zl40, zl44, zl48, zl49, zl56, zl57, zl59, zl60, zl64, zl90, zl126, zl600, rd_nk, rd_nj, h3 j p hp, and_self]
def zHz (p : zP) : zP := if p.1 = 3 then (p.1, p.2.1, true) else p
theorem pR_harm_L {q len : Nat} {l : List zP} (hlen : l.length = len) (h9 : len ≤ 9) (hl : ∀ p, p ∈ l → p.1 < 5) (Kx : Int32 → Int32 → gw_S → Option (Int32 × gw_S)) : ∀ n i a c, i ≤ len → len - i < n → rdI c q 3 = nI len → (∀ j p, l[j]? = some p → rdI c (q + 1) j = nI p.1 ∧ rdI c (q + 3) j = zb (if j < i then (zHz p).2.2 else p.2.2)) →
    ∃ d, fX3_harmGlass_L4 Kx q n (nI a) (nI i) c = Kx (nI (a + zWhole (l.drop i))) (nI len) d ∧ agI c d (q + 3) (q + 4) ∧ ∀ j p, l[j]? = some p → rdI d (q + 3) j = zb (zHz p).2.2 := by
  intro n
  induction n with
  | zero => intro i a c _ h; omega
  | succ n ih =>
    intro i a c hi hn h1 h3
    rw [fX3_harmGlass_L4, h1]
    by_cases e : i = len
    · subst e
      rw [← hlen, List.drop_length]
      refine ⟨c, ?_, agI.refl c _ _, fun j p hp => ?_⟩
      · simp (disch := omega) only [gw_nm, gw_b2, Option.bind_some, Option.bind_none, z_ix, z_cl, z_le, z_lt, z_eq, decide_eq_true_eq, if_true, if_false, ite_true, ite_false, eq_self, not_true_eq_false, not_false_eq_true, zl0, zl1, zl2, zl3, zl4, zl5, zl6, zl7, zl8, zl9, zl10, zl12, zl16, zl20, zl24, zl32, zl40, zl44, zl48, zl49, zl56, zl57, zl59, zl60, zl64, zl90, zl126, zl600, if_pos, if_neg, zWhole, List.countP_nil, Nat.add_zero]
      · rw [(h3 j p hp).2, if_pos (by have := z_lt_of hp; omega)]
    · obtain ⟨p, hp⟩ := z_get (show i < l.length by omega)
      have hp5 := hl p (z_mem hp)
      unfold zWhole at ih ⊢
      rw [z_drop hp, List.countP_cons]
      unfold fX3_harmGlass_J41
      have hp3 := h3 i p hp
      rw [if_neg (Nat.lt_irrefl i)] at hp3
      have keep : ∀ (j : Nat) (p' : zP), l[j]? = some p' → ¬ (j = i ∧ (p.1 = 3 ∧ p.2.2 = false)) → zb (if j < i + 1 then (zHz p').2.2 else p'.2.2) = zb (if j < i then (zHz p').2.2 else p'.2.2) := by
        intro j p' hp' hn
        by_cases ej : j = i
        · subst ej
          cases hp.symm.trans hp'
          rw [if_pos (by omega), if_neg (by omega)]
          unfold zHz
          by_cases h3' : p.1 = 3
          · rw [if_pos h3']
            cases hb : p.2.2 with
            | true => rfl
            | false => exact absurd ⟨rfl, h3', hb⟩ hn
          · rw [if_neg h3']
        · by_cases hji : j < i
          · rw [if_pos (by omega), if_pos hji]
          · rw [if_neg (by omega), if_neg hji]
      by_cases hpk : p.1 = 3
      · cases hb : p.2.2 with
        | true =>
          rw [hb] at hp3
          simp (disch := omega) only [gw_nm, gw_b2, Option.bind_some, Option.bind_none, z_ix, z_cl, z_le, z_lt, z_eq, decide_eq_true_eq, if_true, if_false, ite_true, ite_false, eq_self, not_true_eq_false, not_false_eq_true, zl0, zl1, zl2, zl3, zl4, zl5, zl6, zl7, zl8, zl9, zl10, zl12, zl16, zl20, zl24, zl32, zl40, zl44, zl48, zl49, zl56, zl57, zl59, zl60, zl64, zl90, zl126, zl600, if_pos, if_neg, hp3.1, hp3.2, hpk, z_add, zb_n0, Bool.true_eq_false]
          obtain ⟨d, d1, d2, d3⟩ := ih (i + 1) a c (by omega) (by omega) h1 (fun j p' hp' => ⟨(h3 j p' hp').1, by rw [keep j p' hp' (by rw [hb]; simp)]; exact (h3 j p' hp').2⟩)
          exact ⟨d, by rw [d1]; simp, d2, d3⟩
        | false =>
          rw [hb] at hp3
          simp (disch := omega) only [gw_nm, gw_b2, Option.bind_some, Option.bind_none, z_ix, z_cl, z_le, z_lt, z_eq, decide_eq_true_eq, if_true, if_false, ite_true, ite_false, eq_self, not_true_eq_false, not_false_eq_true, zl0, zl1, zl2, zl3, zl4, zl5, zl6, zl7, zl8, zl9, zl10, zl12, zl16, zl20, zl24, zl32, zl40, zl44, zl48, zl49, zl56, zl57, zl59, zl60, zl64, zl90, zl126, zl600, if_pos, if_neg, hp3.1, hp3.2, hpk, z_add, zb_n0]
          obtain ⟨d, d1, d2, d3⟩ := ih (i + 1) (a + 1) (wrI c (q + 3) i (nI 1)) (by omega) (by omega) (by rw [rd_nk (by omega)]; exact h1) (fun j p' hp' => ⟨by rw [rd_nk (by omega)]; exact (h3 j p' hp').1, by
            by_cases ej : j = i
            · subst ej
              cases hp.symm.trans hp'
              rw [rd_eq, if_pos (by omega)]
              unfold zHz
              rw [if_pos hpk]; rfl
            · rw [rd_nj ej, keep j p' hp' (fun z => ej z.1)]
              exact (h3 j p' hp').2⟩)
          refine ⟨d, ?_, (agI.wr c (q + 3) i (nI 1) (by omega) (by omega)).trans d2, d3⟩
          rw [d1]
          congr 2
          first | omega | (simp; omega)
      · simp (disch := omega) only [gw_nm, gw_b2, Option.bind_some, Option.bind_none, z_ix, z_cl, z_le, z_lt, z_eq, decide_eq_true_eq, if_true, if_false, ite_true, ite_false, eq_self, not_true_eq_false, not_false_eq_true, zl0, zl1, zl2, zl3, zl4, zl5, zl6, zl7, zl8, zl9, zl10, zl12, zl16, zl20, zl24, zl32, zl40, zl44, zl48, zl49, zl56, zl57, zl59, zl60, zl64, zl90, zl126, zl600, if_pos, if_neg, hp3.1, hpk, z_add]
        obtain ⟨d, d1, d2, d3⟩ := ih (i + 1) a c (by omega) (by omega) h1 (fun j p' hp' => ⟨(h3 j p' hp').1, by rw [keep j p' hp' (fun z => hpk z.2.1)]; exact (h3 j p' hp').2⟩)
        exact ⟨d, by rw [d1]; simp, d2, d3⟩
theorem zHz_1 (p : zP) : (zHz p).1 = p.1 := by unfold zHz; split <;> rfl
theorem zHz_2 (p : zP) : (zHz p).2.1 = p.2.1 := by unfold zHz; split <;> rfl
theorem pR_harm {c : gw_S} {q : Nat} {l : List zP} (h : rcRow c q l) (hl : ∀ p, p ∈ l → p.1 < 5) : ∃ d, fX3_harmGlass q c = some (nI (zWhole l), d) ∧ agI c d (q + 3) (q + 4) ∧ rcRow d q (l.map zHz) := by
  obtain ⟨h1, h2, h3⟩ := h
  unfold fX3_harmGlass
  obtain ⟨d, d1, d2, d3⟩ := pR_harm_L (q := q) rfl h2 hl (fun v1_x4 _ t_x4 => some (v1_x4, t_x4)) 2000 0 0 c (Nat.zero_le _) (by omega) h1 (fun j p hp => ⟨(h3 j p hp).1, by rw [if_neg (by omega)]; exact (h3 j p hp).2.2⟩)
  refine ⟨d, ?_, d2, ?_, ?_, fun j p hp => ?_⟩
  · rw [zl0, d1]; simp
  · rw [d2.2 _ _ (by omega), List.length_map]; exact h1
  · rw [List.length_map]; exact h2
  · rw [List.getElem?_map] at hp
    cases hp' : l[j]? with
    | none => rw [hp'] at hp; cases hp
    | some p' =>
      rw [hp'] at hp
      cases hp
      rw [d2.2 _ _ (by omega), d2.2 _ _ (by omega), zHz_1, zHz_2]
      exact ⟨(h3 j p' hp').1, (h3 j p' hp').2.1, d3 j p' hp'⟩
theorem pR_drop_L {q len : Nat} {f1 f2 : Nat → Int32} {f3 : Nat → Bool} (h9 : len ≤ 9) (Kx : Int32 → gw_S → Option gw_S) : ∀ n i c, 1 ≤ i → i ≤ len → len - i < n → rdI c q 3 = nI len → (∀ j, j < len → rdI c (q + 1) j = f1 (if j + 1 < i then j + 1 else j) ∧ rdI c (q + 2) j = f2 (if j + 1 < i then j + 1 else j) ∧ rdI c (q + 3) j = zb (f3 (if j + 1 < i then j + 1 else j))) →
    ∃ d, fX3_dropFirst_L2 Kx q n (nI i) c = Kx (nI len) d ∧ agI c d (q + 1) (q + 4) ∧ ∀ j, j + 1 < len → rdI d (q + 1) j = f1 (j + 1) ∧ rdI d (q + 2) j = f2 (j + 1) ∧ rdI d (q + 3) j = zb (f3 (j + 1)) := by
  intro n
  induction n with
  | zero => intro i c _ _ h; omega
  | succ n ih =>
    intro i c h0 hi hn h1 h3
    rw [fX3_dropFirst_L2, h1]
    by_cases e : i = len
    · subst e
      refine ⟨c, ?_, agI.refl c _ _, fun j hj => ?_⟩
      · simp (disch := omega) only [gw_nm, gw_b2, Option.bind_some, Option.bind_none, z_ix, z_cl, z_le, z_lt, z_eq, decide_eq_true_eq, if_true, if_false, ite_true, ite_false, eq_self, not_true_eq_false, not_false_eq_true, zl0, zl1, zl2, zl3, zl4, zl5, zl6, zl7, zl8, zl9, zl10, zl12, zl16, zl20, zl24, zl32, zl40, zl44, zl48, zl49, zl56, zl57, zl59, zl60, zl64, zl90, zl126, zl600, if_pos, if_neg]
      · have := h3 j (by omega)
        rw [if_pos hj] at this
        exact this
    · have hp3 := h3 i (by omega)
      rw [if_neg (by omega)] at hp3
      simp (disch := omega) only [gw_nm, gw_b2, Option.bind_some, Option.bind_none, z_ix, z_cl, z_le, z_lt, z_eq, decide_eq_true_eq, if_true, if_false, ite_true, ite_false, eq_self, not_true_eq_false, not_false_eq_true, zl0, zl1, zl2, zl3, zl4, zl5, zl6, zl7, zl8, zl9, zl10, zl12, zl16, zl20, zl24, zl32, zl40, zl44, zl48, zl49, zl56, zl57, zl59, zl60, zl64, zl90, zl126, zl600, if_pos, if_neg, z_sub, z_add, rd_nk, hp3.1, hp3.2.1, hp3.2.2, zb_bl]
      obtain ⟨d, d1, d2, d3⟩ := ih (i + 1) (wrI (wrI (wrI c (q + 1) (i - 1) (f1 i)) (q + 2) (i - 1) (f2 i)) (q + 3) (i - 1) (zb (f3 i))) (by omega) (by omega) (by omega) (by simp (disch := omega) only [gw_nm, gw_b2, Option.bind_some, Option.bind_none, z_ix, z_cl, z_le, z_lt, z_eq, decide_eq_true_eq, if_true, if_false, ite_true, ite_false, eq_self, not_true_eq_false, not_false_eq_true, zl0, zl1, zl2, zl3, zl4, zl5, zl6, zl7, zl8, zl9, zl10, zl12, zl16, zl20, zl24, zl32, zl40, zl44, zl48, zl49, zl56, zl57, zl59, zl60, zl64, zl90, zl126, zl600, rd_nk, h1]) (fun j hj => by
        have hj3 := h3 j hj
        by_cases ej : j = i - 1
        · subst ej
          rw [if_pos (by omega)]
          have e2 : i - 1 + 1 = i := by omega
          rw [e2]
          simp (disch := omega) only [gw_nm, gw_b2, Option.bind_some, Option.bind_none, z_ix, z_cl, z_le, z_lt, z_eq, decide_eq_true_eq, if_true, if_false, ite_true, ite_false, eq_self, not_true_eq_false, not_false_eq_true, zl0, zl1, zl2, zl3, zl4, zl5, zl6, zl7, zl8, zl9, zl10, zl12, zl16, zl20, zl24, zl32, zl40, zl44, zl48, zl49, zl56, zl57, zl59, zl60, zl64, zl90, zl126, zl600, rd_nk, rd_eq, and_self]
        · have e3 : (if j + 1 < i + 1 then j + 1 else j) = (if j + 1 < i then j + 1 else j) := by
            by_cases h : j + 1 < i
            · rw [if_pos h, if_pos (by omega)]
            · rw [if_neg h, if_neg (by omega)]
          rw [e3]
          simp (disch := omega) only [gw_nm, gw_b2, Option.bind_some, Option.bind_none, z_ix, z_cl, z_le, z_lt, z_eq, decide_eq_true_eq, if_true, if_false, ite_true, ite_false, eq_self, not_true_eq_false, not_false_eq_true, zl0, zl1, zl2, zl3, zl4, zl5, zl6, zl7, zl8, zl9, zl10, zl12, zl16, zl20, zl24, zl32, zl40, zl44, zl48, zl49, zl56, zl57, zl59, zl60, zl64, zl90, zl126, zl600, rd_nk, rd_nj, hj3, and_self])
      refine ⟨d, d1, ?_, d3⟩
      exact ((agI.wr c (q + 1) _ _ (by omega) (by omega)).trans ((agI.wr _ (q + 2) _ _ (by omega) (by omega)).trans (agI.wr _ (q + 3) _ _ (by omega) (by omega)))).trans d2
theorem pR_drop {c : gw_S} {q : Nat} {p0 : zP} {l : List zP} (h : rcRow c q (p0 :: l)) : ∃ d, fX3_dropFirst q c = some d ∧ agI c d q (q + 4) ∧ rcRow d q l := by
  obtain ⟨h1, h2, h3⟩ := h
  have hlen : (p0 :: l).length = l.length + 1 := rfl
  unfold fX3_dropFirst
  rw [hlen] at h1 h2
  obtain ⟨d, d1, d2, d3⟩ := pR_drop_L (q := q) (len := l.length + 1) (f1 := fun j => rdI c (q + 1) j) (f2 := fun j => rdI c (q + 2) j) (f3 := fun j => match (p0 :: l)[j]? with | some p => p.2.2 | none => false) h2 (fun _ t_x2 => gw_nm (wrI t_x2 q 3 (if 0 < ((rdI t_x2 q 3) - 1) then ((rdI t_x2 q 3) - 1) else 0)) (fun t_69 => some t_69)) 2000 1 c (by omega) (by omega) (by omega) h1 (fun j hj => by
    rw [if_neg (by omega)]
    obtain ⟨p, hp⟩ := z_get (show j < (p0 :: l).length by rw [hlen]; exact hj)
    refine ⟨rfl, rfl, ?_⟩
    rw [(h3 j p hp).2.2]
    simp only [hp])
  have e1 : rdI d q 3 = nI (l.length + 1) := by rw [d2.2 _ _ (by omega)]; exact h1
  have e2 : (if (0 : Int32) < nI (l.length + 1) - 1 then nI (l.length + 1) - 1 else 0) = nI l.length := by
    simp (disch := omega) only [gw_nm, gw_b2, Option.bind_some, Option.bind_none, z_ix, z_cl, z_le, z_lt, z_eq, decide_eq_true_eq, if_true, if_false, ite_true, ite_false, eq_self, not_true_eq_false, not_false_eq_true, zl0, zl1, zl2, zl3, zl4, zl5, zl6, zl7, zl8, zl9, zl10, zl12, zl16, zl20, zl24, zl32, zl40, zl44, zl48, zl49, zl56, zl57, zl59, zl60, zl64, zl90, zl126, zl600, z_sub]
    by_cases h : 0 < l.length
    · rw [if_pos (by omega)]; congr 1
    · rw [if_neg (by omega)]; congr 1; omega
  refine ⟨wrI d q 3 (nI l.length), ?_, ⟨?_, fun x y hxy => ?_⟩, ?_, by omega, fun j p hp => ?_⟩
  · refine Eq.trans d1 ?_
    simp only [gw_nm, e1, e2]
  · exact d2.1
  · rw [rd_nk (by omega), d2.2 _ _ (by omega)]
  · rw [rd_eq]
  · have hj := z_lt_of hp
    have := d3 j (by omega)
    have hp' : (p0 :: l)[j + 1]? = some p := by rw [List.getElem?_cons_succ]; exact hp
    rw [rd_nk (by omega), rd_nk (by omega), rd_nk (by omega), this.1, this.2.1, this.2.2]
    have h3' := h3 (j + 1) p hp'
    refine ⟨h3'.1, h3'.2.1, ?_⟩
    simp only [hp']
theorem pR_copy_L {q q' len : Nat} {f1 f2 : Nat → Int32} {f3 : Nat → Bool} (h9 : len ≤ 9) (hq : q + 4 ≤ q' ∨ q' + 4 ≤ q) (Kx : Int32 → gw_S → Option gw_S) : ∀ n i c, i ≤ len → len - i < n → rdI c q 3 = nI len → (∀ j, j < len → rdI c (q' + 1) j = f1 j ∧ rdI c (q' + 2) j = f2 j ∧ rdI c (q' + 3) j = zb (f3 j)) → (∀ j, j < i → rdI c (q + 1) j = f1 j ∧ rdI c (q + 2) j = f2 j ∧ rdI c (q + 3) j = zb (f3 j)) →
    ∃ d, fX3_copy_L10 Kx q q' n (nI i) c = Kx (nI len) d ∧ agI c d (q + 1) (q + 4) ∧ ∀ j, j < len → rdI d (q + 1) j = f1 j ∧ rdI d (q + 2) j = f2 j ∧ rdI d (q + 3) j = zb (f3 j) := by
  intro n
  induction n with
  | zero => intro i c _ h; omega
  | succ n ih =>
    intro i c hi hn h1 h3 h4
    rw [fX3_copy_L10, h1]
    by_cases e : i = len
    · subst e
      exact ⟨c, by simp (disch := omega) only [gw_nm, gw_b2, Option.bind_some, Option.bind_none, z_ix, z_cl, z_le, z_lt, z_eq, decide_eq_true_eq, if_true, if_false, ite_true, ite_false, eq_self, not_true_eq_false, not_false_eq_true, zl0, zl1, zl2, zl3, zl4, zl5, zl6, zl7, zl8, zl9, zl10, zl12, zl16, zl20, zl24, zl32, zl40, zl44, zl48, zl49, zl56, zl57, zl59, zl60, zl64, zl90, zl126, zl600, if_pos, if_neg], agI.refl c _ _, h4⟩
    · have hp3 := h3 i (by omega)
      simp (disch := omega) only [gw_nm, gw_b2, Option.bind_some, Option.bind_none, z_ix, z_cl, z_le, z_lt, z_eq, decide_eq_true_eq, if_true, if_false, ite_true, ite_false, eq_self, not_true_eq_false, not_false_eq_true, zl0, zl1, zl2, zl3, zl4, zl5, zl6, zl7, zl8, zl9, zl10, zl12, zl16, zl20, zl24, zl32, zl40, zl44, zl48, zl49, zl56, zl57, zl59, zl60, zl64, zl90, zl126, zl600, if_pos, if_neg, z_add, rd_nk, hp3.1, hp3.2.1, hp3.2.2, zb_bl]
      obtain ⟨d, d1, d2, d3⟩ := ih (i + 1) (wrI (wrI (wrI c (q + 1) i (f1 i)) (q + 2) i (f2 i)) (q + 3) i (zb (f3 i))) (by omega) (by omega) (by simp (disch := omega) only [gw_nm, gw_b2, Option.bind_some, Option.bind_none, z_ix, z_cl, z_le, z_lt, z_eq, decide_eq_true_eq, if_true, if_false, ite_true, ite_false, eq_self, not_true_eq_false, not_false_eq_true, zl0, zl1, zl2, zl3, zl4, zl5, zl6, zl7, zl8, zl9, zl10, zl12, zl16, zl20, zl24, zl32, zl40, zl44, zl48, zl49, zl56, zl57, zl59, zl60, zl64, zl90, zl126, zl600, rd_nk, h1]) (fun j hj => by simp (disch := omega) only [gw_nm, gw_b2, Option.bind_some, Option.bind_none, z_ix, z_cl, z_le, z_lt, z_eq, decide_eq_true_eq, if_true, if_false, ite_true, ite_false, eq_self, not_true_eq_false, not_false_eq_true, zl0, zl1, zl2, zl3, zl4, zl5, zl6, zl7, zl8, zl9, zl10, zl12, zl16, zl20, zl24, zl32, zl40, zl44, zl48, zl49, zl56, zl57, zl59, zl60, zl64, zl90, zl126, zl600, rd_nk, h3 j hj, and_self]) (fun j hj => by
        by_cases ej : j = i
        · subst ej
          simp (disch := omega) only [gw_nm, gw_b2, Option.bind_some, Option.bind_none, z_ix, z_cl, z_le, z_lt, z_eq, decide_eq_true_eq, if_true, if_false, ite_true, ite_false, eq_self, not_true_eq_false, not_false_eq_true, zl0, zl1, zl2, zl3, zl4, zl5, zl6, zl7, zl8, zl9, zl10, zl12, zl16, zl20, zl24, zl32, zl40, zl44, zl48, zl49, zl56, zl57, zl59, zl60, zl64, zl90, zl126, zl600, rd_nk, rd_eq, and_self]
        · simp (disch := omega) only [gw_nm, gw_b2, Option.bind_some, Option.bind_none, z_ix, z_cl, z_le, z_lt, z_eq, decide_eq_true_eq, if_true, if_false, ite_true, ite_false, eq_self, not_true_eq_false, not_false_eq_true, zl0, zl1, zl2, zl3, zl4, zl5, zl6, zl7, zl8, zl9, zl10, zl12, zl16, zl20, zl24, zl32, zl40, zl44, zl48, zl49, zl56, zl57, zl59, zl60, zl64, zl90, zl126, zl600, rd_nk, rd_nj, h4 j (by omega), and_self])
      refine ⟨d, d1, ?_, d3⟩
      exact ((agI.wr c (q + 1) _ _ (by omega) (by omega)).trans ((agI.wr _ (q + 2) _ _ (by omega) (by omega)).trans (agI.wr _ (q + 3) _ _ (by omega) (by omega)))).trans d2
theorem pR_copy {c : gw_S} {q q' : Nat} {l : List zP} (h : rcRow c q' l) (hq : q + 4 ≤ q' ∨ q' + 4 ≤ q) : ∃ d, fX3_copy q q' c = some d ∧ agI c d q (q + 4) ∧ rcRow d q l := by
  obtain ⟨h1, h2, h3⟩ := h
  unfold fX3_copy
  rw [h1]
  obtain ⟨d, d1, d2, d3⟩ := pR_copy_L (q := q) (q' := q') (len := l.length) (f1 := fun j => rdI c (q' + 1) j) (f2 := fun j => rdI c (q' + 2) j) (f3 := fun j => match l[j]? with | some p => p.2.2 | none => false) h2 hq (fun _ t_x10 => some t_x10) 2000 0 (wrI c q 3 (nI l.length)) (Nat.zero_le _) (by omega) (rd_eq _ _ _ _) (fun j hj => by
    obtain ⟨p, hp⟩ := z_get hj
    rw [rd_nk (by omega), rd_nk (by omega), rd_nk (by omega)]
    refine ⟨rfl, rfl, ?_⟩
    rw [(h3 j p hp).2.2]
    simp only [hp]) (fun j hj => by omega)
  refine ⟨d, ?_, ⟨d2.1, fun x y hxy => ?_⟩, ?_, h2, fun j p hp => ?_⟩
  · simp only [gw_nm]; rw [zl0]; exact d1
  · rw [d2.2 _ _ (by omega), rd_nk (by omega)]
  · rw [d2.2 _ _ (by omega), rd_eq]
  · have hj := z_lt_of hp
    have := d3 j hj
    rw [this.1, this.2.1, this.2.2]
    refine ⟨(h3 j p hp).1, (h3 j p hp).2.1, ?_⟩
    simp only [hp]
