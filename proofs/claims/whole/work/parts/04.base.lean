/-! Numbers and states: rows for the pure part. -/
theorem zl0 : (0 : Int32) = nI 0 := rfl
theorem zl1 : (1 : Int32) = nI 1 := rfl
theorem zl2 : (2 : Int32) = nI 2 := rfl
theorem zl3 : (3 : Int32) = nI 3 := rfl
theorem zl4 : (4 : Int32) = nI 4 := rfl
theorem zl5 : (5 : Int32) = nI 5 := rfl
theorem zl6 : (6 : Int32) = nI 6 := rfl
theorem zl7 : (7 : Int32) = nI 7 := rfl
theorem zl8 : (8 : Int32) = nI 8 := rfl
theorem zl9 : (9 : Int32) = nI 9 := rfl
theorem zl10 : (10 : Int32) = nI 10 := rfl
theorem zl12 : (12 : Int32) = nI 12 := rfl
theorem zl16 : (16 : Int32) = nI 16 := rfl
theorem zl20 : (20 : Int32) = nI 20 := rfl
theorem zl24 : (24 : Int32) = nI 24 := rfl
theorem zl32 : (32 : Int32) = nI 32 := rfl
theorem zl40 : (40 : Int32) = nI 40 := rfl
theorem zl44 : (44 : Int32) = nI 44 := rfl
theorem zl48 : (48 : Int32) = nI 48 := rfl
theorem zl49 : (49 : Int32) = nI 49 := rfl
theorem zl56 : (56 : Int32) = nI 56 := rfl
theorem zl57 : (57 : Int32) = nI 57 := rfl
theorem zl59 : (59 : Int32) = nI 59 := rfl
theorem zl60 : (60 : Int32) = nI 60 := rfl
theorem zl64 : (64 : Int32) = nI 64 := rfl
theorem zl90 : (90 : Int32) = nI 90 := rfl
theorem zl126 : (126 : Int32) = nI 126 := rfl
theorem zl600 : (600 : Int32) = nI 600 := rfl
theorem z_cl {h : Nat} (hh : h < 2147483648) : Int32.toNatClampNeg (nI h) = h := nI_clamp hh
theorem z_le {a b : Nat} (ha : a < 2147483648) (hb : b < 2147483648) : (nI a ≤ nI b) ↔ (a ≤ b) := nI_leI ha hb
theorem z_lt {a b : Nat} (ha : a < 2147483648) (hb : b < 2147483648) : (nI a < nI b) ↔ (a < b) := nI_ltI ha hb
theorem z_eq {a b : Nat} (ha : a < 2147483648) (hb : b < 2147483648) : (nI a = nI b) ↔ (a = b) := nI_eq ha hb
theorem z_ix {h n : Nat} (hh : h < 2147483648) : gw_ix (nI h) n = decide (h < n) := by
  unfold gw_ix
  have h1 : ¬ nI h < 0 := nI_pos hh
  rw [z_cl hh]
  apply decide_eq_decide.mpr
  constructor
  · intro q; exact Nat.not_le.mp (fun z => q (Or.inr z))
  · intro q z
    rcases z with z | z
    · exact h1 z
    · omega
theorem z_of {x : Int32} (h : ¬ x < 0) : ∃ j : Nat, j < 2147483648 ∧ x = nI j := nI_of h
theorem z_add (a b : Nat) : nI a + nI b = nI (a + b) := nI_add a b
theorem z_sub {a b : Nat} (h : b ≤ a) : nI a - nI b = nI (a - b) := pk_sub h
theorem z_mul (a b : Nat) : nI a * nI b = nI (a * b) := pk_mul a b
theorem z_neg {a b : Nat} (ha : a < 2147483648) (hb : b < 2147483648) (h : 0 < b) : ¬ nI a = -nI b := by
  intro q
  have h1 := nI_toInt ha
  rw [q, sb_negT hb] at h1
  omega
theorem rd_wr (s : gw_S) (k j : Nat) (v : Int32) (a b : Nat) : rdI (wrI s k j v) a b = if a = k ∧ b = j then v else rdI s a b := by
  unfold rdI wrI
  by_cases h : a = k
  · subst h
    simp [upd]
  · simp [h]
theorem rd_eq (s : gw_S) (k j : Nat) (v : Int32) : rdI (wrI s k j v) k j = v := by simp [rd_wr]
theorem rd_nk {s : gw_S} {k j : Nat} {v : Int32} {a b : Nat} (h : a ≠ k) : rdI (wrI s k j v) a b = rdI s a b := by simp [rd_wr, h]
theorem rd_nj {s : gw_S} {k j : Nat} {v : Int32} {a b : Nat} (h : b ≠ j) : rdI (wrI s k j v) a b = rdI s a b := by simp [rd_wr, h]
theorem rd_wR (s : gw_S) (k j v a b : Nat) : rdI (wrR s k j v) a b = rdI s a b := rfl
theorem rd_wL (s : gw_S) (k j : Nat) (v : Int64) (a b : Nat) : rdI (wrL s k j v) a b = rdI s a b := rfl
theorem rR_wI (s : gw_S) (k j : Nat) (v : Int32) (a b : Nat) : rdR (wrI s k j v) a b = rdR s a b := rfl
theorem rR_wL (s : gw_S) (k j : Nat) (v : Int64) (a b : Nat) : rdR (wrL s k j v) a b = rdR s a b := rfl
theorem rL_wI (s : gw_S) (k j : Nat) (v : Int32) (a b : Nat) : rdL (wrI s k j v) a b = rdL s a b := rfl
theorem rL_wR (s : gw_S) (k j v a b : Nat) : rdL (wrR s k j v) a b = rdL s a b := rfl
theorem rR_wr (s : gw_S) (k j v a b : Nat) : rdR (wrR s k j v) a b = if a = k ∧ b = j then v else rdR s a b := by
  unfold rdR wrR
  by_cases h : a = k
  · subst h
    simp [gw_upR]
  · simp [h]
theorem rL_wr (s : gw_S) (k j : Nat) (v : Int64) (a b : Nat) : rdL (wrL s k j v) a b = if a = k ∧ b = j then v else rdL s a b := by
  unfold rdL wrL
  by_cases h : a = k
  · subst h
    simp [vp_updL]
  · simp [h]
/-- a boolean as an int -/
def zb (b : Bool) : Int32 := if b then 1 else 0
theorem zb_t : zb true = 1 := rfl
theorem zb_f : zb false = 0 := rfl
theorem zb_bl (b : Bool) : gw_bl (zb b) = true := by cases b <;> rfl
theorem zb_0 (b : Bool) : (zb b = 0) ↔ b = false := by cases b <;> simp [zb]
theorem zb_n0 (b : Bool) : (zb b = nI 0) ↔ b = false := zb_0 b
