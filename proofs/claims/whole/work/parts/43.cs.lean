/-! Shifts: the draws, and the class's side. -/
def zDraw (s : Nat) : Nat := (1103515245 * s + 12345) % 2147483648
theorem zDraw_lt (s : Nat) : zDraw s < 2147483648 := Nat.mod_lt _ (by omega)
theorem z_lnat {n : Nat} (h : n < 2 ^ 64) : (lN n).toBitVec.toNat = n := by
  show (BitVec.ofNat 64 n).toNat = n
  rw [BitVec.toNat_ofNat, Nat.mod_eq_of_lt h]
theorem z_draw64 {s : Nat} (hs : s < 2147483648) : ((1103515245 : Int64) * lN s + 12345) &&& 2147483647 = lN (zDraw s) := by
  rw [show (1103515245 : Int64) = lN 1103515245 from rfl, show (12345 : Int64) = lN 12345 from rfl, show (2147483647 : Int64) = lN 2147483647 from rfl, lN_mul, lN_add]
  apply Int64.toBitVec_inj.mp
  apply BitVec.eq_of_toNat_eq
  rw [Int64.toBitVec_and, BitVec.toNat_and, z_lnat (by omega), z_lnat (by omega), z_lnat (Nat.lt_trans (zDraw_lt s) (by omega)), show (2147483647 : Nat) = 2 ^ 31 - 1 from rfl, Nat.and_two_pow_sub_one_eq_mod]
  rfl
theorem z_shr16 {s : Nat} (hs : s < 2147483648) : nI s >>> (16 &&& 31) = nI (s / 65536) := by
  apply Int32.toInt_inj.mp
  rw [pk_shr (nI s) (16 &&& 31) 16 (by decide), nI_toInt hs, nI_toInt (Nat.lt_of_le_of_lt (Nat.div_le_self _ _) hs), Int.shiftRight_eq_div_pow]
  rfl
def zDr (s d : Nat) : Nat := zDraw s / 65536 % d
theorem pC_draw {c : gw_S} {s d : Nat} (hc : rdI c 25 1 = nI s) (hs : s < 2147483648) (h0 : 0 < d) (hd : d < 1000) : fX5_draw (nI d) c = some (nI (zDr s d), wrI c 25 1 (nI (zDraw s))) := by
  have hz := zDraw_lt s
  unfold fX5_draw zDr
  simp only [zNm]
  rw [hc, nI_l hs, z_draw64 hs, lN_i, rd_eq, if_neg (show ¬ nI d ≤ (0 : Int32) from fun q => by have := (z_le (a := d) (b := 0) (by omega) (by omega)).mp q; omega), if_neg (show ¬ nI d = (0 : Int32) from fun q => by have := (z_eq (a := d) (b := 0) (by omega) (by omega)).mp q; omega), z_shr16 hz, pk_rem (by omega) h0 (by omega)]
theorem pM_draw {c : gw_S} {s d : Nat} (hc : rdL c 0 23 = lN s) (hs : s < 2147483648) (h0 : 0 < d) (hd : d < 1000) : fX8_draw (nI d) c = some (nI (zDr s d), wrL c 0 23 (lN (zDraw s))) := by
  have hz := zDraw_lt s
  unfold fX8_draw zDr
  simp only [zNm]
  have hr : rdL (wrL c 0 23 (lN (zDraw s))) 0 23 = lN (zDraw s) := by rw [rL_wr, if_pos ⟨rfl, rfl⟩]
  rw [hc, z_draw64 hs, hr, nI_l (show d < 2147483648 by omega), if_neg (show ¬ lN d = (0 : Int64) from fun q => by have := (lN_eq (a := d) (b := 0) (by omega) (by omega)).mp q; omega), show (65536 : Int64) = lN 65536 from rfl, pk_lDiv (by omega) (by omega) (by omega), pk_lRem (by omega) h0 (by omega), lN_i]
theorem zDr_lt {s d : Nat} (h : 0 < d) : zDr s d < d := Nat.mod_lt _ h
-- what one throw does: seed, came next, lay beside, held by hook
abbrev zT : Type := Nat × Nat × Nat × (Nat → Nat)
def zHeld1 (R : Nat → Nat) (i : Nat) (h : Nat → Nat) : Nat → Nat := fun j => if j = i ∧ R i ≤ h i then 0 else h j
def zIsNx (n : Nat) (Y R : Nat → Nat) (i : Nat) (h : Nat → Nat) (d : Nat) : Bool := decide (zIn 0 (Y i) ≤ d) && decide (d < zIn 0 (Y i) + zNx 0 (Y i) (decide (R (zHookNext n i) ≤ h (zHookNext n i))))
def zInc (i : Nat) (h : Nat → Nat) : Nat → Nat := fun j => if j = i then h j + 1 else h j
def zNat (b : Bool) : Nat := if b then 1 else 0
def zThrow (n : Nat) (Y R : Nat → Nat) (i : Nat) (q : zT) : zT :=
  (zDraw q.1, q.2.1 + zNat (zIsNx n Y R i (zHeld1 R i q.2.2.2) (zDr q.1 10)), q.2.2.1 + zNat (decide (zIn 0 (Y i) ≤ zDr q.1 10) && !zIsNx n Y R i (zHeld1 R i q.2.2.2) (zDr q.1 10)), zInc (if zIsNx n Y R i (zHeld1 R i q.2.2.2) (zDr q.1 10) = true then zHookNext n i else i) (zHeld1 R i q.2.2.2))
def zParcel (n : Nat) (Y R : Nat → Nat) (a : zS) (q : zT) : zT := zThrow n Y R (zHookOf n a (zDr q.1 n)) (zDraw q.1, q.2)
def zShift (n : Nat) (Y R : Nat → Nat) (a : zS) : Nat → zT → zT
  | 0, q => q
  | k + 1, q => zShift n Y R a k (zParcel n Y R a q)
def rcT (c : gw_S) (n b : Nat) (q : zT) : Prop := q.1 < 2147483648 ∧ rdI c 25 1 = nI q.1 ∧ rdI c 25 2 = nI q.2.1 ∧ rdI c 25 3 = nI q.2.2.1 ∧ ∀ i, i < n → rdI c 26 i = nI (q.2.2.2 i) ∧ q.2.2.2 i ≤ b
theorem zHeld1_le {R : Nat → Nat} {i n b : Nat} {h : Nat → Nat} (hb : ∀ j, j < n → h j ≤ b) : ∀ j, j < n → zHeld1 R i h j ≤ b := by
  intro j hj
  unfold zHeld1
  split
  · omega
  · exact hb j hj
theorem zInc_le {i n b : Nat} {h : Nat → Nat} (hb : ∀ j, j < n → h j ≤ b) : ∀ j, j < n → zInc i h j ≤ b + 1 := by
  intro j hj
  have := hb j hj
  unfold zInc
  split <;> omega
theorem pC_throw_J137 {c : gw_S} {n b i : Nat} {h : Nat → Nat} (hn : n ≤ 6) (hi : i < n) (hh : ∀ j, j < n → rdI c 26 j = nI (h j) ∧ h j ≤ b) : ∃ d, fX5_throwAt_J137 (nI i) c = some d ∧ agI c d 26 27 ∧ ∀ j, j < n → rdI d 26 j = nI (zInc i h j) ∧ zInc i h j ≤ b + 1 := by
  refine ⟨wrI c 26 i (nI (h i + 1)), ?_, agI.wr c 26 i _ (by omega) (by omega), fun j hj => ⟨?_, zInc_le (fun j hj => (hh j hj).2) j hj⟩⟩
  · unfold fX5_throwAt_J137
    simp only [zNm]
    rw [z_ix (by omega), decide_eq_true (show i < 6 by omega), if_pos rfl, if_pos rfl, z_cl (by omega), (hh i hi).1, zl1, z_add]
  · unfold zInc
    by_cases e : j = i
    · rw [if_pos e, e, rd_eq]
    · rw [if_neg e, rd_nj e]
      exact (hh j hj).1
theorem pC_throw_J42 {c : gw_S} {n b i : Nat} {Y R O : Nat → Nat} {q : zT} {h : Nat → Nat} (hF : zInvF n Y R O) (hp : rcPlan c n Y R O) (hi : i < n) (h1 : q.1 < 2147483648) (c1 : rdI c 25 1 = nI q.1) (c2 : rdI c 25 2 = nI q.2.1) (c3 : rdI c 25 3 = nI q.2.2.1) (hh : ∀ j, j < n → rdI c 26 j = nI (h j) ∧ h j ≤ b) (hb : b < 1000) {full : Bool} (hfull : full = decide (R (zHookNext n i) ≤ h (zHookNext n i))) : ∃ d, fX5_throwAt_J42 (nI i) (nI (zHookNext n i)) (zb full) c = some d ∧ agI c d 25 27 ∧ rcT d n (b + 1) (zDraw q.1, q.2.1 + zNat (zIsNx n Y R i h (zDr q.1 10)), q.2.2.1 + zNat (decide (zIn 0 (Y i) ≤ zDr q.1 10) && !zIsNx n Y R i h (zDr q.1 10)), zInc (if zIsNx n Y R i h (zDr q.1 10) = true then zHookNext n i else i) h) := by
  have hn : n ≤ 6 := by have := hF.1; omega
  have h3 : 3 ≤ n := by have := hF.1; omega
  have hx := zHookNext_lt hi h3
  have hy := (hF.2 i hi).1.2
  have w0 := pC_ten c (k := 0) (y := Y i) (how := 0) full (by omega) (by omega) (by omega)
  have w1 := pC_ten c (k := 0) (y := Y i) (how := 1) full (by omega) (by omega) (by omega)
  rw [show zTen 0 (Y i) full 0 = zIn 0 (Y i) from rfl, ← zl0] at w0
  rw [show zTen 0 (Y i) full 1 = zNx 0 (Y i) full from rfl, ← zl0, ← zl1] at w1
  have hd := zDr_lt (s := q.1) (d := 10) (by omega)
  have i1 := zIn_le 0 (Y i)
  have i2 := zNx_le 0 (Y i) full
  unfold fX5_throwAt_J42 fX5_throwAt_J120
  rw [z_ix (by omega), decide_eq_true (show i < 6 by omega), if_pos rfl, z_cl (by omega), (hp.2 i hi).1, w0, Option.bind_some, if_pos rfl, w1, Option.bind_some, show (10 : Int32) = nI 10 from rfl, pC_draw c1 h1 (by omega) (by omega)]
  simp only [zNm]
  rw [z_add]
  generalize hz : zDr q.1 10 = z at hd
  have hh2 : ∀ j, j < n → rdI (wrI c 25 1 (nI (zDraw q.1))) 26 j = nI (h j) ∧ h j ≤ b := fun j hj => by rw [rd_nk (by omega)]; exact hh j hj
  have ag0 : agI c (wrI c 25 1 (nI (zDraw q.1))) 25 27 := agI.wr c 25 1 _ (by omega) (by omega)
  have eN : zIsNx n Y R i h z = (decide (zIn 0 (Y i) ≤ z) && decide (z < zIn 0 (Y i) + zNx 0 (Y i) full)) := by unfold zIsNx; rw [hfull]
  show ∃ d, (if nI z < nI (zIn 0 (Y i)) then (if nI z < nI (zIn 0 (Y i) + zNx 0 (Y i) full) then _ else _) else _) = some d ∧ _
  by_cases q1 : z < zIn 0 (Y i)
  · rw [if_pos ((z_lt (by omega) (by omega)).mpr q1), if_pos ((z_lt (by omega) (by omega)).mpr (by omega))]
    obtain ⟨d, d1, d2, d3⟩ := pC_throw_J137 hn hi hh2
    have eF : zIsNx n Y R i h z = false := by rw [eN, decide_eq_false (by omega), Bool.false_and]
    refine ⟨d, d1, ag0.trans (d2.mono (by omega) (by omega)), zDraw_lt _, ?_, ?_, ?_, ?_⟩
    · rw [d2.2 _ _ (by omega), rd_eq]
    · show _ = nI (q.2.1 + zNat (zIsNx n Y R i h z))
      rw [d2.2 _ _ (by omega), rd_nj (by omega), c2, eF]; rfl
    · show _ = nI (q.2.2.1 + zNat (decide (zIn 0 (Y i) ≤ z) && !zIsNx n Y R i h z))
      rw [d2.2 _ _ (by omega), rd_nj (by omega), c3, decide_eq_false (show ¬ zIn 0 (Y i) ≤ z by omega)]; rfl
    · show ∀ j, j < n → rdI d 26 j = nI (zInc (if zIsNx n Y R i h z = true then zHookNext n i else i) h j) ∧ zInc (if zIsNx n Y R i h z = true then zHookNext n i else i) h j ≤ b + 1
      rw [eF, if_neg Bool.false_ne_true]
      exact d3
  · rw [if_neg (fun w => q1 ((z_lt (by omega) (by omega)).mp w))]
    by_cases q2 : z < zIn 0 (Y i) + zNx 0 (Y i) full
    · rw [if_neg (show ¬ nI (zIn 0 (Y i) + zNx 0 (Y i) full) ≤ nI z from fun w => by have := (z_le (by omega) (by omega)).mp w; omega)]
      have eT : zIsNx n Y R i h z = true := by rw [eN, decide_eq_true (by omega), decide_eq_true q2]; rfl
      obtain ⟨d, d1, d2, d3⟩ := pC_throw_J137 (c := wrI (wrI c 25 1 (nI (zDraw q.1))) 25 2 (nI (q.2.1 + 1))) hn hx.1 (fun j hj => by rw [rd_nk (by omega)]; exact hh2 j hj)
      refine ⟨d, ?_, ag0.trans ((agI.wr _ 25 2 _ (by omega) (by omega)).trans (d2.mono (by omega) (by omega))), zDraw_lt _, ?_, ?_, ?_, ?_⟩
      · rw [rd_nj (show (2 : Nat) ≠ 1 by omega), c2, zl1, z_add]
        exact d1
      · rw [d2.2 _ _ (by omega), rd_nj (by omega), rd_eq]
      · show _ = nI (q.2.1 + zNat (zIsNx n Y R i h z))
        rw [d2.2 _ _ (by omega), rd_eq, eT]; rfl
      · show _ = nI (q.2.2.1 + zNat (decide (zIn 0 (Y i) ≤ z) && !zIsNx n Y R i h z))
        rw [d2.2 _ _ (by omega), rd_nj (by omega), rd_nj (by omega), c3, eT, Bool.not_true, Bool.and_false]; rfl
      · show ∀ j, j < n → rdI d 26 j = nI (zInc (if zIsNx n Y R i h z = true then zHookNext n i else i) h j) ∧ zInc (if zIsNx n Y R i h z = true then zHookNext n i else i) h j ≤ b + 1
        rw [eT, if_pos rfl]
        exact d3
    · rw [if_pos (show nI (zIn 0 (Y i) + zNx 0 (Y i) full) ≤ nI z from (z_le (by omega) (by omega)).mpr (by omega)), if_neg (fun w => q2 ((z_lt (by omega) (by omega)).mp w))]
      have eF : zIsNx n Y R i h z = false := by rw [eN, decide_eq_false q2, Bool.and_false]
      obtain ⟨d, d1, d2, d3⟩ := pC_throw_J137 (c := wrI (wrI c 25 1 (nI (zDraw q.1))) 25 3 (nI (q.2.2.1 + 1))) hn hi (fun j hj => by rw [rd_nk (by omega)]; exact hh2 j hj)
      refine ⟨d, ?_, ag0.trans ((agI.wr _ 25 3 _ (by omega) (by omega)).trans (d2.mono (by omega) (by omega))), zDraw_lt _, ?_, ?_, ?_, ?_⟩
      · rw [rd_nj (show (3 : Nat) ≠ 1 by omega), c3, zl1, z_add]
        exact d1
      · rw [d2.2 _ _ (by omega), rd_nj (by omega), rd_eq]
      · show _ = nI (q.2.1 + zNat (zIsNx n Y R i h z))
        rw [d2.2 _ _ (by omega), rd_nj (by omega), rd_nj (by omega), c2, eF]; rfl
      · show _ = nI (q.2.2.1 + zNat (decide (zIn 0 (Y i) ≤ z) && !zIsNx n Y R i h z))
        rw [d2.2 _ _ (by omega), rd_eq, eF, decide_eq_true (show zIn 0 (Y i) ≤ z by omega)]; rfl
      · show ∀ j, j < n → rdI d 26 j = nI (zInc (if zIsNx n Y R i h z = true then zHookNext n i else i) h j) ∧ zInc (if zIsNx n Y R i h z = true then zHookNext n i else i) h j ≤ b + 1
        rw [eF, if_neg Bool.false_ne_true]
        exact d3
theorem pC_throw_J22 {c : gw_S} {n b i : Nat} {Y R O : Nat → Nat} {q : zT} {h : Nat → Nat} (hF : zInvF n Y R O) (hp : rcPlan c n Y R O) (hi : i < n) (h1 : q.1 < 2147483648) (c1 : rdI c 25 1 = nI q.1) (c2 : rdI c 25 2 = nI q.2.1) (c3 : rdI c 25 3 = nI q.2.2.1) (hh : ∀ j, j < n → rdI c 26 j = nI (h j) ∧ h j ≤ b) (hb : b < 1000) : ∃ d, fX5_throwAt_J22 (nI i) (nI (zHookNext n i)) c = some d ∧ agI c d 25 27 ∧ rcT d n (b + 1) (zDraw q.1, q.2.1 + zNat (zIsNx n Y R i h (zDr q.1 10)), q.2.2.1 + zNat (decide (zIn 0 (Y i) ≤ zDr q.1 10) && !zIsNx n Y R i h (zDr q.1 10)), zInc (if zIsNx n Y R i h (zDr q.1 10) = true then zHookNext n i else i) h) := by
  have hn : n ≤ 6 := by have := hF.1; omega
  have h3 : 3 ≤ n := by have := hF.1; omega
  have hx := zHookNext_lt hi h3
  have hr := (hF.2 _ hx.1).2.1.2
  have hq := hh _ hx.1
  unfold fX5_throwAt_J22
  rw [z_ix (by omega), decide_eq_true (show zHookNext n i < 6 by omega), if_pos rfl, if_pos rfl, z_cl (by omega), hq.1, (hp.2 _ hx.1).2.1]
  by_cases w : h (zHookNext n i) < R (zHookNext n i)
  · rw [if_pos ((z_lt (by omega) (by omega)).mpr w)]
    exact pC_throw_J42 (full := false) hF hp hi h1 c1 c2 c3 hh hb (decide_eq_false (by omega)).symm
  · rw [if_neg (fun x => w ((z_lt (by omega) (by omega)).mp x))]
    exact pC_throw_J42 (full := true) hF hp hi h1 c1 c2 c3 hh hb (decide_eq_true (by omega)).symm
theorem pC_throw {c : gw_S} {n b i : Nat} {Y R O : Nat → Nat} {q : zT} (hF : zInvF n Y R O) (hp : rcPlan c n Y R O) (hi : i < n) (hT : rcT c n b q) (hb : b < 1000) : ∃ d, fX5_throwAt (nI i) (nI (zHookNext n i)) c = some d ∧ agI c d 25 27 ∧ rcT d n (b + 1) (zThrow n Y R i q) := by
  have hn : n ≤ 6 := by have := hF.1; omega
  obtain ⟨h1, c1, c2, c3, hh⟩ := hT
  have hr := (hF.2 _ hi).2.1.2
  have hq := hh _ hi
  unfold fX5_throwAt zThrow
  simp only [zNm]
  rw [z_ix (by omega), decide_eq_true (show i < 6 by omega), if_pos rfl, if_pos rfl, z_cl (by omega), hq.1, (hp.2 _ hi).2.1]
  by_cases w : q.2.2.2 i < R i
  · rw [if_pos ((z_lt (by omega) (by omega)).mpr w)]
    have e : zHeld1 R i q.2.2.2 = q.2.2.2 := by
      funext j
      unfold zHeld1
      rw [if_neg (by omega)]
    rw [e]
    exact pC_throw_J22 hF hp hi h1 c1 c2 c3 hh hb
  · rw [if_neg (fun x => w ((z_lt (by omega) (by omega)).mp x)), if_pos rfl]
    obtain ⟨d, d1, d2, d3⟩ := pC_throw_J22 (c := wrI c 26 i 0) (h := zHeld1 R i q.2.2.2) (b := b) (q := q) hF (hp.fr (fun x y _ _ => rd_nk (by omega))) hi h1 (by rw [rd_nk (by omega)]; exact c1) (by rw [rd_nk (by omega)]; exact c2) (by rw [rd_nk (by omega)]; exact c3) (fun j hj => ⟨by
      unfold zHeld1
      by_cases e : j = i
      · rw [if_pos ⟨e, by omega⟩, e, rd_eq]; rfl
      · rw [if_neg (fun x => e x.1), rd_nj e]
        exact (hh j hj).1, zHeld1_le (fun j hj => (hh j hj).2) j hj⟩) hb
    exact ⟨d, d1, (agI.wr c 26 i 0 (by omega) (by omega)).trans d2, d3⟩
theorem pC_hookOfT {c : gw_S} {n : Nat} {a : zS} (hs : ∀ h, h < 6 → rdI c 8 h = nI (zTown a h)) (hS : zInvS n a) (hn : n ≤ 6) {t : Nat} (ht : t < n) : fX4_hookOf (nI t) c = some (nI (zHookOf n a t)) := by
  have h1 := zHookOf_lt hS ht
  have h2 := zHookOf_town hS ht
  unfold fX4_hookOf
  rw [zl0]
  refine pC_hookOf_L (T := zTown a) (i := zHookOf n a t) hs (fun j hj => ?_) (by omega) (by omega) h2 (fun j hj q => ?_) _ (zHookOf n a t) 2000 0 (by omega) (by omega)
  · by_cases h : j < n
    · have := hS.1 j h; omega
    · rw [hS.2.2.1 j (by omega) hj (by omega)]; omega
  · have := hS.2.1 j (zHookOf n a t) (by omega) h1 (q.trans h2.symm)
    omega
theorem pC_run_L {n : Nat} {Y R O : Nat → Nat} {a : zS} (hF : zInvF n Y R O) (hS : zInvS n a) (h0 : 0 < n) {p : Nat} (hp60 : p ≤ 60) (Kx : Int32 → gw_S → Option gw_S) : ∀ k f s b q c, s + k = p → k < f → b = s → rcPlan c n Y R O → (∀ h, h < 6 → rdI c 8 h = nI (zTown a h)) → rcT c n b q → ∃ d, agI c d 25 27 ∧ rcT d n p (zShift n Y R a k q) ∧ fX5_run_L27 Kx (nI p) f (nI s) c = Kx (nI p) d := by
  have hn : n ≤ 6 := by have := hF.1; omega
  intro k
  induction k with
  | zero =>
    intro f s b q c hs hf hb hp h8 hT
    obtain ⟨f, rfl⟩ : ∃ g, f = g + 1 := ⟨f - 1, by omega⟩
    have : s = p := by omega
    subst this
    subst hb
    exact ⟨c, agI.refl c _ _, hT, by rw [fX5_run_L27, if_pos ((z_le (a := b) (b := b) (by omega) (by omega)).mpr (Nat.le_refl _))]⟩
  | succ k ih =>
    intro f s b q c hs hf hb hp h8 hT
    obtain ⟨f, rfl⟩ : ∃ g, f = g + 1 := ⟨f - 1, by omega⟩
    have ht := zDr_lt (s := q.1) (d := n) h0
    have hi := zHookOf_lt hS ht
    have h3 : 3 ≤ n := by have := hF.1; omega
    have hx := zHookNext_lt hi h3
    have ag0 : agI c (wrI c 25 1 (nI (zDraw q.1))) 25 27 := agI.wr c 25 1 _ (by omega) (by omega)
    have hp1 : rcPlan (wrI c 25 1 (nI (zDraw q.1))) n Y R O := hp.fr (fun x y _ _ => rd_nk (by omega))
    obtain ⟨d, d1, d2, d3⟩ := pC_throw (q := (zDraw q.1, q.2)) (b := b) hF hp1 hi ⟨zDraw_lt _, rd_eq _ _ _ _, by rw [rd_nj (by omega)]; exact hT.2.2.1, by rw [rd_nj (by omega)]; exact hT.2.2.2.1, fun j hj => by rw [rd_nk (by omega)]; exact hT.2.2.2.2 j hj⟩ (by omega)
    have ag1 := ag0.trans d2
    obtain ⟨e, e1, e2, e3⟩ := ih f (s + 1) (b + 1) _ d (by omega) (by omega) (by omega) (hp.fr (fun x y _ _ => ag1.2 _ _ (by omega))) (fun h hh => by rw [ag1.2 _ _ (by omega)]; exact h8 h hh) d3
    refine ⟨e, ag1.trans e1, e2, ?_⟩
    rw [fX5_run_L27, if_neg (show ¬ nI p ≤ nI s from fun w => by have := (z_le (a := p) (b := s) (by omega) (by omega)).mp w; omega), hp.1, pC_draw hT.2.1 hT.1 h0 (by omega)]
    unfold fX5_run_J85
    simp only [zNm]
    show ((fX4_hookOf (nI (zDr q.1 n)) (wrI c 25 1 (nI (zDraw q.1)))).bind _) = _
    rw [pC_hookOfT (a := a) (fun h hh => by rw [rd_nk (by omega)]; exact h8 h hh) hS hn ht, Option.bind_some, hp1.1, pC_next _ hn hi h3, pC_has hp1.1 hn, zK_nI (show zHookOf n a (zDr q.1 n) < 2147483648 by omega) (by omega), decide_eq_true hi, if_neg (show ¬ zb true = 0 by decide), pC_has hp1.1 hn, zK_nI (show zHookNext n (zHookOf n a (zDr q.1 n)) < 2147483648 by omega) (by omega), decide_eq_true hx.1, if_neg (show ¬ zb true = 0 by decide), d1, Option.bind_some, show nI s + 1 = nI (s + 1) from z_add s 1]
    exact e3
def aShifts (n : Nat) (Y R : Nat → Nat) (a : zS) (x y w : Int32) : Int32 :=
  if (x < 1 ∨ 60 < x) ∨ y < 0 ∨ w < 0 ∨ ¬ w ≤ 2 then -102 else if n = 0 then -103 else
    if w = 0 then nI (zShift n Y R a (Int32.toNatClampNeg x) (Int32.toNatClampNeg y, 0, 0, fun _ => 0)).2.1 else if w = 1 then nI (zShift n Y R a (Int32.toNatClampNeg x) (Int32.toNatClampNeg y, 0, 0, fun _ => 0)).2.2.1 else nI (zShift n Y R a (Int32.toNatClampNeg x) (Int32.toNatClampNeg y, 0, 0, fun _ => 0)).1
theorem rcAll.trial {c d : gw_S} {P : List Nat} {n : Nat} {Y R O : Nat → Nat} {fl : Nat} {a : zS} {k : Option zS} (h : rcAll c P n Y R O fl a k) (hd : agI c d 25 27) : rcAll d P n Y R O fl a k := by
  obtain ⟨h1, h2, h3, h4, h5, h6, h7, h8, h9, h10⟩ := h
  refine ⟨h1.fr (hd.2 _ _ (by omega)) (fun j => hd.2 _ _ (by omega)), h2.fr (fun i j _ _ => hd.2 _ _ (by omega)), h3.fr (hd.R 9), h4.fr (hd.R 14), h5.fr h3 (hd.R 9) (fun i j _ _ => hd.2 _ _ (by omega)) (fun i j _ _ => hd.2 _ _ (by omega)), by rw [hd.2 _ _ (by omega)]; exact h6, fun ka hk => ?_, fun hk => by rw [hd.2 _ _ (by omega)]; exact h8 hk, fun h0 => ?_, ?_⟩
  · obtain ⟨x, y⟩ := h7 ka hk
    exact ⟨by rw [hd.2 _ _ (by omega)]; exact x, y.fr h4 (hd.R 14) (fun i j _ _ => hd.2 _ _ (by omega)) (fun i j _ _ => hd.2 _ _ (by omega))⟩
  · rw [hd.2 _ _ (by omega)]
    exact ⟨(h9 h0).1, fun x hx => by rw [hd.2 _ _ (by omega)]; exact (h9 h0).2 x hx⟩
  · unfold rcWays
    rw [hd.2 _ _ (by omega), hd.2 _ _ (by omega)]
    rcases h10 with h | ⟨h, h'⟩
    · exact Or.inl h
    · exact Or.inr ⟨h, fun h0 => ⟨(h' h0).1, fun t ht => by rw [hd.2 _ _ (by omega)]; exact (h' h0).2 t ht⟩⟩
theorem pC_shifts {P : List Nat} {n : Nat} {Y R O : Nat → Nat} {fl : Nat} {a : zS} {k : Option zS} {c : gw_S} (h : rcAll c P n Y R O fl a k) (hI : zInv P n Y R O fl a k) (x y w : Int32) : ∃ d, fX7_shifts x y w c = some (aShifts n Y R a x y w, d) ∧ rcAll d P n Y R O fl a k := by
  have hn := hI.n6
  unfold fX7_shifts aShifts
  by_cases x1 : x < 1
  · exact ⟨c, by rw [if_pos x1, if_pos (Or.inl (Or.inl x1))], h⟩
  by_cases x2 : 60 < x
  · exact ⟨c, by rw [if_neg x1, if_pos x2, if_pos (Or.inl (Or.inr x2))], h⟩
  by_cases x3 : y < 0
  · exact ⟨c, by rw [if_neg x1, if_neg x2, if_pos x3, if_pos (Or.inr (Or.inl x3))], h⟩
  by_cases x4 : w < 0
  · exact ⟨c, by rw [if_neg x1, if_neg x2, if_neg x3, if_pos x4, if_pos (Or.inr (Or.inr (Or.inl x4)))], h⟩
  by_cases x5 : w ≤ 2
  · rw [if_neg x1, if_neg x2, if_neg x3, if_neg x4, if_pos x5, if_neg (show ¬ ((x < 1 ∨ 60 < x) ∨ y < 0 ∨ w < 0 ∨ ¬ w ≤ 2) from fun q => by
      rcases q with (q | q) | q | q | q
      · exact x1 q
      · exact x2 q
      · exact x3 q
      · exact x4 q
      · exact q x5), h.2.1.1]
    by_cases h0 : n = 0
    · rw [if_pos h0, if_pos (by rw [h0]; rfl)]
      exact ⟨c, rfl, h⟩
    · rw [if_neg h0, if_neg (show ¬ nI n = (0 : Int32) from fun q => h0 ((z_eq (a := n) (b := 0) (by omega) (by omega)).mp q))]
      obtain ⟨p, hp, rfl⟩ : ∃ p, p ≤ 60 ∧ x = nI p := by
        rcases z_cases x with q | ⟨j, hj, rfl⟩
        · exact absurd (z_negle (j := 1) q (by omega)) x1
        · exact ⟨j, Nat.le_of_not_lt (fun z => x2 ((z_lt (a := 60) (b := j) (by omega) hj).mpr z)), rfl⟩
      obtain ⟨s, hs, rfl⟩ := z_of x3
      unfold fX5_run
      obtain ⟨e, e1, e2, e3⟩ := pC_fill26 0 c
      obtain ⟨d, d1, d2, d3⟩ := pC_run_L hI.2.1 hI.2.2.2.1 (by omega) hp (fun v5_x27 t_x27 => some t_x27) p 2000 0 0 (s, 0, 0, fun _ => 0) (wrI (wrI (wrI e 25 1 (nI s)) 25 2 0) 25 3 0) (by omega) (by omega) rfl (h.2.1.fr (fun i j _ _ => by rw [rd_nk (by omega), rd_nk (by omega), rd_nk (by omega), e1.2 _ _ (by omega)])) (fun i hi => by rw [rd_nk (by omega), rd_nk (by omega), rd_nk (by omega), e1.2 _ _ (by omega)]; exact h.2.2.2.2.1.1 i hi) ⟨hs, by rw [rd_nj (by omega), rd_nj (by omega), rd_eq], by rw [rd_nj (by omega), rd_eq]; rfl, by rw [rd_eq]; rfl, fun i hi => ⟨by rw [rd_nk (by omega), rd_nk (by omega), rd_nk (by omega), e2 i (by omega)]; rfl, Nat.le_refl _⟩⟩
      have ag : agI c d 25 27 := (e1.mono (by omega) (by omega)).trans (((agI.wr e 25 1 (nI s) (by omega) (by omega)).trans ((agI.wr _ 25 2 0 (by omega) (by omega)).trans (agI.wr _ 25 3 0 (by omega) (by omega)))).trans d1)
      rw [← zl0] at d3
      simp only [zNm]
      rw [e3, Option.bind_some, d3, Option.bind_some, z_cl (by omega), z_cl hs]
      by_cases w0 : w = 0
      · rw [if_pos w0, if_pos w0]
        exact ⟨d, by rw [d2.2.2.1], h.trial ag⟩
      · rw [if_neg w0, if_neg w0]
        by_cases w1 : w = 1
        · rw [if_pos w1, if_pos w1]
          exact ⟨d, by rw [d2.2.2.2.1], h.trial ag⟩
        · rw [if_neg w1, if_neg w1]
          exact ⟨d, by rw [d2.2.1], h.trial ag⟩
  · exact ⟨c, by rw [if_neg x1, if_neg x2, if_neg x3, if_neg x4, if_neg x5, if_pos (Or.inr (Or.inr (Or.inr x5)))], h⟩
