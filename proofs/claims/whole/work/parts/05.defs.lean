/-! The functions read off the bytecode: written by wip/whole/genall.py. -/
-- ThrownSacks$Page.add(I)V
def fX1_add (v1 : Int32) (t0 : gw_S) : Option (gw_S) := if (rdI t0 1 1) < 0 then (some t0) else (if 24 ≤ (rdI t0 1 1) then (some t0) else (if gw_ix (rdI t0 1 1) 24 = true then (gw_nm (wrI t0 2 (Int32.toNatClampNeg (rdI t0 1 1)) v1) (fun t_28 => gw_nm (wrI t_28 1 1 ((rdI t_28 1 1) + 1)) (fun t_36 => some t_36))) else none))
-- ThrownSacks.letter(I)I
def fX7_letter (v1 : Int32) (t0 : gw_S) : Option (Int32 × gw_S) := if v1 < 32 then (some ((-102), t0)) else (if v1 ≤ 126 then (if (rdI t0 1 1) < 24 then ((fX1_add v1 t0).bind (fun t_35 => some ((rdI t_35 1 1), t_35))) else (some ((-104), t0))) else (some ((-102), t0)))
-- ThrownSacks.blank()I
def fX7_blank (t0 : gw_S) : Option (Int32 × gw_S) := gw_nm ((rdI t0 1 1)) (fun v1_7 => gw_nm (wrI t0 1 1 0) (fun t_13 => some (v1_7, t_13)))
-- ThrownSacks$Page.codeAt(I)I
def fX1_codeAt (v1 : Int32) (t0 : gw_S) : Option (Int32) := if v1 < 0 then (some 0) else (if (rdI t0 1 1) ≤ v1 then (some 0) else (if gw_ix v1 24 = true then (some (rdI t0 2 (Int32.toNatClampNeg v1))) else none))
-- ThrownSacks$Page.canTellOfHooks(II)Z
def fX1_canTellOfHooks (v0 : Int32) (v1 : Int32) (t0 : gw_S) : Int32 := if (v0 - v0 / 3 * 3) = 0 then (if v1 < 49 then (0) else (if 56 < v1 then (0) else (1))) else (if (v0 - v0 / 3 * 3) = 1 then (if v1 < 49 then (0) else (if 57 < v1 then (0) else (1))) else (gw_nm (((v0 + 1) / 3)) (fun v2_54 => if v1 = 44 then (if 6 ≤ v2_54 then (0) else (1)) else (if v1 = 59 then (if v2_54 < 3 then (0) else (1)) else (0)))))
-- ThrownSacks$Page.firstWrong()I
def fX1_firstWrong_J65 (Kx : Int32 → Int32 → Option (Int32)) (Kh : Int32 → Int32 → Option (Int32)) (v1 : Int32) (v2 : Int32) (t0 : gw_S) : Option (Int32) := gw_nm (v2 + 1) (fun v2_65 => Kh v1 v2_65)
def fX1_firstWrong_L4 (Kx : Int32 → Int32 → Option (Int32)) (t0 : gw_S) : Nat → Int32 → Int32 → Option (Int32)
  | 0, _, _ => none
  | n + 1, v1, v2 => if (rdI t0 1 1) ≤ v2 then (Kx v1 v2) else ((fX1_codeAt v2 t0).bind (fun r14 => if v1 ≤ 0 then (if (fX1_canTellOfHooks v2 r14 t0) = 0 then (some v2) else (if r14 = 59 then (gw_nm (((v2 + 1) / 3)) (fun v1_64 => fX1_firstWrong_J65 Kx (fX1_firstWrong_L4 Kx t0 n) v1_64 v2 t0)) else (fX1_firstWrong_J65 Kx (fX1_firstWrong_L4 Kx t0 n) v1 v2 t0))) else (if (4 * v1) ≤ v2 then (some v2) else (if r14 < 48 then (some v2) else (if r14 ≤ 57 then (fX1_firstWrong_J65 Kx (fX1_firstWrong_L4 Kx t0 n) v1 v2 t0) else (some v2))))))
def fX1_firstWrong (t0 : gw_S) : Option (Int32) := fX1_firstWrong_L4 (fun v1_x4 v2_x4 => some (rdI t0 1 1)) t0 2000 0 0
-- ThrownSacks.fault()I
def fX7_fault (t0 : gw_S) : Option (Int32) := (fX1_firstWrong t0).bind (fun r4 => some r4)
-- ThrownSacks$Page.hooksTold()I
def fX1_hooksTold_L2 (Kx : Int32 → Option (Int32)) (t0 : gw_S) : Nat → Int32 → Option (Int32)
  | 0, _ => none
  | n + 1, v1 => if (rdI t0 1 1) ≤ v1 then (Kx v1) else ((fX1_codeAt v1 t0).bind (fun r12 => if r12 = 59 then (some ((v1 + 1) / 3)) else (gw_nm (v1 + 1) (fun v1_26 => (fX1_hooksTold_L2 Kx t0 n) v1_26))))
def fX1_hooksTold (t0 : gw_S) : Option (Int32) := fX1_hooksTold_L2 (fun v1_x2 => some 0) t0 2000 0
-- ThrownSacks$Page.isFloor()Z
def fX1_isFloor (t0 : gw_S) : Option (Int32) := (fX1_hooksTold t0).bind (fun r1 => if r1 ≤ 0 then (some 0) else (if (rdI t0 1 1) = (4 * r1) then ((fX1_firstWrong t0).bind (fun r20 => if r20 = (rdI t0 1 1) then (some 1) else (some 0))) else (some 0)))
-- ThrownSacks$Page.digitAt(I)I
def fX1_digitAt (v1 : Int32) (t0 : gw_S) : Option (Int32) := (fX1_codeAt v1 t0).bind (fun r2 => some (r2 - 48))
-- ThrownSacks$Plan.read(LThrownSacks$Page;)V
def fX2_read_L15 (Kx : Int32 → gw_S → Option (gw_S)) : Nat → Int32 → gw_S → Option (gw_S)
  | 0, _, _ => none
  | n + 1, v2, t => if (rdI t 3 3) ≤ v2 then (Kx v2 t) else ((fX1_digitAt (3 * v2) t).bind (fun r32 => if gw_ix v2 6 = true then (gw_nm (wrI t 4 (Int32.toNatClampNeg v2) r32) (fun t_35 => (fX1_digitAt ((3 * v2) + 1) t_35).bind (fun r47 => if gw_ix v2 6 = true then (gw_nm (wrI t_35 5 (Int32.toNatClampNeg v2) r47) (fun t_50 => (fX1_digitAt ((3 * (rdI t_50 3 3)) + v2) t_50).bind (fun r65 => if gw_ix v2 6 = true then (gw_nm (wrI t_50 6 (Int32.toNatClampNeg v2) r65) (fun t_68 => gw_nm (v2 + 1) (fun v2_69 => (fX2_read_L15 Kx n) v2_69 t_68))) else none))) else none))) else none))
def fX2_read (t0 : gw_S) : Option (gw_S) := (fX1_hooksTold t0).bind (fun r2 => gw_nm (wrI t0 3 3 (if 6 < r2 then 6 else r2)) (fun t_10 => fX2_read_L15 (fun v2_x15 t_x15 => some t_x15) 2000 0 t_10))
-- ThrownSacks$Standing.start()V
def fX4_start_L2 (Kx : Int32 → gw_S → Option (gw_S)) : Nat → Int32 → gw_S → Option (gw_S)
  | 0, _, _ => none
  | n + 1, v1, t => if 6 ≤ v1 then (Kx v1 t) else (if gw_ix v1 6 = true then (gw_nm (wrI t 8 (Int32.toNatClampNeg v1) v1) (fun t_14 => if gw_ix v1 6 = true then (gw_nm (rdR t_14 9 (Int32.toNatClampNeg v1)) (fun r20 => if gw_row r20 = true then (gw_nm (wrI t_14 r20 3 0) (fun t_22 => gw_nm (v1 + 1) (fun v1_25 => (fX4_start_L2 Kx n) v1_25 t_22))) else none)) else none)) else none)
def fX4_start (t0 : gw_S) : Option (gw_S) := fX4_start_L2 (fun v1_x2 t_x2 => gw_nm (wrI t_x2 27 3 0) (fun t_36 => gw_nm (wrI t_36 7 5 0) (fun t_41 => gw_nm (wrI t_41 7 6 0) (fun t_46 => gw_nm (wrI t_46 7 7 0) (fun t_51 => some t_51))))) 2000 0 t0
-- ThrownSacks.gripOf(I)I
def fX7_gripOf (v0 : Int32) (t0 : gw_S) : Option (Int32) := if v0 < 0 then (some 0) else (if 5 ≤ v0 then (some 0) else (if gw_ix v0 5 = true then (some (gw_gi (Int32.toNatClampNeg v0))) else none))
-- ThrownSacks.tenthsOf(IIZI)I
def fX7_tenthsOf_J35 (v3 : Int32) (v4 : Int32) (x0 : Int32) (t0 : gw_S) : Option (Int32) := if v3 = 0 then (some v4) else (if v3 = 1 then (some x0) else (some ((10 - v4) - x0)))
def fX7_tenthsOf (v0 : Int32) (v1 : Int32) (v2 : Int32) (v3 : Int32) (t0 : gw_S) : Option (Int32) := (fX7_gripOf v0 t0).bind (fun r6 => gw_nm ((if 0 < (if ((10 + r6) - v1) < 10 then ((10 + r6) - v1) else 10) then (if ((10 + r6) - v1) < 10 then ((10 + r6) - v1) else 10) else 0)) (fun v4_18 => if v2 = 0 then (fX7_tenthsOf_J35 v3 v4_18 ((10 - v4_18) / 3) t0) else (fX7_tenthsOf_J35 v3 v4_18 0 t0)))
-- ThrownSacks.carrySeconds(I)I
def fX7_carrySeconds (v0 : Int32) (t0 : gw_S) : Int32 := ((2 * v0) + 3)
-- ThrownSacks.carryTenths(I)I
def fX7_carryTenths (v0 : Int32) (t0 : gw_S) : Int32 := (10 * (fX7_carrySeconds v0 t0))
-- ThrownSacks.costOf(IIZ)I
def fX7_costOf_J59 (v6 : Int32) (t0 : gw_S) : Option (Int32) := some (20 + (v6 / 10))
def fX7_costOf (v0 : Int32) (v1 : Int32) (v2 : Int32) (t0 : gw_S) : Option (Int32) := (fX7_tenthsOf v0 v1 v2 0 t0).bind (fun r4 => (fX7_tenthsOf v0 v1 v2 1 t0).bind (fun r12 => (fX7_tenthsOf v0 v1 v2 2 t0).bind (fun r21 => gw_nm (((600 * r12) + ((fX7_carryTenths v1 t0) * r21))) (fun v6_40 => if v0 = 3 then (gw_nm ((v6_40 + (90 * (r4 + r12)))) (fun v6_57 => fX7_costOf_J59 v6_57 t0)) else (fX7_costOf_J59 v6_40 t0)))))
-- java/lang/Integer.bitCount(I)I
def fJ6_bitCount_0f7a4 (v0 : Int32) (t0 : gw_S) : Int32 := gw_nm ((v0 - ((((Int32.toUInt32 v0) >>> ((Int32.toUInt32 1) &&& Int32.toUInt32 31)).toInt32) &&& 1431655765))) (fun v0_9 => gw_nm (((v0_9 &&& 858993459) + ((((Int32.toUInt32 v0_9) >>> ((Int32.toUInt32 2) &&& Int32.toUInt32 31)).toInt32) &&& 858993459))) (fun v0_23 => gw_nm (((v0_23 + (((Int32.toUInt32 v0_23) >>> ((Int32.toUInt32 4) &&& Int32.toUInt32 31)).toInt32)) &&& 252645135)) (fun v0_33 => gw_nm ((v0_33 + (((Int32.toUInt32 v0_33) >>> ((Int32.toUInt32 8) &&& Int32.toUInt32 31)).toInt32))) (fun v0_40 => gw_nm ((v0_40 + (((Int32.toUInt32 v0_40) >>> ((Int32.toUInt32 16) &&& Int32.toUInt32 31)).toInt32))) (fun v0_47 => (v0_47 &&& 63))))))
-- ThrownSacks$Plan.has(I)Z
def fX2_has (v1 : Int32) (t0 : gw_S) : Int32 := if v1 < 0 then (0) else (if (rdI t0 3 3) ≤ v1 then (0) else (1))
theorem bl_X2_has (v1 : Int32) (t0 : gw_S) : gw_bl (fX2_has v1 t0) = true := by
  unfold fX2_has
  by_cases h1 : v1 < 0
  · rw [if_pos h1]; decide
  · rw [if_neg h1]
    by_cases h2 : rdI t0 3 3 ≤ v1
    · rw [if_pos h2]; decide
    · rw [if_neg h2]; decide
-- ThrownSacks$Plan.oftenOf(I)I
def fX2_oftenOf (v1 : Int32) (t0 : gw_S) : Option (Int32) := if (fX2_has v1 t0) = 0 then (some 0) else (if gw_ix v1 6 = true then (some (rdI t0 6 (Int32.toNatClampNeg v1))) else none)
-- ThrownSacks$Best.withTown(LThrownSacks$Plan;II)I
def fX0_withTown (v2 : Int32) (v3 : Int32) (t0 : gw_S) : Option (Int32) := gw_nm ((fJ6_bitCount_0f7a4 v2 t0)) (fun v4_4 => gw_nm ((v2 ||| (1 <<< (v3 &&& 31)))) (fun v5_11 => if (rdI t0 3 3) ≤ v4_4 then (some 0) else (if v5_11 < 64 then ((fX2_oftenOf v3 t0).bind (fun r36 => if gw_ix v4_4 6 = true then (if gw_ix v5_11 64 = true then (some ((r36 * (rdI t0 19 (Int32.toNatClampNeg v4_4))) + (rdI t0 20 (Int32.toNatClampNeg v5_11)))) else none) else none)) else (some 0))))
-- ThrownSacks$Best.bestTown(LThrownSacks$Plan;I)I
def fX0_bestTown_J55 (Kx : Int32 → Int32 → Int32 → Option (Int32)) (Kh : Int32 → Int32 → Int32 → Option (Int32)) (v2 : Int32) (v3 : Int32) (v4 : Int32) (v5 : Int32) (t0 : gw_S) : Option (Int32) := gw_nm (v5 + 1) (fun v5_55 => Kh v3 v4 v5_55)
def fX0_bestTown_J48 (Kx : Int32 → Int32 → Int32 → Option (Int32)) (Kh : Int32 → Int32 → Int32 → Option (Int32)) (v2 : Int32) (v5 : Int32) (v6 : Int32) (t0 : gw_S) : Option (Int32) := fX0_bestTown_J55 Kx Kh v2 v5 v6 v5 t0
def fX0_bestTown_L8 (Kx : Int32 → Int32 → Int32 → Option (Int32)) (v2 : Int32) (t0 : gw_S) : Nat → Int32 → Int32 → Int32 → Option (Int32)
  | 0, _, _, _ => none
  | n + 1, v3, v4, v5 => if (rdI t0 3 3) ≤ v5 then (Kx v3 v4 v5) else (if ((v2 >>> (v5 &&& 31)) &&& 1) = 0 then ((fX0_withTown v2 v5 t0).bind (fun r31 => if v3 = (-1) then (fX0_bestTown_J48 Kx (fX0_bestTown_L8 Kx v2 t0 n) v2 v5 r31 t0) else (if v4 ≤ r31 then (fX0_bestTown_J55 Kx (fX0_bestTown_L8 Kx v2 t0 n) v2 v3 v4 v5 t0) else (fX0_bestTown_J48 Kx (fX0_bestTown_L8 Kx v2 t0 n) v2 v5 r31 t0)))) else (fX0_bestTown_J55 Kx (fX0_bestTown_L8 Kx v2 t0 n) v2 v3 v4 v5 t0))
def fX0_bestTown (v2 : Int32) (t0 : gw_S) : Option (Int32) := fX0_bestTown_L8 (fun v3_x8 v4_x8 v5_x8 => if v3_x8 = (-1) then (some 0) else (some v3_x8)) v2 t0 2000 (-1) 0 0
-- ThrownSacks$Best.seek(LThrownSacks$Plan;)V
def fX0_seek_L105 (Kx : Int32 → Int32 → gw_S → Option (gw_S)) : Nat → Int32 → Int32 → gw_S → Option (gw_S)
  | 0, _, _, _ => none
  | n + 1, v3, v4, t => if (rdI t 3 3) ≤ v4 then (Kx v3 v4 t) else ((fX0_bestTown v3 t).bind (fun r123 => if gw_ix v4 6 = true then (gw_nm (wrI t 18 (Int32.toNatClampNeg v4) r123) (fun t_126 => if gw_ix v4 6 = true then (gw_nm ((v3 ||| (1 <<< ((rdI t_126 18 (Int32.toNatClampNeg v4)) &&& 31)))) (fun v3_138 => gw_nm (v4 + 1) (fun v4_139 => (fX0_seek_L105 Kx n) v3_138 v4_139 t_126))) else none)) else none))
def fX0_seek_L62 (Kx : Int32 → gw_S → Option (gw_S)) : Nat → Int32 → gw_S → Option (gw_S)
  | 0, _, _ => none
  | n + 1, v3, t => if v3 < 0 then (Kx v3 t) else ((fX0_bestTown v3 t).bind (fun r77 => (fX0_withTown v3 r77 t).bind (fun r80 => if gw_ix v3 64 = true then (gw_nm (wrI t 20 (Int32.toNatClampNeg v3) r80) (fun t_83 => gw_nm (v3 + (-1)) (fun v3_84 => (fX0_seek_L62 Kx n) v3_84 t_83))) else none)))
def fX0_seek_L2 (Kx : Int32 → gw_S → Option (gw_S)) : Nat → Int32 → gw_S → Option (gw_S)
  | 0, _, _ => none
  | n + 1, v2, t => if (rdI t 3 3) ≤ v2 then (Kx v2 t) else (if gw_ix v2 6 = true then (gw_nm ((rdI t 4 (Int32.toNatClampNeg v2))) (fun v3_16 => (fX7_costOf 0 v3_16 0 t).bind (fun r25 => if gw_ix v2 6 = true then (gw_nm (wrI t 19 (Int32.toNatClampNeg v2) (if (fX7_carryTenths v3_16 t) < r25 then (fX7_carryTenths v3_16 t) else r25)) (fun t_35 => gw_nm (v2 + 1) (fun v2_36 => (fX0_seek_L2 Kx n) v2_36 t_35))) else none))) else none)
def fX0_seek (t0 : gw_S) : Option (gw_S) := fX0_seek_L2 (fun v2_x2 t_x2 => gw_nm (((1 <<< ((rdI t_x2 3 3) &&& 31)) - 1)) (fun v2_50 => if gw_ix v2_50 64 = true then (gw_nm (wrI t_x2 20 (Int32.toNatClampNeg v2_50) 0) (fun t_57 => gw_nm ((v2_50 - 1)) (fun v3_61 => fX0_seek_L62 (fun v3_x62 t_x62 => if gw_ix 0 64 = true then (gw_nm (wrI t_x62 17 3 (rdI t_x62 20 (Int32.toNatClampNeg 0))) (fun t_97 => fX0_seek_L105 (fun v3_x105 v4_x105 t_x105 => some t_x105) 2000 0 0 t_97)) else none) 2000 v3_61 t_57))) else none)) 2000 0 t0
-- ThrownSacks.floor()I
def fX7_floor (t0 : gw_S) : Option (Int32 × gw_S) := (fX1_isFloor t0).bind (fun r4 => if r4 = 0 then (some ((-103), t0)) else ((fX2_read t0).bind (fun t_21 => gw_nm (wrI t_21 1 1 0) (fun t_29 => (fX4_start t_29).bind (fun t_36 => (fX0_seek t_36).bind (fun t_47 => gw_nm (wrI t_47 21 3 0) (fun t_55 => gw_nm (wrI t_55 0 7 0) (fun t_60 => gw_nm (wrI t_60 0 8 ((rdI t_60 0 8) + 1)) (fun t_70 => some ((rdI t_70 3 3), t_70))))))))))
-- ThrownSacks.isKnown(I)Z
def fX7_isKnown (v1 : Int32) (t0 : gw_S) : Int32 := (fX2_has v1 t0)
-- ThrownSacks$Row.ofKind(I)I
def fX3_ofKind_J25 (Kx : Int32 → Int32 → Option (Int32)) (Kh : Int32 → Int32 → Option (Int32)) (q0 : Nat) (v1 : Int32) (v2 : Int32) (v3 : Int32) (t0 : gw_S) : Option (Int32) := gw_nm (v3 + 1) (fun v3_25 => Kh v2 v3_25)
def fX3_ofKind_L4 (Kx : Int32 → Int32 → Option (Int32)) (q0 : Nat) (v1 : Int32) (t0 : gw_S) : Nat → Int32 → Int32 → Option (Int32)
  | 0, _, _ => none
  | n + 1, v2, v3 => if (rdI t0 q0 3) ≤ v3 then (Kx v2 v3) else (if gw_ix v3 9 = true then (if (rdI t0 (q0 + 1) (Int32.toNatClampNeg v3)) = v1 then (gw_nm (v2 + 1) (fun v2_22 => fX3_ofKind_J25 Kx (fX3_ofKind_L4 Kx q0 v1 t0 n) q0 v1 v2_22 v3 t0)) else (fX3_ofKind_J25 Kx (fX3_ofKind_L4 Kx q0 v1 t0 n) q0 v1 v2 v3 t0)) else none)
def fX3_ofKind (q0 : Nat) (v1 : Int32) (t0 : gw_S) : Option (Int32) := fX3_ofKind_L4 (fun v2_x4 v3_x4 => some v2_x4) q0 v1 t0 2000 0 0
-- ThrownSacks$Row.notFor(I)I
def fX3_notFor_J25 (Kx : Int32 → Int32 → Option (Int32)) (Kh : Int32 → Int32 → Option (Int32)) (q0 : Nat) (v1 : Int32) (v2 : Int32) (v3 : Int32) (t0 : gw_S) : Option (Int32) := gw_nm (v3 + 1) (fun v3_25 => Kh v2 v3_25)
def fX3_notFor_L4 (Kx : Int32 → Int32 → Option (Int32)) (q0 : Nat) (v1 : Int32) (t0 : gw_S) : Nat → Int32 → Int32 → Option (Int32)
  | 0, _, _ => none
  | n + 1, v2, v3 => if (rdI t0 q0 3) ≤ v3 then (Kx v2 v3) else (if gw_ix v3 9 = true then (if (rdI t0 (q0 + 2) (Int32.toNatClampNeg v3)) = v1 then (fX3_notFor_J25 Kx (fX3_notFor_L4 Kx q0 v1 t0 n) q0 v1 v2 v3 t0) else (gw_nm (v2 + 1) (fun v2_22 => fX3_notFor_J25 Kx (fX3_notFor_L4 Kx q0 v1 t0 n) q0 v1 v2_22 v3 t0))) else none)
def fX3_notFor (q0 : Nat) (v1 : Int32) (t0 : gw_S) : Option (Int32) := fX3_notFor_L4 (fun v2_x4 v3_x4 => some v2_x4) q0 v1 t0 2000 0 0
-- ThrownSacks.hook(II)I
def fX7_hook (v1 : Int32) (v2 : Int32) (t0 : gw_S) : Option (Int32) := if (fX7_isKnown v1 t0) = 0 then (some (-101)) else (if gw_ix v1 6 = true then (gw_nm (rdR t0 9 (Int32.toNatClampNeg v1)) (fun r19 => if gw_row r19 = true then (if gw_ix v1 6 = true then (gw_nm ((rdI t0 8 (Int32.toNatClampNeg v1))) (fun v4_30 => if v2 = 0 then (if gw_ix v1 6 = true then (some (rdI t0 4 (Int32.toNatClampNeg v1))) else none) else (if v2 = 1 then (if gw_ix v1 6 = true then (some (rdI t0 5 (Int32.toNatClampNeg v1))) else none) else (if v2 = 2 then (some v4_30) else (if v2 = 3 then (some (rdI t0 r19 3)) else (if v2 = 4 then ((fX3_notFor r19 v4_30 t0).bind (fun r107 => some r107)) else (if v2 = 5 then ((fX3_ofKind r19 3 t0).bind (fun r113 => some r113)) else (if v2 = 6 then ((fX2_oftenOf v4_30 t0).bind (fun r123 => some r123)) else (some (-102)))))))))) else none) else none)) else none)
-- ThrownSacks.isKind(I)Z
def fX7_isKind (v0 : Int32) (t0 : gw_S) : Int32 := if v0 < 0 then (0) else (if 5 ≤ v0 then (0) else (1))
-- ThrownSacks$Row.add(IIZ)V
def fX3_add (q0 : Nat) (v1 : Int32) (v2 : Int32) (v3 : Int32) (t0 : gw_S) : Option (gw_S) := if (rdI t0 q0 3) < 0 then (some t0) else (if 9 ≤ (rdI t0 q0 3) then (some t0) else (if gw_ix (rdI t0 q0 3) 9 = true then (gw_nm (wrI t0 (q0 + 1) (Int32.toNatClampNeg (rdI t0 q0 3)) v1) (fun t_28 => if gw_ix (rdI t_28 q0 3) 9 = true then (gw_nm (wrI t_28 (q0 + 2) (Int32.toNatClampNeg (rdI t_28 q0 3)) v2) (fun t_38 => if gw_ix (rdI t_38 q0 3) 9 = true then (if gw_bl v3 = true then (gw_nm (wrI t_38 (q0 + 3) (Int32.toNatClampNeg (rdI t_38 q0 3)) v3) (fun t_48 => gw_nm (wrI t_48 q0 3 ((rdI t_48 q0 3) + 1)) (fun t_56 => some t_56))) else none) else none)) else none)) else none))
-- ThrownSacks.parcel(II)I
def fX7_parcel (v1 : Int32) (v2 : Int32) (t0 : gw_S) : Option (Int32 × gw_S) := if (fX7_isKind v1 t0) = 0 then (some ((-102), t0)) else (if (fX7_isKnown v2 t0) = 0 then (some ((-101), t0)) else (if (rdI t0 27 3) < 8 then ((fX3_add 27 v1 v2 0 t0).bind (fun t_49 => some ((rdI t_49 27 3), t_49))) else (some ((-104), t0))))
-- ThrownSacks$Row.kindAt(I)I
def fX3_kindAt (q0 : Nat) (v1 : Int32) (t0 : gw_S) : Option (Int32) := if v1 < 0 then (some (-1)) else (if (rdI t0 q0 3) ≤ v1 then (some (-1)) else (if gw_ix v1 9 = true then (some (rdI t0 (q0 + 1) (Int32.toNatClampNeg v1))) else none))
-- ThrownSacks$Row.townAt(I)I
def fX3_townAt (q0 : Nat) (v1 : Int32) (t0 : gw_S) : Option (Int32) := if v1 < 0 then (some (-1)) else (if (rdI t0 q0 3) ≤ v1 then (some (-1)) else (if gw_ix v1 9 = true then (some (rdI t0 (q0 + 2) (Int32.toNatClampNeg v1))) else none))
-- ThrownSacks.belt(II)I
def fX7_belt (v1 : Int32) (v2 : Int32) (t0 : gw_S) : Option (Int32) := if v1 < 0 then (some (-101)) else (if v1 < (rdI t0 27 3) then (if v2 = 0 then ((fX3_kindAt 27 v1 t0).bind (fun r56 => some r56)) else (if v2 = 1 then ((fX3_townAt 27 v1 t0).bind (fun r68 => some r68)) else (if v2 = 2 then ((fX3_kindAt 27 v1 t0).bind (fun r80 => (fX7_gripOf r80 t0).bind (fun r83 => some r83))) else (some (-102))))) else (some (-101)))
-- ThrownSacks.isA(II)Z
def fX7_isA_J19 (t0 : gw_S) : Int32 := 1
def fX7_isA (v0 : Int32) (v1 : Int32) (t0 : gw_S) : Int32 := if v0 = v1 then (fX7_isA_J19 t0) else (if v1 = 0 then (fX7_isA_J19 t0) else (if v0 = 4 then (if v1 = 2 then (fX7_isA_J19 t0) else (0)) else (0)))
-- ThrownSacks.as(II)I
def fX7_as (v1 : Int32) (v2 : Int32) (t0 : gw_S) : Option (Int32) := if v1 < 0 then (some (-101)) else (if v1 < (rdI t0 27 3) then (if (fX7_isKind v2 t0) = 0 then (some (-102)) else ((fX3_kindAt 27 v1 t0).bind (fun r39 => if (fX7_isA r39 v2 t0) = 0 then (some (-1)) else ((fX3_townAt 27 v1 t0).bind (fun r57 => some r57))))) else (some (-101)))
-- ThrownSacks.isFull(I)Z
def fX7_isFull (v1 : Int32) (t0 : gw_S) : Option (Int32) := if (fX7_isKnown v1 t0) = 0 then (some 0) else (if gw_ix v1 6 = true then (gw_nm (rdR t0 9 (Int32.toNatClampNeg v1)) (fun r16 => if gw_row r16 = true then (if gw_ix v1 6 = true then (if (rdI t0 r16 3) < (rdI t0 5 (Int32.toNatClampNeg v1)) then (some 0) else (some 1)) else none) else none)) else none)
-- ThrownSacks.nextTo(II)I
def fX7_nextTo (v0 : Int32) (v1 : Int32) (t0 : gw_S) : Int32 := if v1 ≤ (v0 + 1) then ((v0 - 1)) else ((v0 + 1))
-- ThrownSacks.tenthsAt(III)I
def fX7_tenthsAt (v1 : Int32) (v2 : Int32) (v3 : Int32) (t0 : gw_S) : Option (Int32) := if (fX7_isKnown v2 t0) = 0 then (some 0) else (if gw_ix v2 6 = true then ((fX7_isFull (fX7_nextTo v2 (rdI t0 3 3) t0) t0).bind (fun r32 => (fX7_tenthsOf v1 (rdI t0 4 (Int32.toNatClampNeg v2)) r32 v3 t0).bind (fun r36 => some r36))) else none)
-- ThrownSacks$Row.harmGlass()I
def fX3_harmGlass_J41 (Kx : Int32 → Int32 → gw_S → Option (Int32 × gw_S)) (Kh : Int32 → Int32 → gw_S → Option (Int32 × gw_S)) (q0 : Nat) (v1 : Int32) (v2 : Int32) (t : gw_S) : Option (Int32 × gw_S) := gw_nm (v2 + 1) (fun v2_41 => Kh v1 v2_41 t)
def fX3_harmGlass_L4 (Kx : Int32 → Int32 → gw_S → Option (Int32 × gw_S)) (q0 : Nat) : Nat → Int32 → Int32 → gw_S → Option (Int32 × gw_S)
  | 0, _, _, _ => none
  | n + 1, v1, v2, t => if (rdI t q0 3) ≤ v2 then (Kx v1 v2 t) else (if gw_ix v2 9 = true then (if (rdI t (q0 + 1) (Int32.toNatClampNeg v2)) = 3 then (if gw_ix v2 9 = true then (if (rdI t (q0 + 3) (Int32.toNatClampNeg v2)) = 0 then (if gw_ix v2 9 = true then (gw_nm (wrI t (q0 + 3) (Int32.toNatClampNeg v2) 1) (fun t_37 => gw_nm (v1 + 1) (fun v1_38 => fX3_harmGlass_J41 Kx (fX3_harmGlass_L4 Kx q0 n) q0 v1_38 v2 t_37))) else none) else (fX3_harmGlass_J41 Kx (fX3_harmGlass_L4 Kx q0 n) q0 v1 v2 t)) else none) else (fX3_harmGlass_J41 Kx (fX3_harmGlass_L4 Kx q0 n) q0 v1 v2 t)) else none)
def fX3_harmGlass (q0 : Nat) (t0 : gw_S) : Option (Int32 × gw_S) := fX3_harmGlass_L4 (fun v1_x4 v2_x4 t_x4 => some (v1_x4, t_x4)) q0 2000 0 0 t0
-- ThrownSacks$Row.dropFirst()V
def fX3_dropFirst_L2 (Kx : Int32 → gw_S → Option (gw_S)) (q0 : Nat) : Nat → Int32 → gw_S → Option (gw_S)
  | 0, _, _ => none
  | n + 1, v1, t => if (rdI t q0 3) ≤ v1 then (Kx v1 t) else (if gw_ix v1 9 = true then (if gw_ix (v1 - 1) 9 = true then (gw_nm (wrI t (q0 + 1) (Int32.toNatClampNeg (v1 - 1)) (rdI t (q0 + 1) (Int32.toNatClampNeg v1))) (fun t_23 => if gw_ix v1 9 = true then (if gw_ix (v1 - 1) 9 = true then (gw_nm (wrI t_23 (q0 + 2) (Int32.toNatClampNeg (v1 - 1)) (rdI t_23 (q0 + 2) (Int32.toNatClampNeg v1))) (fun t_37 => if gw_ix v1 9 = true then (if gw_ix (v1 - 1) 9 = true then (if gw_bl (rdI t_37 (q0 + 3) (Int32.toNatClampNeg v1)) = true then (gw_nm (wrI t_37 (q0 + 3) (Int32.toNatClampNeg (v1 - 1)) (rdI t_37 (q0 + 3) (Int32.toNatClampNeg v1))) (fun t_51 => gw_nm (v1 + 1) (fun v1_52 => (fX3_dropFirst_L2 Kx q0 n) v1_52 t_51))) else none) else none) else none)) else none) else none)) else none) else none)
def fX3_dropFirst (q0 : Nat) (t0 : gw_S) : Option (gw_S) := fX3_dropFirst_L2 (fun v1_x2 t_x2 => gw_nm (wrI t_x2 q0 3 (if 0 < ((rdI t_x2 q0 3) - 1) then ((rdI t_x2 q0 3) - 1) else 0)) (fun t_69 => some t_69)) q0 2000 1 t0
-- ThrownSacks$Standing.putFirst(IZ)V
def fX4_putFirst_J77 (v1 : Int32) (v3 : Int32) (v4 : Int32) (t : gw_S) : Option (gw_S) := if gw_ix v1 6 = true then (gw_nm (rdR t 9 (Int32.toNatClampNeg v1)) (fun r82 => if gw_row r82 = true then ((fX3_townAt 27 0 t).bind (fun r89 => (fX3_add r82 v3 r89 v4 t).bind (fun t_94 => (fX3_dropFirst 27 t_94).bind (fun t_101 => some t_101)))) else none)) else none
def fX4_putFirst_J62 (v1 : Int32) (v3 : Int32) (v4 : Int32) (t : gw_S) : Option (gw_S) := if v4 = 0 then (fX4_putFirst_J77 v1 v3 v4 t) else (gw_nm (wrI t 7 7 ((rdI t 7 7) + 1)) (fun t_74 => fX4_putFirst_J77 v1 v3 v4 t_74))
def fX4_putFirst_J37 (v1 : Int32) (v3 : Int32) (x0 : Int32) (t : gw_S) : Option (gw_S) := if v3 = 4 then (if gw_ix v1 6 = true then (gw_nm (rdR t 9 (Int32.toNatClampNeg v1)) (fun r54 => if gw_row r54 = true then (gw_b2 (fX3_harmGlass r54 t) (fun r55 t_55 => gw_nm (wrI t_55 7 7 ((rdI t 7 7) + r55)) (fun t_59 => fX4_putFirst_J62 v1 v3 x0 t_59))) else none)) else none) else (fX4_putFirst_J62 v1 v3 x0 t)
def fX4_putFirst_J36 (v1 : Int32) (v3 : Int32) (t : gw_S) : Option (gw_S) := fX4_putFirst_J37 v1 v3 0 t
def fX4_putFirst (v1 : Int32) (v2 : Int32) (t0 : gw_S) : Option (gw_S) := if v1 < 0 then (some t0) else (if v1 < 6 then ((fX3_kindAt 27 0 t0).bind (fun r19 => if v2 = 0 then (fX4_putFirst_J36 v1 r19 t0) else (if r19 = 3 then (fX4_putFirst_J37 v1 r19 1 t0) else (fX4_putFirst_J36 v1 r19 t0)))) else (some t0))
-- ThrownSacks.toss(II)I
def fX7_toss_J145 (v3 : Int32) (x1 : Int32) (x2 : Int32) (t : gw_S) : Option (Int32 × gw_S) := (fX4_putFirst x1 x2 t).bind (fun t_145 => some (v3, t_145))
def fX7_toss_J130 (v2 : Int32) (v3 : Int32) (t : gw_S) : Option (Int32 × gw_S) := if v2 = 2 then (fX7_toss_J145 v3 v3 0 t) else (fX7_toss_J145 v3 v3 1 t)
def fX7_toss_J87 (v1 : Int32) (v2 : Int32) (x0 : Int32) (t : gw_S) : Option (Int32 × gw_S) := gw_nm (wrI t 7 6 ((rdI t 7 6) + 2)) (fun t_98 => if v2 = 2 then (if gw_ix v1 6 = true then (gw_nm (wrI t_98 7 6 ((rdI t_98 7 6) + (fX7_carrySeconds (rdI t_98 4 (Int32.toNatClampNeg v1)) t_98))) (fun t_127 => fX7_toss_J130 v2 x0 t_127)) else none) else (fX7_toss_J130 v2 x0 t_98))
def fX7_toss (v1 : Int32) (v2 : Int32) (t0 : gw_S) : Option (Int32 × gw_S) := if (fX7_isKnown v1 t0) = 0 then (some ((-101), t0)) else (if v2 < 0 then (some ((-102), t0)) else (if v2 ≤ 2 then (if (rdI t0 27 3) = 0 then (some ((-103), t0)) else ((fX7_isFull v1 t0).bind (fun r38 => if r38 = 0 then ((fX3_kindAt 27 0 t0).bind (fun r53 => (fX7_tenthsAt r53 v1 v2 t0).bind (fun r58 => if r58 = 0 then (some ((-103), t0)) else (if v2 = 1 then (fX7_toss_J87 v1 v2 (fX7_nextTo v1 (rdI t0 3 3) t0) t0) else (fX7_toss_J87 v1 v2 v1 t0))))) else (some ((-103), t0))))) else (some ((-102), t0))))
-- ThrownSacks.carry(I)I
def fX7_carry (v1 : Int32) (t0 : gw_S) : Option (Int32 × gw_S) := if (fX7_isKnown v1 t0) = 0 then (some ((-101), t0)) else (if (rdI t0 27 3) = 0 then (some ((-103), t0)) else ((fX7_isFull v1 t0).bind (fun r26 => if r26 = 0 then (if gw_ix v1 6 = true then (gw_nm (wrI t0 7 6 ((rdI t0 7 6) + (fX7_carrySeconds (rdI t0 4 (Int32.toNatClampNeg v1)) t0))) (fun t_56 => (fX4_putFirst v1 0 t_56).bind (fun t_65 => some ((rdI t_65 7 6), t_65)))) else none) else (some ((-103), t0)))))
-- ThrownSacks.change(I)I
def fX7_change (v1 : Int32) (t0 : gw_S) : Option (Int32 × gw_S) := if (fX7_isKnown v1 t0) = 0 then (some ((-101), t0)) else (if gw_ix v1 6 = true then (gw_nm (rdR t0 9 (Int32.toNatClampNeg v1)) (fun r19 => if gw_row r19 = true then (gw_nm ((rdI t0 r19 3)) (fun v2_23 => if gw_ix v1 6 = true then (gw_nm (rdR t0 9 (Int32.toNatClampNeg v1)) (fun r32 => if gw_row r32 = true then (gw_nm (wrI t0 r32 3 0) (fun t_34 => gw_nm (wrI t_34 7 6 ((rdI t_34 7 6) + 40)) (fun t_48 => some (v2_23, t_48)))) else none)) else none)) else none)) else none)
-- ThrownSacks$Standing.swap(II)V
def fX4_swap (v1 : Int32) (v2 : Int32) (t0 : gw_S) : Option (gw_S) := if gw_ix v1 6 = true then (gw_nm (rdR t0 9 (Int32.toNatClampNeg v1)) (fun r5 => if gw_row r5 = true then (if gw_ix v2 6 = true then (gw_nm (rdR t0 9 (Int32.toNatClampNeg v2)) (fun r17 => if gw_row r17 = true then (if gw_ix v1 6 = true then (gw_nm (wrR t0 9 (Int32.toNatClampNeg v1) r17) (fun t_18 => if gw_ix v2 6 = true then (gw_nm (wrR t_18 9 (Int32.toNatClampNeg v2) r5) (fun t_25 => if gw_ix v1 6 = true then (gw_nm ((rdI t_25 8 (Int32.toNatClampNeg v1))) (fun v4_32 => if gw_ix v2 6 = true then (if gw_ix v1 6 = true then (gw_nm (wrI t_25 8 (Int32.toNatClampNeg v1) (rdI t_25 8 (Int32.toNatClampNeg v2))) (fun t_45 => if gw_ix v2 6 = true then (gw_nm (wrI t_45 8 (Int32.toNatClampNeg v2) v4_32) (fun t_53 => some t_53)) else none)) else none) else none)) else none)) else none)) else none) else none)) else none) else none)) else none
-- ThrownSacks.exchange(II)I
def fX7_exchange (v1 : Int32) (v2 : Int32) (t0 : gw_S) : Option (Int32 × gw_S) := if (fX7_isKnown v1 t0) = 0 then (some ((-101), t0)) else (if (fX7_isKnown v2 t0) = 0 then (some ((-101), t0)) else (if v1 = v2 then (some ((-101), t0)) else (if gw_ix v1 6 = true then (gw_nm (rdR t0 9 (Int32.toNatClampNeg v1)) (fun r32 => if gw_row r32 = true then (if gw_ix v2 6 = true then (if (rdI t0 5 (Int32.toNatClampNeg v2)) < (rdI t0 r32 3) then (some ((-103), t0)) else (if gw_ix v2 6 = true then (gw_nm (rdR t0 9 (Int32.toNatClampNeg v2)) (fun r56 => if gw_row r56 = true then (if gw_ix v1 6 = true then (if (rdI t0 r56 3) ≤ (rdI t0 5 (Int32.toNatClampNeg v1)) then ((fX4_swap v1 v2 t0).bind (fun t_81 => gw_nm (wrI t_81 7 6 ((rdI t_81 7 6) + 10)) (fun t_95 => some ((rdI t_95 7 6), t_95)))) else (some ((-103), t0))) else none) else none)) else none)) else none) else none)) else none)))
-- ThrownSacks.odds(III)I
def fX7_odds (v1 : Int32) (v2 : Int32) (v3 : Int32) (t0 : gw_S) : Option (Int32) := if (fX7_isKind v1 t0) = 0 then (some (-102)) else (if (fX7_isKnown v2 t0) = 0 then (some (-101)) else (if gw_ix v2 6 = true then (gw_nm ((fX7_carryTenths (rdI t0 4 (Int32.toNatClampNeg v2)) t0)) (fun v4_33 => if gw_ix v2 6 = true then ((fX7_isFull (fX7_nextTo v2 (rdI t0 3 3) t0) t0).bind (fun r57 => (fX7_costOf v1 (rdI t0 4 (Int32.toNatClampNeg v2)) r57 t0).bind (fun r60 => if v3 = 0 then ((fX7_tenthsAt v1 v2 0 t0).bind (fun r108 => some r108)) else (if v3 = 1 then ((fX7_tenthsAt v1 v2 1 t0).bind (fun r116 => some r116)) else (if v3 = 2 then ((fX7_tenthsAt v1 v2 2 t0).bind (fun r124 => some r124)) else (if v3 = 3 then (some r60) else (if v3 = 4 then (some v4_33) else (if v3 = 5 then (if v4_33 ≤ r60 then (some 0) else (some 1)) else (some (-102)))))))))) else none)) else none))
-- ThrownSacks$Standing.hookOf(I)I
def fX4_hookOf_L2 (Kx : Int32 → Option (Int32)) (v1 : Int32) (t0 : gw_S) : Nat → Int32 → Option (Int32)
  | 0, _ => none
  | n + 1, v2 => if 6 ≤ v2 then (Kx v2) else (if gw_ix v2 6 = true then (if (rdI t0 8 (Int32.toNatClampNeg v2)) = v1 then (some v2) else (gw_nm (v2 + 1) (fun v2_20 => (fX4_hookOf_L2 Kx v1 t0 n) v2_20))) else none)
def fX4_hookOf (v1 : Int32) (t0 : gw_S) : Option (Int32) := fX4_hookOf_L2 (fun v2_x2 => some (-1)) v1 t0 2000 0
-- ThrownSacks$Best.exchangesFrom(LThrownSacks$Standing;I)I
def fX0_exchangesFrom_L34 (Kx : Int32 → Int32 → Int32 → Option (Int32)) (v2 : Int32) (v3 : Int32) (v5 : Int32) (t0 : gw_S) : Nat → Int32 → Int32 → Int32 → Option (Int32)
  | 0, _, _, _ => none
  | n + 1, v4, v6, v7 => if v2 ≤ v7 then (Kx v4 v6 v7) else (if v6 = (-1) then (Kx v4 v6 v7) else (if ((v4 >>> (v6 &&& 31)) &&& 1) = 0 then (gw_nm ((v4 ||| (1 <<< (v6 &&& 31)))) (fun v4_63 => if gw_ix v6 6 = true then ((fX4_hookOf (rdI t0 18 (Int32.toNatClampNeg v6)) t0).bind (fun r73 => gw_nm (v7 + 1) (fun v7_78 => (fX0_exchangesFrom_L34 Kx v2 v3 v5 t0 n) v4_63 r73 v7_78))) else none)) else (Kx v4 v6 v7)))
def fX0_exchangesFrom_J27 (Kx : Int32 → Int32 → Int32 → Option (Int32)) (Kh : Int32 → Int32 → Int32 → Option (Int32)) (v2 : Int32) (v3 : Int32) (v4 : Int32) (v5 : Int32) (t0 : gw_S) : Option (Int32) := fX0_exchangesFrom_L34 (fun v4_x34 v6_x34 v7_x34 => gw_nm (v5 + 1) (fun v5_84 => Kh v3 v4_x34 v5_84)) v2 v3 v5 t0 2000 v4 v5 0
def fX0_exchangesFrom_L8 (Kx : Int32 → Int32 → Int32 → Option (Int32)) (v2 : Int32) (t0 : gw_S) : Nat → Int32 → Int32 → Int32 → Option (Int32)
  | 0, _, _, _ => none
  | n + 1, v3, v4, v5 => if v2 ≤ v5 then (Kx v3 v4 v5) else (if ((v4 >>> (v5 &&& 31)) &&& 1) = 0 then (gw_nm (v3 + 1) (fun v3_24 => fX0_exchangesFrom_J27 Kx (fX0_exchangesFrom_L8 Kx v2 t0 n) v2 v3_24 v4 v5 t0)) else (fX0_exchangesFrom_J27 Kx (fX0_exchangesFrom_L8 Kx v2 t0 n) v2 v3 v4 v5 t0))
def fX0_exchangesFrom (v2 : Int32) (t0 : gw_S) : Option (Int32) := fX0_exchangesFrom_L8 (fun v3_x8 v4_x8 v5_x8 => some (v2 - v3_x8)) v2 t0 2000 0 0 0
-- ThrownSacks.hanging(I)I
def fX7_hanging_J34 (v1 : Int32) (t0 : gw_S) : Option (Int32) := if (rdI t0 3 3) = 0 then (some (-103)) else (if v1 = 0 then (some (rdI t0 17 3)) else (if v1 = 1 then ((fX0_exchangesFrom (rdI t0 3 3) t0).bind (fun r79 => some r79)) else (if (fX7_isKnown (v1 - 10) t0) = 0 then (some (-1)) else (if gw_ix (v1 - 10) 6 = true then (some (rdI t0 18 (Int32.toNatClampNeg (v1 - 10)))) else none))))
def fX7_hanging_J17 (v1 : Int32) (x0 : Int32) (t0 : gw_S) : Option (Int32) := if v1 = 0 then (fX7_hanging_J34 v1 t0) else (if v1 = 1 then (fX7_hanging_J34 v1 t0) else (if x0 = 0 then (some (-102)) else (fX7_hanging_J34 v1 t0)))
def fX7_hanging_J16 (v1 : Int32) (t0 : gw_S) : Option (Int32) := fX7_hanging_J17 v1 0 t0
def fX7_hanging (v1 : Int32) (t0 : gw_S) : Option (Int32) := if v1 < 10 then (fX7_hanging_J16 v1 t0) else (if 16 ≤ v1 then (fX7_hanging_J16 v1 t0) else (fX7_hanging_J17 v1 1 t0))
-- ThrownSacks$Standing.addFound(II)V
def fX4_addFound (v1 : Int32) (v2 : Int32) (t0 : gw_S) : Option (gw_S) := if (rdI t0 7 5) < 0 then (some t0) else (if 8 ≤ (rdI t0 7 5) then (some t0) else (if gw_ix (rdI t0 7 5) 8 = true then (gw_nm (wrI t0 10 (Int32.toNatClampNeg (rdI t0 7 5)) v1) (fun t_25 => if gw_ix (rdI t_25 7 5) 8 = true then (gw_nm (wrI t_25 11 (Int32.toNatClampNeg (rdI t_25 7 5)) v2) (fun t_35 => gw_nm (wrI t_35 7 5 ((rdI t_35 7 5) + 1)) (fun t_43 => some t_43))) else none)) else none))
-- ThrownSacks.found(II)I
def fX7_found (v1 : Int32) (v2 : Int32) (t0 : gw_S) : Option (Int32 × gw_S) := if (fX7_isKnown v1 t0) = 0 then (some ((-101), t0)) else (if (fX7_isKnown v2 t0) = 0 then (some ((-101), t0)) else (if v1 = v2 then (some ((-101), t0)) else (if (rdI t0 7 5) < 8 then ((fX4_addFound v1 v2 t0).bind (fun t_45 => gw_nm (wrI t_45 21 3 0) (fun t_53 => some ((rdI t_53 7 5), t_53)))) else (some ((-104), t0)))))
-- ThrownSacks.forget()I
def fX7_forget (t0 : gw_S) : Option (Int32 × gw_S) := gw_nm ((rdI t0 7 5)) (fun v1_7 => gw_nm (wrI t0 7 5 0) (fun t_13 => gw_nm (wrI t_13 21 3 0) (fun t_21 => some (v1_7, t_21))))
-- java/util/Arrays.fill([II)V
def fJ7_fill_53178_24_L5 (Kx : Int32 → gw_S → Option (gw_S)) (v1 : Int32) (v3 : Int32) : Nat → Int32 → gw_S → Option (gw_S)
  | 0, _, _ => none
  | n + 1, v2, t => if v3 ≤ v2 then (Kx v2 t) else (if gw_ix v2 6 = true then (gw_nm (wrI t 24 (Int32.toNatClampNeg v2) v1) (fun t_13 => gw_nm (v2 + 1) (fun v2_14 => (fJ7_fill_53178_24_L5 Kx v1 v3 n) v2_14 t_13))) else none)
def fJ7_fill_53178_24 (v1 : Int32) (t0 : gw_S) : Option (gw_S) := fJ7_fill_53178_24_L5 (fun v2_x5 t_x5 => some t_x5) v1 6 2000 0 t0
-- java/util/Arrays.fill([II)V
def fJ7_fill_53178_23_L5 (Kx : Int32 → gw_S → Option (gw_S)) (v1 : Int32) (v3 : Int32) : Nat → Int32 → gw_S → Option (gw_S)
  | 0, _, _ => none
  | n + 1, v2, t => if v3 ≤ v2 then (Kx v2 t) else (if gw_ix v2 6 = true then (gw_nm (wrI t 23 (Int32.toNatClampNeg v2) v1) (fun t_13 => gw_nm (v2 + 1) (fun v2_14 => (fJ7_fill_53178_23_L5 Kx v1 v3 n) v2_14 t_13))) else none)
def fJ7_fill_53178_23 (v1 : Int32) (t0 : gw_S) : Option (gw_S) := fJ7_fill_53178_23_L5 (fun v2_x5 t_x5 => some t_x5) v1 6 2000 0 t0
-- ThrownSacks$Ways.beyondOf(I)I
def fX6_beyondOf (v1 : Int32) (t0 : gw_S) : Option (Int32) := if v1 < 0 then (some (-1)) else (if 6 ≤ v1 then (some (-1)) else (if gw_ix v1 6 = true then (some (rdI t0 23 (Int32.toNatClampNeg v1))) else none))
-- ThrownSacks$Ways.askAllFound(LThrownSacks$Standing;)Z
def fX6_askAllFound_J75 (Kx : Int32 → gw_S → Option (Int32 × gw_S)) (Kh : Int32 → gw_S → Option (Int32 × gw_S)) (v2 : Int32) (t : gw_S) : Option (Int32 × gw_S) := gw_nm (v2 + 1) (fun v2_75 => Kh v2_75 t)
def fX6_askAllFound_J54 (Kx : Int32 → gw_S → Option (Int32 × gw_S)) (Kh : Int32 → gw_S → Option (Int32 × gw_S)) (v2 : Int32) (v3 : Int32) (v4 : Int32) (t : gw_S) : Option (Int32 × gw_S) := if v3 < 0 then (fX6_askAllFound_J75 Kx Kh v2 t) else (if 6 ≤ v3 then (fX6_askAllFound_J75 Kx Kh v2 t) else (if gw_ix v3 6 = true then (gw_nm (wrI t 23 (Int32.toNatClampNeg v3) v4) (fun t_74 => fX6_askAllFound_J75 Kx Kh v2 t_74)) else none))
def fX6_askAllFound_L10 (Kx : Int32 → gw_S → Option (Int32 × gw_S)) : Nat → Int32 → gw_S → Option (Int32 × gw_S)
  | 0, _, _ => none
  | n + 1, v2, t => if (rdI t 7 5) ≤ v2 then (Kx v2 t) else (if gw_ix v2 8 = true then (gw_nm ((rdI t 10 (Int32.toNatClampNeg v2))) (fun v3_24 => if gw_ix v2 8 = true then (gw_nm ((rdI t 11 (Int32.toNatClampNeg v2))) (fun v4_31 => (fX6_beyondOf v3_24 t).bind (fun r35 => if r35 = (-1) then (fX6_askAllFound_J54 Kx (fX6_askAllFound_L10 Kx n) v2 v3_24 v4_31 t) else ((fX6_beyondOf v3_24 t).bind (fun r44 => if r44 = v4_31 then (fX6_askAllFound_J54 Kx (fX6_askAllFound_L10 Kx n) v2 v3_24 v4_31 t) else (some (0, t))))))) else none)) else none)
def fX6_askAllFound (t0 : gw_S) : Option (Int32 × gw_S) := (fJ7_fill_53178_23 (-1) t0).bind (fun t_5 => fX6_askAllFound_L10 (fun v2_x10 t_x10 => some (1, t_x10)) 2000 0 t_5)
-- ThrownSacks$Ways.keep(I)V
def fX6_keep_J49 (Kx : Int32 → gw_S → Option (gw_S)) (Kh : Int32 → gw_S → Option (gw_S)) (v1 : Int32) (v2 : Int32) (t : gw_S) : Option (gw_S) := gw_nm (v2 + 1) (fun v2_49 => Kh v2_49 t)
def fX6_keep_L12 (Kx : Int32 → gw_S → Option (gw_S)) (v1 : Int32) : Nat → Int32 → gw_S → Option (gw_S)
  | 0, _, _ => none
  | n + 1, v2, t => if v1 ≤ v2 then (Kx v2 t) else (if gw_ix v2 6 = true then (gw_nm ((rdI t 22 (Int32.toNatClampNeg v2))) (fun v3_23 => if v3_23 < 0 then (fX6_keep_J49 Kx (fX6_keep_L12 Kx v1 n) v1 v2 t) else (if 6 ≤ v3_23 then (fX6_keep_J49 Kx (fX6_keep_L12 Kx v1 n) v1 v2 t) else (if gw_ix v3_23 6 = true then (if gw_ix v3_23 6 = true then (gw_nm (wrI t 24 (Int32.toNatClampNeg v3_23) ((rdI t 24 (Int32.toNatClampNeg v3_23)) ||| (1 <<< (v2 &&& 31)))) (fun t_48 => fX6_keep_J49 Kx (fX6_keep_L12 Kx v1 n) v1 v2 t_48)) else none) else none)))) else none)
def fX6_keep (v1 : Int32) (t0 : gw_S) : Option (gw_S) := gw_nm (wrI t0 21 4 ((rdI t0 21 4) + 1)) (fun t_7 => fX6_keep_L12 (fun v2_x12 t_x12 => some t_x12) v1 2000 0 t_7)
-- ThrownSacks$Ways.canHang(III)Z
def fX6_canHang_J64 (t0 : gw_S) : Option (Int32) := some 1
def fX6_canHang_J38 (v1 : Int32) (v2 : Int32) (v3 : Int32) (v4 : Int32) (t0 : gw_S) : Option (Int32) := if v2 < (v3 - 1) then (fX6_canHang_J64 t0) else ((fX6_beyondOf v1 t0).bind (fun r47 => if r47 = (-1) then (fX6_canHang_J64 t0) else ((fX6_beyondOf v1 t0).bind (fun r56 => if r56 = v4 then (fX6_canHang_J64 t0) else (some 0)))))
def fX6_canHang (v1 : Int32) (v2 : Int32) (v3 : Int32) (t0 : gw_S) : Option (Int32) := if v2 = 0 then (some 1) else (if gw_ix (v2 - 1) 6 = true then (gw_nm ((rdI t0 22 (Int32.toNatClampNeg (v2 - 1)))) (fun v4_14 => (fX6_beyondOf v4_14 t0).bind (fun r19 => if r19 = (-1) then (fX6_canHang_J38 v1 v2 v3 v4_14 t0) else ((fX6_beyondOf v4_14 t0).bind (fun r29 => if r29 = v1 then (fX6_canHang_J38 v1 v2 v3 v4_14 t0) else (some 0)))))) else none)
-- ThrownSacks$Ways.hangFrom(LThrownSacks$Ways;III)V
def fX6_hangFrom_J62 (frec : Int32 → Int32 → Int32 → gw_S → Option (gw_S)) (Kx : Int32 → gw_S → Option (gw_S)) (Kh : Int32 → gw_S → Option (gw_S)) (v1 : Int32) (v2 : Int32) (v3 : Int32) (v4 : Int32) (t : gw_S) : Option (gw_S) := gw_nm (v4 + 1) (fun v4_62 => Kh v4_62 t)
def fX6_hangFrom_L14 (frec : Int32 → Int32 → Int32 → gw_S → Option (gw_S)) (Kx : Int32 → gw_S → Option (gw_S)) (v1 : Int32) (v2 : Int32) (v3 : Int32) : Nat → Int32 → gw_S → Option (gw_S)
  | 0, _, _ => none
  | n + 1, v4, t => if v3 ≤ v4 then (Kx v4 t) else (if ((v2 >>> (v4 &&& 31)) &&& 1) = 0 then ((fX6_canHang v4 v1 v3 t).bind (fun r34 => if r34 = 0 then (fX6_hangFrom_J62 frec Kx (fX6_hangFrom_L14 frec Kx v1 v2 v3 n) v1 v2 v3 v4 t) else (if gw_ix v1 6 = true then (gw_nm (wrI t 22 (Int32.toNatClampNeg v1) v4) (fun t_47 => (frec (v1 + 1) (v2 ||| (1 <<< (v4 &&& 31))) v3 t_47).bind (fun t_59 => fX6_hangFrom_J62 frec Kx (fX6_hangFrom_L14 frec Kx v1 v2 v3 n) v1 v2 v3 v4 t_59))) else none))) else (fX6_hangFrom_J62 frec Kx (fX6_hangFrom_L14 frec Kx v1 v2 v3 n) v1 v2 v3 v4 t))
def fX6_hangFrom : Nat → Int32 → Int32 → Int32 → gw_S → Option (gw_S)
  | 0, _, _, _, _ => none
  | n + 1, v1, v2, v3, t0 => (fun frec => if v1 < v3 then (fX6_hangFrom_L14 frec (fun v4_x14 t_x14 => some t_x14) v1 v2 v3 2000 0 t0) else ((fX6_keep v3 t0).bind (fun t_7 => some t_7))) (fX6_hangFrom n)
-- ThrownSacks$Ways.seek(LThrownSacks$Standing;I)V
def fX6_seek (v2 : Int32) (t0 : gw_S) : Option (gw_S) := if (rdI t0 21 3) = 0 then (gw_nm (wrI t0 21 3 1) (fun t_10 => gw_nm (wrI t_10 21 4 0) (fun t_15 => (fJ7_fill_53178_24 0 t_15).bind (fun t_23 => gw_b2 (fX6_askAllFound t_23) (fun r28 t_28 => if r28 = 0 then (some t_28) else ((fX6_hangFrom 8 0 0 (if 6 < v2 then 6 else v2) t_28).bind (fun t_43 => some t_43))))))) else (some t0)
-- ThrownSacks.hung()I
def fX7_hung (t0 : gw_S) : Option (Int32 × gw_S) := if (rdI t0 3 3) = 0 then (some ((-103), t0)) else ((fX6_seek (rdI t0 3 3) t0).bind (fun t_28 => some ((rdI t_28 21 4), t_28)))
-- ThrownSacks.where(I)I
def fX7_where (v1 : Int32) (t0 : gw_S) : Option (Int32 × gw_S) := if (fX7_isKnown v1 t0) = 0 then (some ((-101), t0)) else ((fX6_seek (rdI t0 3 3) t0).bind (fun t_26 => if gw_ix v1 6 = true then (some ((rdI t_26 24 (Int32.toNatClampNeg v1)), t_26)) else none))
-- java/util/Arrays.fill([II)V
def fJ7_fill_53178_26_L5 (Kx : Int32 → gw_S → Option (gw_S)) (v1 : Int32) (v3 : Int32) : Nat → Int32 → gw_S → Option (gw_S)
  | 0, _, _ => none
  | n + 1, v2, t => if v3 ≤ v2 then (Kx v2 t) else (if gw_ix v2 6 = true then (gw_nm (wrI t 26 (Int32.toNatClampNeg v2) v1) (fun t_13 => gw_nm (v2 + 1) (fun v2_14 => (fJ7_fill_53178_26_L5 Kx v1 v3 n) v2_14 t_13))) else none)
def fJ7_fill_53178_26 (v1 : Int32) (t0 : gw_S) : Option (gw_S) := fJ7_fill_53178_26_L5 (fun v2_x5 t_x5 => some t_x5) v1 6 2000 0 t0
-- ThrownSacks$Trial.draw(I)I
def fX5_draw (v1 : Int32) (t0 : gw_S) : Option (Int32 × gw_S) := gw_nm (wrI t0 25 1 (Int64.toInt32 (((1103515245 * (Int32.toInt64 (rdI t0 25 1))) + 12345) &&& 2147483647))) (fun t_19 => if v1 ≤ 0 then (some (0, t_19)) else (if v1 = 0 then none else (some ((((rdI t_19 25 1) >>> (16 &&& 31)) - ((rdI t_19 25 1) >>> (16 &&& 31)) / v1 * v1), t_19))))
-- ThrownSacks$Trial.throwAt(LThrownSacks$Plan;II)V
def fX5_throwAt_J137 (v2 : Int32) (t : gw_S) : Option (gw_S) := if gw_ix v2 6 = true then (if gw_ix v2 6 = true then (gw_nm (wrI t 26 (Int32.toNatClampNeg v2) ((rdI t 26 (Int32.toNatClampNeg v2)) + 1)) (fun t_146 => some t_146)) else none) else none
def fX5_throwAt_J120 (v2 : Int32) (v6 : Int32) (v7 : Int32) (t : gw_S) : Option (gw_S) := if v7 < v6 then (fX5_throwAt_J137 v2 t) else (gw_nm (wrI t 25 3 ((rdI t 25 3) + 1)) (fun t_134 => fX5_throwAt_J137 v2 t_134))
def fX5_throwAt_J42 (v2 : Int32) (v3 : Int32) (x0 : Int32) (t : gw_S) : Option (gw_S) := if gw_ix v2 6 = true then ((fX7_tenthsOf 0 (rdI t 4 (Int32.toNatClampNeg v2)) x0 0 t).bind (fun r54 => if gw_ix v2 6 = true then ((fX7_tenthsOf 0 (rdI t 4 (Int32.toNatClampNeg v2)) x0 1 t).bind (fun r71 => gw_nm ((r54 + r71)) (fun v6_75 => gw_b2 (fX5_draw 10 t) (fun r80 t_80 => if r80 < r54 then (fX5_throwAt_J120 v2 v6_75 r80 t_80) else (if v6_75 ≤ r80 then (fX5_throwAt_J120 v2 v6_75 r80 t_80) else (gw_nm (wrI t_80 25 2 ((rdI t_80 25 2) + 1)) (fun t_106 => if gw_ix v3 6 = true then (if gw_ix v3 6 = true then (gw_nm (wrI t_106 26 (Int32.toNatClampNeg v3) ((rdI t_106 26 (Int32.toNatClampNeg v3)) + 1)) (fun t_118 => some t_118)) else none) else none))))))) else none)) else none
def fX5_throwAt_J22 (v2 : Int32) (v3 : Int32) (t : gw_S) : Option (gw_S) := if gw_ix v3 6 = true then (if gw_ix v3 6 = true then (if (rdI t 26 (Int32.toNatClampNeg v3)) < (rdI t 5 (Int32.toNatClampNeg v3)) then (fX5_throwAt_J42 v2 v3 0 t) else (fX5_throwAt_J42 v2 v3 1 t)) else none) else none
def fX5_throwAt (v2 : Int32) (v3 : Int32) (t0 : gw_S) : Option (gw_S) := if gw_ix v2 6 = true then (if gw_ix v2 6 = true then (if (rdI t0 26 (Int32.toNatClampNeg v2)) < (rdI t0 5 (Int32.toNatClampNeg v2)) then (fX5_throwAt_J22 v2 v3 t0) else (if gw_ix v2 6 = true then (gw_nm (wrI t0 26 (Int32.toNatClampNeg v2) 0) (fun t_21 => fX5_throwAt_J22 v2 v3 t_21)) else none)) else none) else none
-- ThrownSacks$Trial.run(LThrownSacks$Plan;LThrownSacks$Standing;II)V
def fX5_run_J85 (Kx : Int32 → gw_S → Option (gw_S)) (Kh : Int32 → gw_S → Option (gw_S)) (v3 : Int32) (v5 : Int32) (t : gw_S) : Option (gw_S) := gw_nm (v5 + 1) (fun v5_85 => Kh v5_85 t)
def fX5_run_L27 (Kx : Int32 → gw_S → Option (gw_S)) (v3 : Int32) : Nat → Int32 → gw_S → Option (gw_S)
  | 0, _, _ => none
  | n + 1, v5, t => if v3 ≤ v5 then (Kx v5 t) else (gw_b2 (fX5_draw (rdI t 3 3) t) (fun r39 t_39 => (fX4_hookOf r39 t_39).bind (fun r42 => gw_nm ((fX7_nextTo r42 (rdI t_39 3 3) t_39)) (fun v7_56 => if (fX2_has r42 t_39) = 0 then (fX5_run_J85 Kx (fX5_run_L27 Kx v3 n) v3 v5 t_39) else (if (fX2_has v7_56 t_39) = 0 then (fX5_run_J85 Kx (fX5_run_L27 Kx v3 n) v3 v5 t_39) else ((fX5_throwAt r42 v7_56 t_39).bind (fun t_82 => fX5_run_J85 Kx (fX5_run_L27 Kx v3 n) v3 v5 t_82)))))))
def fX5_run (v3 : Int32) (v4 : Int32) (t0 : gw_S) : Option (gw_S) := (fJ7_fill_53178_26 0 t0).bind (fun t_5 => gw_nm (wrI t_5 25 1 v4) (fun t_11 => gw_nm (wrI t_11 25 2 0) (fun t_16 => gw_nm (wrI t_16 25 3 0) (fun t_21 => fX5_run_L27 (fun v5_x27 t_x27 => some t_x27) v3 2000 0 t_21))))
-- ThrownSacks.shifts(III)I
def fX7_shifts (v1 : Int32) (v2 : Int32) (v3 : Int32) (t0 : gw_S) : Option (Int32 × gw_S) := if v1 < 1 then (some ((-102), t0)) else (if 60 < v1 then (some ((-102), t0)) else (if v2 < 0 then (some ((-102), t0)) else (if v3 < 0 then (some ((-102), t0)) else (if v3 ≤ 2 then (if (rdI t0 3 3) = 0 then (some ((-103), t0)) else ((fX5_run v1 v2 t0).bind (fun t_54 => if v3 = 0 then (some ((rdI t_54 25 2), t_54)) else (if v3 = 1 then (some ((rdI t_54 25 3), t_54)) else (some ((rdI t_54 25 1), t_54)))))) else (some ((-102), t0))))))
-- ThrownSacks$Row.copy(LThrownSacks$Row;)V
def fX3_copy_L10 (Kx : Int32 → gw_S → Option (gw_S)) (q0 : Nat) (q1 : Nat) : Nat → Int32 → gw_S → Option (gw_S)
  | 0, _, _ => none
  | n + 1, v2, t => if (rdI t q0 3) ≤ v2 then (Kx v2 t) else (if gw_ix v2 9 = true then (if gw_ix v2 9 = true then (gw_nm (wrI t (q0 + 1) (Int32.toNatClampNeg v2) (rdI t (q1 + 1) (Int32.toNatClampNeg v2))) (fun t_29 => if gw_ix v2 9 = true then (if gw_ix v2 9 = true then (gw_nm (wrI t_29 (q0 + 2) (Int32.toNatClampNeg v2) (rdI t_29 (q1 + 2) (Int32.toNatClampNeg v2))) (fun t_41 => if gw_ix v2 9 = true then (if gw_ix v2 9 = true then (if gw_bl (rdI t_41 (q1 + 3) (Int32.toNatClampNeg v2)) = true then (gw_nm (wrI t_41 (q0 + 3) (Int32.toNatClampNeg v2) (rdI t_41 (q1 + 3) (Int32.toNatClampNeg v2))) (fun t_53 => gw_nm (v2 + 1) (fun v2_54 => (fX3_copy_L10 Kx q0 q1 n) v2_54 t_53))) else none) else none) else none)) else none) else none)) else none) else none)
def fX3_copy (q0 : Nat) (q1 : Nat) (t0 : gw_S) : Option (gw_S) := gw_nm (wrI t0 q0 3 (rdI t0 q1 3)) (fun t_5 => fX3_copy_L10 (fun v2_x10 t_x10 => some t_x10) q0 q1 2000 0 t_5)
-- ThrownSacks$Standing.copy(LThrownSacks$Standing;)V
def fX4_copy_12_7_L54 (Kx : Int32 → gw_S → Option (gw_S)) : Nat → Int32 → gw_S → Option (gw_S)
  | 0, _, _ => none
  | n + 1, v2, t => if 8 ≤ v2 then (Kx v2 t) else (if gw_ix v2 8 = true then (if gw_ix v2 8 = true then (gw_nm (wrI t 15 (Int32.toNatClampNeg v2) (rdI t 10 (Int32.toNatClampNeg v2))) (fun t_71 => if gw_ix v2 8 = true then (if gw_ix v2 8 = true then (gw_nm (wrI t_71 16 (Int32.toNatClampNeg v2) (rdI t_71 11 (Int32.toNatClampNeg v2))) (fun t_83 => gw_nm (v2 + 1) (fun v2_84 => (fX4_copy_12_7_L54 Kx n) v2_84 t_83))) else none) else none)) else none) else none)
def fX4_copy_12_7_L2 (Kx : Int32 → gw_S → Option (gw_S)) : Nat → Int32 → gw_S → Option (gw_S)
  | 0, _, _ => none
  | n + 1, v2, t => if 6 ≤ v2 then (Kx v2 t) else (if gw_ix v2 6 = true then (if gw_ix v2 6 = true then (gw_nm (wrI t 13 (Int32.toNatClampNeg v2) (rdI t 8 (Int32.toNatClampNeg v2))) (fun t_19 => if gw_ix v2 6 = true then (gw_nm (rdR t_19 14 (Int32.toNatClampNeg v2)) (fun r25 => if gw_row r25 = true then (if gw_ix v2 6 = true then (gw_nm (rdR t_19 9 (Int32.toNatClampNeg v2)) (fun r31 => if gw_row r31 = true then ((fX3_copy r25 r31 t_19).bind (fun t_32 => gw_nm (v2 + 1) (fun v2_35 => (fX4_copy_12_7_L2 Kx n) v2_35 t_32))) else none)) else none) else none)) else none)) else none) else none)
def fX4_copy_12_7 (t0 : gw_S) : Option (gw_S) := fX4_copy_12_7_L2 (fun v2_x2 t_x2 => (fX3_copy 55 27 t_x2).bind (fun t_49 => fX4_copy_12_7_L54 (fun v2_x54 t_x54 => gw_nm (wrI t_x54 12 5 (rdI t_x54 7 5)) (fun t_95 => gw_nm (wrI t_95 12 6 (rdI t_95 7 6)) (fun t_103 => gw_nm (wrI t_103 12 7 (rdI t_103 7 7)) (fun t_111 => some t_111)))) 2000 0 t_49)) 2000 0 t0
-- ThrownSacks.image()I
def fX7_image (t0 : gw_S) : Option (Int32 × gw_S) := if (rdI t0 3 3) = 0 then (some ((-103), t0)) else ((fX4_copy_12_7 t0).bind (fun t_21 => gw_nm (wrI t_21 0 7 1) (fun t_26 => some ((rdI t_26 7 6), t_26))))
-- ThrownSacks$Standing.copy(LThrownSacks$Standing;)V
def fX4_copy_12_L54 (Kx : Int32 → gw_S → Option (gw_S)) : Nat → Int32 → gw_S → Option (gw_S)
  | 0, _, _ => none
  | n + 1, v2, t => if 8 ≤ v2 then (Kx v2 t) else (if gw_ix v2 8 = true then (if gw_ix v2 8 = true then (gw_nm (wrI t 10 (Int32.toNatClampNeg v2) (rdI t 15 (Int32.toNatClampNeg v2))) (fun t_71 => if gw_ix v2 8 = true then (if gw_ix v2 8 = true then (gw_nm (wrI t_71 11 (Int32.toNatClampNeg v2) (rdI t_71 16 (Int32.toNatClampNeg v2))) (fun t_83 => gw_nm (v2 + 1) (fun v2_84 => (fX4_copy_12_L54 Kx n) v2_84 t_83))) else none) else none)) else none) else none)
def fX4_copy_12_L2 (Kx : Int32 → gw_S → Option (gw_S)) : Nat → Int32 → gw_S → Option (gw_S)
  | 0, _, _ => none
  | n + 1, v2, t => if 6 ≤ v2 then (Kx v2 t) else (if gw_ix v2 6 = true then (if gw_ix v2 6 = true then (gw_nm (wrI t 8 (Int32.toNatClampNeg v2) (rdI t 13 (Int32.toNatClampNeg v2))) (fun t_19 => if gw_ix v2 6 = true then (gw_nm (rdR t_19 9 (Int32.toNatClampNeg v2)) (fun r25 => if gw_row r25 = true then (if gw_ix v2 6 = true then (gw_nm (rdR t_19 14 (Int32.toNatClampNeg v2)) (fun r31 => if gw_row r31 = true then ((fX3_copy r25 r31 t_19).bind (fun t_32 => gw_nm (v2 + 1) (fun v2_35 => (fX4_copy_12_L2 Kx n) v2_35 t_32))) else none)) else none) else none)) else none)) else none) else none)
def fX4_copy_12 (t0 : gw_S) : Option (gw_S) := fX4_copy_12_L2 (fun v2_x2 t_x2 => (fX3_copy 27 55 t_x2).bind (fun t_49 => fX4_copy_12_L54 (fun v2_x54 t_x54 => gw_nm (wrI t_x54 7 5 (rdI t_x54 12 5)) (fun t_95 => gw_nm (wrI t_95 7 6 (rdI t_95 12 6)) (fun t_103 => gw_nm (wrI t_103 7 7 (rdI t_103 12 7)) (fun t_111 => some t_111)))) 2000 0 t_49)) 2000 0 t0
-- ThrownSacks.restore()I
def fX7_restore (t0 : gw_S) : Option (Int32 × gw_S) := if (rdI t0 0 7) = 0 then (some ((-103), t0)) else ((fX4_copy_12 t0).bind (fun t_18 => gw_nm (wrI t_18 21 3 0) (fun t_26 => some ((rdI t_26 7 6), t_26))))
-- ThrownSacks$Standing.wrongInSacks(I)I
def fX4_wrongInSacks_L4 (Kx : Int32 → Int32 → Option (Int32)) (v1 : Int32) (t0 : gw_S) : Nat → Int32 → Int32 → Option (Int32)
  | 0, _, _ => none
  | n + 1, v2, v3 => if v1 ≤ v3 then (Kx v2 v3) else (if gw_ix v3 6 = true then (gw_nm (rdR t0 9 (Int32.toNatClampNeg v3)) (fun r15 => if gw_row r15 = true then (if gw_ix v3 6 = true then ((fX3_notFor r15 (rdI t0 8 (Int32.toNatClampNeg v3)) t0).bind (fun r22 => gw_nm ((v2 + r22)) (fun v2_26 => gw_nm (v3 + 1) (fun v3_27 => (fX4_wrongInSacks_L4 Kx v1 t0 n) v2_26 v3_27)))) else none) else none)) else none)
def fX4_wrongInSacks (v1 : Int32) (t0 : gw_S) : Option (Int32) := fX4_wrongInSacks_L4 (fun v2_x4 v3_x4 => some v2_x4) v1 t0 2000 0 0
-- ThrownSacks$Standing.inSacks(I)I
def fX4_inSacks_L4 (Kx : Int32 → Int32 → Option (Int32)) (v1 : Int32) (t0 : gw_S) : Nat → Int32 → Int32 → Option (Int32)
  | 0, _, _ => none
  | n + 1, v2, v3 => if v1 ≤ v3 then (Kx v2 v3) else (if gw_ix v3 6 = true then (gw_nm (rdR t0 9 (Int32.toNatClampNeg v3)) (fun r15 => if gw_row r15 = true then (gw_nm ((v2 + (rdI t0 r15 3))) (fun v2_20 => gw_nm (v3 + 1) (fun v3_21 => (fX4_inSacks_L4 Kx v1 t0 n) v2_20 v3_21))) else none)) else none)
def fX4_inSacks (v1 : Int32) (t0 : gw_S) : Option (Int32) := fX4_inSacks_L4 (fun v2_x4 v3_x4 => some v2_x4) v1 t0 2000 0 0
-- ThrownSacks.count(I)I
def fX7_count (v1 : Int32) (t0 : gw_S) : Option (Int32) := if v1 = 0 then (some (rdI t0 3 3)) else (if v1 = 1 then (some (rdI t0 27 3)) else (if v1 = 2 then ((fX4_inSacks (rdI t0 3 3) t0).bind (fun r82 => some r82)) else (if v1 = 3 then ((fX4_wrongInSacks (rdI t0 3 3) t0).bind (fun r97 => some r97)) else (if v1 = 4 then (some (rdI t0 7 6)) else (if v1 = 5 then (some (rdI t0 7 7)) else (if v1 = 6 then (some (rdI t0 7 5)) else (if v1 = 7 then (some (rdI t0 1 1)) else (if v1 = 8 then (some (rdI t0 0 8)) else (some (-102))))))))))
-- ThrownSacks.withHook(JI)J
def fX7_withHook_L39 (Kx : Int64 → Int32 → Option (Int64)) (v3 : Int32) (t0 : gw_S) : Nat → Int64 → Int32 → Option (Int64)
  | 0, _, _ => none
  | n + 1, v4, v6 => if 5 < v6 then (Kx v4 v6) else ((fX7_odds 0 v3 v6 t0).bind (fun r56 => gw_nm (((31 * v4) + (Int32.toInt64 r56))) (fun v4_61 => gw_nm (v6 + 1) (fun v6_63 => (fX7_withHook_L39 Kx v3 t0 n) v4_61 v6_63))))
def fX7_withHook_L6 (Kx : Int64 → Int32 → Option (Int64)) (v3 : Int32) (t0 : gw_S) : Nat → Int64 → Int32 → Option (Int64)
  | 0, _, _ => none
  | n + 1, v4, v6 => if 6 < v6 then (Kx v4 v6) else ((fX7_hook v3 v6 t0).bind (fun r23 => gw_nm (((31 * v4) + (Int32.toInt64 r23))) (fun v4_28 => gw_nm (v6 + 1) (fun v6_30 => (fX7_withHook_L6 Kx v3 t0 n) v4_28 v6_30))))
def fX7_withHook (v1 : Int64) (v3 : Int32) (t0 : gw_S) : Option (Int64) := fX7_withHook_L6 (fun v4_x6 v6_x6 => fX7_withHook_L39 (fun v4_x39 v6_x39 => (fX7_odds 3 v3 3 t0).bind (fun r79 => some ((31 * v4_x39) + (Int32.toInt64 r79)))) v3 t0 2000 v4_x6 0) v3 t0 2000 v1 0
-- ThrownSacks.withHanging(J)J
def fX7_withHanging_L72 (Kx : Int64 → Int32 → gw_S → Option (Int64 × gw_S)) : Nat → Int64 → Int32 → gw_S → Option (Int64 × gw_S)
  | 0, _, _, _ => none
  | n + 1, v3, v5, t => if (rdI t 3 3) ≤ v5 then (Kx v3 v5 t) else (gw_b2 (fX7_where v5 t) (fun r92 t_92 => gw_nm (((31 * v3) + (Int32.toInt64 r92))) (fun v3_97 => gw_nm (v5 + 1) (fun v5_98 => (fX7_withHanging_L72 Kx n) v3_97 v5_98 t_92))))
def fX7_withHanging_L30 (Kx : Int64 → Int32 → gw_S → Option (Int64 × gw_S)) : Nat → Int64 → Int32 → gw_S → Option (Int64 × gw_S)
  | 0, _, _, _ => none
  | n + 1, v3, v5, t => if 16 ≤ v5 then (Kx v3 v5 t) else ((fX7_hanging v5 t).bind (fun r45 => gw_nm (((31 * v3) + (Int32.toInt64 r45))) (fun v3_50 => gw_nm (v5 + 1) (fun v5_51 => (fX7_withHanging_L30 Kx n) v3_50 v5_51 t))))
def fX7_withHanging (v1 : Int64) (t0 : gw_S) : Option (Int64 × gw_S) := (fX7_hanging 0 t0).bind (fun r7 => gw_nm (((31 * v1) + (Int32.toInt64 r7))) (fun v3_12 => (fX7_hanging 1 t0).bind (fun r20 => gw_nm (((31 * v3_12) + (Int32.toInt64 r20))) (fun v3_25 => fX7_withHanging_L30 (fun v3_x30 v5_x30 t_x30 => gw_b2 (fX7_hung t_x30) (fun r63 t_63 => gw_nm (((31 * v3_x30) + (Int32.toInt64 r63))) (fun v3_68 => fX7_withHanging_L72 (fun v3_x72 v5_x72 t_x72 => some (v3_x72, t_x72)) 2000 v3_68 0 t_63))) 2000 v3_25 10 t0))))
-- ThrownSacks.digest()J
def fX7_digest_L135 (Kx : Int64 → Int32 → gw_S → Option (Int64 × gw_S)) : Nat → Int64 → Int32 → gw_S → Option (Int64 × gw_S)
  | 0, _, _, _ => none
  | n + 1, v1, v3, t => if 8 < v3 then (Kx v1 v3 t) else ((fX7_count v3 t).bind (fun r148 => gw_nm (((31 * v1) + (Int32.toInt64 r148))) (fun v1_153 => gw_nm (v3 + 1) (fun v3_154 => (fX7_digest_L135 Kx n) v1_153 v3_154 t))))
def fX7_digest_L100 (Kx : Int64 → Int32 → gw_S → Option (Int64 × gw_S)) : Nat → Int64 → Int32 → gw_S → Option (Int64 × gw_S)
  | 0, _, _, _ => none
  | n + 1, v1, v3, t => if (rdI t 1 1) ≤ v3 then (Kx v1 v3 t) else ((fX1_codeAt v3 t).bind (fun r121 => gw_nm (((31 * v1) + (Int32.toInt64 r121))) (fun v1_126 => gw_nm (v3 + 1) (fun v3_127 => (fX7_digest_L100 Kx n) v1_126 v3_127 t))))
def fX7_digest_J98 (v1 : Int64) (t : gw_S) : Option (Int64 × gw_S) := fX7_digest_L100 (fun v1_x100 v3_x100 t_x100 => fX7_digest_L135 (fun v1_x135 v3_x135 t_x135 => some (v1_x135, t_x135)) 2000 v1_x100 0 t_x100) 2000 v1 0 t
def fX7_digest_L49 (Kx : Int64 → Int32 → gw_S → Option (Int64 × gw_S)) (v3 : Int32) : Nat → Int64 → Int32 → gw_S → Option (Int64 × gw_S)
  | 0, _, _, _ => none
  | n + 1, v1, v4, t => if 2 < v4 then (Kx v1 v4 t) else ((fX7_belt v3 v4 t).bind (fun r64 => gw_nm (((31 * v1) + (Int32.toInt64 r64))) (fun v1_69 => gw_nm (v4 + 1) (fun v4_70 => (fX7_digest_L49 Kx v3 n) v1_69 v4_70 t))))
def fX7_digest_L32 (Kx : Int64 → Int32 → gw_S → Option (Int64 × gw_S)) : Nat → Int64 → Int32 → gw_S → Option (Int64 × gw_S)
  | 0, _, _, _ => none
  | n + 1, v1, v3, t => if (rdI t 27 3) ≤ v3 then (Kx v1 v3 t) else (fX7_digest_L49 (fun v1_x49 v4_x49 t_x49 => gw_nm (v3 + 1) (fun v3_76 => (fX7_digest_L32 Kx n) v1_x49 v3_76 t_x49)) v3 2000 v1 0 t)
def fX7_digest_L6 (Kx : Int64 → Int32 → gw_S → Option (Int64 × gw_S)) : Nat → Int64 → Int32 → gw_S → Option (Int64 × gw_S)
  | 0, _, _, _ => none
  | n + 1, v1, v3, t => if (rdI t 3 3) ≤ v3 then (Kx v1 v3 t) else ((fX7_withHook v1 v3 t).bind (fun r20 => gw_nm (v3 + 1) (fun v3_24 => (fX7_digest_L6 Kx n) r20 v3_24 t)))
def fX7_digest (t0 : gw_S) : Option (Int64 × gw_S) := fX7_digest_L6 (fun v1_x6 v3_x6 t_x6 => fX7_digest_L32 (fun v1_x32 v3_x32 t_x32 => if (rdI t_x32 3 3) ≤ 0 then (fX7_digest_J98 v1_x32 t_x32) else (gw_b2 (fX7_withHanging v1_x32 t_x32) (fun r94 t_94 => fX7_digest_J98 r94 t_94))) 2000 v1_x6 0 t_x6) 2000 827 0 t0
-- ThrownSacksModel.within(III)Z
def fX8_within (v0 : Int32) (v1 : Int32) (v2 : Int32) (t0 : gw_S) : Int32 := if v0 < v1 then (0) else (if v2 < v0 then (0) else (1))
-- ThrownSacksModel.letter(I)I
def fX8_letter (v1 : Int32) (t0 : gw_S) : Option (Int32 × gw_S) := if (fX8_within v1 32 126 t0) = 0 then (some ((-102), t0)) else (if (rdI t0 0 18) = 24 then (some ((-104), t0)) else (if gw_ix (rdI t0 0 18) 24 = true then (gw_nm (wrI t0 13 (Int32.toNatClampNeg (rdI t0 0 18)) (vp_nar .byte (Int8.toInt32 (Int32.toInt8 v1)))) (fun t_36 => gw_nm (wrI t_36 0 18 ((rdI t_36 0 18) + 1)) (fun t_44 => some ((rdI t_44 0 18), t_44)))) else none))
-- ThrownSacksModel.blank()I
def fX8_blank (t0 : gw_S) : Option (Int32 × gw_S) := gw_nm ((rdI t0 0 18)) (fun v1_4 => gw_nm (wrI t0 0 18 0) (fun t_7 => some (v1_4, t_7)))
-- ThrownSacksModel.isFigure(III)Z
def fX8_isFigure (v1 : Int32) (v2 : Int32) (v3 : Int32) (t0 : gw_S) : Option (Int32) := if (rdI t0 0 18) ≤ v1 then (some 0) else (if gw_ix v1 24 = true then (if (fX8_within ((rdI t0 13 (Int32.toNatClampNeg v1)) - 48) v2 v3 t0) = 0 then (some 0) else (some 1)) else none)
-- ThrownSacksModel.isSign(II)Z
def fX8_isSign (v1 : Int32) (v2 : Int32) (t0 : gw_S) : Option (Int32) := if (rdI t0 0 18) ≤ v1 then (some 0) else (if gw_ix v1 24 = true then (if (rdI t0 13 (Int32.toNatClampNeg v1)) = v2 then (some 1) else (some 0)) else none)
-- ThrownSacksModel.readOften(I)V
def fX8_readOften_J58 (x1 : Int32) (t : gw_S) : Option (gw_S) := if gw_bl x1 = true then (gw_nm (wrI t 0 21 x1) (fun t_58 => some t_58)) else none
def fX8_readOften_J57 (t : gw_S) : Option (gw_S) := fX8_readOften_J58 0 t
def fX8_readOften_L2 (Kx : Int32 → gw_S → Option (gw_S)) (v1 : Int32) : Nat → Int32 → gw_S → Option (gw_S)
  | 0, _, _ => none
  | n + 1, v2, t => if (v1 + (rdI t 0 22)) ≤ v2 then (Kx v2 t) else ((fX8_isFigure v2 0 9 t).bind (fun r17 => if r17 = 0 then (Kx v2 t) else (gw_nm (v2 + 1) (fun v2_23 => (fX8_readOften_L2 Kx v1 n) v2_23 t))))
def fX8_readOften (v1 : Int32) (t0 : gw_S) : Option (gw_S) := fX8_readOften_L2 (fun v2_x2 t_x2 => gw_nm (wrI t_x2 0 20 v2_x2) (fun t_31 => if v2_x2 = (v1 + (rdI t_31 0 22)) then (if v2_x2 = (rdI t_31 0 18) then (fX8_readOften_J58 1 t_31) else (fX8_readOften_J57 t_31)) else (fX8_readOften_J57 t_31))) v1 2000 v1 t0
-- ThrownSacksModel.read()V
def fX8_read_J130 (Kx : Int32 → Int32 → gw_S → Option (gw_S)) (Kh : Int32 → Int32 → gw_S → Option (gw_S)) (v1 : Int32) (x0 : Int32) (t : gw_S) : Option (gw_S) := gw_nm (v1 + 1) (fun v1_131 => Kh v1_131 x0 t)
def fX8_read_J129 (Kx : Int32 → Int32 → gw_S → Option (gw_S)) (Kh : Int32 → Int32 → gw_S → Option (gw_S)) (v1 : Int32) (t : gw_S) : Option (gw_S) := fX8_read_J130 Kx Kh v1 0 t
def fX8_read_J106 (Kx : Int32 → Int32 → gw_S → Option (gw_S)) (Kh : Int32 → Int32 → gw_S → Option (gw_S)) (v1 : Int32) (t : gw_S) : Option (gw_S) := if 6 ≤ (rdI t 0 22) then (fX8_read_J129 Kx Kh v1 t) else ((fX8_isSign v1 44 t).bind (fun r119 => if r119 = 0 then (fX8_read_J129 Kx Kh v1 t) else (fX8_read_J130 Kx Kh v1 1 t)))
def fX8_read_J54 (Kx : Int32 → Int32 → gw_S → Option (gw_S)) (Kh : Int32 → Int32 → gw_S → Option (gw_S)) (v1 : Int32) (v2 : Int32) (t : gw_S) : Option (gw_S) := if v2 = 0 then (Kh v1 v2 t) else (gw_nm (v1 + 2) (fun v1_58 => gw_nm (wrI t 0 22 ((rdI t 0 22) + 1)) (fun t_68 => gw_nm (wrI t_68 0 20 v1_58) (fun t_73 => if (rdI t_73 0 22) ≤ 2 then (fX8_read_J106 Kx Kh v1_58 t_73) else ((fX8_isSign v1_58 59 t_73).bind (fun r88 => if r88 = 0 then (fX8_read_J106 Kx Kh v1_58 t_73) else ((fX8_readOften (v1_58 + 1) t_73).bind (fun t_98 => Kh v1_58 0 t_98))))))))
def fX8_read_L14 (Kx : Int32 → Int32 → gw_S → Option (gw_S)) : Nat → Int32 → Int32 → gw_S → Option (gw_S)
  | 0, _, _, _ => none
  | n + 1, v1, v2, t => if v2 = 0 then (Kx v1 v2 t) else (gw_nm (wrI t 0 20 v1) (fun t_20 => (fX8_isFigure v1 1 8 t_20).bind (fun r28 => if r28 = 0 then (fX8_read_J54 Kx (fX8_read_L14 Kx n) v1 r28 t_20) else (gw_nm (wrI t_20 0 20 (v1 + 1)) (fun t_40 => (fX8_isFigure (v1 + 1) 1 9 t_40).bind (fun r50 => fX8_read_J54 Kx (fX8_read_L14 Kx n) v1 r50 t_40))))))
def fX8_read (t0 : gw_S) : Option (gw_S) := gw_nm (wrI t0 0 22 0) (fun t_4 => gw_nm (wrI t_4 0 21 0) (fun t_9 => fX8_read_L14 (fun v1_x14 v2_x14 t_x14 => some t_x14) 2000 0 1 t_9))
-- ThrownSacksModel.fault()I
def fX8_fault (t0 : gw_S) : Option (Int32 × gw_S) := (fX8_read t0).bind (fun t_1 => some ((rdI t_1 0 20), t_1))
-- ThrownSacksModel.empty(I)V
def fX8_empty (v1 : Int32) (t0 : gw_S) : Option (gw_S) := if gw_ix v1 12 = true then (gw_nm (wrI t0 5 (Int32.toNatClampNeg v1) 0) (fun t_6 => if gw_ix v1 6 = true then (gw_nm (wrI t_6 6 (Int32.toNatClampNeg v1) 0) (fun t_13 => if gw_ix v1 6 = true then (gw_nm (wrI t_13 7 (Int32.toNatClampNeg v1) 0) (fun t_20 => if gw_ix v1 6 = true then (gw_nm (wrI t_20 8 (Int32.toNatClampNeg v1) 0) (fun t_27 => some t_27)) else none)) else none)) else none)) else none
-- ThrownSacksModel.floor()I
def fX8_floor_L24 (Kx : Int32 → gw_S → Option (Int32 × gw_S)) : Nat → Int32 → gw_S → Option (Int32 × gw_S)
  | 0, _, _ => none
  | n + 1, v1, t => if (rdI t 0 1) ≤ v1 then (Kx v1 t) else (if gw_ix (3 * v1) 24 = true then (if gw_ix v1 6 = true then (gw_nm (wrI t 1 (Int32.toNatClampNeg v1) ((rdI t 13 (Int32.toNatClampNeg (3 * v1))) - 48)) (fun t_48 => if gw_ix ((3 * v1) + 1) 24 = true then (if gw_ix v1 6 = true then (gw_nm (wrI t_48 2 (Int32.toNatClampNeg v1) ((rdI t_48 13 (Int32.toNatClampNeg ((3 * v1) + 1))) - 48)) (fun t_67 => if gw_ix ((3 * (rdI t_67 0 1)) + v1) 24 = true then (if gw_ix v1 6 = true then (gw_nm (wrI t_67 3 (Int32.toNatClampNeg v1) ((rdI t_67 13 (Int32.toNatClampNeg ((3 * (rdI t_67 0 1)) + v1))) - 48)) (fun t_89 => if gw_ix v1 12 = true then (gw_nm (wrI t_89 4 (Int32.toNatClampNeg v1) v1) (fun t_96 => (fX8_empty v1 t_96).bind (fun t_99 => gw_nm (v1 + 1) (fun v1_102 => (fX8_floor_L24 Kx n) v1_102 t_99)))) else none)) else none) else none)) else none) else none)) else none) else none)
def fX8_floor (t0 : gw_S) : Option (Int32 × gw_S) := (fX8_read t0).bind (fun t_1 => if (rdI t_1 0 21) = 0 then (some ((-103), t_1)) else (gw_nm (wrI t_1 0 1 (rdI t_1 0 22)) (fun t_19 => fX8_floor_L24 (fun v1_x24 t_x24 => gw_nm (wrI t_x24 0 0 ((rdI t_x24 0 0) + 1)) (fun t_115 => gw_nm (wrI t_115 0 10 0) (fun t_120 => gw_nm (wrI t_120 0 13 0) (fun t_125 => gw_nm (wrI t_125 0 14 0) (fun t_130 => gw_nm (wrI t_130 0 15 0) (fun t_135 => gw_nm (wrI t_135 0 18 0) (fun t_140 => some ((rdI t_140 0 1), t_140)))))))) 2000 0 t_19)))
-- ThrownSacksModel.isHook(I)Z
def fX8_isHook (v1 : Int32) (t0 : gw_S) : Option (Int32) := if gw_bl (fX8_within v1 0 ((rdI t0 0 1) - 1) t0) = true then (some (fX8_within v1 0 ((rdI t0 0 1) - 1) t0)) else none
-- ThrownSacksModel.hookNow(II)I
def fX8_hookNow (v1 : Int32) (v2 : Int32) (t0 : gw_S) : Option (Int32) := if gw_ix v1 12 = true then (gw_nm ((rdI t0 4 (Int32.toNatClampNeg v1))) (fun v3_6 => if v2 = 0 then (if gw_ix v1 6 = true then (some (rdI t0 1 (Int32.toNatClampNeg v1))) else none) else (if v2 = 1 then (if gw_ix v1 6 = true then (some (rdI t0 2 (Int32.toNatClampNeg v1))) else none) else (if v2 = 2 then (some v3_6) else (if v2 = 3 then (if gw_ix v3_6 12 = true then (some (rdI t0 5 (Int32.toNatClampNeg v3_6))) else none) else (if v2 = 4 then (if gw_ix v3_6 6 = true then (some (rdI t0 6 (Int32.toNatClampNeg v3_6))) else none) else (if v2 = 5 then (if gw_ix v3_6 6 = true then (some (rdI t0 7 (Int32.toNatClampNeg v3_6))) else none) else (if gw_ix v3_6 6 = true then (some (rdI t0 3 (Int32.toNatClampNeg v3_6))) else none)))))))) else none
-- ThrownSacksModel.hook(II)I
def fX8_hook (v1 : Int32) (v2 : Int32) (t0 : gw_S) : Option (Int32) := (fX8_isHook v1 t0).bind (fun r2 => if r2 = 0 then (some (-101)) else (if (fX8_within v2 0 6 t0) = 0 then (some (-102)) else ((fX8_hookNow v1 v2 t0).bind (fun r26 => some r26))))
-- ThrownSacksModel.parcel(II)I
def fX8_parcel (v1 : Int32) (v2 : Int32) (t0 : gw_S) : Option (Int32 × gw_S) := if (fX8_within v1 0 4 t0) = 0 then (some ((-102), t0)) else ((fX8_isHook v2 t0).bind (fun r14 => if r14 = 0 then (some ((-101), t0)) else (if (rdI t0 0 10) = 8 then (some ((-104), t0)) else (if gw_ix (rdI t0 0 10) 8 = true then (gw_nm (wrI t0 9 (Int32.toNatClampNeg (rdI t0 0 10)) v1) (fun t_44 => if gw_ix (rdI t_44 0 10) 8 = true then (gw_nm (wrI t_44 10 (Int32.toNatClampNeg (rdI t_44 0 10)) v2) (fun t_54 => gw_nm (wrI t_54 0 10 ((rdI t_54 0 10) + 1)) (fun t_62 => some ((rdI t_62 0 10), t_62)))) else none)) else none))))
-- ThrownSacksModel.isPlace(I)Z
def fX8_isPlace (v1 : Int32) (t0 : gw_S) : Option (Int32) := if gw_bl (fX8_within v1 0 ((rdI t0 0 10) - 1) t0) = true then (some (fX8_within v1 0 ((rdI t0 0 10) - 1) t0)) else none
-- ThrownSacksModel.gripOf(I)I
def fX8_gripOf (v0 : Int32) (t0 : gw_S) : Int32 := if v0 = 1 then (1) else (if v0 = 2 then ((-2)) else (if v0 = 3 then ((-1)) else (if v0 = 4 then ((-2)) else (0))))
-- ThrownSacksModel.beltNow(II)I
def fX8_beltNow (v1 : Int32) (v2 : Int32) (t0 : gw_S) : Option (Int32) := if v2 = 0 then (if gw_ix v1 8 = true then (some (rdI t0 9 (Int32.toNatClampNeg v1))) else none) else (if v2 = 1 then (if gw_ix v1 8 = true then (some (rdI t0 10 (Int32.toNatClampNeg v1))) else none) else (if gw_ix v1 8 = true then (some (fX8_gripOf (rdI t0 9 (Int32.toNatClampNeg v1)) t0)) else none))
-- ThrownSacksModel.belt(II)I
def fX8_belt (v1 : Int32) (v2 : Int32) (t0 : gw_S) : Option (Int32) := (fX8_isPlace v1 t0).bind (fun r2 => if r2 = 0 then (some (-101)) else (if (fX8_within v2 0 2 t0) = 0 then (some (-102)) else ((fX8_beltNow v1 v2 t0).bind (fun r25 => some r25))))
-- ThrownSacksModel.as(II)I
def fX8_as_J49 (v1 : Int32) (t0 : gw_S) : Option (Int32) := if gw_ix v1 8 = true then (some (rdI t0 10 (Int32.toNatClampNeg v1))) else none
def fX8_as (v1 : Int32) (v2 : Int32) (t0 : gw_S) : Option (Int32) := (fX8_isPlace v1 t0).bind (fun r2 => if r2 = 0 then (some (-101)) else (if (fX8_within v2 0 4 t0) = 0 then (some (-102)) else (if gw_ix v1 8 = true then (gw_nm ((rdI t0 9 (Int32.toNatClampNeg v1))) (fun v3_29 => if v2 = 0 then (fX8_as_J49 v1 t0) else (if v3_29 = v2 then (fX8_as_J49 v1 t0) else (if v2 = 2 then (if v3_29 = 4 then (fX8_as_J49 v1 t0) else (some (-1))) else (some (-1)))))) else none)))
-- ThrownSacksModel.isFull(I)Z
def fX8_isFull (v1 : Int32) (t0 : gw_S) : Option (Int32) := if gw_ix v1 12 = true then (if gw_ix (rdI t0 4 (Int32.toNatClampNeg v1)) 12 = true then (if gw_ix v1 6 = true then (if (rdI t0 5 (Int32.toNatClampNeg (rdI t0 4 (Int32.toNatClampNeg v1)))) < (rdI t0 2 (Int32.toNatClampNeg v1)) then (some 0) else (some 1)) else none) else none) else none
-- ThrownSacksModel.tenthsIn(II)I
def fX8_tenthsIn (v1 : Int32) (v2 : Int32) (t0 : gw_S) : Option (Int32) := if gw_ix v2 6 = true then (gw_nm (((10 + (fX8_gripOf v1 t0)) - (rdI t0 1 (Int32.toNatClampNeg v2)))) (fun v3_14 => if 0 ≤ v3_14 then (if v3_14 ≤ 10 then (some v3_14) else (some 10)) else (some 0))) else none
-- ThrownSacksModel.nextOf(I)I
def fX8_nextOf (v1 : Int32) (t0 : gw_S) : Int32 := if v1 = ((rdI t0 0 1) - 1) then ((v1 - 1)) else ((v1 + 1))
-- ThrownSacksModel.tenthsNext(II)I
def fX8_tenthsNext (v1 : Int32) (v2 : Int32) (t0 : gw_S) : Option (Int32) := (fX8_tenthsIn v1 v2 t0).bind (fun r5 => some ((10 - r5) / 3))
-- ThrownSacksModel.tenthsOf(III)I
def fX8_tenthsOf_J30 (v3 : Int32) (v4 : Int32) (x0 : Int32) (t0 : gw_S) : Option (Int32) := if v3 = 0 then (some v4) else (if v3 = 1 then (some x0) else (some ((10 - v4) - x0)))
def fX8_tenthsOf (v1 : Int32) (v2 : Int32) (v3 : Int32) (t0 : gw_S) : Option (Int32) := (fX8_tenthsIn v1 v2 t0).bind (fun r3 => (fX8_isFull (fX8_nextOf v2 t0) t0).bind (fun r14 => if r14 = 0 then ((fX8_tenthsNext v1 v2 t0).bind (fun r27 => fX8_tenthsOf_J30 v3 r3 r27 t0)) else (fX8_tenthsOf_J30 v3 r3 0 t0)))
-- ThrownSacksModel.walk(I)I
def fX8_walk (v1 : Int32) (t0 : gw_S) : Option (Int32) := if gw_ix v1 6 = true then (some ((2 * (rdI t0 1 (Int32.toNatClampNeg v1))) + 3)) else none
-- ThrownSacksModel.comes(IZ)V
def fX8_comes_L142 (Kx : Int32 → gw_S → Option (gw_S)) : Nat → Int32 → gw_S → Option (gw_S)
  | 0, _, _ => none
  | n + 1, v5, t => if (rdI t 0 10) ≤ v5 then (Kx v5 t) else (if gw_ix (v5 + 1) 8 = true then (if gw_ix v5 8 = true then (gw_nm (wrI t 9 (Int32.toNatClampNeg v5) (rdI t 9 (Int32.toNatClampNeg (v5 + 1)))) (fun t_166 => if gw_ix (v5 + 1) 8 = true then (if gw_ix v5 8 = true then (gw_nm (wrI t_166 10 (Int32.toNatClampNeg v5) (rdI t_166 10 (Int32.toNatClampNeg (v5 + 1)))) (fun t_182 => gw_nm (v5 + 1) (fun v5_183 => (fX8_comes_L142 Kx n) v5_183 t_182))) else none) else none)) else none) else none)
def fX8_comes_J129 (t : gw_S) : Option (gw_S) := gw_nm (wrI t 0 10 ((rdI t 0 10) - 1)) (fun t_136 => fX8_comes_L142 (fun v5_x142 t_x142 => some t_x142) 2000 0 t_136)
def fX8_comes_J127 (x1 : Int32) (x2 : Int32) (x3 : Int32) (t : gw_S) : Option (gw_S) := if gw_ix x1 6 = true then (gw_nm (wrI t 8 (Int32.toNatClampNeg x1) (x2 + x3)) (fun t_128 => fX8_comes_J129 t_128)) else none
def fX8_comes_J107 (v2 : Int32) (v3 : Int32) (x1 : Int32) (x2 : Int32) (t : gw_S) : Option (gw_S) := gw_nm (wrI t 0 14 (x1 + x2)) (fun t_108 => if gw_ix v3 6 = true then (if v2 = 0 then (fX8_comes_J127 v3 (rdI t_108 8 (Int32.toNatClampNeg v3)) 1 t_108) else (fX8_comes_J127 v3 (rdI t_108 8 (Int32.toNatClampNeg v3)) 0 t_108)) else none)
def fX8_comes_J77 (v2 : Int32) (v3 : Int32) (v4 : Int32) (t : gw_S) : Option (gw_S) := if v4 = 3 then (if gw_ix v3 6 = true then (if gw_ix v3 6 = true then (gw_nm (wrI t 7 (Int32.toNatClampNeg v3) ((rdI t 7 (Int32.toNatClampNeg v3)) + 1)) (fun t_92 => if v2 = 0 then (fX8_comes_J107 v2 v3 (rdI t_92 0 14) 0 t_92) else (fX8_comes_J107 v2 v3 (rdI t_92 0 14) 1 t_92))) else none) else none) else (fX8_comes_J129 t)
def fX8_comes_J47 (v2 : Int32) (v3 : Int32) (v4 : Int32) (x1 : Int32) (x2 : Int32) (x3 : Int32) (t : gw_S) : Option (gw_S) := if gw_ix x1 6 = true then (gw_nm (wrI t 6 (Int32.toNatClampNeg x1) (x2 + x3)) (fun t_48 => if v4 = 4 then (if gw_ix v3 6 = true then (gw_nm (wrI t_48 0 14 ((rdI t_48 0 14) + (rdI t_48 8 (Int32.toNatClampNeg v3)))) (fun t_67 => if gw_ix v3 6 = true then (gw_nm (wrI t_67 8 (Int32.toNatClampNeg v3) 0) (fun t_76 => fX8_comes_J77 v2 v3 v4 t_76)) else none)) else none) else (fX8_comes_J77 v2 v3 v4 t_48))) else none
def fX8_comes (v1 : Int32) (v2 : Int32) (t0 : gw_S) : Option (gw_S) := if gw_ix v1 12 = true then (gw_nm ((rdI t0 4 (Int32.toNatClampNeg v1))) (fun v3_6 => if gw_ix 0 8 = true then (gw_nm ((rdI t0 9 (Int32.toNatClampNeg 0))) (fun v4_13 => if gw_ix v3_6 12 = true then (if gw_ix v3_6 12 = true then (gw_nm (wrI t0 5 (Int32.toNatClampNeg v3_6) ((rdI t0 5 (Int32.toNatClampNeg v3_6)) + 1)) (fun t_24 => if gw_ix v3_6 6 = true then (if gw_ix 0 8 = true then (if (rdI t_24 10 (Int32.toNatClampNeg 0)) = v3_6 then (fX8_comes_J47 v2 v3_6 v4_13 v3_6 (rdI t_24 6 (Int32.toNatClampNeg v3_6)) 0 t_24) else (fX8_comes_J47 v2 v3_6 v4_13 v3_6 (rdI t_24 6 (Int32.toNatClampNeg v3_6)) 1 t_24)) else none) else none)) else none) else none)) else none)) else none
-- ThrownSacksModel.toss(II)I
def fX8_toss_J108 (v3 : Int32) (x1 : Int32) (x2 : Int32) (t : gw_S) : Option (Int32 × gw_S) := (fX8_comes x1 x2 t).bind (fun t_108 => some (v3, t_108))
def fX8_toss_J91 (v2 : Int32) (v3 : Int32) (x1 : Int32) (x2 : Int32) (x3 : Int32) (t : gw_S) : Option (Int32 × gw_S) := gw_nm (wrI t 0 13 (x1 + (x2 + x3))) (fun t_93 => if 2 ≤ v2 then (fX8_toss_J108 v3 v3 0 t_93) else (fX8_toss_J108 v3 v3 1 t_93))
def fX8_toss_J70 (v1 : Int32) (v2 : Int32) (x0 : Int32) (t : gw_S) : Option (Int32 × gw_S) := if v2 = 2 then ((fX8_walk v1 t).bind (fun r84 => fX8_toss_J91 v2 x0 (rdI t 0 13) 2 r84 t)) else (fX8_toss_J91 v2 x0 (rdI t 0 13) 2 0 t)
def fX8_toss (v1 : Int32) (v2 : Int32) (t0 : gw_S) : Option (Int32 × gw_S) := (fX8_isHook v1 t0).bind (fun r2 => if r2 = 0 then (some ((-101), t0)) else (if (fX8_within v2 0 2 t0) = 0 then (some ((-102), t0)) else (if (rdI t0 0 10) = 0 then (some ((-103), t0)) else ((fX8_isFull v1 t0).bind (fun r32 => if r32 = 0 then (if gw_ix 0 8 = true then ((fX8_tenthsOf (rdI t0 9 (Int32.toNatClampNeg 0)) v1 v2 t0).bind (fun r47 => if r47 = 0 then (some ((-103), t0)) else (if v2 = 1 then (fX8_toss_J70 v1 v2 (fX8_nextOf v1 t0) t0) else (fX8_toss_J70 v1 v2 v1 t0)))) else none) else (some ((-103), t0)))))))
-- ThrownSacksModel.carry(I)I
def fX8_carry (v1 : Int32) (t0 : gw_S) : Option (Int32 × gw_S) := (fX8_isHook v1 t0).bind (fun r2 => if r2 = 0 then (some ((-101), t0)) else (if (rdI t0 0 10) = 0 then (some ((-103), t0)) else ((fX8_isFull v1 t0).bind (fun r20 => if r20 = 0 then ((fX8_walk v1 t0).bind (fun r36 => gw_nm (wrI t0 0 13 ((rdI t0 0 13) + r36)) (fun t_40 => (fX8_comes v1 0 t_40).bind (fun t_46 => some ((rdI t_46 0 13), t_46))))) else (some ((-103), t0))))))
-- ThrownSacksModel.change(I)I
def fX8_change (v1 : Int32) (t0 : gw_S) : Option (Int32 × gw_S) := (fX8_isHook v1 t0).bind (fun r2 => if r2 = 0 then (some ((-101), t0)) else (if gw_ix v1 12 = true then (if gw_ix (rdI t0 4 (Int32.toNatClampNeg v1)) 12 = true then (gw_nm ((rdI t0 5 (Int32.toNatClampNeg (rdI t0 4 (Int32.toNatClampNeg v1))))) (fun v2_22 => if gw_ix v1 12 = true then ((fX8_empty (rdI t0 4 (Int32.toNatClampNeg v1)) t0).bind (fun t_30 => gw_nm (wrI t_30 0 13 ((rdI t_30 0 13) + 40)) (fun t_41 => some (v2_22, t_41)))) else none)) else none) else none))
-- ThrownSacksModel.exchange(II)I
def fX8_exchange (v1 : Int32) (v2 : Int32) (t0 : gw_S) : Option (Int32 × gw_S) := (fX8_isHook v1 t0).bind (fun r2 => if r2 = 0 then (some ((-101), t0)) else ((fX8_isHook v2 t0).bind (fun r10 => if r10 = 0 then (some ((-101), t0)) else (if v1 = v2 then (some ((-101), t0)) else (if gw_ix v1 12 = true then (gw_nm ((rdI t0 4 (Int32.toNatClampNeg v1))) (fun v3_30 => if gw_ix v2 12 = true then (gw_nm ((rdI t0 4 (Int32.toNatClampNeg v2))) (fun v4_37 => if gw_ix v3_30 12 = true then (if gw_ix v2 6 = true then (if (rdI t0 2 (Int32.toNatClampNeg v2)) < (rdI t0 5 (Int32.toNatClampNeg v3_30)) then (some ((-103), t0)) else (if gw_ix v4_37 12 = true then (if gw_ix v1 6 = true then (if (rdI t0 5 (Int32.toNatClampNeg v4_37)) ≤ (rdI t0 2 (Int32.toNatClampNeg v1)) then (if gw_ix v1 12 = true then (gw_nm (wrI t0 4 (Int32.toNatClampNeg v1) v4_37) (fun t_80 => if gw_ix v2 12 = true then (gw_nm (wrI t_80 4 (Int32.toNatClampNeg v2) v3_30) (fun t_87 => gw_nm (wrI t_87 0 13 ((rdI t_87 0 13) + 10)) (fun t_96 => some ((rdI t_96 0 13), t_96)))) else none)) else none) else (some ((-103), t0))) else none) else none)) else none) else none)) else none)) else none)))))
-- ThrownSacksModel.costBy(IIII)I
def fX8_costBy_J16 (v2 : Int32) (v3 : Int32) (v4 : Int32) (x0 : Int32) (t0 : gw_S) : Option (Int32) := (fX8_walk v2 t0).bind (fun r28 => some (((20 + (60 * v4)) + (r28 * ((10 - v3) - v4))) + x0))
def fX8_costBy (v1 : Int32) (v2 : Int32) (v3 : Int32) (v4 : Int32) (t0 : gw_S) : Option (Int32) := if v1 = 3 then (fX8_costBy_J16 v2 v3 v4 (9 * (v3 + v4)) t0) else (fX8_costBy_J16 v2 v3 v4 0 t0)
-- ThrownSacksModel.costNow(II)I
def fX8_costNow (v1 : Int32) (v2 : Int32) (t0 : gw_S) : Option (Int32) := (fX8_tenthsOf v1 v2 0 t0).bind (fun r7 => (fX8_tenthsOf v1 v2 1 t0).bind (fun r14 => (fX8_costBy v1 v2 r7 r14 t0).bind (fun r17 => some r17)))
-- ThrownSacksModel.oddsNow(III)I
def fX8_oddsNow (v1 : Int32) (v2 : Int32) (v3 : Int32) (t0 : gw_S) : Option (Int32) := if v3 = 0 then ((fX8_tenthsOf v1 v2 v3 t0).bind (fun r40 => some r40)) else (if v3 = 1 then ((fX8_tenthsOf v1 v2 v3 t0).bind (fun r40 => some r40)) else (if v3 = 2 then ((fX8_tenthsOf v1 v2 v3 t0).bind (fun r40 => some r40)) else (if v3 = 3 then ((fX8_costNow v1 v2 t0).bind (fun r47 => some r47)) else (if v3 = 4 then ((fX8_walk v2 t0).bind (fun r55 => some (10 * r55))) else ((fX8_costNow v1 v2 t0).bind (fun r63 => (fX8_walk v2 t0).bind (fun r70 => if (10 * r70) ≤ r63 then (some 0) else (some 1))))))))
-- ThrownSacksModel.odds(III)I
def fX8_odds (v1 : Int32) (v2 : Int32) (v3 : Int32) (t0 : gw_S) : Option (Int32) := if (fX8_within v1 0 4 t0) = 0 then (some (-102)) else ((fX8_isHook v2 t0).bind (fun r14 => if r14 = 0 then (some (-101)) else (if (fX8_within v3 0 5 t0) = 0 then (some (-102)) else ((fX8_oddsNow v1 v2 v3 t0).bind (fun r36 => some r36)))))
-- ThrownSacksModel.ways()I
def fX8_ways_L4 (Kx : Int32 → Int32 → Option (Int32)) (t0 : gw_S) : Nat → Int32 → Int32 → Option (Int32)
  | 0, _, _ => none
  | n + 1, v1, v2 => if (rdI t0 0 1) < v2 then (Kx v1 v2) else (gw_nm ((v1 * v2)) (fun v1_15 => gw_nm (v2 + 1) (fun v2_16 => (fX8_ways_L4 Kx t0 n) v1_15 v2_16)))
def fX8_ways (t0 : gw_S) : Option (Int32) := fX8_ways_L4 (fun v1_x4 v2_x4 => some v1_x4) t0 2000 1 2
-- ThrownSacksModel.hangBy(I)V
def fX8_hangBy_J77 (Kx : Int32 → Int32 → gw_S → Option (gw_S)) (Kh : Int32 → Int32 → gw_S → Option (gw_S)) (v2 : Int32) (v3 : Int32) (v4 : Int32) (v5 : Int32) (v7 : Int32) (x0 : Int32) (x1 : Int32) (t : gw_S) : Option (gw_S) := gw_nm ((x0 - x1)) (fun v6_78 => gw_nm (v7 + 1) (fun v7_80 => Kh v6_78 v7_80 t))
def fX8_hangBy_J60 (Kx : Int32 → Int32 → gw_S → Option (gw_S)) (Kh : Int32 → Int32 → gw_S → Option (gw_S)) (v2 : Int32) (v3 : Int32) (v4 : Int32) (v5 : Int32) (v6 : Int32) (v7 : Int32) (t : gw_S) : Option (gw_S) := if ((v4 >>> (v7 &&& 31)) &&& 1) = 0 then (fX8_hangBy_J77 Kx Kh v2 v3 v4 v5 v7 v6 1 t) else (fX8_hangBy_J77 Kx Kh v2 v3 v4 v5 v7 v6 0 t)
def fX8_hangBy_L44 (Kx : Int32 → Int32 → gw_S → Option (gw_S)) (v2 : Int32) (v3 : Int32) (v4 : Int32) (v5 : Int32) : Nat → Int32 → Int32 → gw_S → Option (gw_S)
  | 0, _, _, _ => none
  | n + 1, v6, v7, t => if ((v4 >>> (v7 &&& 31)) &&& 1) = 1 then (fX8_hangBy_J60 Kx (fX8_hangBy_L44 Kx v2 v3 v4 v5 n) v2 v3 v4 v5 v6 v7 t) else (if v6 ≤ 0 then (Kx v6 v7 t) else (fX8_hangBy_J60 Kx (fX8_hangBy_L44 Kx v2 v3 v4 v5 n) v2 v3 v4 v5 v6 v7 t))
def fX8_hangBy_L13 (Kx : Int32 → Int32 → Int32 → Int32 → gw_S → Option (gw_S)) : Nat → Int32 → Int32 → Int32 → Int32 → gw_S → Option (gw_S)
  | 0, _, _, _, _, _ => none
  | n + 1, v2, v3, v4, v5, t => if (rdI t 0 1) ≤ v5 then (Kx v2 v3 v4 v5 t) else (if ((rdI t 0 1) - v5) = 0 then none else (gw_nm ((v3 / ((rdI t 0 1) - v5))) (fun v3_31 => if v3_31 = 0 then none else (gw_nm ((v2 / v3_31)) (fun v6_35 => if v3_31 = 0 then none else (gw_nm ((v2 - v2 / v3_31 * v3_31)) (fun v2_40 => fX8_hangBy_L44 (fun v6_x44 v7_x44 t_x44 => gw_nm ((v4 ||| (1 <<< (v7_x44 &&& 31)))) (fun v4_93 => if gw_ix (6 + v5) 12 = true then (gw_nm (wrI t_x44 4 (Int32.toNatClampNeg (6 + v5)) v7_x44) (fun t_106 => gw_nm (v5 + 1) (fun v5_107 => (fX8_hangBy_L13 Kx n) v2_40 v3_31 v4_93 v5_107 t_106))) else none)) v2_40 v3_31 v4 v5 2000 v6_35 0 t)))))))
def fX8_hangBy (v1 : Int32) (t0 : gw_S) : Option (gw_S) := (fX8_ways t0).bind (fun r3 => fX8_hangBy_L13 (fun v2_x13 v3_x13 v4_x13 v5_x13 t_x13 => some t_x13) 2000 v1 r3 0 0 t0)
-- ThrownSacksModel.takesOn(I)I
def fX8_takesOn (v1 : Int32) (t0 : gw_S) : Option (Int32) := (fX8_tenthsIn 0 v1 t0).bind (fun r6 => (fX8_tenthsNext 0 v1 t0).bind (fun r12 => (fX8_costBy 0 v1 r6 r12 t0).bind (fun r15 => (fX8_walk v1 t0).bind (fun r24 => if (10 * r24) ≤ r15 then ((fX8_walk v1 t0).bind (fun r39 => some (10 * r39))) else (some r15)))))
-- ThrownSacksModel.takesBy()I
def fX8_takesBy_L4 (Kx : Int32 → Int32 → Option (Int32)) (t0 : gw_S) : Nat → Int32 → Int32 → Option (Int32)
  | 0, _, _ => none
  | n + 1, v1, v2 => if (rdI t0 0 1) ≤ v2 then (Kx v1 v2) else (if gw_ix (6 + v2) 12 = true then (if gw_ix (rdI t0 4 (Int32.toNatClampNeg (6 + v2))) 6 = true then ((fX8_takesOn v2 t0).bind (fun r29 => gw_nm ((v1 + ((rdI t0 3 (Int32.toNatClampNeg (rdI t0 4 (Int32.toNatClampNeg (6 + v2))))) * r29))) (fun v1_34 => gw_nm (v2 + 1) (fun v2_35 => (fX8_takesBy_L4 Kx t0 n) v1_34 v2_35)))) else none) else none)
def fX8_takesBy (t0 : gw_S) : Option (Int32) := fX8_takesBy_L4 (fun v1_x4 v2_x4 => some v1_x4) t0 2000 0 0
-- ThrownSacksModel.hookOf(II)I
def fX8_hookOf_J33 (Kx : Int32 → Int32 → Option (Int32)) (Kh : Int32 → Int32 → Option (Int32)) (v1 : Int32) (v2 : Int32) (v4 : Int32) (x0 : Int32) (t0 : gw_S) : Option (Int32) := gw_nm (v4 + 1) (fun v4_34 => Kh x0 v4_34)
def fX8_hookOf_L5 (Kx : Int32 → Int32 → Option (Int32)) (v1 : Int32) (v2 : Int32) (t0 : gw_S) : Nat → Int32 → Int32 → Option (Int32)
  | 0, _, _ => none
  | n + 1, v3, v4 => if (rdI t0 0 1) ≤ v4 then (Kx v3 v4) else (if gw_ix (v1 + v4) 12 = true then (if (rdI t0 4 (Int32.toNatClampNeg (v1 + v4))) = v2 then (fX8_hookOf_J33 Kx (fX8_hookOf_L5 Kx v1 v2 t0 n) v1 v2 v4 v4 t0) else (fX8_hookOf_J33 Kx (fX8_hookOf_L5 Kx v1 v2 t0 n) v1 v2 v4 v3 t0)) else none)
def fX8_hookOf (v1 : Int32) (v2 : Int32) (t0 : gw_S) : Option (Int32) := fX8_hookOf_L5 (fun v3_x5 v4_x5 => some v3_x5) v1 v2 t0 2000 0 0
-- ThrownSacksModel.exchanges()I
def fX8_exchanges_L33 (Kx : Int32 → Int32 → Option (Int32)) (v1 : Int32) (v3 : Int32) (t0 : gw_S) : Nat → Int32 → Int32 → Option (Int32)
  | 0, _, _ => none
  | n + 1, v2, v4 => if ((v2 >>> (v4 &&& 31)) &&& 1) = 0 then (gw_nm ((v2 ||| (1 <<< (v4 &&& 31)))) (fun v2_48 => if gw_ix (6 + v4) 12 = true then ((fX8_hookOf 0 (rdI t0 4 (Int32.toNatClampNeg (6 + v4))) t0).bind (fun r61 => (fX8_exchanges_L33 Kx v1 v3 t0 n) v2_48 r61)) else none)) else (Kx v2 v4)
def fX8_exchanges_J28 (Kx : Int32 → Int32 → Int32 → Option (Int32)) (Kh : Int32 → Int32 → Int32 → Option (Int32)) (v2 : Int32) (v3 : Int32) (x0 : Int32) (x1 : Int32) (t0 : gw_S) : Option (Int32) := gw_nm ((x0 + x1)) (fun v1_29 => fX8_exchanges_L33 (fun v2_x33 v4_x33 => gw_nm (v3 + 1) (fun v3_69 => Kh v1_29 v2_x33 v3_69)) v1_29 v3 t0 2000 v2 v3)
def fX8_exchanges_L6 (Kx : Int32 → Int32 → Int32 → Option (Int32)) (t0 : gw_S) : Nat → Int32 → Int32 → Int32 → Option (Int32)
  | 0, _, _, _ => none
  | n + 1, v1, v2, v3 => if (rdI t0 0 1) ≤ v3 then (Kx v1 v2 v3) else (if ((v2 >>> (v3 &&& 31)) &&& 1) = 0 then (fX8_exchanges_J28 Kx (fX8_exchanges_L6 Kx t0 n) v2 v3 v1 1 t0) else (fX8_exchanges_J28 Kx (fX8_exchanges_L6 Kx t0 n) v2 v3 v1 0 t0))
def fX8_exchanges (t0 : gw_S) : Option (Int32) := fX8_exchanges_L6 (fun v1_x6 v2_x6 v3_x6 => some ((rdI t0 0 1) - v1_x6)) t0 2000 0 0 0
-- ThrownSacksModel.hangingNow(I)I
def fX8_hangingNow_J54 (Kx : Int32 → Int32 → Int32 → gw_S → Option (Int32 × gw_S)) (Kh : Int32 → Int32 → Int32 → gw_S → Option (Int32 × gw_S)) (v1 : Int32) (v2 : Int32) (v4 : Int32) (x0 : Int32) (t : gw_S) : Option (Int32 × gw_S) := gw_nm (v4 + 1) (fun v4_55 => Kh v2 x0 v4_55 t)
def fX8_hangingNow_J41 (Kx : Int32 → Int32 → Int32 → gw_S → Option (Int32 × gw_S)) (Kh : Int32 → Int32 → Int32 → gw_S → Option (Int32 × gw_S)) (v1 : Int32) (v3 : Int32) (v4 : Int32) (v5 : Int32) (x0 : Int32) (t : gw_S) : Option (Int32 × gw_S) := if v3 ≤ v5 then (fX8_hangingNow_J54 Kx Kh v1 x0 v4 v3 t) else (fX8_hangingNow_J54 Kx Kh v1 x0 v4 v5 t)
def fX8_hangingNow_L8 (Kx : Int32 → Int32 → Int32 → gw_S → Option (Int32 × gw_S)) (v1 : Int32) : Nat → Int32 → Int32 → Int32 → gw_S → Option (Int32 × gw_S)
  | 0, _, _, _, _ => none
  | n + 1, v2, v3, v4, t => (fX8_ways t).bind (fun r11 => if r11 ≤ v4 then (Kx v2 v3 v4 t) else ((fX8_hangBy v4 t).bind (fun t_20 => (fX8_takesBy t_20).bind (fun r24 => if v3 ≤ r24 then (fX8_hangingNow_J41 Kx (fX8_hangingNow_L8 Kx v1 n) v1 v3 v4 r24 v2 t_20) else (fX8_hangingNow_J41 Kx (fX8_hangingNow_L8 Kx v1 n) v1 v3 v4 r24 v4 t_20)))))
def fX8_hangingNow (v1 : Int32) (t0 : gw_S) : Option (Int32 × gw_S) := fX8_hangingNow_L8 (fun v2_x8 v3_x8 v4_x8 t_x8 => (fX8_hangBy v2_x8 t_x8).bind (fun t_63 => if 2 ≤ v1 then (if (rdI t_63 0 1) ≤ (v1 - 10) then (some ((-1), t_63)) else (if gw_ix ((6 + v1) - 10) 12 = true then (some ((rdI t_63 4 (Int32.toNatClampNeg ((6 + v1) - 10))), t_63)) else none)) else (if v1 = 0 then (some (v3_x8, t_63)) else ((fX8_exchanges t_63).bind (fun r80 => some (r80, t_63)))))) v1 2000 (-1) 268435456 0 t0
-- ThrownSacksModel.hanging(I)I
def fX8_hanging_J23 (v1 : Int32) (t : gw_S) : Option (Int32 × gw_S) := if (rdI t 0 1) = 0 then (some ((-103), t)) else (gw_b2 (fX8_hangingNow v1 t) (fun r37 t_37 => some (r37, t_37)))
def fX8_hanging (v1 : Int32) (t0 : gw_S) : Option (Int32 × gw_S) := if (fX8_within v1 0 1 t0) = 0 then (if (fX8_within v1 10 15 t0) = 0 then (some ((-102), t0)) else (fX8_hanging_J23 v1 t0)) else (fX8_hanging_J23 v1 t0)
-- ThrownSacksModel.found(II)I
def fX8_found (v1 : Int32) (v2 : Int32) (t0 : gw_S) : Option (Int32 × gw_S) := (fX8_isHook v1 t0).bind (fun r2 => if r2 = 0 then (some ((-101), t0)) else ((fX8_isHook v2 t0).bind (fun r10 => if r10 = 0 then (some ((-101), t0)) else (if v1 = v2 then (some ((-101), t0)) else (if (rdI t0 0 15) = 8 then (some ((-104), t0)) else (if gw_ix (rdI t0 0 15) 8 = true then (gw_nm (wrI t0 11 (Int32.toNatClampNeg (rdI t0 0 15)) v1) (fun t_45 => if gw_ix (rdI t_45 0 15) 8 = true then (gw_nm (wrI t_45 12 (Int32.toNatClampNeg (rdI t_45 0 15)) v2) (fun t_55 => gw_nm (wrI t_55 0 15 ((rdI t_55 0 15) + 1)) (fun t_63 => some ((rdI t_63 0 15), t_63)))) else none)) else none))))))
-- ThrownSacksModel.forget()I
def fX8_forget (t0 : gw_S) : Option (Int32 × gw_S) := gw_nm ((rdI t0 0 15)) (fun v1_4 => gw_nm (wrI t0 0 15 0) (fun t_7 => some (v1_4, t_7)))
-- ThrownSacksModel.couldHang()Z
def fX8_couldHang_J52 (Kx : Int32 → Int32 → Option (Int32)) (Kh : Int32 → Int32 → Option (Int32)) (v2 : Int32) (x0 : Int32) (t0 : gw_S) : Option (Int32) := gw_nm (v2 + 1) (fun v2_53 => Kh x0 v2_53)
def fX8_couldHang_J51 (Kx : Int32 → Int32 → Option (Int32)) (Kh : Int32 → Int32 → Option (Int32)) (v2 : Int32) (t0 : gw_S) : Option (Int32) := fX8_couldHang_J52 Kx Kh v2 0 t0
def fX8_couldHang_L4 (Kx : Int32 → Int32 → Option (Int32)) (t0 : gw_S) : Nat → Int32 → Int32 → Option (Int32)
  | 0, _, _ => none
  | n + 1, v1, v2 => if (rdI t0 0 15) ≤ v2 then (Kx v1 v2) else (if v1 = 0 then (fX8_couldHang_J51 Kx (fX8_couldHang_L4 Kx t0 n) v2 t0) else (if gw_ix v2 8 = true then ((fX8_hookOf 6 (rdI t0 12 (Int32.toNatClampNeg v2)) t0).bind (fun r25 => if gw_ix v2 8 = true then ((fX8_hookOf 6 (rdI t0 11 (Int32.toNatClampNeg v2)) t0).bind (fun r38 => if r25 = (fX8_nextOf r38 t0) then (fX8_couldHang_J52 Kx (fX8_couldHang_L4 Kx t0 n) v2 1 t0) else (fX8_couldHang_J51 Kx (fX8_couldHang_L4 Kx t0 n) v2 t0))) else none)) else none))
def fX8_couldHang (t0 : gw_S) : Option (Int32) := fX8_couldHang_L4 (fun v1_x4 v2_x4 => if gw_bl v1_x4 = true then (some v1_x4) else none) t0 2000 1 0
-- ThrownSacksModel.hungNow()I
def fX8_hungNow_J30 (Kx : Int32 → Int32 → gw_S → Option (Int32 × gw_S)) (Kh : Int32 → Int32 → gw_S → Option (Int32 × gw_S)) (v2 : Int32) (x0 : Int32) (x1 : Int32) (t : gw_S) : Option (Int32 × gw_S) := gw_nm ((x0 + x1)) (fun v1_31 => gw_nm (v2 + 1) (fun v2_32 => Kh v1_31 v2_32 t))
def fX8_hungNow_L4 (Kx : Int32 → Int32 → gw_S → Option (Int32 × gw_S)) : Nat → Int32 → Int32 → gw_S → Option (Int32 × gw_S)
  | 0, _, _, _ => none
  | n + 1, v1, v2, t => (fX8_ways t).bind (fun r6 => if r6 ≤ v2 then (Kx v1 v2 t) else ((fX8_hangBy v2 t).bind (fun t_14 => (fX8_couldHang t_14).bind (fun r19 => if r19 = 0 then (fX8_hungNow_J30 Kx (fX8_hungNow_L4 Kx n) v2 v1 0 t_14) else (fX8_hungNow_J30 Kx (fX8_hungNow_L4 Kx n) v2 v1 1 t_14)))))
def fX8_hungNow (t0 : gw_S) : Option (Int32 × gw_S) := fX8_hungNow_L4 (fun v1_x4 v2_x4 t_x4 => some (v1_x4, t_x4)) 2000 0 0 t0
-- ThrownSacksModel.hung()I
def fX8_hung (t0 : gw_S) : Option (Int32 × gw_S) := if (rdI t0 0 1) = 0 then (some ((-103), t0)) else (gw_b2 (fX8_hungNow t0) (fun r13 t_13 => some (r13, t_13)))
-- ThrownSacksModel.whereNow(I)I
def fX8_whereNow_J38 (Kx : Int32 → Int32 → gw_S → Option (Int32 × gw_S)) (Kh : Int32 → Int32 → gw_S → Option (Int32 × gw_S)) (v1 : Int32) (v3 : Int32) (x0 : Int32) (x1 : Int32) (t : gw_S) : Option (Int32 × gw_S) := gw_nm ((x0 ||| x1)) (fun v2_39 => gw_nm (v3 + 1) (fun v3_40 => Kh v2_39 v3_40 t))
def fX8_whereNow_L4 (Kx : Int32 → Int32 → gw_S → Option (Int32 × gw_S)) (v1 : Int32) : Nat → Int32 → Int32 → gw_S → Option (Int32 × gw_S)
  | 0, _, _, _ => none
  | n + 1, v2, v3, t => (fX8_ways t).bind (fun r6 => if r6 ≤ v3 then (Kx v2 v3 t) else ((fX8_hangBy v3 t).bind (fun t_14 => (fX8_couldHang t_14).bind (fun r19 => if r19 = 0 then (fX8_whereNow_J38 Kx (fX8_whereNow_L4 Kx v1 n) v1 v3 v2 0 t_14) else ((fX8_hookOf 6 v1 t_14).bind (fun r30 => fX8_whereNow_J38 Kx (fX8_whereNow_L4 Kx v1 n) v1 v3 v2 (1 <<< (r30 &&& 31)) t_14))))))
def fX8_whereNow (v1 : Int32) (t0 : gw_S) : Option (Int32 × gw_S) := fX8_whereNow_L4 (fun v2_x4 v3_x4 t_x4 => some (v2_x4, t_x4)) v1 2000 0 0 t0
-- ThrownSacksModel.where(I)I
def fX8_where (v1 : Int32) (t0 : gw_S) : Option (Int32 × gw_S) := (fX8_isHook v1 t0).bind (fun r2 => if r2 = 0 then (some ((-101), t0)) else (gw_b2 (fX8_whereNow v1 t0) (fun r10 t_10 => some (r10, t_10))))
-- ThrownSacksModel.draw(I)I
def fX8_draw (v1 : Int32) (t0 : gw_S) : Option (Int32 × gw_S) := gw_nm (wrL t0 0 23 (((1103515245 * (rdL t0 0 23)) + 12345) &&& 2147483647)) (fun t_17 => if (Int32.toInt64 v1) = 0 then none else (some ((Int64.toInt32 (((rdL t_17 0 23) / 65536) - ((rdL t_17 0 23) / 65536) / (Int32.toInt64 v1) * (Int32.toInt64 v1))), t_17)))
-- ThrownSacksModel.wouldBeFull(I)Z
def fX8_wouldBeFull (v1 : Int32) (t0 : gw_S) : Option (Int32) := if gw_ix v1 12 = true then (if gw_ix (6 + (rdI t0 4 (Int32.toNatClampNeg v1))) 12 = true then (if gw_ix v1 6 = true then (if (rdI t0 5 (Int32.toNatClampNeg (6 + (rdI t0 4 (Int32.toNatClampNeg v1))))) < (rdI t0 2 (Int32.toNatClampNeg v1)) then (some 0) else (some 1)) else none) else none) else none
-- ThrownSacksModel.goParcel()V
def fX8_goParcel_J162 (x0 : Int32) (t : gw_S) : Option (gw_S) := if gw_ix (6 + x0) 12 = true then (if gw_ix (6 + x0) 12 = true then (gw_nm (wrI t 5 (Int32.toNatClampNeg (6 + x0)) ((rdI t 5 (Int32.toNatClampNeg (6 + x0))) + 1)) (fun t_177 => some t_177)) else none) else none
def fX8_goParcel_J139 (v1 : Int32) (v2 : Int32) (v5 : Int32) (x1 : Int32) (x2 : Int32) (t : gw_S) : Option (gw_S) := gw_nm (wrI t 0 25 (x1 + x2)) (fun t_140 => if v5 = 0 then (fX8_goParcel_J162 v1 t_140) else (if gw_ix (fX8_nextOf v2 t_140) 12 = true then (fX8_goParcel_J162 (rdI t_140 4 (Int32.toNatClampNeg (fX8_nextOf v2 t_140))) t_140) else none))
def fX8_goParcel_J138 (v1 : Int32) (v2 : Int32) (v5 : Int32) (x1 : Int32) (t : gw_S) : Option (gw_S) := fX8_goParcel_J139 v1 v2 v5 x1 0 t
def fX8_goParcel_J114 (v1 : Int32) (v2 : Int32) (v3 : Int32) (v4 : Int32) (v5 : Int32) (x1 : Int32) (x2 : Int32) (t : gw_S) : Option (gw_S) := gw_nm (wrI t 0 24 (x1 + x2)) (fun t_115 => if v3 < v4 then (fX8_goParcel_J138 v1 v2 v5 (rdI t_115 0 25) t_115) else (if v5 = 0 then (fX8_goParcel_J139 v1 v2 v5 (rdI t_115 0 25) 1 t_115) else (fX8_goParcel_J138 v1 v2 v5 (rdI t_115 0 25) t_115)))
def fX8_goParcel_J97 (v1 : Int32) (v2 : Int32) (v3 : Int32) (v4 : Int32) (x0 : Int32) (t : gw_S) : Option (gw_S) := if x0 = 0 then (fX8_goParcel_J114 v1 v2 v3 v4 x0 (rdI t 0 24) 0 t) else (fX8_goParcel_J114 v1 v2 v3 v4 x0 (rdI t 0 24) 1 t)
def fX8_goParcel_J96 (v1 : Int32) (v2 : Int32) (v3 : Int32) (v4 : Int32) (t : gw_S) : Option (gw_S) := fX8_goParcel_J97 v1 v2 v3 v4 0 t
def fX8_goParcel_J45 (v1 : Int32) (v2 : Int32) (x1 : Int32) (x2 : Int32) (t : gw_S) : Option (gw_S) := if gw_ix x1 12 = true then (gw_nm (wrI t 5 (Int32.toNatClampNeg x1) x2) (fun t_45 => gw_b2 (fX8_draw 10 t_45) (fun r49 t_49 => (fX8_tenthsIn 0 v2 t_49).bind (fun r56 => if r49 < r56 then (fX8_goParcel_J96 v1 v2 r49 r56 t_49) else ((fX8_tenthsNext 0 v2 t_49).bind (fun r73 => if (r56 + r73) ≤ r49 then (fX8_goParcel_J96 v1 v2 r49 r56 t_49) else ((fX8_wouldBeFull (fX8_nextOf v2 t_49) t_49).bind (fun r86 => if r86 = 0 then (fX8_goParcel_J97 v1 v2 r49 r56 1 t_49) else (fX8_goParcel_J96 v1 v2 r49 r56 t_49))))))))) else none
def fX8_goParcel (t0 : gw_S) : Option (gw_S) := gw_b2 (fX8_draw (rdI t0 0 1) t0) (fun r5 t_5 => (fX8_hookOf 0 r5 t_5).bind (fun r12 => (fX8_wouldBeFull r12 t_5).bind (fun r26 => if r26 = 0 then (if gw_ix (6 + r5) 12 = true then (fX8_goParcel_J45 r5 r12 (6 + r5) (rdI t_5 5 (Int32.toNatClampNeg (6 + r5))) t_5) else none) else (fX8_goParcel_J45 r5 r12 (6 + r5) 0 t_5))))
-- ThrownSacksModel.shiftsNow(III)I
def fX8_shiftsNow_L46 (Kx : Int32 → gw_S → Option (Int32 × gw_S)) (v1 : Int32) (v3 : Int32) : Nat → Int32 → gw_S → Option (Int32 × gw_S)
  | 0, _, _ => none
  | n + 1, v4, t => if v1 ≤ v4 then (Kx v4 t) else ((fX8_goParcel t).bind (fun t_53 => gw_nm (v4 + 1) (fun v4_56 => (fX8_shiftsNow_L46 Kx v1 v3 n) v4_56 t_53)))
def fX8_shiftsNow_L3 (Kx : Int32 → gw_S → Option (Int32 × gw_S)) (v1 : Int32) (v2 : Int32) (v3 : Int32) : Nat → Int32 → gw_S → Option (Int32 × gw_S)
  | 0, _, _ => none
  | n + 1, v4, t => if 6 ≤ v4 then (Kx v4 t) else (if gw_ix (6 + v4) 12 = true then (gw_nm (wrI t 5 (Int32.toNatClampNeg (6 + v4)) 0) (fun t_20 => gw_nm (v4 + 1) (fun v4_21 => (fX8_shiftsNow_L3 Kx v1 v2 v3 n) v4_21 t_20))) else none)
def fX8_shiftsNow (v1 : Int32) (v2 : Int32) (v3 : Int32) (t0 : gw_S) : Option (Int32 × gw_S) := fX8_shiftsNow_L3 (fun v4_x3 t_x3 => gw_nm (wrL t_x3 0 23 (Int32.toInt64 v2)) (fun t_30 => gw_nm (wrI t_30 0 24 0) (fun t_35 => gw_nm (wrI t_35 0 25 0) (fun t_40 => fX8_shiftsNow_L46 (fun v4_x46 t_x46 => if v3 = 0 then (some ((rdI t_x46 0 24), t_x46)) else (if v3 = 1 then (some ((rdI t_x46 0 25), t_x46)) else (some ((Int64.toInt32 (rdL t_x46 0 23)), t_x46)))) v1 v3 2000 0 t_40)))) v1 v2 v3 2000 0 t0
-- ThrownSacksModel.shifts(III)I
def fX8_shifts (v1 : Int32) (v2 : Int32) (v3 : Int32) (t0 : gw_S) : Option (Int32 × gw_S) := if (fX8_within v1 1 60 t0) = 0 then (some ((-102), t0)) else (if v2 < 0 then (some ((-102), t0)) else (if (fX8_within v3 0 2 t0) = 0 then (some ((-102), t0)) else (if (rdI t0 0 1) = 0 then (some ((-103), t0)) else (gw_b2 (fX8_shiftsNow v1 v2 v3 t0) (fun r42 t_42 => some (r42, t_42))))))
-- ThrownSacksModel.image()I
def fX8_image_L131 (Kx : Int32 → gw_S → Option (Int32 × gw_S)) : Nat → Int32 → gw_S → Option (Int32 × gw_S)
  | 0, _, _ => none
  | n + 1, v1, t => if 8 ≤ v1 then (Kx v1 t) else (if gw_ix v1 8 = true then (if gw_ix v1 8 = true then (gw_nm (wrI t 19 (Int32.toNatClampNeg v1) (rdI t 9 (Int32.toNatClampNeg v1))) (fun t_148 => if gw_ix v1 8 = true then (if gw_ix v1 8 = true then (gw_nm (wrI t_148 20 (Int32.toNatClampNeg v1) (rdI t_148 10 (Int32.toNatClampNeg v1))) (fun t_160 => if gw_ix v1 8 = true then (if gw_ix v1 8 = true then (gw_nm (wrI t_160 21 (Int32.toNatClampNeg v1) (rdI t_160 11 (Int32.toNatClampNeg v1))) (fun t_172 => if gw_ix v1 8 = true then (if gw_ix v1 8 = true then (gw_nm (wrI t_172 22 (Int32.toNatClampNeg v1) (rdI t_172 12 (Int32.toNatClampNeg v1))) (fun t_184 => gw_nm (v1 + 1) (fun v1_185 => (fX8_image_L131 Kx n) v1_185 t_184))) else none) else none)) else none) else none)) else none) else none)) else none) else none)
def fX8_image_L57 (Kx : Int32 → gw_S → Option (Int32 × gw_S)) : Nat → Int32 → gw_S → Option (Int32 × gw_S)
  | 0, _, _ => none
  | n + 1, v1, t => if 6 ≤ v1 then (Kx v1 t) else (if gw_ix v1 12 = true then (if gw_ix v1 6 = true then (gw_nm (wrI t 14 (Int32.toNatClampNeg v1) (rdI t 4 (Int32.toNatClampNeg v1))) (fun t_74 => if gw_ix v1 12 = true then (if gw_ix v1 6 = true then (gw_nm (wrI t_74 15 (Int32.toNatClampNeg v1) (rdI t_74 5 (Int32.toNatClampNeg v1))) (fun t_86 => if gw_ix v1 6 = true then (if gw_ix v1 6 = true then (gw_nm (wrI t_86 16 (Int32.toNatClampNeg v1) (rdI t_86 6 (Int32.toNatClampNeg v1))) (fun t_98 => if gw_ix v1 6 = true then (if gw_ix v1 6 = true then (gw_nm (wrI t_98 17 (Int32.toNatClampNeg v1) (rdI t_98 7 (Int32.toNatClampNeg v1))) (fun t_110 => if gw_ix v1 6 = true then (if gw_ix v1 6 = true then (gw_nm (wrI t_110 18 (Int32.toNatClampNeg v1) (rdI t_110 8 (Int32.toNatClampNeg v1))) (fun t_122 => gw_nm (v1 + 1) (fun v1_123 => (fX8_image_L57 Kx n) v1_123 t_122))) else none) else none)) else none) else none)) else none) else none)) else none) else none)) else none) else none)
def fX8_image (t0 : gw_S) : Option (Int32 × gw_S) := if (rdI t0 0 1) = 0 then (some ((-103), t0)) else (gw_nm (wrI t0 0 26 1) (fun t_12 => gw_nm (wrI t_12 0 27 (rdI t_12 0 0)) (fun t_20 => gw_nm (wrI t_20 0 28 (rdI t_20 0 10)) (fun t_28 => gw_nm (wrI t_28 0 29 (rdI t_28 0 13)) (fun t_36 => gw_nm (wrI t_36 0 30 (rdI t_36 0 14)) (fun t_44 => gw_nm (wrI t_44 0 31 (rdI t_44 0 15)) (fun t_52 => fX8_image_L57 (fun v1_x57 t_x57 => fX8_image_L131 (fun v1_x131 t_x131 => some ((rdI t_x131 0 13), t_x131)) 2000 0 t_x57) 2000 0 t_52)))))))
-- ThrownSacksModel.restore()I
def fX8_restore_L129 (Kx : Int32 → gw_S → Option (Int32 × gw_S)) : Nat → Int32 → gw_S → Option (Int32 × gw_S)
  | 0, _, _ => none
  | n + 1, v1, t => if 8 ≤ v1 then (Kx v1 t) else (if gw_ix v1 8 = true then (if gw_ix v1 8 = true then (gw_nm (wrI t 9 (Int32.toNatClampNeg v1) (rdI t 19 (Int32.toNatClampNeg v1))) (fun t_146 => if gw_ix v1 8 = true then (if gw_ix v1 8 = true then (gw_nm (wrI t_146 10 (Int32.toNatClampNeg v1) (rdI t_146 20 (Int32.toNatClampNeg v1))) (fun t_158 => if gw_ix v1 8 = true then (if gw_ix v1 8 = true then (gw_nm (wrI t_158 11 (Int32.toNatClampNeg v1) (rdI t_158 21 (Int32.toNatClampNeg v1))) (fun t_170 => if gw_ix v1 8 = true then (if gw_ix v1 8 = true then (gw_nm (wrI t_170 12 (Int32.toNatClampNeg v1) (rdI t_170 22 (Int32.toNatClampNeg v1))) (fun t_182 => gw_nm (v1 + 1) (fun v1_183 => (fX8_restore_L129 Kx n) v1_183 t_182))) else none) else none)) else none) else none)) else none) else none)) else none) else none)
def fX8_restore_L55 (Kx : Int32 → gw_S → Option (Int32 × gw_S)) : Nat → Int32 → gw_S → Option (Int32 × gw_S)
  | 0, _, _ => none
  | n + 1, v1, t => if 6 ≤ v1 then (Kx v1 t) else (if gw_ix v1 6 = true then (if gw_ix v1 12 = true then (gw_nm (wrI t 4 (Int32.toNatClampNeg v1) (rdI t 14 (Int32.toNatClampNeg v1))) (fun t_72 => if gw_ix v1 6 = true then (if gw_ix v1 12 = true then (gw_nm (wrI t_72 5 (Int32.toNatClampNeg v1) (rdI t_72 15 (Int32.toNatClampNeg v1))) (fun t_84 => if gw_ix v1 6 = true then (if gw_ix v1 6 = true then (gw_nm (wrI t_84 6 (Int32.toNatClampNeg v1) (rdI t_84 16 (Int32.toNatClampNeg v1))) (fun t_96 => if gw_ix v1 6 = true then (if gw_ix v1 6 = true then (gw_nm (wrI t_96 7 (Int32.toNatClampNeg v1) (rdI t_96 17 (Int32.toNatClampNeg v1))) (fun t_108 => if gw_ix v1 6 = true then (if gw_ix v1 6 = true then (gw_nm (wrI t_108 8 (Int32.toNatClampNeg v1) (rdI t_108 18 (Int32.toNatClampNeg v1))) (fun t_120 => gw_nm (v1 + 1) (fun v1_121 => (fX8_restore_L55 Kx n) v1_121 t_120))) else none) else none)) else none) else none)) else none) else none)) else none) else none)) else none) else none)
def fX8_restore (t0 : gw_S) : Option (Int32 × gw_S) := if (rdI t0 0 26) = 0 then (some ((-103), t0)) else (if (rdI t0 0 27) = (rdI t0 0 0) then (gw_nm (wrI t0 0 10 (rdI t0 0 28)) (fun t_26 => gw_nm (wrI t_26 0 13 (rdI t_26 0 29)) (fun t_34 => gw_nm (wrI t_34 0 14 (rdI t_34 0 30)) (fun t_42 => gw_nm (wrI t_42 0 15 (rdI t_42 0 31)) (fun t_50 => fX8_restore_L55 (fun v1_x55 t_x55 => fX8_restore_L129 (fun v1_x129 t_x129 => some ((rdI t_x129 0 13), t_x129)) 2000 0 t_x55) 2000 0 t_50))))) else (some ((-103), t0)))
-- ThrownSacksModel.inSacks(Z)I
def fX8_inSacks_J32 (Kx : Int32 → Int32 → Option (Int32)) (Kh : Int32 → Int32 → Option (Int32)) (v1 : Int32) (v3 : Int32) (x0 : Int32) (x1 : Int32) (t0 : gw_S) : Option (Int32) := gw_nm ((x0 + x1)) (fun v2_33 => gw_nm (v3 + 1) (fun v3_34 => Kh v2_33 v3_34))
def fX8_inSacks_L4 (Kx : Int32 → Int32 → Option (Int32)) (v1 : Int32) (t0 : gw_S) : Nat → Int32 → Int32 → Option (Int32)
  | 0, _, _ => none
  | n + 1, v2, v3 => if (rdI t0 0 1) ≤ v3 then (Kx v2 v3) else (if v1 = 0 then (if gw_ix v3 12 = true then (fX8_inSacks_J32 Kx (fX8_inSacks_L4 Kx v1 t0 n) v1 v3 v2 (rdI t0 5 (Int32.toNatClampNeg v3)) t0) else none) else (if gw_ix v3 6 = true then (fX8_inSacks_J32 Kx (fX8_inSacks_L4 Kx v1 t0 n) v1 v3 v2 (rdI t0 6 (Int32.toNatClampNeg v3)) t0) else none))
def fX8_inSacks (v1 : Int32) (t0 : gw_S) : Option (Int32) := fX8_inSacks_L4 (fun v2_x4 v3_x4 => some v2_x4) v1 t0 2000 0 0
-- ThrownSacksModel.howMany(I)I
def fX8_howMany (v1 : Int32) (t0 : gw_S) : Option (Int32) := if v1 = 0 then (some (rdI t0 0 1)) else (if v1 = 1 then (some (rdI t0 0 10)) else (if v1 = 2 then ((fX8_inSacks 0 t0).bind (fun r64 => some r64)) else (if v1 = 3 then ((fX8_inSacks 1 t0).bind (fun r70 => some r70)) else (if v1 = 4 then (some (rdI t0 0 13)) else (if v1 = 5 then (some (rdI t0 0 14)) else (if v1 = 6 then (some (rdI t0 0 15)) else (if v1 = 7 then (some (rdI t0 0 18)) else (if v1 = 8 then (some (rdI t0 0 0)) else (some (-102))))))))))
-- ThrownSacksModel.count(I)I
def fX8_count (v1 : Int32) (t0 : gw_S) : Option (Int32) := (fX8_howMany v1 t0).bind (fun r2 => some r2)
-- ThrownSacksModel.mix(J)V
def fX8_mix (v1 : Int64) (t0 : gw_S) : Option (gw_S) := gw_nm (wrL t0 0 41 ((31 * (rdL t0 0 41)) + v1)) (fun t_11 => some t_11)
-- ThrownSacksModel.mixHook(I)V
def fX8_mixHook_L27 (Kx : Int32 → gw_S → Option (gw_S)) (v1 : Int32) : Nat → Int32 → gw_S → Option (gw_S)
  | 0, _, _ => none
  | n + 1, v2, t => if 6 ≤ v2 then (Kx v2 t) else ((fX8_oddsNow 0 v1 v2 t).bind (fun r38 => (fX8_mix (Int32.toInt64 r38) t).bind (fun t_42 => gw_nm (v2 + 1) (fun v2_45 => (fX8_mixHook_L27 Kx v1 n) v2_45 t_42))))
def fX8_mixHook_L2 (Kx : Int32 → gw_S → Option (gw_S)) (v1 : Int32) : Nat → Int32 → gw_S → Option (gw_S)
  | 0, _, _ => none
  | n + 1, v2, t => if 7 ≤ v2 then (Kx v2 t) else ((fX8_hookNow v1 v2 t).bind (fun r12 => (fX8_mix (Int32.toInt64 r12) t).bind (fun t_16 => gw_nm (v2 + 1) (fun v2_19 => (fX8_mixHook_L2 Kx v1 n) v2_19 t_16))))
def fX8_mixHook (v1 : Int32) (t0 : gw_S) : Option (gw_S) := fX8_mixHook_L2 (fun v2_x2 t_x2 => fX8_mixHook_L27 (fun v2_x27 t_x27 => (fX8_oddsNow 3 v1 3 t_x27).bind (fun r56 => (fX8_mix (Int32.toInt64 r56) t_x27).bind (fun t_60 => some t_60))) v1 2000 0 t_x2) v1 2000 0 t0
-- ThrownSacksModel.mixFloor()V
def fX8_mixFloor_L56 (Kx : Int32 → gw_S → Option (gw_S)) : Nat → Int32 → gw_S → Option (gw_S)
  | 0, _, _ => none
  | n + 1, v1, t => if (rdI t 0 1) ≤ v1 then (Kx v1 t) else (gw_b2 (fX8_whereNow v1 t) (fun r67 t_67 => (fX8_mix (Int32.toInt64 r67) t_67).bind (fun t_71 => gw_nm (v1 + 1) (fun v1_74 => (fX8_mixFloor_L56 Kx n) v1_74 t_71))))
def fX8_mixFloor_L23 (Kx : Int32 → gw_S → Option (gw_S)) : Nat → Int32 → gw_S → Option (gw_S)
  | 0, _, _ => none
  | n + 1, v1, t => if 16 ≤ v1 then (Kx v1 t) else (gw_b2 (fX8_hangingNow v1 t) (fun r32 t_32 => (fX8_mix (Int32.toInt64 r32) t_32).bind (fun t_36 => gw_nm (v1 + 1) (fun v1_39 => (fX8_mixFloor_L23 Kx n) v1_39 t_36))))
def fX8_mixFloor (t0 : gw_S) : Option (gw_S) := gw_b2 (fX8_hangingNow 0 t0) (fun r3 t_3 => (fX8_mix (Int32.toInt64 r3) t_3).bind (fun t_7 => gw_b2 (fX8_hangingNow 1 t_7) (fun r13 t_13 => (fX8_mix (Int32.toInt64 r13) t_13).bind (fun t_17 => fX8_mixFloor_L23 (fun v1_x23 t_x23 => gw_b2 (fX8_hungNow t_x23) (fun r47 t_47 => (fX8_mix (Int32.toInt64 r47) t_47).bind (fun t_51 => fX8_mixFloor_L56 (fun v1_x56 t_x56 => some t_x56) 2000 0 t_51))) 2000 10 t_17))))
-- ThrownSacksModel.digest()J
def fX8_digest_L108 (Kx : Int32 → gw_S → Option (Int64 × gw_S)) : Nat → Int32 → gw_S → Option (Int64 × gw_S)
  | 0, _, _ => none
  | n + 1, v1, t => if 9 ≤ v1 then (Kx v1 t) else ((fX8_howMany v1 t).bind (fun r117 => (fX8_mix (Int32.toInt64 r117) t).bind (fun t_121 => gw_nm (v1 + 1) (fun v1_124 => (fX8_digest_L108 Kx n) v1_124 t_121))))
def fX8_digest_L81 (Kx : Int32 → gw_S → Option (Int64 × gw_S)) : Nat → Int32 → gw_S → Option (Int64 × gw_S)
  | 0, _, _ => none
  | n + 1, v1, t => if (rdI t 0 18) ≤ v1 then (Kx v1 t) else (if gw_ix v1 24 = true then ((fX8_mix (Int32.toInt64 (rdI t 13 (Int32.toNatClampNeg v1))) t).bind (fun t_97 => gw_nm (v1 + 1) (fun v1_100 => (fX8_digest_L81 Kx n) v1_100 t_97))) else none)
def fX8_digest_J79 (t : gw_S) : Option (Int64 × gw_S) := fX8_digest_L81 (fun v1_x81 t_x81 => fX8_digest_L108 (fun v1_x108 t_x108 => some ((rdL t_x108 0 41), t_x108)) 2000 0 t_x81) 2000 0 t
def fX8_digest_L40 (Kx : Int32 → gw_S → Option (Int64 × gw_S)) (v1 : Int32) : Nat → Int32 → gw_S → Option (Int64 × gw_S)
  | 0, _, _ => none
  | n + 1, v2, t => if 3 ≤ v2 then (Kx v2 t) else ((fX8_beltNow v1 v2 t).bind (fun r49 => (fX8_mix (Int32.toInt64 r49) t).bind (fun t_53 => gw_nm (v2 + 1) (fun v2_56 => (fX8_digest_L40 Kx v1 n) v2_56 t_53))))
def fX8_digest_L30 (Kx : Int32 → gw_S → Option (Int64 × gw_S)) : Nat → Int32 → gw_S → Option (Int64 × gw_S)
  | 0, _, _ => none
  | n + 1, v1, t => if (rdI t 0 10) ≤ v1 then (Kx v1 t) else (fX8_digest_L40 (fun v2_x40 t_x40 => gw_nm (v1 + 1) (fun v1_62 => (fX8_digest_L30 Kx n) v1_62 t_x40)) v1 2000 0 t)
def fX8_digest_L9 (Kx : Int32 → gw_S → Option (Int64 × gw_S)) : Nat → Int32 → gw_S → Option (Int64 × gw_S)
  | 0, _, _ => none
  | n + 1, v1, t => if (rdI t 0 1) ≤ v1 then (Kx v1 t) else ((fX8_mixHook v1 t).bind (fun t_19 => gw_nm (v1 + 1) (fun v1_22 => (fX8_digest_L9 Kx n) v1_22 t_19)))
def fX8_digest (t0 : gw_S) : Option (Int64 × gw_S) := gw_nm (wrL t0 0 41 827) (fun t_4 => fX8_digest_L9 (fun v1_x9 t_x9 => fX8_digest_L30 (fun v1_x30 t_x30 => if (rdI t_x30 0 1) ≤ 0 then (fX8_digest_J79 t_x30) else ((fX8_mixFloor t_x30).bind (fun t_76 => fX8_digest_J79 t_76))) 2000 0 t_x9) 2000 0 t_4)
