/-! The class's constructor: written by wip/whole/gen52.py. -/
def shX7 (g : gw_G) (h : Nat) (w : va_W) : Prop := ∃ (qp qo qn qk qz qy qt : Nat) (wp wo wn wk wz wy wt : va_W), (shX1 g qp wp ∧ shX2 g qo wo ∧ shX4 g qn wn ∧ shX4 g qk wk ∧ shX0 g qz wz ∧ shX6 g qy wy ∧ shX5 g qt wt) ∧ w = (h, .inr (7, [.ref qp, .ref qo, .ref qn, .ref qk, .ref qz, .ref qy, .ref qt, .int 0, .int 0])) :: ((((((([] ++ wp) ++ wo) ++ wn) ++ wk) ++ wz) ++ wy) ++ wt)
theorem in_X7_init_X0 : ∀ w ∈ u_ws RX0 TX0 4, w ∈ wsX7_init := by decide +kernel
theorem hfs_X0 : ∀ j, j < 4 → defaultValue (tyX0 j) = vp_V [.null, .null, .null, .int 0] j := fun j hj => match j, hj with | 0, _ => rfl | 1, _ => rfl | 2, _ => rfl | 3, _ => rfl | _ + 4, h => absurd h (by omega)
theorem cl_X7_0 : Cond.classLink RX7 33 RX0 ∈ wsX7_init := by decide +kernel
theorem is_X7_0 : Cond.instantiable RX0 4 ∈ wsX7_init := by decide +kernel
theorem it_X7_0 : Cond.initialized RX0 ∈ wsX7_init := by decide +kernel
theorem im_X7_0 : Cond.instanceMethod yX0_init ∈ wsX7_init := by decide +kernel
theorem in_X7_init_X1 : ∀ w ∈ u_ws RX1 TX1 2, w ∈ wsX7_init := by decide +kernel
theorem hfs_X1 : ∀ j, j < 2 → defaultValue (tyX1 j) = vp_V [.null, .int 0] j := fun j hj => match j, hj with | 0, _ => rfl | 1, _ => rfl | _ + 2, h => absurd h (by omega)
theorem cl_X7_1 : Cond.classLink RX7 7 RX1 ∈ wsX7_init := by decide +kernel
theorem is_X7_1 : Cond.instantiable RX1 2 ∈ wsX7_init := by decide +kernel
theorem it_X7_1 : Cond.initialized RX1 ∈ wsX7_init := by decide +kernel
theorem im_X7_1 : Cond.instanceMethod yX1_init ∈ wsX7_init := by decide +kernel
theorem in_X7_init_X2 : ∀ w ∈ u_ws RX2 TX2 4, w ∈ wsX7_init := by decide +kernel
theorem hfs_X2 : ∀ j, j < 4 → defaultValue (tyX2 j) = vp_V [.null, .null, .null, .int 0] j := fun j hj => match j, hj with | 0, _ => rfl | 1, _ => rfl | 2, _ => rfl | 3, _ => rfl | _ + 4, h => absurd h (by omega)
theorem cl_X7_2 : Cond.classLink RX7 16 RX2 ∈ wsX7_init := by decide +kernel
theorem is_X7_2 : Cond.instantiable RX2 4 ∈ wsX7_init := by decide +kernel
theorem it_X7_2 : Cond.initialized RX2 ∈ wsX7_init := by decide +kernel
theorem im_X7_2 : Cond.instanceMethod yX2_init ∈ wsX7_init := by decide +kernel
theorem in_X7_init_X4 : ∀ w ∈ u_ws RX4 TX4 8, w ∈ wsX7_init := by decide +kernel
theorem hfs_X4 : ∀ j, j < 8 → defaultValue (tyX4 j) = vp_V [.null, .null, .null, .null, .null, .int 0, .int 0, .int 0] j := fun j hj => match j, hj with | 0, _ => rfl | 1, _ => rfl | 2, _ => rfl | 3, _ => rfl | 4, _ => rfl | 5, _ => rfl | 6, _ => rfl | 7, _ => rfl | _ + 8, h => absurd h (by omega)
theorem cl_X7_4 : Cond.classLink RX7 23 RX4 ∈ wsX7_init := by decide +kernel
theorem is_X7_4 : Cond.instantiable RX4 8 ∈ wsX7_init := by decide +kernel
theorem it_X7_4 : Cond.initialized RX4 ∈ wsX7_init := by decide +kernel
theorem im_X7_4 : Cond.instanceMethod yX4_init ∈ wsX7_init := by decide +kernel
theorem in_X7_init_X5 : ∀ w ∈ u_ws RX5 TX5 4, w ∈ wsX7_init := by decide +kernel
theorem hfs_X5 : ∀ j, j < 4 → defaultValue (tyX5 j) = vp_V [.null, .int 0, .int 0, .int 0] j := fun j hj => match j, hj with | 0, _ => rfl | 1, _ => rfl | 2, _ => rfl | 3, _ => rfl | _ + 4, h => absurd h (by omega)
theorem cl_X7_5 : Cond.classLink RX7 47 RX5 ∈ wsX7_init := by decide +kernel
theorem is_X7_5 : Cond.instantiable RX5 4 ∈ wsX7_init := by decide +kernel
theorem it_X7_5 : Cond.initialized RX5 ∈ wsX7_init := by decide +kernel
theorem im_X7_5 : Cond.instanceMethod yX5_init ∈ wsX7_init := by decide +kernel
theorem in_X7_init_X6 : ∀ w ∈ u_ws RX6 TX6 5, w ∈ wsX7_init := by decide +kernel
theorem hfs_X6 : ∀ j, j < 5 → defaultValue (tyX6 j) = vp_V [.null, .null, .null, .int 0, .int 0] j := fun j hj => match j, hj with | 0, _ => rfl | 1, _ => rfl | 2, _ => rfl | 3, _ => rfl | 4, _ => rfl | _ + 5, h => absurd h (by omega)
theorem cl_X7_6 : Cond.classLink RX7 40 RX6 ∈ wsX7_init := by decide +kernel
theorem is_X7_6 : Cond.instantiable RX6 5 ∈ wsX7_init := by decide +kernel
theorem it_X7_6 : Cond.initialized RX6 ∈ wsX7_init := by decide +kernel
theorem im_X7_6 : Cond.instanceMethod yX6_init ∈ wsX7_init := by decide +kernel
theorem ml_X7_4 : Cond.methodLink RX7 25 yX4_init ∈ wsX7_init := by decide +kernel
abbrev rmX7_init : Room := { frames := 3, cells := 82, slots := 667, locals := 53 }
theorem in_X7_init_X7 : ∀ w ∈ u_ws RX7 TX7 9, w ∈ wsX7_init := by decide +kernel
theorem lk_X7_init_10 : Cond.fieldLink RX7 10 "ThrownSacks" "page" "LThrownSacks$Page;" ∈ wsX7_init := by decide +kernel
theorem lk_X7_init_19 : Cond.fieldLink RX7 19 "ThrownSacks" "plan" "LThrownSacks$Plan;" ∈ wsX7_init := by decide +kernel
theorem lk_X7_init_26 : Cond.fieldLink RX7 26 "ThrownSacks" "now" "LThrownSacks$Standing;" ∈ wsX7_init := by decide +kernel
theorem lk_X7_init_30 : Cond.fieldLink RX7 30 "ThrownSacks" "kept" "LThrownSacks$Standing;" ∈ wsX7_init := by decide +kernel
theorem lk_X7_init_36 : Cond.fieldLink RX7 36 "ThrownSacks" "best" "LThrownSacks$Best;" ∈ wsX7_init := by decide +kernel
theorem lk_X7_init_43 : Cond.fieldLink RX7 43 "ThrownSacks" "ways" "LThrownSacks$Ways;" ∈ wsX7_init := by decide +kernel
theorem lk_X7_init_50 : Cond.fieldLink RX7 50 "ThrownSacks" "trial" "LThrownSacks$Trial;" ∈ wsX7_init := by decide +kernel
set_option maxHeartbeats 4000000 in
set_option maxRecDepth 100000 in
theorem ok_X7_init (l : Launch) {D : va_G} {g : gw_G} (h0 sz : Nat) : Met l yX7_init wsX7_init rmX7_init (gx_P D g 7 [.null, .null, .null, .null, .null, .null, .null, .int 0, .int 0] h0 sz) (gx_Q D (shX7 g h0) 7 [.null, .null, .null, .null, .null, .null, .null, .int 0, .int 0] h0 sz) 82 667 (va_A [(h0, .inr (7, [.null, .null, .null, .null, .null, .null, .null, .int 0, .int 0]))] sz) := by
  refine gx_met (cc := cX7_init) (maxL := 1) (by decide) rfl (by decide) (fun p e s m args below meth c A hAe E hr hlocks hn I ls hl => ?_)
  have hin2 : meth.name = "<init>" := hn.elim id (fun h => absurd rfl h)
  have hx := E.1.1
  have hb := E.1.2.1
  have hl : lv_has ls 1 [(0, .ref h0)] := hl
  refine lv_aload_n hx hb dX7_init_0 rfl (lv_at hl 0 rfl) ?_
  refine gx_obj E hl.1 (by decide +kernel) (by decide +kernel) (by decide +kernel) (by decide) (by decide) dX7_init_1 ?_
  refine lv_aload_n hx hb dX7_init_4 rfl (lv_at hl 0 rfl) ?_
  refine gx_born E I (C := RX1) (TC := TX1) (NC := 2) (ciC := 1) rfl in_X7_init_X1 tyX1 tyX1_ok hfs_X1 cl_X7_1 is_X7_1 it_X7_1 (mc := 1) (ms := 24) (by decide) (by decide) (Sh := shX1 g) (fun q H locs I => gx_runN E I rfl (ok_X1_init l q H.size) ⟨va_cnB 0 E.1.2.2.2.2 gX7_init_X1_init_n9 rfl rfl rfl E.2.1.2.2.1 (E.1.2.2.2.2 _ it_X7_1) (by decide +kernel) ⟨Nat.le_of_ble_eq_true rfl, Nat.le_of_ble_eq_true rfl⟩, rfl, E.1.2.2.2.2 _ im_X7_1⟩ hl.1 (Nat.le_of_ble_eq_true rfl) (by decide) (by decide) dX7_init_9) dX7_init_5 dX7_init_8 (fun qp wp H locs hp I => ?_)
  refine gx_put E hin2 I (C := RX7) (TT := TX7) (nf := 9) rfl 0 (by decide) in_X7_init_X7 lk_X7_init_10 rfl rfl rfl tyX7 tyX7_ok nmX7 rfl rfl rfl (Nat.le_of_ble_eq_true rfl) dX7_init_12 (fun H locs I => ?_)
  refine lv_aload_n hx hb dX7_init_15 rfl (lv_at hl 0 rfl) ?_
  refine gx_born E I (C := RX2) (TC := TX2) (NC := 4) (ciC := 2) rfl in_X7_init_X2 tyX2 tyX2_ok hfs_X2 cl_X7_2 is_X7_2 it_X7_2 (mc := 3) (ms := 18) (by decide) (by decide) (Sh := shX2 g) (fun q H locs I => gx_runN E I rfl (ok_X2_init l q H.size) ⟨va_cnB 0 E.1.2.2.2.2 gX7_init_X2_init_n18 rfl rfl rfl E.2.1.2.2.2.1 (E.1.2.2.2.2 _ it_X7_2) (by decide +kernel) ⟨Nat.le_of_ble_eq_true rfl, Nat.le_of_ble_eq_true rfl⟩, rfl, E.1.2.2.2.2 _ im_X7_2⟩ hl.1 (Nat.le_of_ble_eq_true rfl) (by decide) (by decide) dX7_init_20) dX7_init_16 dX7_init_19 (fun qo wo H locs ho I => ?_)
  refine gx_put E hin2 I (C := RX7) (TT := TX7) (nf := 9) rfl 1 (by decide) in_X7_init_X7 lk_X7_init_19 rfl rfl rfl tyX7 tyX7_ok nmX7 rfl rfl rfl (Nat.le_of_ble_eq_true rfl) dX7_init_23 (fun H locs I => ?_)
  refine lv_aload_n hx hb dX7_init_26 rfl (lv_at hl 0 rfl) ?_
  refine gx_born E I (C := RX4) (TC := TX4) (NC := 8) (ciC := 4) rfl in_X7_init_X4 tyX4 tyX4_ok hfs_X4 cl_X7_4 is_X7_4 it_X7_4 (mc := 32) (ms := 245) (by decide) (by decide) (Sh := shX4 g) (fun q H locs I => gx_runI E I rfl (ok_X4_init l q H.size) (cwI 0 E.1.2.2.2.2 gX7_init_X4_init rfl rfl rfl (E.1.2.2.2.2 _ it_X7_4) (E.1.2.2.2.2 _ ml_X7_4) (E.1.2.2.2.2 _ im_X7_4) rfl (by decide +kernel) ⟨Nat.le_of_ble_eq_true rfl, Nat.le_of_ble_eq_true rfl⟩) hl.1 (Nat.le_of_ble_eq_true rfl) (by decide) (by decide) dX7_init_31) dX7_init_27 dX7_init_30 (fun qn wn H locs hn I => ?_)
  refine gx_put E hin2 I (C := RX7) (TT := TX7) (nf := 9) rfl 2 (by decide) in_X7_init_X7 lk_X7_init_26 rfl rfl rfl tyX7 tyX7_ok nmX7 rfl rfl rfl (Nat.le_of_ble_eq_true rfl) dX7_init_34 (fun H locs I => ?_)
  refine lv_aload_n hx hb dX7_init_37 rfl (lv_at hl 0 rfl) ?_
  refine gx_born E I (C := RX4) (TC := TX4) (NC := 8) (ciC := 4) rfl in_X7_init_X4 tyX4 tyX4_ok hfs_X4 cl_X7_4 is_X7_4 it_X7_4 (mc := 32) (ms := 245) (by decide) (by decide) (Sh := shX4 g) (fun q H locs I => gx_runI E I rfl (ok_X4_init l q H.size) (cwI 0 E.1.2.2.2.2 gX7_init_X4_init rfl rfl rfl (E.1.2.2.2.2 _ it_X7_4) (E.1.2.2.2.2 _ ml_X7_4) (E.1.2.2.2.2 _ im_X7_4) rfl (by decide +kernel) ⟨Nat.le_of_ble_eq_true rfl, Nat.le_of_ble_eq_true rfl⟩) hl.1 (Nat.le_of_ble_eq_true rfl) (by decide) (by decide) dX7_init_42) dX7_init_38 dX7_init_41 (fun qk wk H locs hk I => ?_)
  refine gx_put E hin2 I (C := RX7) (TT := TX7) (nf := 9) rfl 3 (by decide) in_X7_init_X7 lk_X7_init_30 rfl rfl rfl tyX7 tyX7_ok nmX7 rfl rfl rfl (Nat.le_of_ble_eq_true rfl) dX7_init_45 (fun H locs I => ?_)
  refine lv_aload_n hx hb dX7_init_48 rfl (lv_at hl 0 rfl) ?_
  refine gx_born E I (C := RX0) (TC := TX0) (NC := 4) (ciC := 0) rfl in_X7_init_X0 tyX0 tyX0_ok hfs_X0 cl_X7_0 is_X7_0 it_X7_0 (mc := 3) (ms := 76) (by decide) (by decide) (Sh := shX0 g) (fun q H locs I => gx_runN E I rfl (ok_X0_init l q H.size) ⟨va_cnB 0 E.1.2.2.2.2 gX7_init_X0_init_n35 rfl rfl rfl E.2.1.2.2.2.2.2.1 (E.1.2.2.2.2 _ it_X7_0) (by decide +kernel) ⟨Nat.le_of_ble_eq_true rfl, Nat.le_of_ble_eq_true rfl⟩, rfl, E.1.2.2.2.2 _ im_X7_0⟩ hl.1 (Nat.le_of_ble_eq_true rfl) (by decide) (by decide) dX7_init_53) dX7_init_49 dX7_init_52 (fun qz wz H locs hz I => ?_)
  refine gx_put E hin2 I (C := RX7) (TT := TX7) (nf := 9) rfl 4 (by decide) in_X7_init_X7 lk_X7_init_36 rfl rfl rfl tyX7 tyX7_ok nmX7 rfl rfl rfl (Nat.le_of_ble_eq_true rfl) dX7_init_56 (fun H locs I => ?_)
  refine lv_aload_n hx hb dX7_init_59 rfl (lv_at hl 0 rfl) ?_
  refine gx_born E I (C := RX6) (TC := TX6) (NC := 5) (ciC := 6) rfl in_X7_init_X6 tyX6 tyX6_ok hfs_X6 cl_X7_6 is_X7_6 it_X7_6 (mc := 3) (ms := 18) (by decide) (by decide) (Sh := shX6 g) (fun q H locs I => gx_runN E I rfl (ok_X6_init l q H.size) ⟨va_cnB 0 E.1.2.2.2.2 gX7_init_X6_init_n42 rfl rfl rfl E.2.1.2.2.2.2.2.2.1 (E.1.2.2.2.2 _ it_X7_6) (by decide +kernel) ⟨Nat.le_of_ble_eq_true rfl, Nat.le_of_ble_eq_true rfl⟩, rfl, E.1.2.2.2.2 _ im_X7_6⟩ hl.1 (Nat.le_of_ble_eq_true rfl) (by decide) (by decide) dX7_init_64) dX7_init_60 dX7_init_63 (fun qy wy H locs hy I => ?_)
  refine gx_put E hin2 I (C := RX7) (TT := TX7) (nf := 9) rfl 5 (by decide) in_X7_init_X7 lk_X7_init_43 rfl rfl rfl tyX7 tyX7_ok nmX7 rfl rfl rfl (Nat.le_of_ble_eq_true rfl) dX7_init_67 (fun H locs I => ?_)
  refine lv_aload_n hx hb dX7_init_70 rfl (lv_at hl 0 rfl) ?_
  refine gx_born E I (C := RX5) (TC := TX5) (NC := 4) (ciC := 5) rfl in_X7_init_X5 tyX5 tyX5_ok hfs_X5 cl_X7_5 is_X7_5 it_X7_5 (mc := 1) (ms := 6) (by decide) (by decide) (Sh := shX5 g) (fun q H locs I => gx_runN E I rfl (ok_X5_init l q H.size) ⟨va_cnB 0 E.1.2.2.2.2 gX7_init_X5_init_n49 rfl rfl rfl E.2.1.2.2.2.2.2.2.2 (E.1.2.2.2.2 _ it_X7_5) (by decide +kernel) ⟨Nat.le_of_ble_eq_true rfl, Nat.le_of_ble_eq_true rfl⟩, rfl, E.1.2.2.2.2 _ im_X7_5⟩ hl.1 (Nat.le_of_ble_eq_true rfl) (by decide) (by decide) dX7_init_75) dX7_init_71 dX7_init_74 (fun qt wt H locs ht I => ?_)
  refine gx_put E hin2 I (C := RX7) (TT := TX7) (nf := 9) rfl 6 (by decide) in_X7_init_X7 lk_X7_init_50 rfl rfl rfl tyX7 tyX7_ok nmX7 rfl rfl rfl (Nat.le_of_ble_eq_true rfl) dX7_init_78 (fun H locs I => ?_)
  exact gx_ret E I hAe ⟨qp, qo, qn, qk, qz, qy, qt, wp, wo, wn, wk, wz, wy, wt, ⟨hp, ho, hn, hk, hz, hy, ht⟩, rfl⟩ hr hlocks dX7_init_81
