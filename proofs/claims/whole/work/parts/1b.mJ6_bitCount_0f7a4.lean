/-! The contracts: each method does what its function says: written by wip/whole/genall.py. -/
abbrev rmJ6_bitCount_0f7a4 : Room := { frames := 0, cells := 0, slots := 0, locals := 0 }
theorem kc_J6_bitCount_0f7a4_265 : Cond.constant RJ6 265 (1431655765) ∈ wsJ6_bitCount_0f7a4 := by decide +kernel
theorem kc_J6_bitCount_0f7a4_266 : Cond.constant RJ6 266 (858993459) ∈ wsJ6_bitCount_0f7a4 := by decide +kernel
theorem kc_J6_bitCount_0f7a4_267 : Cond.constant RJ6 267 (252645135) ∈ wsJ6_bitCount_0f7a4 := by decide +kernel
set_option maxHeartbeats 4000000 in
set_option maxRecDepth 100000 in
theorem ok_J6_bitCount_0f7a4 (l : Launch) {D : va_G} {g : gw_G} {tG : Nat} {ad : Nat → Nat} {A : Nat → Prop} (hD : gw_D A 83 ad) (t0 : gw_S) (v0 : Int32) (r0 : Int32) (hF : fJ6_bitCount_0f7a4 v0 t0 = r0) : Met l yJ6_bitCount_0f7a4 wsJ6_bitCount_0f7a4 rmJ6_bitCount_0f7a4 (gw_Pc D g tG (tC g ad) 83 ad A [.int v0] t0) (gw_Qi D (tC g ad) 83 ad A r0 t0) 0 0 A := by
  unfold fJ6_bitCount_0f7a4 at hF
  refine gw_met (by decide) rfl hD (Nat.le_of_ble_eq_true rfl) (fun p e s m args below meth c E hr hlocks I ls hl => ?_)
  have hx := E.1.1
  have hb := E.1.2.1
  have hl : lv_has ls 1 [(0, .int v0)] := hl
  refine lv_iload_n hx hb dJ6_bitCount_0f7a4_0 rfl (lv_at hl 0 rfl) ?_
  refine lv_iload_n hx hb dJ6_bitCount_0f7a4_1 rfl (lv_at hl 0 rfl) ?_
  refine lv_iconst (v := 1) hx hb dJ6_bitCount_0f7a4_2 (by decide) ?_
  refine lv_iushr hx hb dJ6_bitCount_0f7a4_3 rfl ?_
  refine lv_ldcw hx hb E.1.2.2.2.1 (E.1.2.2.2.2 _ kc_J6_bitCount_0f7a4_265) dJ6_bitCount_0f7a4_4 ?_
  refine lv_iand hx hb dJ6_bitCount_0f7a4_7 ?_
  refine lv_isub hx hb dJ6_bitCount_0f7a4_8 ?_
  replace hF := gw_nmE hF
  obtain ⟨v0_9, ev0_9, hF⟩ := hF
  refine gw_topi ev0_9 ?_
  refine lv_istore_n (lv' := [(0, .int v0_9)]) hx hb dJ6_bitCount_0f7a4_9 rfl hl (by decide) rfl (fun ls hl => ?_)
  refine lv_iload_n hx hb dJ6_bitCount_0f7a4_10 rfl (lv_at hl 0 rfl) ?_
  refine lv_ldcw hx hb E.1.2.2.2.1 (E.1.2.2.2.2 _ kc_J6_bitCount_0f7a4_266) dJ6_bitCount_0f7a4_11 ?_
  refine lv_iand hx hb dJ6_bitCount_0f7a4_14 ?_
  refine lv_iload_n hx hb dJ6_bitCount_0f7a4_15 rfl (lv_at hl 0 rfl) ?_
  refine lv_iconst (v := 2) hx hb dJ6_bitCount_0f7a4_16 (by decide) ?_
  refine lv_iushr hx hb dJ6_bitCount_0f7a4_17 rfl ?_
  refine lv_ldcw hx hb E.1.2.2.2.1 (E.1.2.2.2.2 _ kc_J6_bitCount_0f7a4_266) dJ6_bitCount_0f7a4_18 ?_
  refine lv_iand hx hb dJ6_bitCount_0f7a4_21 ?_
  refine lv_iadd hx hb dJ6_bitCount_0f7a4_22 ?_
  replace hF := gw_nmE hF
  obtain ⟨v0_23, ev0_23, hF⟩ := hF
  refine gw_topi ev0_23 ?_
  refine lv_istore_n (lv' := [(0, .int v0_23)]) hx hb dJ6_bitCount_0f7a4_23 rfl hl (by decide) rfl (fun ls hl => ?_)
  refine lv_iload_n hx hb dJ6_bitCount_0f7a4_24 rfl (lv_at hl 0 rfl) ?_
  refine lv_iload_n hx hb dJ6_bitCount_0f7a4_25 rfl (lv_at hl 0 rfl) ?_
  refine lv_iconst (v := 4) hx hb dJ6_bitCount_0f7a4_26 (by decide) ?_
  refine lv_iushr hx hb dJ6_bitCount_0f7a4_27 rfl ?_
  refine lv_iadd hx hb dJ6_bitCount_0f7a4_28 ?_
  refine lv_ldcw hx hb E.1.2.2.2.1 (E.1.2.2.2.2 _ kc_J6_bitCount_0f7a4_267) dJ6_bitCount_0f7a4_29 ?_
  refine lv_iand hx hb dJ6_bitCount_0f7a4_32 ?_
  replace hF := gw_nmE hF
  obtain ⟨v0_33, ev0_33, hF⟩ := hF
  refine gw_topi ev0_33 ?_
  refine lv_istore_n (lv' := [(0, .int v0_33)]) hx hb dJ6_bitCount_0f7a4_33 rfl hl (by decide) rfl (fun ls hl => ?_)
  refine lv_iload_n hx hb dJ6_bitCount_0f7a4_34 rfl (lv_at hl 0 rfl) ?_
  refine lv_iload_n hx hb dJ6_bitCount_0f7a4_35 rfl (lv_at hl 0 rfl) ?_
  refine lv_bipush (v := 8) hx hb dJ6_bitCount_0f7a4_36 (by decide) ?_
  refine lv_iushr hx hb dJ6_bitCount_0f7a4_38 rfl ?_
  refine lv_iadd hx hb dJ6_bitCount_0f7a4_39 ?_
  replace hF := gw_nmE hF
  obtain ⟨v0_40, ev0_40, hF⟩ := hF
  refine gw_topi ev0_40 ?_
  refine lv_istore_n (lv' := [(0, .int v0_40)]) hx hb dJ6_bitCount_0f7a4_40 rfl hl (by decide) rfl (fun ls hl => ?_)
  refine lv_iload_n hx hb dJ6_bitCount_0f7a4_41 rfl (lv_at hl 0 rfl) ?_
  refine lv_iload_n hx hb dJ6_bitCount_0f7a4_42 rfl (lv_at hl 0 rfl) ?_
  refine lv_bipush (v := 16) hx hb dJ6_bitCount_0f7a4_43 (by decide) ?_
  refine lv_iushr hx hb dJ6_bitCount_0f7a4_45 rfl ?_
  refine lv_iadd hx hb dJ6_bitCount_0f7a4_46 ?_
  replace hF := gw_nmE hF
  obtain ⟨v0_47, ev0_47, hF⟩ := hF
  refine gw_topi ev0_47 ?_
  refine lv_istore_n (lv' := [(0, .int v0_47)]) hx hb dJ6_bitCount_0f7a4_47 rfl hl (by decide) rfl (fun ls hl => ?_)
  refine lv_iload_n hx hb dJ6_bitCount_0f7a4_48 rfl (lv_at hl 0 rfl) ?_
  refine lv_bipush (v := 63) hx hb dJ6_bitCount_0f7a4_49 (by decide) ?_
  refine lv_iand hx hb dJ6_bitCount_0f7a4_51 ?_
  exact gw_iret E I hr hlocks rfl hF rfl dJ6_bitCount_0f7a4_52
abbrev rmX2_has : Room := { frames := 0, cells := 0, slots := 0, locals := 0 }
theorem lk_X2_has_33 : Cond.fieldLink RX2 33 "ThrownSacks$Plan" "hooks" "I" ∈ wsX2_has := by decide +kernel
theorem in_X2_has_X2 : ∀ w ∈ u_ws RX2 TX2 4, w ∈ wsX2_has := by decide +kernel
set_option maxHeartbeats 4000000 in
set_option maxRecDepth 100000 in
theorem ok_X2_has (l : Launch) {D : va_G} {g : gw_G} {tG : Nat} {ad : Nat → Nat} {A : Nat → Prop} (hD : gw_D A 83 ad) (t0 : gw_S) (v1 : Int32) (r0 : Int32) (hF : fX2_has v1 t0 = r0) : Met l yX2_has wsX2_has rmX2_has (gw_Pc D g tG (tC g ad) 83 ad A [.ref (ad 3), .int v1] t0) (gw_Qi D (tC g ad) 83 ad A r0 t0) 0 0 A := by
  unfold fX2_has at hF
  refine gw_met (by decide) rfl hD (Nat.le_of_ble_eq_true rfl) (fun p e s m args below meth c E hr hlocks I ls hl => ?_)
  have hx := E.1.1
  have hb := E.1.2.1
  have hl : lv_has ls 2 [(0, .ref (ad 3)), (1, .int v1)] := hl
  refine lv_iload_n hx hb dX2_has_0 rfl (lv_at hl 1 rfl) ?_
  refine lv_if_lt (tgt := 16) hx hb dX2_has_1 (by decide) (fun c1 => ?_) (fun c1 => ?_)
  · replace hF := gw_if1 c1 hF
    refine lv_iconst (v := 0) hx hb dX2_has_16 (by decide) ?_
    exact gw_iret E I hr hlocks rfl hF rfl dX2_has_17
  · replace hF := gw_if0 c1 hF
    refine lv_iload_n hx hb dX2_has_4 rfl (lv_at hl 1 rfl) ?_
    refine lv_aload_n hx hb dX2_has_5 rfl (lv_at hl 0 rfl) ?_
    refine gf_C_3_3 E I in_X2_has_X2 lk_X2_has_33 dX2_has_6 ?_
    refine lv_icmp_ge (tgt := 16) hx hb dX2_has_9 (by decide) (fun c9 => ?_) (fun c9 => ?_)
    · replace hF := gw_if1 c9 hF
      refine lv_iconst (v := 0) hx hb dX2_has_16 (by decide) ?_
      exact gw_iret E I hr hlocks rfl hF rfl dX2_has_17
    · replace hF := gw_if0 c9 hF
      refine lv_iconst (v := 1) hx hb dX2_has_12 (by decide) ?_
      refine lv_goto (tgt := 17) hx hb dX2_has_13 (by decide) ?_
      exact gw_iret E I hr hlocks rfl hF rfl dX2_has_17
abbrev rmX2_oftenOf : Room := { frames := 1, cells := 0, slots := 0, locals := 21 }
theorem lk_X2_oftenOf_18 : Cond.fieldLink RX2 18 "ThrownSacks$Plan" "often" "[I" ∈ wsX2_oftenOf := by decide +kernel
theorem in_X2_oftenOf_X2 : ∀ w ∈ u_ws RX2 TX2 4, w ∈ wsX2_oftenOf := by decide +kernel
set_option maxHeartbeats 4000000 in
set_option maxRecDepth 100000 in
theorem ok_X2_oftenOf (l : Launch) {D : va_G} {g : gw_G} {tG : Nat} {ad : Nat → Nat} {A : Nat → Prop} (hD : gw_D A 83 ad) (t0 : gw_S) (v1 : Int32) (r0 : Int32) (hF : fX2_oftenOf v1 t0 = some r0) : Met l yX2_oftenOf wsX2_oftenOf rmX2_oftenOf (gw_Pc D g tG (tC g ad) 83 ad A [.ref (ad 3), .int v1] t0) (gw_Qi D (tC g ad) 83 ad A r0 t0) 0 0 A := by
  unfold fX2_oftenOf at hF
  refine gw_met (by decide) rfl hD (Nat.le_of_ble_eq_true rfl) (fun p e s m args below meth c E hr hlocks I ls hl => ?_)
  have hx := E.1.1
  have hb := E.1.2.1
  have hl : lv_has ls 2 [(0, .ref (ad 3)), (1, .int v1)] := hl
  refine lv_aload_n hx hb dX2_oftenOf_0 rfl (lv_at hl 0 rfl) ?_
  refine lv_iload_n hx hb dX2_oftenOf_1 rfl (lv_at hl 1 rfl) ?_
  refine gw_calli I (gw_runV E I (ok_X2_has l hD t0 v1 _ rfl) (cwV 1 E.1.2.2.2.2 gX2_oftenOf_X2_has rfl rfl rfl (by decide +kernel) ⟨Nat.le_of_ble_eq_true rfl, Nat.le_of_ble_eq_true rfl⟩) (by decide) rfl rfl rfl hl.1 rfl (Nat.le_of_ble_eq_true rfl) dX2_oftenOf_2) (fun H locs I => ?_)
  refine lv_if_eq (tgt := 17) hx hb dX2_oftenOf_5 (by decide) (fun c5 => ?_) (fun c5 => ?_)
  · replace hF := gw_if1 c5 hF
    refine lv_iconst (v := 0) hx hb dX2_oftenOf_17 (by decide) ?_
    exact gw_iret E I hr hlocks rfl (Option.some.inj hF) rfl dX2_oftenOf_18
  · replace hF := gw_if0 c5 hF
    refine lv_aload_n hx hb dX2_oftenOf_8 rfl (lv_at hl 0 rfl) ?_
    refine gf_C_3_2 E I in_X2_oftenOf_X2 lk_X2_oftenOf_18 dX2_oftenOf_9 ?_
    refine lv_iload_n hx hb dX2_oftenOf_12 rfl (lv_at hl 1 rfl) ?_
    replace hF := gw_ifn hF
    obtain ⟨hz13, hF⟩ := hF
    refine gw_iald E I 6 (by decide) rfl hz13 dX2_oftenOf_13 ?_
    refine lv_goto (tgt := 18) hx hb dX2_oftenOf_14 (by decide) ?_
    exact gw_iret E I hr hlocks rfl (Option.some.inj hF) rfl dX2_oftenOf_18
abbrev rmX0_withTown : Room := { frames := 2, cells := 0, slots := 0, locals := 42 }
theorem lk_X0_withTown_15 : Cond.fieldLink RX0 15 "ThrownSacks$Best" "less" "[I" ∈ wsX0_withTown := by decide +kernel
theorem lk_X0_withTown_18 : Cond.fieldLink RX0 18 "ThrownSacks$Best" "rest" "[I" ∈ wsX0_withTown := by decide +kernel
theorem lk_X0_withTown_21 : Cond.fieldLink RX0 21 "ThrownSacks$Plan" "hooks" "I" ∈ wsX0_withTown := by decide +kernel
theorem in_X0_withTown_X0 : ∀ w ∈ u_ws RX0 TX0 4, w ∈ wsX0_withTown := by decide +kernel
theorem in_X0_withTown_X2 : ∀ w ∈ u_ws RX2 TX2 4, w ∈ wsX0_withTown := by decide +kernel
set_option maxHeartbeats 4000000 in
set_option maxRecDepth 100000 in
theorem ok_X0_withTown (l : Launch) {D : va_G} {g : gw_G} {tG : Nat} {ad : Nat → Nat} {A : Nat → Prop} (hD : gw_D A 83 ad) (t0 : gw_S) (v2 : Int32) (v3 : Int32) (r0 : Int32) (hF : fX0_withTown v2 v3 t0 = some r0) : Met l yX0_withTown wsX0_withTown rmX0_withTown (gw_Pc D g tG (tC g ad) 83 ad A [.ref (ad 17), .ref (ad 3), .int v2, .int v3] t0) (gw_Qi D (tC g ad) 83 ad A r0 t0) 0 0 A := by
  unfold fX0_withTown at hF
  refine gw_met (by decide) rfl hD (Nat.le_of_ble_eq_true rfl) (fun p e s m args below meth c E hr hlocks I ls hl => ?_)
  have hx := E.1.1
  have hb := E.1.2.1
  have hl : lv_has ls 6 [(0, .ref (ad 17)), (1, .ref (ad 3)), (2, .int v2), (3, .int v3)] := hl
  refine lv_iload_n hx hb dX0_withTown_0 rfl (lv_at hl 2 rfl) ?_
  refine gw_calli I (gw_runS E I (ok_J6_bitCount_0f7a4 l hD t0 v2 _ rfl) (va_cwS 1 E.1.2.2.2.2 gX0_withTown_J6_bitCount_0f7a4 rfl rfl rfl (by decide +kernel) ⟨Nat.le_of_ble_eq_true rfl, Nat.le_of_ble_eq_true rfl⟩) rfl hl.1 rfl (Nat.le_of_ble_eq_true rfl) dX0_withTown_1) (fun H locs I => ?_)
  replace hF := gw_nmE hF
  obtain ⟨v4_4, ev4_4, hF⟩ := hF
  refine gw_topi ev4_4 ?_
  refine lv_istore (lv' := [(4, .int v4_4), (0, .ref (ad 17)), (1, .ref (ad 3)), (2, .int v2), (3, .int v3)]) hx hb dX0_withTown_4 hl (by decide) rfl (fun ls hl => ?_)
  refine lv_iload_n hx hb dX0_withTown_6 rfl (lv_at hl 3 rfl) ?_
  refine lv_iconst (v := 1) hx hb dX0_withTown_7 (by decide) ?_
  refine lv_iload_n hx hb dX0_withTown_8 rfl (lv_at hl 4 rfl) ?_
  refine lv_ishl hx hb dX0_withTown_9 ?_
  refine lv_ior hx hb dX0_withTown_10 ?_
  replace hF := gw_nmE hF
  obtain ⟨v5_11, ev5_11, hF⟩ := hF
  refine gw_topi ev5_11 ?_
  refine lv_istore (lv' := [(5, .int v5_11), (4, .int v4_4), (0, .ref (ad 17)), (1, .ref (ad 3)), (2, .int v2), (3, .int v3)]) hx hb dX0_withTown_11 hl (by decide) rfl (fun ls hl => ?_)
  refine lv_iload hx hb dX0_withTown_13 (lv_at hl 1 rfl) ?_
  refine lv_aload_n hx hb dX0_withTown_15 rfl (lv_at hl 3 rfl) ?_
  refine gf_C_3_3 E I in_X0_withTown_X2 lk_X0_withTown_21 dX0_withTown_16 ?_
  refine lv_icmp_ge (tgt := 32) hx hb dX0_withTown_19 (by decide) (fun c19 => ?_) (fun c19 => ?_)
  · replace hF := gw_if1 c19 hF
    refine lv_iconst (v := 0) hx hb dX0_withTown_32 (by decide) ?_
    exact gw_iret E I hr hlocks rfl (Option.some.inj hF) rfl dX0_withTown_33
  · replace hF := gw_if0 c19 hF
    refine lv_iload hx hb dX0_withTown_22 (lv_at hl 0 rfl) ?_
    refine lv_aload_n hx hb dX0_withTown_24 rfl (lv_at hl 2 rfl) ?_
    refine gf_C_17_2 E I in_X0_withTown_X0 lk_X0_withTown_18 dX0_withTown_25 ?_
    refine gw_alen E I 20 (by decide) rfl (v := 64) (by decide) dX0_withTown_28 ?_
    refine lv_icmp_lt (tgt := 34) hx hb dX0_withTown_29 (by decide) (fun c29 => ?_) (fun c29 => ?_)
    · replace hF := gw_if1 c29 hF
      refine lv_aload_n hx hb dX0_withTown_34 rfl (lv_at hl 3 rfl) ?_
      refine lv_iload_n hx hb dX0_withTown_35 rfl (lv_at hl 5 rfl) ?_
      replace hF := gw_bdE hF
      obtain ⟨r36, e36, hF⟩ := hF
      refine gw_calli I (gw_runV E I (ok_X2_oftenOf l hD t0 v3 _ e36) (cwV 1 E.1.2.2.2.2 gX0_withTown_X2_oftenOf rfl rfl rfl (by decide +kernel) ⟨Nat.le_of_ble_eq_true rfl, Nat.le_of_ble_eq_true rfl⟩) (by decide) rfl rfl rfl hl.1 rfl (Nat.le_of_ble_eq_true rfl) dX0_withTown_36) (fun H locs I => ?_)
      refine lv_aload_n hx hb dX0_withTown_39 rfl (lv_at hl 2 rfl) ?_
      refine gf_C_17_1 E I in_X0_withTown_X0 lk_X0_withTown_15 dX0_withTown_40 ?_
      refine lv_iload hx hb dX0_withTown_43 (lv_at hl 1 rfl) ?_
      replace hF := gw_ifn hF
      obtain ⟨hz45, hF⟩ := hF
      refine gw_iald E I 19 (by decide) rfl hz45 dX0_withTown_45 ?_
      refine lv_imul hx hb dX0_withTown_46 ?_
      refine lv_aload_n hx hb dX0_withTown_47 rfl (lv_at hl 2 rfl) ?_
      refine gf_C_17_2 E I in_X0_withTown_X0 lk_X0_withTown_18 dX0_withTown_48 ?_
      refine lv_iload hx hb dX0_withTown_51 (lv_at hl 0 rfl) ?_
      replace hF := gw_ifn hF
      obtain ⟨hz53, hF⟩ := hF
      refine gw_iald E I 20 (by decide) rfl hz53 dX0_withTown_53 ?_
      refine lv_iadd hx hb dX0_withTown_54 ?_
      exact gw_iret E I hr hlocks rfl (Option.some.inj hF) rfl dX0_withTown_55
    · replace hF := gw_if0 c29 hF
      refine lv_iconst (v := 0) hx hb dX0_withTown_32 (by decide) ?_
      exact gw_iret E I hr hlocks rfl (Option.some.inj hF) rfl dX0_withTown_33
abbrev rmX0_bestTown : Room := { frames := 3, cells := 0, slots := 0, locals := 67 }
theorem lk_X0_bestTown_21 : Cond.fieldLink RX0 21 "ThrownSacks$Plan" "hooks" "I" ∈ wsX0_bestTown := by decide +kernel
theorem in_X0_bestTown_X2 : ∀ w ∈ u_ws RX2 TX2 4, w ∈ wsX0_bestTown := by decide +kernel
set_option maxHeartbeats 4000000 in
set_option maxRecDepth 100000 in
theorem ok_X0_bestTown (l : Launch) {D : va_G} {g : gw_G} {tG : Nat} {ad : Nat → Nat} {A : Nat → Prop} (hD : gw_D A 83 ad) (t0 : gw_S) (v2 : Int32) (r0 : Int32) (hF : fX0_bestTown v2 t0 = some r0) : Met l yX0_bestTown wsX0_bestTown rmX0_bestTown (gw_Pc D g tG (tC g ad) 83 ad A [.ref (ad 17), .ref (ad 3), .int v2] t0) (gw_Qi D (tC g ad) 83 ad A r0 t0) 0 0 A := by
  unfold fX0_bestTown at hF
  refine gw_met (by decide) rfl hD (Nat.le_of_ble_eq_true rfl) (fun p e s m args below meth c E hr hlocks I ls hl => ?_)
  have hx := E.1.1
  have hb := E.1.2.1
  have hl : lv_has ls 7 [(0, .ref (ad 17)), (1, .ref (ad 3)), (2, .int v2)] := hl
  have hJ55 : ∀ (Kx : Int32 → Int32 → Int32 → Option (Int32)) (Kh : Int32 → Int32 → Int32 → Option (Int32)) (v2 : Int32) (v3 : Int32) (v4 : Int32) (v5 : Int32) (hKx : ∀ (v3 : Int32) (v4 : Int32) (v5 : Int32) (H : Heap) (locs : List Loc) (ls : Array Slot), lv_has ls 7 [(3, .int v3)] → gw_I D (tC g ad) 83 ad A s.heap t0 H locs → Kx v3 v4 v5 = some r0 → W p l e rmX0_bestTown s m args below meth c H locs 0 0 (MQ below (gw_Qi D (tC g ad) 83 ad A r0 t0) args s 0 0 A) (F0 m 61 ls [])) (hKh : ∀ (v3 : Int32) (v4 : Int32) (v5 : Int32) (H : Heap) (locs : List Loc) (ls : Array Slot), lv_has ls 7 [(0, .ref (ad 17)), (1, .ref (ad 3)), (2, .int v2), (3, .int v3), (4, .int v4), (5, .int v5)] → gw_I D (tC g ad) 83 ad A s.heap t0 H locs → Kh v3 v4 v5 = some r0 → W p l e rmX0_bestTown s m args below meth c H locs 0 0 (MQ below (gw_Qi D (tC g ad) 83 ad A r0 t0) args s 0 0 A) (F0 m 8 ls [])) (H : Heap) (locs : List Loc) (ls : Array Slot), lv_has ls 7 [(0, .ref (ad 17)), (1, .ref (ad 3)), (2, .int v2), (3, .int v3), (4, .int v4), (5, .int v5)] → gw_I D (tC g ad) 83 ad A s.heap t0 H locs → fX0_bestTown_J55 Kx Kh v2 v3 v4 v5 t0 = some r0 → W p l e rmX0_bestTown s m args below meth c H locs 0 0 (MQ below (gw_Qi D (tC g ad) 83 ad A r0 t0) args s 0 0 A) (F0 m 55 ls []) := by
    intro Kx Kh v2 v3 v4 v5 hKx hKh H locs ls hl I hF
    unfold fX0_bestTown_J55 at hF
    replace hF := gw_nmE hF
    obtain ⟨v5_55, ev5_55, hF⟩ := hF
    refine lv_iinc (v := v5_55) (lv' := [(5, .int v5_55), (0, .ref (ad 17)), (1, .ref (ad 3)), (2, .int v2), (3, .int v3), (4, .int v4)]) hx hb dX0_bestTown_55 hl (k := 5) rfl (by subst ev5_55; rfl) (by decide) rfl (fun ls hl => ?_)
    refine lv_goto (tgt := 8) hx hb dX0_bestTown_58 (by decide) ?_
    exact hKh v3 v4 v5_55 _ _ _ (lv_sub hl [1, 2, 3, 4, 5, 0] rfl) I hF
  have hJ48 : ∀ (Kx : Int32 → Int32 → Int32 → Option (Int32)) (Kh : Int32 → Int32 → Int32 → Option (Int32)) (v2 : Int32) (v5 : Int32) (v6 : Int32) (hKx : ∀ (v3 : Int32) (v4 : Int32) (v5 : Int32) (H : Heap) (locs : List Loc) (ls : Array Slot), lv_has ls 7 [(3, .int v3)] → gw_I D (tC g ad) 83 ad A s.heap t0 H locs → Kx v3 v4 v5 = some r0 → W p l e rmX0_bestTown s m args below meth c H locs 0 0 (MQ below (gw_Qi D (tC g ad) 83 ad A r0 t0) args s 0 0 A) (F0 m 61 ls [])) (hKh : ∀ (v3 : Int32) (v4 : Int32) (v5 : Int32) (H : Heap) (locs : List Loc) (ls : Array Slot), lv_has ls 7 [(0, .ref (ad 17)), (1, .ref (ad 3)), (2, .int v2), (3, .int v3), (4, .int v4), (5, .int v5)] → gw_I D (tC g ad) 83 ad A s.heap t0 H locs → Kh v3 v4 v5 = some r0 → W p l e rmX0_bestTown s m args below meth c H locs 0 0 (MQ below (gw_Qi D (tC g ad) 83 ad A r0 t0) args s 0 0 A) (F0 m 8 ls [])) (H : Heap) (locs : List Loc) (ls : Array Slot), lv_has ls 7 [(0, .ref (ad 17)), (1, .ref (ad 3)), (2, .int v2), (5, .int v5), (6, .int v6)] → gw_I D (tC g ad) 83 ad A s.heap t0 H locs → fX0_bestTown_J48 Kx Kh v2 v5 v6 t0 = some r0 → W p l e rmX0_bestTown s m args below meth c H locs 0 0 (MQ below (gw_Qi D (tC g ad) 83 ad A r0 t0) args s 0 0 A) (F0 m 48 ls []) := by
    intro Kx Kh v2 v5 v6 hKx hKh H locs ls hl I hF
    unfold fX0_bestTown_J48 at hF
    refine lv_iload hx hb dX0_bestTown_48 (lv_at hl 3 rfl) ?_
    refine lv_istore_n (lv' := [(3, .int v5), (0, .ref (ad 17)), (1, .ref (ad 3)), (2, .int v2), (5, .int v5), (6, .int v6)]) hx hb dX0_bestTown_50 rfl hl (by decide) rfl (fun ls hl => ?_)
    refine lv_iload hx hb dX0_bestTown_51 (lv_at hl 5 rfl) ?_
    refine lv_istore (lv' := [(4, .int v6), (3, .int v5), (0, .ref (ad 17)), (1, .ref (ad 3)), (2, .int v2), (5, .int v5), (6, .int v6)]) hx hb dX0_bestTown_53 hl (by decide) rfl (fun ls hl => ?_)
    exact hJ55 Kx Kh v2 v5 v6 v5 hKx hKh _ _ _ (lv_sub hl [2, 3, 4, 1, 0, 5] rfl) I hF
  have hL8 : ∀ (Kx : Int32 → Int32 → Int32 → Option (Int32)) (v2 : Int32), (∀ (v3 : Int32) (v4 : Int32) (v5 : Int32) (H : Heap) (locs : List Loc) (ls : Array Slot), lv_has ls 7 [(3, .int v3)] → gw_I D (tC g ad) 83 ad A s.heap t0 H locs → Kx v3 v4 v5 = some r0 → W p l e rmX0_bestTown s m args below meth c H locs 0 0 (MQ below (gw_Qi D (tC g ad) 83 ad A r0 t0) args s 0 0 A) (F0 m 61 ls [])) → ∀ (n : Nat) (v3 : Int32) (v4 : Int32) (v5 : Int32) (H : Heap) (locs : List Loc) (ls : Array Slot), lv_has ls 7 [(0, .ref (ad 17)), (1, .ref (ad 3)), (2, .int v2), (3, .int v3), (4, .int v4), (5, .int v5)] → gw_I D (tC g ad) 83 ad A s.heap t0 H locs → fX0_bestTown_L8 Kx v2 t0 n v3 v4 v5 = some r0 → W p l e rmX0_bestTown s m args below meth c H locs 0 0 (MQ below (gw_Qi D (tC g ad) 83 ad A r0 t0) args s 0 0 A) (F0 m 8 ls []) := by
    intro Kx v2 hKx n
    induction n with
    | zero =>
      intro v3 v4 v5 H locs ls hl I hF
      rw [fX0_bestTown_L8] at hF
      cases hF
    | succ n ih =>
      intro v3 v4 v5 H locs ls hl I hF
      rw [fX0_bestTown_L8] at hF
      refine lv_iload hx hb dX0_bestTown_8 (lv_at hl 5 rfl) ?_
      refine lv_aload_n hx hb dX0_bestTown_10 rfl (lv_at hl 1 rfl) ?_
      refine gf_C_3_3 E I in_X0_bestTown_X2 lk_X0_bestTown_21 dX0_bestTown_11 ?_
      refine lv_icmp_ge (tgt := 61) hx hb dX0_bestTown_14 (by decide) (fun c14 => ?_) (fun c14 => ?_)
      · replace hF := gw_if1 c14 hF
        exact hKx v3 v4 v5 _ _ _ (lv_sub hl [3] rfl) I hF
      · replace hF := gw_if0 c14 hF
        refine lv_iload_n hx hb dX0_bestTown_17 rfl (lv_at hl 2 rfl) ?_
        refine lv_iload hx hb dX0_bestTown_18 (lv_at hl 5 rfl) ?_
        refine lv_ishr hx hb dX0_bestTown_20 ?_
        refine lv_iconst (v := 1) hx hb dX0_bestTown_21 (by decide) ?_
        refine lv_iand hx hb dX0_bestTown_22 ?_
        refine lv_if_ne (tgt := 55) hx hb dX0_bestTown_23 (by decide) (fun c23 => ?_) (fun c23 => ?_)
        · replace hF := gw_if0 c23 hF
          exact hJ55 Kx (fX0_bestTown_L8 Kx v2 t0 n) v2 v3 v4 v5 hKx ih _ _ _ (lv_sub hl [0, 1, 2, 3, 4, 5] rfl) I hF
        · replace hF := gw_if1 c23 hF
          refine lv_aload_n hx hb dX0_bestTown_26 rfl (lv_at hl 0 rfl) ?_
          refine lv_aload_n hx hb dX0_bestTown_27 rfl (lv_at hl 1 rfl) ?_
          refine lv_iload_n hx hb dX0_bestTown_28 rfl (lv_at hl 2 rfl) ?_
          refine lv_iload hx hb dX0_bestTown_29 (lv_at hl 5 rfl) ?_
          replace hF := gw_bdE hF
          obtain ⟨r31, e31, hF⟩ := hF
          refine gw_calli I (gw_runV E I (ok_X0_withTown l hD t0 v2 v5 _ e31) (cwV 3 E.1.2.2.2.2 gX0_bestTown_X0_withTown rfl rfl rfl (by decide +kernel) ⟨Nat.le_of_ble_eq_true rfl, Nat.le_of_ble_eq_true rfl⟩) (by decide) rfl rfl rfl hl.1 rfl (Nat.le_of_ble_eq_true rfl) dX0_bestTown_31) (fun H locs I => ?_)
          refine lv_istore (lv' := [(6, .int r31), (0, .ref (ad 17)), (1, .ref (ad 3)), (2, .int v2), (3, .int v3), (4, .int v4), (5, .int v5)]) hx hb dX0_bestTown_34 hl (by decide) rfl (fun ls hl => ?_)
          refine lv_iload_n hx hb dX0_bestTown_36 rfl (lv_at hl 4 rfl) ?_
          refine lv_iconst (v := (-1)) hx hb dX0_bestTown_37 (by decide) ?_
          refine lv_icmp_eq (tgt := 48) hx hb dX0_bestTown_38 (by decide) (fun c38 => ?_) (fun c38 => ?_)
          · replace hF := gw_if1 c38 hF
            exact hJ48 Kx (fX0_bestTown_L8 Kx v2 t0 n) v2 v5 r31 hKx ih _ _ _ (lv_sub hl [1, 2, 3, 6, 0] rfl) I hF
          · replace hF := gw_if0 c38 hF
            refine lv_iload hx hb dX0_bestTown_41 (lv_at hl 0 rfl) ?_
            refine lv_iload hx hb dX0_bestTown_43 (lv_at hl 5 rfl) ?_
            refine lv_icmp_ge (tgt := 55) hx hb dX0_bestTown_45 (by decide) (fun c45 => ?_) (fun c45 => ?_)
            · replace hF := gw_if1 c45 hF
              exact hJ55 Kx (fX0_bestTown_L8 Kx v2 t0 n) v2 v3 v4 v5 hKx ih _ _ _ (lv_sub hl [1, 2, 3, 4, 5, 6] rfl) I hF
            · replace hF := gw_if0 c45 hF
              exact hJ48 Kx (fX0_bestTown_L8 Kx v2 t0 n) v2 v5 r31 hKx ih _ _ _ (lv_sub hl [1, 2, 3, 6, 0] rfl) I hF
  refine lv_iconst (v := (-1)) hx hb dX0_bestTown_0 (by decide) ?_
  refine lv_istore_n (lv' := [(3, .int (-1)), (0, .ref (ad 17)), (1, .ref (ad 3)), (2, .int v2)]) hx hb dX0_bestTown_1 rfl hl (by decide) rfl (fun ls hl => ?_)
  refine lv_iconst (v := 0) hx hb dX0_bestTown_2 (by decide) ?_
  refine lv_istore (lv' := [(4, .int 0), (3, .int (-1)), (0, .ref (ad 17)), (1, .ref (ad 3)), (2, .int v2)]) hx hb dX0_bestTown_3 hl (by decide) rfl (fun ls hl => ?_)
  refine lv_iconst (v := 0) hx hb dX0_bestTown_5 (by decide) ?_
  refine lv_istore (lv' := [(5, .int 0), (4, .int 0), (3, .int (-1)), (0, .ref (ad 17)), (1, .ref (ad 3)), (2, .int v2)]) hx hb dX0_bestTown_6 hl (by decide) rfl (fun ls hl => ?_)
  refine hL8 _ v2 (fun v3_x8 v4_x8 v5_x8 H locs ls hl I hF => ?_) 2000 (-1) 0 0 _ _ _ (lv_sub hl [3, 4, 5, 2, 1, 0] rfl) I hF
  refine lv_iload_n hx hb dX0_bestTown_61 rfl (lv_at hl 0 rfl) ?_
  refine lv_iconst (v := (-1)) hx hb dX0_bestTown_62 (by decide) ?_
  refine lv_icmp_ne (tgt := 70) hx hb dX0_bestTown_63 (by decide) (fun c63 => ?_) (fun c63 => ?_)
  · replace hF := gw_if0 c63 hF
    refine lv_iload_n hx hb dX0_bestTown_70 rfl (lv_at hl 0 rfl) ?_
    exact gw_iret E I hr hlocks rfl (Option.some.inj hF) rfl dX0_bestTown_71
  · replace hF := gw_if1 c63 hF
    refine lv_iconst (v := 0) hx hb dX0_bestTown_66 (by decide) ?_
    refine lv_goto (tgt := 71) hx hb dX0_bestTown_67 (by decide) ?_
    exact gw_iret E I hr hlocks rfl (Option.some.inj hF) rfl dX0_bestTown_71
abbrev rmX0_seek : Room := { frames := 4, cells := 0, slots := 0, locals := 93 }
theorem lk_X0_seek_9 : Cond.fieldLink RX0 9 "ThrownSacks$Best" "towns" "[I" ∈ wsX0_seek := by decide +kernel
theorem lk_X0_seek_15 : Cond.fieldLink RX0 15 "ThrownSacks$Best" "less" "[I" ∈ wsX0_seek := by decide +kernel
theorem lk_X0_seek_18 : Cond.fieldLink RX0 18 "ThrownSacks$Best" "rest" "[I" ∈ wsX0_seek := by decide +kernel
theorem lk_X0_seek_21 : Cond.fieldLink RX0 21 "ThrownSacks$Plan" "hooks" "I" ∈ wsX0_seek := by decide +kernel
theorem lk_X0_seek_27 : Cond.fieldLink RX0 27 "ThrownSacks$Plan" "yards" "[I" ∈ wsX0_seek := by decide +kernel
theorem lk_X0_seek_52 : Cond.fieldLink RX0 52 "ThrownSacks$Best" "total" "I" ∈ wsX0_seek := by decide +kernel
theorem in_X0_seek_X0 : ∀ w ∈ u_ws RX0 TX0 4, w ∈ wsX0_seek := by decide +kernel
theorem in_X0_seek_X2 : ∀ w ∈ u_ws RX2 TX2 4, w ∈ wsX0_seek := by decide +kernel
theorem mk_X0_seek_min_l : Cond.methodLink RX0 38 Lib.Math.min.name ∈ wsX0_seek := by decide +kernel
theorem mk_X0_seek_min_s : Cond.static Lib.Math.min.name ∈ wsX0_seek := by decide +kernel
theorem mk_X0_seek_min_c : Cond.code Lib.Math.min.name Lib.Math.min.code 2 (some .int) ∈ wsX0_seek := by decide +kernel
theorem mk_X0_seek_i : Cond.initialized "java/lang/Math" ∈ wsX0_seek := by decide +kernel
theorem nk_X0_seek_X7_carryTenths : Cond.static yX7_carryTenths ∈ wsX0_seek := by decide +kernel
theorem nk_X0_seek_i : Cond.initialized RX7 ∈ wsX0_seek := by decide +kernel
theorem nk_X0_seek_X7_costOf : Cond.static yX7_costOf ∈ wsX0_seek := by decide +kernel
set_option maxHeartbeats 4000000 in
set_option maxRecDepth 100000 in
theorem ok_X0_seek (l : Launch) {D : va_G} {g : gw_G} {tG : Nat} {ad : Nat → Nat} {A : Nat → Prop} (hD : gw_D A 83 ad) (t0 : gw_S) (tz : gw_S) (hF : fX0_seek t0 = some tz) : Met l yX0_seek wsX0_seek rmX0_seek (gw_Pc D g tG (tC g ad) 83 ad A [.ref (ad 17), .ref (ad 3)] t0) (gw_Qv D (tC g ad) 83 ad A tz) 0 0 A := by
  unfold fX0_seek at hF
  refine gw_met (by decide) rfl hD (Nat.le_of_ble_eq_true rfl) (fun p e s m args below meth c E hr hlocks I ls hl => ?_)
  have hx := E.1.1
  have hb := E.1.2.1
  have hl : lv_has ls 5 [(0, .ref (ad 17)), (1, .ref (ad 3))] := hl
  have hL105 : ∀ (Kx : Int32 → Int32 → gw_S → Option (gw_S)), (∀ (v3 : Int32) (v4 : Int32) (t : gw_S) (H : Heap) (locs : List Loc) (ls : Array Slot), lv_has ls 5 [] → gw_I D (tC g ad) 83 ad A s.heap t H locs → Kx v3 v4 t = some tz → W p l e rmX0_seek s m args below meth c H locs 0 0 (MQ below (gw_Qv D (tC g ad) 83 ad A tz) args s 0 0 A) (F0 m 145 ls [])) → ∀ (n : Nat) (v3 : Int32) (v4 : Int32) (t : gw_S) (H : Heap) (locs : List Loc) (ls : Array Slot), lv_has ls 5 [(0, .ref (ad 17)), (1, .ref (ad 3)), (3, .int v3), (4, .int v4)] → gw_I D (tC g ad) 83 ad A s.heap t H locs → fX0_seek_L105 Kx n v3 v4 t = some tz → W p l e rmX0_seek s m args below meth c H locs 0 0 (MQ below (gw_Qv D (tC g ad) 83 ad A tz) args s 0 0 A) (F0 m 105 ls []) := by
    intro Kx hKx n
    induction n with
    | zero =>
      intro v3 v4 t H locs ls hl I hF
      rw [fX0_seek_L105] at hF
      cases hF
    | succ n ih =>
      intro v3 v4 t H locs ls hl I hF
      rw [fX0_seek_L105] at hF
      refine lv_iload hx hb dX0_seek_105 (lv_at hl 3 rfl) ?_
      refine lv_aload_n hx hb dX0_seek_107 rfl (lv_at hl 1 rfl) ?_
      refine gf_C_3_3 E I in_X0_seek_X2 lk_X0_seek_21 dX0_seek_108 ?_
      refine lv_icmp_ge (tgt := 145) hx hb dX0_seek_111 (by decide) (fun c111 => ?_) (fun c111 => ?_)
      · replace hF := gw_if1 c111 hF
        exact hKx v3 v4 t _ _ _ (lv_sub hl [] rfl) I hF
      · replace hF := gw_if0 c111 hF
        refine lv_aload_n hx hb dX0_seek_114 rfl (lv_at hl 0 rfl) ?_
        refine gf_C_17_0 E I in_X0_seek_X0 lk_X0_seek_9 dX0_seek_115 ?_
        refine lv_iload hx hb dX0_seek_118 (lv_at hl 3 rfl) ?_
        refine lv_aload_n hx hb dX0_seek_120 rfl (lv_at hl 0 rfl) ?_
        refine lv_aload_n hx hb dX0_seek_121 rfl (lv_at hl 1 rfl) ?_
        refine lv_iload_n hx hb dX0_seek_122 rfl (lv_at hl 2 rfl) ?_
        replace hF := gw_bdE hF
        obtain ⟨r123, e123, hF⟩ := hF
        refine gw_calli I (gw_runV E I (ok_X0_bestTown l hD t v3 _ e123) (cwV 2 E.1.2.2.2.2 gX0_seek_X0_bestTown rfl rfl rfl (by decide +kernel) ⟨Nat.le_of_ble_eq_true rfl, Nat.le_of_ble_eq_true rfl⟩) (by decide) rfl rfl rfl hl.1 rfl (Nat.le_of_ble_eq_true rfl) dX0_seek_123) (fun H locs I => ?_)
        replace hF := gw_ifn hF
        obtain ⟨hz126, hF⟩ := hF
        replace hF := gw_nmE hF
        obtain ⟨t_126, et_126, hF⟩ := hF
        refine gw_iast E I 18 (by decide) (fun _ => rfl) hz126 et_126 dX0_seek_126 (fun H locs I => ?_)
        refine lv_iload_n hx hb dX0_seek_127 rfl (lv_at hl 2 rfl) ?_
        refine lv_iconst (v := 1) hx hb dX0_seek_128 (by decide) ?_
        refine lv_aload_n hx hb dX0_seek_129 rfl (lv_at hl 0 rfl) ?_
        refine gf_C_17_0 E I in_X0_seek_X0 lk_X0_seek_9 dX0_seek_130 ?_
        refine lv_iload hx hb dX0_seek_133 (lv_at hl 3 rfl) ?_
        replace hF := gw_ifn hF
        obtain ⟨hz135, hF⟩ := hF
        refine gw_iald E I 18 (by decide) rfl hz135 dX0_seek_135 ?_
        refine lv_ishl hx hb dX0_seek_136 ?_
        refine lv_ior hx hb dX0_seek_137 ?_
        replace hF := gw_nmE hF
        obtain ⟨v3_138, ev3_138, hF⟩ := hF
        refine gw_topi ev3_138 ?_
        refine lv_istore_n (lv' := [(3, .int v3_138), (0, .ref (ad 17)), (1, .ref (ad 3)), (4, .int v4)]) hx hb dX0_seek_138 rfl hl (by decide) rfl (fun ls hl => ?_)
        replace hF := gw_nmE hF
        obtain ⟨v4_139, ev4_139, hF⟩ := hF
        refine lv_iinc (v := v4_139) (lv' := [(4, .int v4_139), (3, .int v3_138), (0, .ref (ad 17)), (1, .ref (ad 3))]) hx hb dX0_seek_139 hl (k := 3) rfl (by subst ev4_139; rfl) (by decide) rfl (fun ls hl => ?_)
        refine lv_goto (tgt := 105) hx hb dX0_seek_142 (by decide) ?_
        exact ih v3_138 v4_139 t_126 _ _ _ (lv_sub hl [2, 3, 1, 0] rfl) I hF
  have hL62 : ∀ (Kx : Int32 → gw_S → Option (gw_S)), (∀ (v3 : Int32) (t : gw_S) (H : Heap) (locs : List Loc) (ls : Array Slot), lv_has ls 5 [(0, .ref (ad 17)), (1, .ref (ad 3))] → gw_I D (tC g ad) 83 ad A s.heap t H locs → Kx v3 t = some tz → W p l e rmX0_seek s m args below meth c H locs 0 0 (MQ below (gw_Qv D (tC g ad) 83 ad A tz) args s 0 0 A) (F0 m 90 ls [])) → ∀ (n : Nat) (v3 : Int32) (t : gw_S) (H : Heap) (locs : List Loc) (ls : Array Slot), lv_has ls 5 [(0, .ref (ad 17)), (1, .ref (ad 3)), (3, .int v3)] → gw_I D (tC g ad) 83 ad A s.heap t H locs → fX0_seek_L62 Kx n v3 t = some tz → W p l e rmX0_seek s m args below meth c H locs 0 0 (MQ below (gw_Qv D (tC g ad) 83 ad A tz) args s 0 0 A) (F0 m 62 ls []) := by
    intro Kx hKx n
    induction n with
    | zero =>
      intro v3 t H locs ls hl I hF
      rw [fX0_seek_L62] at hF
      cases hF
    | succ n ih =>
      intro v3 t H locs ls hl I hF
      rw [fX0_seek_L62] at hF
      refine lv_iload_n hx hb dX0_seek_62 rfl (lv_at hl 2 rfl) ?_
      refine lv_if_lt (tgt := 90) hx hb dX0_seek_63 (by decide) (fun c63 => ?_) (fun c63 => ?_)
      · replace hF := gw_if1 c63 hF
        exact hKx v3 t _ _ _ (lv_sub hl [0, 1] rfl) I hF
      · replace hF := gw_if0 c63 hF
        refine lv_aload_n hx hb dX0_seek_66 rfl (lv_at hl 0 rfl) ?_
        refine gf_C_17_2 E I in_X0_seek_X0 lk_X0_seek_18 dX0_seek_67 ?_
        refine lv_iload_n hx hb dX0_seek_70 rfl (lv_at hl 2 rfl) ?_
        refine lv_aload_n hx hb dX0_seek_71 rfl (lv_at hl 0 rfl) ?_
        refine lv_aload_n hx hb dX0_seek_72 rfl (lv_at hl 1 rfl) ?_
        refine lv_iload_n hx hb dX0_seek_73 rfl (lv_at hl 2 rfl) ?_
        refine lv_aload_n hx hb dX0_seek_74 rfl (lv_at hl 0 rfl) ?_
        refine lv_aload_n hx hb dX0_seek_75 rfl (lv_at hl 1 rfl) ?_
        refine lv_iload_n hx hb dX0_seek_76 rfl (lv_at hl 2 rfl) ?_
        replace hF := gw_bdE hF
        obtain ⟨r77, e77, hF⟩ := hF
        refine gw_calli I (gw_runV E I (ok_X0_bestTown l hD t v3 _ e77) (cwV 2 E.1.2.2.2.2 gX0_seek_X0_bestTown rfl rfl rfl (by decide +kernel) ⟨Nat.le_of_ble_eq_true rfl, Nat.le_of_ble_eq_true rfl⟩) (by decide) rfl rfl rfl hl.1 rfl (Nat.le_of_ble_eq_true rfl) dX0_seek_77) (fun H locs I => ?_)
        replace hF := gw_bdE hF
        obtain ⟨r80, e80, hF⟩ := hF
        refine gw_calli I (gw_runV E I (ok_X0_withTown l hD t v3 r77 _ e80) (cwV 3 E.1.2.2.2.2 gX0_seek_X0_withTown rfl rfl rfl (by decide +kernel) ⟨Nat.le_of_ble_eq_true rfl, Nat.le_of_ble_eq_true rfl⟩) (by decide) rfl rfl rfl hl.1 rfl (Nat.le_of_ble_eq_true rfl) dX0_seek_80) (fun H locs I => ?_)
        replace hF := gw_ifn hF
        obtain ⟨hz83, hF⟩ := hF
        replace hF := gw_nmE hF
        obtain ⟨t_83, et_83, hF⟩ := hF
        refine gw_iast E I 20 (by decide) (fun _ => rfl) hz83 et_83 dX0_seek_83 (fun H locs I => ?_)
        replace hF := gw_nmE hF
        obtain ⟨v3_84, ev3_84, hF⟩ := hF
        refine lv_iinc (v := v3_84) (lv' := [(3, .int v3_84), (0, .ref (ad 17)), (1, .ref (ad 3))]) hx hb dX0_seek_84 hl (k := 2) rfl (by subst ev3_84; rfl) (by decide) rfl (fun ls hl => ?_)
        refine lv_goto (tgt := 62) hx hb dX0_seek_87 (by decide) ?_
        exact ih v3_84 t_83 _ _ _ (lv_sub hl [1, 2, 0] rfl) I hF
  have hL2 : ∀ (Kx : Int32 → gw_S → Option (gw_S)), (∀ (v2 : Int32) (t : gw_S) (H : Heap) (locs : List Loc) (ls : Array Slot), lv_has ls 5 [(0, .ref (ad 17)), (1, .ref (ad 3))] → gw_I D (tC g ad) 83 ad A s.heap t H locs → Kx v2 t = some tz → W p l e rmX0_seek s m args below meth c H locs 0 0 (MQ below (gw_Qv D (tC g ad) 83 ad A tz) args s 0 0 A) (F0 m 42 ls [])) → ∀ (n : Nat) (v2 : Int32) (t : gw_S) (H : Heap) (locs : List Loc) (ls : Array Slot), lv_has ls 5 [(0, .ref (ad 17)), (1, .ref (ad 3)), (2, .int v2)] → gw_I D (tC g ad) 83 ad A s.heap t H locs → fX0_seek_L2 Kx n v2 t = some tz → W p l e rmX0_seek s m args below meth c H locs 0 0 (MQ below (gw_Qv D (tC g ad) 83 ad A tz) args s 0 0 A) (F0 m 2 ls []) := by
    intro Kx hKx n
    induction n with
    | zero =>
      intro v2 t H locs ls hl I hF
      rw [fX0_seek_L2] at hF
      cases hF
    | succ n ih =>
      intro v2 t H locs ls hl I hF
      rw [fX0_seek_L2] at hF
      refine lv_iload_n hx hb dX0_seek_2 rfl (lv_at hl 2 rfl) ?_
      refine lv_aload_n hx hb dX0_seek_3 rfl (lv_at hl 1 rfl) ?_
      refine gf_C_3_3 E I in_X0_seek_X2 lk_X0_seek_21 dX0_seek_4 ?_
      refine lv_icmp_ge (tgt := 42) hx hb dX0_seek_7 (by decide) (fun c7 => ?_) (fun c7 => ?_)
      · replace hF := gw_if1 c7 hF
        exact hKx v2 t _ _ _ (lv_sub hl [0, 1] rfl) I hF
      · replace hF := gw_if0 c7 hF
        refine lv_aload_n hx hb dX0_seek_10 rfl (lv_at hl 1 rfl) ?_
        refine gf_C_3_0 E I in_X0_seek_X2 lk_X0_seek_27 dX0_seek_11 ?_
        refine lv_iload_n hx hb dX0_seek_14 rfl (lv_at hl 2 rfl) ?_
        replace hF := gw_ifn hF
        obtain ⟨hz15, hF⟩ := hF
        refine gw_iald E I 4 (by decide) rfl hz15 dX0_seek_15 ?_
        replace hF := gw_nmE hF
        obtain ⟨v3_16, ev3_16, hF⟩ := hF
        refine gw_topi ev3_16 ?_
        refine lv_istore_n (lv' := [(3, .int v3_16), (0, .ref (ad 17)), (1, .ref (ad 3)), (2, .int v2)]) hx hb dX0_seek_16 rfl hl (by decide) rfl (fun ls hl => ?_)
        refine lv_aload_n hx hb dX0_seek_17 rfl (lv_at hl 1 rfl) ?_
        refine gf_C_17_1 E I in_X0_seek_X0 lk_X0_seek_15 dX0_seek_18 ?_
        refine lv_iload_n hx hb dX0_seek_21 rfl (lv_at hl 3 rfl) ?_
        refine lv_iconst (v := 0) hx hb dX0_seek_22 (by decide) ?_
        refine lv_iload_n hx hb dX0_seek_23 rfl (lv_at hl 0 rfl) ?_
        refine lv_iconst (v := 0) hx hb dX0_seek_24 (by decide) ?_
        replace hF := gw_bdE hF
        obtain ⟨r25, e25, hF⟩ := hF
        refine gw_calli I (gw_runN E I (ok_X7_costOf l hD t 0 v3_16 0 _ e25) ⟨va_cnB 3 E.1.2.2.2.2 gX0_seek_X7_costOf_n30 rfl rfl rfl E.2.1.2.2.2.1 (E.1.2.2.2.2 _ nk_X0_seek_i) (by decide +kernel) ⟨Nat.le_of_ble_eq_true rfl, Nat.le_of_ble_eq_true rfl⟩, E.1.2.2.2.2 _ nk_X0_seek_X7_costOf, trivial⟩ rfl hl.1 rfl (Nat.le_of_ble_eq_true rfl) dX0_seek_25) (fun H locs I => ?_)
        refine lv_iload_n hx hb dX0_seek_28 rfl (lv_at hl 0 rfl) ?_
        refine gw_calli I (gw_runN E I (ok_X7_carryTenths l hD t v3_16 _ rfl) ⟨va_cnB 1 E.1.2.2.2.2 gX0_seek_X7_carryTenths_n34 rfl rfl rfl E.2.1.2.2.2.2.1 (E.1.2.2.2.2 _ nk_X0_seek_i) (by decide +kernel) ⟨Nat.le_of_ble_eq_true rfl, Nat.le_of_ble_eq_true rfl⟩, E.1.2.2.2.2 _ nk_X0_seek_X7_carryTenths, trivial⟩ rfl hl.1 rfl (Nat.le_of_ble_eq_true rfl) dX0_seek_29) (fun H locs I => ?_)
        refine va_mmin hx hb (E.1.2.2.1.trans hl.1.symm) E.1.2.2.2.1 (E.1.2.2.2.2 _ mk_X0_seek_min_l) (E.1.2.2.2.2 _ mk_X0_seek_min_s) (E.1.2.2.2.2 _ mk_X0_seek_i) (E.1.2.2.2.2 _ mk_X0_seek_min_c) (Nat.le_of_ble_eq_true rfl) (Nat.le_of_ble_eq_true rfl) (Nat.zero_le _) (Nat.zero_le _) dX0_seek_32 ?_
        replace hF := gw_ifn hF
        obtain ⟨hz35, hF⟩ := hF
        replace hF := gw_nmE hF
        obtain ⟨t_35, et_35, hF⟩ := hF
        refine gw_iast E I 19 (by decide) (fun _ => rfl) hz35 et_35 dX0_seek_35 (fun H locs I => ?_)
        replace hF := gw_nmE hF
        obtain ⟨v2_36, ev2_36, hF⟩ := hF
        refine lv_iinc (v := v2_36) (lv' := [(2, .int v2_36), (3, .int v3_16), (0, .ref (ad 17)), (1, .ref (ad 3))]) hx hb dX0_seek_36 hl (k := 3) rfl (by subst ev2_36; rfl) (by decide) rfl (fun ls hl => ?_)
        refine lv_goto (tgt := 2) hx hb dX0_seek_39 (by decide) ?_
        exact ih v2_36 t_35 _ _ _ (lv_sub hl [2, 3, 0] rfl) I hF
  refine lv_iconst (v := 0) hx hb dX0_seek_0 (by decide) ?_
  refine lv_istore_n (lv' := [(2, .int 0), (0, .ref (ad 17)), (1, .ref (ad 3))]) hx hb dX0_seek_1 rfl hl (by decide) rfl (fun ls hl => ?_)
  refine hL2 _  (fun v2_x2 t_x2 H locs ls hl I hF => ?_) 2000 0 t0 _ _ _ (lv_sub hl [1, 2, 0] rfl) I hF
  refine lv_iconst (v := 1) hx hb dX0_seek_42 (by decide) ?_
  refine lv_aload_n hx hb dX0_seek_43 rfl (lv_at hl 1 rfl) ?_
  refine gf_C_3_3 E I in_X0_seek_X2 lk_X0_seek_21 dX0_seek_44 ?_
  refine lv_ishl hx hb dX0_seek_47 ?_
  refine lv_iconst (v := 1) hx hb dX0_seek_48 (by decide) ?_
  refine lv_isub hx hb dX0_seek_49 ?_
  replace hF := gw_nmE hF
  obtain ⟨v2_50, ev2_50, hF⟩ := hF
  refine gw_topi ev2_50 ?_
  refine lv_istore_n (lv' := [(2, .int v2_50), (0, .ref (ad 17)), (1, .ref (ad 3))]) hx hb dX0_seek_50 rfl hl (by decide) rfl (fun ls hl => ?_)
  refine lv_aload_n hx hb dX0_seek_51 rfl (lv_at hl 1 rfl) ?_
  refine gf_C_17_2 E I in_X0_seek_X0 lk_X0_seek_18 dX0_seek_52 ?_
  refine lv_iload_n hx hb dX0_seek_55 rfl (lv_at hl 0 rfl) ?_
  refine lv_iconst (v := 0) hx hb dX0_seek_56 (by decide) ?_
  replace hF := gw_ifn hF
  obtain ⟨hz57, hF⟩ := hF
  replace hF := gw_nmE hF
  obtain ⟨t_57, et_57, hF⟩ := hF
  refine gw_iast E I 20 (by decide) (fun _ => rfl) hz57 et_57 dX0_seek_57 (fun H locs I => ?_)
  refine lv_iload_n hx hb dX0_seek_58 rfl (lv_at hl 0 rfl) ?_
  refine lv_iconst (v := 1) hx hb dX0_seek_59 (by decide) ?_
  refine lv_isub hx hb dX0_seek_60 ?_
  replace hF := gw_nmE hF
  obtain ⟨v3_61, ev3_61, hF⟩ := hF
  refine gw_topi ev3_61 ?_
  refine lv_istore_n (lv' := [(3, .int v3_61), (2, .int v2_50), (0, .ref (ad 17)), (1, .ref (ad 3))]) hx hb dX0_seek_61 rfl hl (by decide) rfl (fun ls hl => ?_)
  refine hL62 _  (fun v3_x62 t_x62 H locs ls hl I hF => ?_) 2000 v3_61 t_57 _ _ _ (lv_sub hl [2, 3, 0] rfl) I hF
  refine lv_aload_n hx hb dX0_seek_90 rfl (lv_at hl 0 rfl) ?_
  refine lv_aload_n hx hb dX0_seek_91 rfl (lv_at hl 0 rfl) ?_
  refine gf_C_17_2 E I in_X0_seek_X0 lk_X0_seek_18 dX0_seek_92 ?_
  refine lv_iconst (v := 0) hx hb dX0_seek_95 (by decide) ?_
  replace hF := gw_ifn hF
  obtain ⟨hz96, hF⟩ := hF
  refine gw_iald E I 20 (by decide) rfl hz96 dX0_seek_96 ?_
  replace hF := gw_nmE hF
  obtain ⟨t_97, et_97, hF⟩ := hF
  refine gp_C_17_3 E I in_X0_seek_X0 lk_X0_seek_52 et_97 dX0_seek_97 (fun H locs I => ?_)
  refine lv_iconst (v := 0) hx hb dX0_seek_100 (by decide) ?_
  refine lv_istore_n (lv' := [(3, .int 0), (0, .ref (ad 17)), (1, .ref (ad 3))]) hx hb dX0_seek_101 rfl hl (by decide) rfl (fun ls hl => ?_)
  refine lv_iconst (v := 0) hx hb dX0_seek_102 (by decide) ?_
  refine lv_istore (lv' := [(4, .int 0), (3, .int 0), (0, .ref (ad 17)), (1, .ref (ad 3))]) hx hb dX0_seek_103 hl (by decide) rfl (fun ls hl => ?_)
  refine hL105 _  (fun v3_x105 v4_x105 t_x105 H locs ls hl I hF => ?_) 2000 0 0 t_97 _ _ _ (lv_sub hl [2, 3, 1, 0] rfl) I hF
  exact gw_vret E I hr hlocks (Option.some.inj hF) dX0_seek_145
abbrev rmX7_floor : Room := { frames := 5, cells := 0, slots := 0, locals := 117 }
theorem lk_X7_floor_10 : Cond.fieldLink RX7 10 "ThrownSacks" "page" "LThrownSacks$Page;" ∈ wsX7_floor := by decide +kernel
theorem lk_X7_floor_19 : Cond.fieldLink RX7 19 "ThrownSacks" "plan" "LThrownSacks$Plan;" ∈ wsX7_floor := by decide +kernel
theorem lk_X7_floor_26 : Cond.fieldLink RX7 26 "ThrownSacks" "now" "LThrownSacks$Standing;" ∈ wsX7_floor := by decide +kernel
theorem lk_X7_floor_36 : Cond.fieldLink RX7 36 "ThrownSacks" "best" "LThrownSacks$Best;" ∈ wsX7_floor := by decide +kernel
theorem lk_X7_floor_43 : Cond.fieldLink RX7 43 "ThrownSacks" "ways" "LThrownSacks$Ways;" ∈ wsX7_floor := by decide +kernel
theorem lk_X7_floor_54 : Cond.fieldLink RX7 54 "ThrownSacks$Page" "size" "I" ∈ wsX7_floor := by decide +kernel
theorem lk_X7_floor_81 : Cond.fieldLink RX7 81 "ThrownSacks$Ways" "counted" "Z" ∈ wsX7_floor := by decide +kernel
theorem lk_X7_floor_85 : Cond.fieldLink RX7 85 "ThrownSacks" "imageKept" "Z" ∈ wsX7_floor := by decide +kernel
theorem lk_X7_floor_88 : Cond.fieldLink RX7 88 "ThrownSacks" "floorsRead" "I" ∈ wsX7_floor := by decide +kernel
theorem lk_X7_floor_91 : Cond.fieldLink RX7 91 "ThrownSacks$Plan" "hooks" "I" ∈ wsX7_floor := by decide +kernel
theorem in_X7_floor_X1 : ∀ w ∈ u_ws RX1 TX1 2, w ∈ wsX7_floor := by decide +kernel
theorem in_X7_floor_X2 : ∀ w ∈ u_ws RX2 TX2 4, w ∈ wsX7_floor := by decide +kernel
theorem in_X7_floor_X6 : ∀ w ∈ u_ws RX6 TX6 5, w ∈ wsX7_floor := by decide +kernel
theorem in_X7_floor_X7 : ∀ w ∈ u_ws RX7 TX7 9, w ∈ wsX7_floor := by decide +kernel
set_option maxHeartbeats 4000000 in
set_option maxRecDepth 100000 in
theorem ok_X7_floor (l : Launch) {D : va_G} {g : gw_G} {tG : Nat} {ad : Nat → Nat} {A : Nat → Prop} (hD : gw_D A 83 ad) (t0 : gw_S) (r0 : Int32) (tz : gw_S) (hF : fX7_floor t0 = some (r0, tz)) : Met l yX7_floor wsX7_floor rmX7_floor (gw_Pc D g tG (tC g ad) 83 ad A [.ref (ad 0)] t0) (gw_Qi D (tC g ad) 83 ad A r0 tz) 0 0 A := by
  unfold fX7_floor at hF
  refine gw_met (by decide) rfl hD (Nat.le_of_ble_eq_true rfl) (fun p e s m args below meth c E hr hlocks I ls hl => ?_)
  have hx := E.1.1
  have hb := E.1.2.1
  have hl : lv_has ls 1 [(0, .ref (ad 0))] := hl
  refine lv_aload_n hx hb dX7_floor_0 rfl (lv_at hl 0 rfl) ?_
  refine gf_C_0_0 E I in_X7_floor_X7 lk_X7_floor_10 dX7_floor_1 ?_
  replace hF := gw_bdE hF
  obtain ⟨r4, e4, hF⟩ := hF
  refine gw_calli I (gw_runV E I (ok_X1_isFloor l hD t0 _ e4) (cwV 0 E.1.2.2.2.2 gX7_floor_X1_isFloor rfl rfl rfl (by decide +kernel) ⟨Nat.le_of_ble_eq_true rfl, Nat.le_of_ble_eq_true rfl⟩) (by decide) rfl rfl rfl hl.1 rfl (Nat.le_of_ble_eq_true rfl) dX7_floor_4) (fun H locs I => ?_)
  refine lv_if_ne (tgt := 13) hx hb dX7_floor_7 (by decide) (fun c7 => ?_) (fun c7 => ?_)
  · replace hF := gw_if0 c7 hF
    refine lv_aload_n hx hb dX7_floor_13 rfl (lv_at hl 0 rfl) ?_
    refine gf_C_0_1 E I in_X7_floor_X7 lk_X7_floor_19 dX7_floor_14 ?_
    refine lv_aload_n hx hb dX7_floor_17 rfl (lv_at hl 0 rfl) ?_
    refine gf_C_0_0 E I in_X7_floor_X7 lk_X7_floor_10 dX7_floor_18 ?_
    replace hF := gw_bdE hF
    obtain ⟨t_21, e21, hF⟩ := hF
    refine gw_callv I (gw_runV E I (ok_X2_read l hD t0 _ e21) (cwV 1 E.1.2.2.2.2 gX7_floor_X2_read rfl rfl rfl (by decide +kernel) ⟨Nat.le_of_ble_eq_true rfl, Nat.le_of_ble_eq_true rfl⟩) (by decide) rfl rfl rfl hl.1 rfl (Nat.le_of_ble_eq_true rfl) dX7_floor_21) (fun H locs I => ?_)
    refine lv_aload_n hx hb dX7_floor_24 rfl (lv_at hl 0 rfl) ?_
    refine gf_C_0_0 E I in_X7_floor_X7 lk_X7_floor_10 dX7_floor_25 ?_
    refine lv_iconst (v := 0) hx hb dX7_floor_28 (by decide) ?_
    replace hF := gw_nmE hF
    obtain ⟨t_29, et_29, hF⟩ := hF
    refine gp_C_1_1 E I in_X7_floor_X1 lk_X7_floor_54 et_29 dX7_floor_29 (fun H locs I => ?_)
    refine lv_aload_n hx hb dX7_floor_32 rfl (lv_at hl 0 rfl) ?_
    refine gf_C_0_2 E I in_X7_floor_X7 lk_X7_floor_26 dX7_floor_33 ?_
    replace hF := gw_bdE hF
    obtain ⟨t_36, e36, hF⟩ := hF
    refine gw_callv I (gw_runV E I (ok_X4_start l hD t_29 _ e36) (cwV 0 E.1.2.2.2.2 gX7_floor_X4_start rfl rfl rfl (by decide +kernel) ⟨Nat.le_of_ble_eq_true rfl, Nat.le_of_ble_eq_true rfl⟩) (by decide) rfl rfl rfl hl.1 rfl (Nat.le_of_ble_eq_true rfl) dX7_floor_36) (fun H locs I => ?_)
    refine lv_aload_n hx hb dX7_floor_39 rfl (lv_at hl 0 rfl) ?_
    refine gf_C_0_4 E I in_X7_floor_X7 lk_X7_floor_36 dX7_floor_40 ?_
    refine lv_aload_n hx hb dX7_floor_43 rfl (lv_at hl 0 rfl) ?_
    refine gf_C_0_1 E I in_X7_floor_X7 lk_X7_floor_19 dX7_floor_44 ?_
    replace hF := gw_bdE hF
    obtain ⟨t_47, e47, hF⟩ := hF
    refine gw_callv I (gw_runV E I (ok_X0_seek l hD t_36 _ e47) (cwV 1 E.1.2.2.2.2 gX7_floor_X0_seek rfl rfl rfl (by decide +kernel) ⟨Nat.le_of_ble_eq_true rfl, Nat.le_of_ble_eq_true rfl⟩) (by decide) rfl rfl rfl hl.1 rfl (Nat.le_of_ble_eq_true rfl) dX7_floor_47) (fun H locs I => ?_)
    refine lv_aload_n hx hb dX7_floor_50 rfl (lv_at hl 0 rfl) ?_
    refine gf_C_0_5 E I in_X7_floor_X7 lk_X7_floor_43 dX7_floor_51 ?_
    refine lv_iconst (v := 0) hx hb dX7_floor_54 (by decide) ?_
    replace hF := gw_nmE hF
    obtain ⟨t_55, et_55, hF⟩ := hF
    refine gp_C_21_3 E I in_X7_floor_X6 lk_X7_floor_81 (by decide) et_55 dX7_floor_55 (fun H locs I => ?_)
    refine lv_aload_n hx hb dX7_floor_58 rfl (lv_at hl 0 rfl) ?_
    refine lv_iconst (v := 0) hx hb dX7_floor_59 (by decide) ?_
    replace hF := gw_nmE hF
    obtain ⟨t_60, et_60, hF⟩ := hF
    refine gp_C_0_7 E I in_X7_floor_X7 lk_X7_floor_85 (by decide) et_60 dX7_floor_60 (fun H locs I => ?_)
    refine lv_aload_n hx hb dX7_floor_63 rfl (lv_at hl 0 rfl) ?_
    refine lv_dup hx hb dX7_floor_64 rfl ?_
    refine gf_C_0_8 E I in_X7_floor_X7 lk_X7_floor_88 dX7_floor_65 ?_
    refine lv_iconst (v := 1) hx hb dX7_floor_68 (by decide) ?_
    refine lv_iadd hx hb dX7_floor_69 ?_
    replace hF := gw_nmE hF
    obtain ⟨t_70, et_70, hF⟩ := hF
    refine gp_C_0_8 E I in_X7_floor_X7 lk_X7_floor_88 et_70 dX7_floor_70 (fun H locs I => ?_)
    refine lv_aload_n hx hb dX7_floor_73 rfl (lv_at hl 0 rfl) ?_
    refine gf_C_0_1 E I in_X7_floor_X7 lk_X7_floor_19 dX7_floor_74 ?_
    refine gf_C_3_3 E I in_X7_floor_X2 lk_X7_floor_91 dX7_floor_77 ?_
    exact gw_iret E I hr hlocks rfl (Prod.mk.inj (Option.some.inj hF)).1 (Prod.mk.inj (Option.some.inj hF)).2 dX7_floor_80
  · replace hF := gw_if1 c7 hF
    refine lv_bipush (v := (-103)) hx hb dX7_floor_10 (by decide) ?_
    exact gw_iret E I hr hlocks rfl (Prod.mk.inj (Option.some.inj hF)).1 (Prod.mk.inj (Option.some.inj hF)).2 dX7_floor_12
abbrev rmX7_isKnown : Room := { frames := 1, cells := 0, slots := 0, locals := 21 }
theorem lk_X7_isKnown_19 : Cond.fieldLink RX7 19 "ThrownSacks" "plan" "LThrownSacks$Plan;" ∈ wsX7_isKnown := by decide +kernel
theorem in_X7_isKnown_X7 : ∀ w ∈ u_ws RX7 TX7 9, w ∈ wsX7_isKnown := by decide +kernel
set_option maxHeartbeats 4000000 in
set_option maxRecDepth 100000 in
theorem ok_X7_isKnown (l : Launch) {D : va_G} {g : gw_G} {tG : Nat} {ad : Nat → Nat} {A : Nat → Prop} (hD : gw_D A 83 ad) (t0 : gw_S) (v1 : Int32) (r0 : Int32) (hF : fX7_isKnown v1 t0 = r0) : Met l yX7_isKnown wsX7_isKnown rmX7_isKnown (gw_Pc D g tG (tC g ad) 83 ad A [.ref (ad 0), .int v1] t0) (gw_Qi D (tC g ad) 83 ad A r0 t0) 0 0 A := by
  unfold fX7_isKnown at hF
  refine gw_met (by decide) rfl hD (Nat.le_of_ble_eq_true rfl) (fun p e s m args below meth c E hr hlocks I ls hl => ?_)
  have hx := E.1.1
  have hb := E.1.2.1
  have hl : lv_has ls 2 [(0, .ref (ad 0)), (1, .int v1)] := hl
  refine lv_aload_n hx hb dX7_isKnown_0 rfl (lv_at hl 0 rfl) ?_
  refine gf_C_0_1 E I in_X7_isKnown_X7 lk_X7_isKnown_19 dX7_isKnown_1 ?_
  refine lv_iload_n hx hb dX7_isKnown_4 rfl (lv_at hl 1 rfl) ?_
  refine gw_calli I (gw_runV E I (ok_X2_has l hD t0 v1 _ rfl) (cwV 1 E.1.2.2.2.2 gX7_isKnown_X2_has rfl rfl rfl (by decide +kernel) ⟨Nat.le_of_ble_eq_true rfl, Nat.le_of_ble_eq_true rfl⟩) (by decide) rfl rfl rfl hl.1 rfl (Nat.le_of_ble_eq_true rfl) dX7_isKnown_5) (fun H locs I => ?_)
  exact gw_iret E I hr hlocks (gw_nar (bl_X2_has _ _)) hF rfl dX7_isKnown_8
abbrev rmX3_ofKind : Room := { frames := 0, cells := 0, slots := 0, locals := 0 }
theorem lk_X3_ofKind_9 : Cond.fieldLink RX3 9 "ThrownSacks$Row" "kinds" "[I" ∈ wsX3_ofKind := by decide +kernel
theorem lk_X3_ofKind_22 : Cond.fieldLink RX3 22 "ThrownSacks$Row" "size" "I" ∈ wsX3_ofKind := by decide +kernel
theorem in_X3_ofKind_X3 : ∀ w ∈ u_ws RX3 TX3 4, w ∈ wsX3_ofKind := by decide +kernel
set_option maxHeartbeats 4000000 in
set_option maxRecDepth 100000 in
theorem ok_X3_ofKind (l : Launch) {D : va_G} {g : gw_G} {tG : Nat} {ad : Nat → Nat} {A : Nat → Prop} (hD : gw_D A 83 ad) (t0 : gw_S) (q0 : Nat) (v1 : Int32) (hq0 : gw_row q0 = true) (r0 : Int32) (hF : fX3_ofKind q0 v1 t0 = some r0) : Met l yX3_ofKind wsX3_ofKind rmX3_ofKind (gw_Pc D g tG (tC g ad) 83 ad A [.ref (ad q0), .int v1] t0) (gw_Qi D (tC g ad) 83 ad A r0 t0) 0 0 A := by
  unfold fX3_ofKind at hF
  refine gw_met (by decide) rfl hD (Nat.le_of_ble_eq_true rfl) (fun p e s m args below meth c E hr hlocks I ls hl => ?_)
  have hx := E.1.1
  have hb := E.1.2.1
  have hl : lv_has ls 4 [(0, .ref (ad q0)), (1, .int v1)] := hl
  have hJ25 : ∀ (Kx : Int32 → Int32 → Option (Int32)) (Kh : Int32 → Int32 → Option (Int32)) (q0 : Nat) (v1 : Int32) (v2 : Int32) (v3 : Int32) (hq0 : gw_row q0 = true) (hKx : ∀ (v2 : Int32) (v3 : Int32) (H : Heap) (locs : List Loc) (ls : Array Slot), lv_has ls 4 [(2, .int v2)] → gw_I D (tC g ad) 83 ad A s.heap t0 H locs → Kx v2 v3 = some r0 → W p l e rmX3_ofKind s m args below meth c H locs 0 0 (MQ below (gw_Qi D (tC g ad) 83 ad A r0 t0) args s 0 0 A) (F0 m 31 ls [])) (hKh : ∀ (v2 : Int32) (v3 : Int32) (H : Heap) (locs : List Loc) (ls : Array Slot), lv_has ls 4 [(0, .ref (ad q0)), (1, .int v1), (2, .int v2), (3, .int v3)] → gw_I D (tC g ad) 83 ad A s.heap t0 H locs → Kh v2 v3 = some r0 → W p l e rmX3_ofKind s m args below meth c H locs 0 0 (MQ below (gw_Qi D (tC g ad) 83 ad A r0 t0) args s 0 0 A) (F0 m 4 ls [])) (H : Heap) (locs : List Loc) (ls : Array Slot), lv_has ls 4 [(0, .ref (ad q0)), (1, .int v1), (2, .int v2), (3, .int v3)] → gw_I D (tC g ad) 83 ad A s.heap t0 H locs → fX3_ofKind_J25 Kx Kh q0 v1 v2 v3 t0 = some r0 → W p l e rmX3_ofKind s m args below meth c H locs 0 0 (MQ below (gw_Qi D (tC g ad) 83 ad A r0 t0) args s 0 0 A) (F0 m 25 ls []) := by
    intro Kx Kh q0 v1 v2 v3 hq0 hKx hKh H locs ls hl I hF
    unfold fX3_ofKind_J25 at hF
    replace hF := gw_nmE hF
    obtain ⟨v3_25, ev3_25, hF⟩ := hF
    refine lv_iinc (v := v3_25) (lv' := [(3, .int v3_25), (0, .ref (ad q0)), (1, .int v1), (2, .int v2)]) hx hb dX3_ofKind_25 hl (k := 3) rfl (by subst ev3_25; rfl) (by decide) rfl (fun ls hl => ?_)
    refine lv_goto (tgt := 4) hx hb dX3_ofKind_28 (by decide) ?_
    exact hKh v2 v3_25 _ _ _ (lv_sub hl [1, 2, 3, 0] rfl) I hF
  have hL4 : ∀ (Kx : Int32 → Int32 → Option (Int32)) (q0 : Nat) (v1 : Int32) (hq0 : gw_row q0 = true), (∀ (v2 : Int32) (v3 : Int32) (H : Heap) (locs : List Loc) (ls : Array Slot), lv_has ls 4 [(2, .int v2)] → gw_I D (tC g ad) 83 ad A s.heap t0 H locs → Kx v2 v3 = some r0 → W p l e rmX3_ofKind s m args below meth c H locs 0 0 (MQ below (gw_Qi D (tC g ad) 83 ad A r0 t0) args s 0 0 A) (F0 m 31 ls [])) → ∀ (n : Nat) (v2 : Int32) (v3 : Int32) (H : Heap) (locs : List Loc) (ls : Array Slot), lv_has ls 4 [(0, .ref (ad q0)), (1, .int v1), (2, .int v2), (3, .int v3)] → gw_I D (tC g ad) 83 ad A s.heap t0 H locs → fX3_ofKind_L4 Kx q0 v1 t0 n v2 v3 = some r0 → W p l e rmX3_ofKind s m args below meth c H locs 0 0 (MQ below (gw_Qi D (tC g ad) 83 ad A r0 t0) args s 0 0 A) (F0 m 4 ls []) := by
    intro Kx q0 v1 hq0 hKx n
    induction n with
    | zero =>
      intro v2 v3 H locs ls hl I hF
      rw [fX3_ofKind_L4] at hF
      cases hF
    | succ n ih =>
      intro v2 v3 H locs ls hl I hF
      rw [fX3_ofKind_L4] at hF
      refine lv_iload_n hx hb dX3_ofKind_4 rfl (lv_at hl 3 rfl) ?_
      refine lv_aload_n hx hb dX3_ofKind_5 rfl (lv_at hl 0 rfl) ?_
      refine gf_row_3 hq0 E I in_X3_ofKind_X3 lk_X3_ofKind_22 dX3_ofKind_6 ?_
      refine lv_icmp_ge (tgt := 31) hx hb dX3_ofKind_9 (by decide) (fun c9 => ?_) (fun c9 => ?_)
      · replace hF := gw_if1 c9 hF
        exact hKx v2 v3 _ _ _ (lv_sub hl [2] rfl) I hF
      · replace hF := gw_if0 c9 hF
        refine lv_aload_n hx hb dX3_ofKind_12 rfl (lv_at hl 0 rfl) ?_
        refine gf_row_0 hq0 E I in_X3_ofKind_X3 lk_X3_ofKind_9 dX3_ofKind_13 ?_
        refine lv_iload_n hx hb dX3_ofKind_16 rfl (lv_at hl 3 rfl) ?_
        replace hF := gw_ifn hF
        obtain ⟨hz17, hF⟩ := hF
        refine gw_iald E I (q0 + 1) (tC_lt1 hq0) (tC_ra1 hq0) hz17 dX3_ofKind_17 ?_
        refine lv_iload_n hx hb dX3_ofKind_18 rfl (lv_at hl 1 rfl) ?_
        refine lv_icmp_ne (tgt := 25) hx hb dX3_ofKind_19 (by decide) (fun c19 => ?_) (fun c19 => ?_)
        · replace hF := gw_if0 c19 hF
          exact hJ25 Kx (fX3_ofKind_L4 Kx q0 v1 t0 n) q0 v1 v2 v3 hq0 hKx ih _ _ _ (lv_sub hl [0, 1, 2, 3] rfl) I hF
        · replace hF := gw_if1 c19 hF
          replace hF := gw_nmE hF
          obtain ⟨v2_22, ev2_22, hF⟩ := hF
          refine lv_iinc (v := v2_22) (lv' := [(2, .int v2_22), (0, .ref (ad q0)), (1, .int v1), (3, .int v3)]) hx hb dX3_ofKind_22 hl (k := 2) rfl (by subst ev2_22; rfl) (by decide) rfl (fun ls hl => ?_)
          exact hJ25 Kx (fX3_ofKind_L4 Kx q0 v1 t0 n) q0 v1 v2_22 v3 hq0 hKx ih _ _ _ (lv_sub hl [1, 2, 0, 3] rfl) I hF
  refine lv_iconst (v := 0) hx hb dX3_ofKind_0 (by decide) ?_
  refine lv_istore_n (lv' := [(2, .int 0), (0, .ref (ad q0)), (1, .int v1)]) hx hb dX3_ofKind_1 rfl hl (by decide) rfl (fun ls hl => ?_)
  refine lv_iconst (v := 0) hx hb dX3_ofKind_2 (by decide) ?_
  refine lv_istore_n (lv' := [(3, .int 0), (2, .int 0), (0, .ref (ad q0)), (1, .int v1)]) hx hb dX3_ofKind_3 rfl hl (by decide) rfl (fun ls hl => ?_)
  refine hL4 _ q0 v1 hq0 (fun v2_x4 v3_x4 H locs ls hl I hF => ?_) 2000 0 0 _ _ _ (lv_sub hl [2, 3, 1, 0] rfl) I hF
  refine lv_iload_n hx hb dX3_ofKind_31 rfl (lv_at hl 0 rfl) ?_
  exact gw_iret E I hr hlocks rfl (Option.some.inj hF) rfl dX3_ofKind_32
abbrev rmX3_notFor : Room := { frames := 0, cells := 0, slots := 0, locals := 0 }
theorem lk_X3_notFor_15 : Cond.fieldLink RX3 15 "ThrownSacks$Row" "towns" "[I" ∈ wsX3_notFor := by decide +kernel
theorem lk_X3_notFor_22 : Cond.fieldLink RX3 22 "ThrownSacks$Row" "size" "I" ∈ wsX3_notFor := by decide +kernel
theorem in_X3_notFor_X3 : ∀ w ∈ u_ws RX3 TX3 4, w ∈ wsX3_notFor := by decide +kernel
set_option maxHeartbeats 4000000 in
set_option maxRecDepth 100000 in
theorem ok_X3_notFor (l : Launch) {D : va_G} {g : gw_G} {tG : Nat} {ad : Nat → Nat} {A : Nat → Prop} (hD : gw_D A 83 ad) (t0 : gw_S) (q0 : Nat) (v1 : Int32) (hq0 : gw_row q0 = true) (r0 : Int32) (hF : fX3_notFor q0 v1 t0 = some r0) : Met l yX3_notFor wsX3_notFor rmX3_notFor (gw_Pc D g tG (tC g ad) 83 ad A [.ref (ad q0), .int v1] t0) (gw_Qi D (tC g ad) 83 ad A r0 t0) 0 0 A := by
  unfold fX3_notFor at hF
  refine gw_met (by decide) rfl hD (Nat.le_of_ble_eq_true rfl) (fun p e s m args below meth c E hr hlocks I ls hl => ?_)
  have hx := E.1.1
  have hb := E.1.2.1
  have hl : lv_has ls 4 [(0, .ref (ad q0)), (1, .int v1)] := hl
  have hJ25 : ∀ (Kx : Int32 → Int32 → Option (Int32)) (Kh : Int32 → Int32 → Option (Int32)) (q0 : Nat) (v1 : Int32) (v2 : Int32) (v3 : Int32) (hq0 : gw_row q0 = true) (hKx : ∀ (v2 : Int32) (v3 : Int32) (H : Heap) (locs : List Loc) (ls : Array Slot), lv_has ls 4 [(2, .int v2)] → gw_I D (tC g ad) 83 ad A s.heap t0 H locs → Kx v2 v3 = some r0 → W p l e rmX3_notFor s m args below meth c H locs 0 0 (MQ below (gw_Qi D (tC g ad) 83 ad A r0 t0) args s 0 0 A) (F0 m 31 ls [])) (hKh : ∀ (v2 : Int32) (v3 : Int32) (H : Heap) (locs : List Loc) (ls : Array Slot), lv_has ls 4 [(0, .ref (ad q0)), (1, .int v1), (2, .int v2), (3, .int v3)] → gw_I D (tC g ad) 83 ad A s.heap t0 H locs → Kh v2 v3 = some r0 → W p l e rmX3_notFor s m args below meth c H locs 0 0 (MQ below (gw_Qi D (tC g ad) 83 ad A r0 t0) args s 0 0 A) (F0 m 4 ls [])) (H : Heap) (locs : List Loc) (ls : Array Slot), lv_has ls 4 [(0, .ref (ad q0)), (1, .int v1), (2, .int v2), (3, .int v3)] → gw_I D (tC g ad) 83 ad A s.heap t0 H locs → fX3_notFor_J25 Kx Kh q0 v1 v2 v3 t0 = some r0 → W p l e rmX3_notFor s m args below meth c H locs 0 0 (MQ below (gw_Qi D (tC g ad) 83 ad A r0 t0) args s 0 0 A) (F0 m 25 ls []) := by
    intro Kx Kh q0 v1 v2 v3 hq0 hKx hKh H locs ls hl I hF
    unfold fX3_notFor_J25 at hF
    replace hF := gw_nmE hF
    obtain ⟨v3_25, ev3_25, hF⟩ := hF
    refine lv_iinc (v := v3_25) (lv' := [(3, .int v3_25), (0, .ref (ad q0)), (1, .int v1), (2, .int v2)]) hx hb dX3_notFor_25 hl (k := 3) rfl (by subst ev3_25; rfl) (by decide) rfl (fun ls hl => ?_)
    refine lv_goto (tgt := 4) hx hb dX3_notFor_28 (by decide) ?_
    exact hKh v2 v3_25 _ _ _ (lv_sub hl [1, 2, 3, 0] rfl) I hF
  have hL4 : ∀ (Kx : Int32 → Int32 → Option (Int32)) (q0 : Nat) (v1 : Int32) (hq0 : gw_row q0 = true), (∀ (v2 : Int32) (v3 : Int32) (H : Heap) (locs : List Loc) (ls : Array Slot), lv_has ls 4 [(2, .int v2)] → gw_I D (tC g ad) 83 ad A s.heap t0 H locs → Kx v2 v3 = some r0 → W p l e rmX3_notFor s m args below meth c H locs 0 0 (MQ below (gw_Qi D (tC g ad) 83 ad A r0 t0) args s 0 0 A) (F0 m 31 ls [])) → ∀ (n : Nat) (v2 : Int32) (v3 : Int32) (H : Heap) (locs : List Loc) (ls : Array Slot), lv_has ls 4 [(0, .ref (ad q0)), (1, .int v1), (2, .int v2), (3, .int v3)] → gw_I D (tC g ad) 83 ad A s.heap t0 H locs → fX3_notFor_L4 Kx q0 v1 t0 n v2 v3 = some r0 → W p l e rmX3_notFor s m args below meth c H locs 0 0 (MQ below (gw_Qi D (tC g ad) 83 ad A r0 t0) args s 0 0 A) (F0 m 4 ls []) := by
    intro Kx q0 v1 hq0 hKx n
    induction n with
    | zero =>
      intro v2 v3 H locs ls hl I hF
      rw [fX3_notFor_L4] at hF
      cases hF
    | succ n ih =>
      intro v2 v3 H locs ls hl I hF
      rw [fX3_notFor_L4] at hF
      refine lv_iload_n hx hb dX3_notFor_4 rfl (lv_at hl 3 rfl) ?_
      refine lv_aload_n hx hb dX3_notFor_5 rfl (lv_at hl 0 rfl) ?_
      refine gf_row_3 hq0 E I in_X3_notFor_X3 lk_X3_notFor_22 dX3_notFor_6 ?_
      refine lv_icmp_ge (tgt := 31) hx hb dX3_notFor_9 (by decide) (fun c9 => ?_) (fun c9 => ?_)
      · replace hF := gw_if1 c9 hF
        exact hKx v2 v3 _ _ _ (lv_sub hl [2] rfl) I hF
      · replace hF := gw_if0 c9 hF
        refine lv_aload_n hx hb dX3_notFor_12 rfl (lv_at hl 0 rfl) ?_
        refine gf_row_1 hq0 E I in_X3_notFor_X3 lk_X3_notFor_15 dX3_notFor_13 ?_
        refine lv_iload_n hx hb dX3_notFor_16 rfl (lv_at hl 3 rfl) ?_
        replace hF := gw_ifn hF
        obtain ⟨hz17, hF⟩ := hF
        refine gw_iald E I (q0 + 2) (tC_lt2 hq0) (tC_ra2 hq0) hz17 dX3_notFor_17 ?_
        refine lv_iload_n hx hb dX3_notFor_18 rfl (lv_at hl 1 rfl) ?_
        refine lv_icmp_eq (tgt := 25) hx hb dX3_notFor_19 (by decide) (fun c19 => ?_) (fun c19 => ?_)
        · replace hF := gw_if1 c19 hF
          exact hJ25 Kx (fX3_notFor_L4 Kx q0 v1 t0 n) q0 v1 v2 v3 hq0 hKx ih _ _ _ (lv_sub hl [0, 1, 2, 3] rfl) I hF
        · replace hF := gw_if0 c19 hF
          replace hF := gw_nmE hF
          obtain ⟨v2_22, ev2_22, hF⟩ := hF
          refine lv_iinc (v := v2_22) (lv' := [(2, .int v2_22), (0, .ref (ad q0)), (1, .int v1), (3, .int v3)]) hx hb dX3_notFor_22 hl (k := 2) rfl (by subst ev2_22; rfl) (by decide) rfl (fun ls hl => ?_)
          exact hJ25 Kx (fX3_notFor_L4 Kx q0 v1 t0 n) q0 v1 v2_22 v3 hq0 hKx ih _ _ _ (lv_sub hl [1, 2, 0, 3] rfl) I hF
  refine lv_iconst (v := 0) hx hb dX3_notFor_0 (by decide) ?_
  refine lv_istore_n (lv' := [(2, .int 0), (0, .ref (ad q0)), (1, .int v1)]) hx hb dX3_notFor_1 rfl hl (by decide) rfl (fun ls hl => ?_)
  refine lv_iconst (v := 0) hx hb dX3_notFor_2 (by decide) ?_
  refine lv_istore_n (lv' := [(3, .int 0), (2, .int 0), (0, .ref (ad q0)), (1, .int v1)]) hx hb dX3_notFor_3 rfl hl (by decide) rfl (fun ls hl => ?_)
  refine hL4 _ q0 v1 hq0 (fun v2_x4 v3_x4 H locs ls hl I hF => ?_) 2000 0 0 _ _ _ (lv_sub hl [2, 3, 1, 0] rfl) I hF
  refine lv_iload_n hx hb dX3_notFor_31 rfl (lv_at hl 0 rfl) ?_
  exact gw_iret E I hr hlocks rfl (Option.some.inj hF) rfl dX3_notFor_32
abbrev rmX7_hook : Room := { frames := 2, cells := 0, slots := 0, locals := 42 }
theorem lk_X7_hook_19 : Cond.fieldLink RX7 19 "ThrownSacks" "plan" "LThrownSacks$Plan;" ∈ wsX7_hook := by decide +kernel
theorem lk_X7_hook_26 : Cond.fieldLink RX7 26 "ThrownSacks" "now" "LThrownSacks$Standing;" ∈ wsX7_hook := by decide +kernel
theorem lk_X7_hook_98 : Cond.fieldLink RX7 98 "ThrownSacks$Standing" "sacks" "[LThrownSacks$Row;" ∈ wsX7_hook := by decide +kernel
theorem lk_X7_hook_102 : Cond.fieldLink RX7 102 "ThrownSacks$Standing" "towns" "[I" ∈ wsX7_hook := by decide +kernel
theorem lk_X7_hook_106 : Cond.fieldLink RX7 106 "ThrownSacks$Plan" "yards" "[I" ∈ wsX7_hook := by decide +kernel
theorem lk_X7_hook_109 : Cond.fieldLink RX7 109 "ThrownSacks$Plan" "room" "[I" ∈ wsX7_hook := by decide +kernel
theorem lk_X7_hook_112 : Cond.fieldLink RX7 112 "ThrownSacks$Row" "size" "I" ∈ wsX7_hook := by decide +kernel
theorem in_X7_hook_X2 : ∀ w ∈ u_ws RX2 TX2 4, w ∈ wsX7_hook := by decide +kernel
theorem in_X7_hook_X3 : ∀ w ∈ u_ws RX3 TX3 4, w ∈ wsX7_hook := by decide +kernel
theorem in_X7_hook_X4 : ∀ w ∈ u_ws RX4 TX4 8, w ∈ wsX7_hook := by decide +kernel
theorem in_X7_hook_X7 : ∀ w ∈ u_ws RX7 TX7 9, w ∈ wsX7_hook := by decide +kernel
set_option maxHeartbeats 4000000 in
set_option maxRecDepth 100000 in
theorem ok_X7_hook (l : Launch) {D : va_G} {g : gw_G} {tG : Nat} {ad : Nat → Nat} {A : Nat → Prop} (hD : gw_D A 83 ad) (t0 : gw_S) (v1 : Int32) (v2 : Int32) (r0 : Int32) (hF : fX7_hook v1 v2 t0 = some r0) : Met l yX7_hook wsX7_hook rmX7_hook (gw_Pc D g tG (tC g ad) 83 ad A [.ref (ad 0), .int v1, .int v2] t0) (gw_Qi D (tC g ad) 83 ad A r0 t0) 0 0 A := by
  unfold fX7_hook at hF
  refine gw_met (by decide) rfl hD (Nat.le_of_ble_eq_true rfl) (fun p e s m args below meth c E hr hlocks I ls hl => ?_)
  have hx := E.1.1
  have hb := E.1.2.1
  have hl : lv_has ls 5 [(0, .ref (ad 0)), (1, .int v1), (2, .int v2)] := hl
  refine lv_aload_n hx hb dX7_hook_0 rfl (lv_at hl 0 rfl) ?_
  refine lv_iload_n hx hb dX7_hook_1 rfl (lv_at hl 1 rfl) ?_
  refine gw_calli I (gw_runV E I (ok_X7_isKnown l hD t0 v1 _ rfl) (cwV 1 E.1.2.2.2.2 gX7_hook_X7_isKnown rfl rfl rfl (by decide +kernel) ⟨Nat.le_of_ble_eq_true rfl, Nat.le_of_ble_eq_true rfl⟩) (by decide) rfl rfl rfl hl.1 rfl (Nat.le_of_ble_eq_true rfl) dX7_hook_2) (fun H locs I => ?_)
  refine lv_if_ne (tgt := 11) hx hb dX7_hook_5 (by decide) (fun c5 => ?_) (fun c5 => ?_)
  · replace hF := gw_if0 c5 hF
    refine lv_aload_n hx hb dX7_hook_11 rfl (lv_at hl 0 rfl) ?_
    refine gf_C_0_2 E I in_X7_hook_X7 lk_X7_hook_26 dX7_hook_12 ?_
    refine gf_C_7_1 E I in_X7_hook_X4 lk_X7_hook_98 dX7_hook_15 ?_
    refine lv_iload_n hx hb dX7_hook_18 rfl (lv_at hl 1 rfl) ?_
    replace hF := gw_ifn hF
    obtain ⟨hz19, hF⟩ := hF
    refine gw_aald E I 9 (by decide) rfl hz19 dX7_hook_19 ?_
    replace hF := gw_nmE hF
    obtain ⟨r19, er19, hF⟩ := hF
    replace hF := gw_ifn hF
    obtain ⟨hr19, hF⟩ := hF
    refine gw_topr er19 ?_
    refine lv_astore_n (lv' := [(3, .ref (ad r19)), (0, .ref (ad 0)), (1, .int v1), (2, .int v2)]) hx hb dX7_hook_20 rfl hl (by decide) rfl (fun ls hl => ?_)
    refine lv_aload_n hx hb dX7_hook_21 rfl (lv_at hl 1 rfl) ?_
    refine gf_C_0_2 E I in_X7_hook_X7 lk_X7_hook_26 dX7_hook_22 ?_
    refine gf_C_7_0 E I in_X7_hook_X4 lk_X7_hook_102 dX7_hook_25 ?_
    refine lv_iload_n hx hb dX7_hook_28 rfl (lv_at hl 2 rfl) ?_
    replace hF := gw_ifn hF
    obtain ⟨hz29, hF⟩ := hF
    refine gw_iald E I 8 (by decide) rfl hz29 dX7_hook_29 ?_
    replace hF := gw_nmE hF
    obtain ⟨v4_30, ev4_30, hF⟩ := hF
    refine gw_topi ev4_30 ?_
    refine lv_istore (lv' := [(4, .int v4_30), (3, .ref (ad r19)), (0, .ref (ad 0)), (1, .int v1), (2, .int v2)]) hx hb dX7_hook_30 hl (by decide) rfl (fun ls hl => ?_)
    refine lv_iload_n hx hb dX7_hook_32 rfl (lv_at hl 4 rfl) ?_
    by_cases c33_0 : v2 = 0
    · replace hF := gw_if1 c33_0 hF
      refine lv_tableIn (off := 43) (tgt := 76) hx hb dX7_hook_33 (by rw [gw_sw c33_0 (a := 0) (by decide)]; decide) (by rw [gw_sw c33_0 (a := 0) (by decide)]; decide) (by rw [gw_sw c33_0 (a := 0) (by decide)]; rfl) (by decide) ?_
      refine lv_aload_n hx hb dX7_hook_76 rfl (lv_at hl 2 rfl) ?_
      refine gf_C_0_1 E I in_X7_hook_X7 lk_X7_hook_19 dX7_hook_77 ?_
      refine gf_C_3_0 E I in_X7_hook_X2 lk_X7_hook_106 dX7_hook_80 ?_
      refine lv_iload_n hx hb dX7_hook_83 rfl (lv_at hl 3 rfl) ?_
      replace hF := gw_ifn hF
      obtain ⟨hz84, hF⟩ := hF
      refine gw_iald E I 4 (by decide) rfl hz84 dX7_hook_84 ?_
      exact gw_iret E I hr hlocks rfl (Option.some.inj hF) rfl dX7_hook_85
    · replace hF := gw_if0 c33_0 hF
      by_cases c33_1 : v2 = 1
      · replace hF := gw_if1 c33_1 hF
        refine lv_tableIn (off := 53) (tgt := 86) hx hb dX7_hook_33 (by rw [gw_sw c33_1 (a := 1) (by decide)]; decide) (by rw [gw_sw c33_1 (a := 1) (by decide)]; decide) (by rw [gw_sw c33_1 (a := 1) (by decide)]; rfl) (by decide) ?_
        refine lv_aload_n hx hb dX7_hook_86 rfl (lv_at hl 2 rfl) ?_
        refine gf_C_0_1 E I in_X7_hook_X7 lk_X7_hook_19 dX7_hook_87 ?_
        refine gf_C_3_1 E I in_X7_hook_X2 lk_X7_hook_109 dX7_hook_90 ?_
        refine lv_iload_n hx hb dX7_hook_93 rfl (lv_at hl 3 rfl) ?_
        replace hF := gw_ifn hF
        obtain ⟨hz94, hF⟩ := hF
        refine gw_iald E I 5 (by decide) rfl hz94 dX7_hook_94 ?_
        exact gw_iret E I hr hlocks rfl (Option.some.inj hF) rfl dX7_hook_95
      · replace hF := gw_if0 c33_1 hF
        by_cases c33_2 : v2 = 2
        · replace hF := gw_if1 c33_2 hF
          refine lv_tableIn (off := 63) (tgt := 96) hx hb dX7_hook_33 (by rw [gw_sw c33_2 (a := 2) (by decide)]; decide) (by rw [gw_sw c33_2 (a := 2) (by decide)]; decide) (by rw [gw_sw c33_2 (a := 2) (by decide)]; rfl) (by decide) ?_
          refine lv_iload hx hb dX7_hook_96 (lv_at hl 0 rfl) ?_
          exact gw_iret E I hr hlocks rfl (Option.some.inj hF) rfl dX7_hook_98
        · replace hF := gw_if0 c33_2 hF
          by_cases c33_3 : v2 = 3
          · replace hF := gw_if1 c33_3 hF
            refine lv_tableIn (off := 66) (tgt := 99) hx hb dX7_hook_33 (by rw [gw_sw c33_3 (a := 3) (by decide)]; decide) (by rw [gw_sw c33_3 (a := 3) (by decide)]; decide) (by rw [gw_sw c33_3 (a := 3) (by decide)]; rfl) (by decide) ?_
            refine lv_aload_n hx hb dX7_hook_99 rfl (lv_at hl 1 rfl) ?_
            refine gf_row_3 hr19 E I in_X7_hook_X3 lk_X7_hook_112 dX7_hook_100 ?_
            exact gw_iret E I hr hlocks rfl (Option.some.inj hF) rfl dX7_hook_103
          · replace hF := gw_if0 c33_3 hF
            by_cases c33_4 : v2 = 4
            · replace hF := gw_if1 c33_4 hF
              refine lv_tableIn (off := 71) (tgt := 104) hx hb dX7_hook_33 (by rw [gw_sw c33_4 (a := 4) (by decide)]; decide) (by rw [gw_sw c33_4 (a := 4) (by decide)]; decide) (by rw [gw_sw c33_4 (a := 4) (by decide)]; rfl) (by decide) ?_
              refine lv_aload_n hx hb dX7_hook_104 rfl (lv_at hl 1 rfl) ?_
              refine lv_iload hx hb dX7_hook_105 (lv_at hl 0 rfl) ?_
              replace hF := gw_bdE hF
              obtain ⟨r107, e107, hF⟩ := hF
              refine gw_calli I (gw_runV E I (ok_X3_notFor l hD t0 r19 v4_30 hr19 _ e107) (cwV 1 E.1.2.2.2.2 gX7_hook_X3_notFor rfl rfl rfl (by decide +kernel) ⟨Nat.le_of_ble_eq_true rfl, Nat.le_of_ble_eq_true rfl⟩) (tC_lt0 hr19) (tC_row hr19) rfl rfl hl.1 rfl (Nat.le_of_ble_eq_true rfl) dX7_hook_107) (fun H locs I => ?_)
              exact gw_iret E I hr hlocks rfl (Option.some.inj hF) rfl dX7_hook_110
            · replace hF := gw_if0 c33_4 hF
              by_cases c33_5 : v2 = 5
              · replace hF := gw_if1 c33_5 hF
                refine lv_tableIn (off := 78) (tgt := 111) hx hb dX7_hook_33 (by rw [gw_sw c33_5 (a := 5) (by decide)]; decide) (by rw [gw_sw c33_5 (a := 5) (by decide)]; decide) (by rw [gw_sw c33_5 (a := 5) (by decide)]; rfl) (by decide) ?_
                refine lv_aload_n hx hb dX7_hook_111 rfl (lv_at hl 1 rfl) ?_
                refine lv_iconst (v := 3) hx hb dX7_hook_112 (by decide) ?_
                replace hF := gw_bdE hF
                obtain ⟨r113, e113, hF⟩ := hF
                refine gw_calli I (gw_runV E I (ok_X3_ofKind l hD t0 r19 3 hr19 _ e113) (cwV 1 E.1.2.2.2.2 gX7_hook_X3_ofKind rfl rfl rfl (by decide +kernel) ⟨Nat.le_of_ble_eq_true rfl, Nat.le_of_ble_eq_true rfl⟩) (tC_lt0 hr19) (tC_row hr19) rfl rfl hl.1 rfl (Nat.le_of_ble_eq_true rfl) dX7_hook_113) (fun H locs I => ?_)
                exact gw_iret E I hr hlocks rfl (Option.some.inj hF) rfl dX7_hook_116
              · replace hF := gw_if0 c33_5 hF
                by_cases c33_6 : v2 = 6
                · replace hF := gw_if1 c33_6 hF
                  refine lv_tableIn (off := 84) (tgt := 117) hx hb dX7_hook_33 (by rw [gw_sw c33_6 (a := 6) (by decide)]; decide) (by rw [gw_sw c33_6 (a := 6) (by decide)]; decide) (by rw [gw_sw c33_6 (a := 6) (by decide)]; rfl) (by decide) ?_
                  refine lv_aload_n hx hb dX7_hook_117 rfl (lv_at hl 2 rfl) ?_
                  refine gf_C_0_1 E I in_X7_hook_X7 lk_X7_hook_19 dX7_hook_118 ?_
                  refine lv_iload hx hb dX7_hook_121 (lv_at hl 0 rfl) ?_
                  replace hF := gw_bdE hF
                  obtain ⟨r123, e123, hF⟩ := hF
                  refine gw_calli I (gw_runV E I (ok_X2_oftenOf l hD t0 v4_30 _ e123) (cwV 1 E.1.2.2.2.2 gX7_hook_X2_oftenOf rfl rfl rfl (by decide +kernel) ⟨Nat.le_of_ble_eq_true rfl, Nat.le_of_ble_eq_true rfl⟩) (by decide) rfl rfl rfl hl.1 rfl (Nat.le_of_ble_eq_true rfl) dX7_hook_123) (fun H locs I => ?_)
                  exact gw_iret E I hr hlocks rfl (Option.some.inj hF) rfl dX7_hook_126
                · replace hF := gw_if0 c33_6 hF
                  refine lv_tableOut (tgt := 127) hx hb dX7_hook_33 (by have q0 := lv_neT c33_0 (a := 0) (by decide); have q1 := lv_neT c33_1 (a := 1) (by decide); have q2 := lv_neT c33_2 (a := 2) (by decide); have q3 := lv_neT c33_3 (a := 3) (by decide); have q4 := lv_neT c33_4 (a := 4) (by decide); have q5 := lv_neT c33_5 (a := 5) (by decide); have q6 := lv_neT c33_6 (a := 6) (by decide); omega) (by decide) ?_
                  refine lv_bipush (v := (-102)) hx hb dX7_hook_127 (by decide) ?_
                  exact gw_iret E I hr hlocks rfl (Option.some.inj hF) rfl dX7_hook_129
  · replace hF := gw_if1 c5 hF
    refine lv_bipush (v := (-101)) hx hb dX7_hook_8 (by decide) ?_
    exact gw_iret E I hr hlocks rfl (Option.some.inj hF) rfl dX7_hook_10
abbrev rmX7_isKind : Room := { frames := 0, cells := 0, slots := 0, locals := 0 }
theorem lk_X7_isKind_271 : Cond.fieldLink RX7 271 "ThrownSacks" "GRIPS" "[I" ∈ wsX7_isKind := by decide +kernel
set_option maxHeartbeats 4000000 in
set_option maxRecDepth 100000 in
theorem ok_X7_isKind (l : Launch) {D : va_G} {g : gw_G} {tG : Nat} {ad : Nat → Nat} {A : Nat → Prop} (hD : gw_D A 83 ad) (t0 : gw_S) (v0 : Int32) (r0 : Int32) (hF : fX7_isKind v0 t0 = r0) : Met l yX7_isKind wsX7_isKind rmX7_isKind (gw_Pc D g tG (tC g ad) 83 ad A [.int v0] t0) (gw_Qi D (tC g ad) 83 ad A r0 t0) 0 0 A := by
  unfold fX7_isKind at hF
  refine gw_met (by decide) rfl hD (Nat.le_of_ble_eq_true rfl) (fun p e s m args below meth c E hr hlocks I ls hl => ?_)
  have hx := E.1.1
  have hb := E.1.2.1
  have hl : lv_has ls 1 [(0, .int v0)] := hl
  refine lv_iload_n hx hb dX7_isKind_0 rfl (lv_at hl 0 rfl) ?_
  refine lv_if_lt (tgt := 16) hx hb dX7_isKind_1 (by decide) (fun c1 => ?_) (fun c1 => ?_)
  · replace hF := gw_if1 c1 hF
    refine lv_iconst (v := 0) hx hb dX7_isKind_16 (by decide) ?_
    exact gw_iret E I hr hlocks rfl hF rfl dX7_isKind_17
  · replace hF := gw_if0 c1 hF
    refine lv_iload_n hx hb dX7_isKind_4 rfl (lv_at hl 0 rfl) ?_
    refine gw_grip E I.2 lk_X7_isKind_271 dX7_isKind_5 ?_
    refine gw_gripLen E I.2 dX7_isKind_8 ?_
    refine lv_icmp_ge (tgt := 16) hx hb dX7_isKind_9 (by decide) (fun c9 => ?_) (fun c9 => ?_)
    · replace hF := gw_if1 c9 hF
      refine lv_iconst (v := 0) hx hb dX7_isKind_16 (by decide) ?_
      exact gw_iret E I hr hlocks rfl hF rfl dX7_isKind_17
    · replace hF := gw_if0 c9 hF
      refine lv_iconst (v := 1) hx hb dX7_isKind_12 (by decide) ?_
      refine lv_goto (tgt := 17) hx hb dX7_isKind_13 (by decide) ?_
      exact gw_iret E I hr hlocks rfl hF rfl dX7_isKind_17
