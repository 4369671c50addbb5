/-! The contracts: each method does what its function says: written by wip/whole/genall.py. -/
abbrev rmX8_parcel : Room := { frames := 2, cells := 0, slots := 0, locals := 43 }
theorem lk_X8_parcel_34 : Cond.fieldLink RX8 34 "ThrownSacksModel" "beltKind" "[I" ∈ wsX8_parcel := by decide +kernel
theorem lk_X8_parcel_37 : Cond.fieldLink RX8 37 "ThrownSacksModel" "beltTown" "[I" ∈ wsX8_parcel := by decide +kernel
theorem lk_X8_parcel_118 : Cond.fieldLink RX8 118 "ThrownSacksModel" "onBelt" "I" ∈ wsX8_parcel := by decide +kernel
theorem in_X8_parcel_X8 : ∀ w ∈ u_ws RX8 TX8 42, w ∈ wsX8_parcel := by decide +kernel
set_option maxHeartbeats 4000000 in
set_option maxRecDepth 100000 in
theorem ok_X8_parcel (l : Launch) {D : va_G} {g : gw_G} {tG : Nat} {ad : Nat → Nat} {A : Nat → Prop} (hD : gw_D A 23 ad) (t0 : gw_S) (v1 : Int32) (v2 : Int32) (r0 : Int32) (tz : gw_S) (hF : fX8_parcel v1 v2 t0 = some (r0, tz)) : Met l yX8_parcel wsX8_parcel rmX8_parcel (gw_Pc D g tG (tM g ad) 23 ad A [.ref (ad 0), .int v1, .int v2] t0) (gw_Qi D (tM g ad) 23 ad A r0 tz) 0 0 A := by
  unfold fX8_parcel at hF
  refine gw_met (by decide) rfl hD (Nat.le_of_ble_eq_true rfl) (fun p e s m args below meth c E hr hlocks I ls hl => ?_)
  have hx := E.1.1
  have hb := E.1.2.1
  have hl : lv_has ls 3 [(0, .ref (ad 0)), (1, .int v1), (2, .int v2)] := hl
  refine lv_iload_n hx hb dX8_parcel_0 rfl (lv_at hl 1 rfl) ?_
  refine lv_iconst (v := 0) hx hb dX8_parcel_1 (by decide) ?_
  refine lv_iconst (v := 4) hx hb dX8_parcel_2 (by decide) ?_
  refine gw_calli I (gw_runS E I (ok_X8_within l hD t0 v1 0 4 _ rfl) (va_cwS 3 E.1.2.2.2.2 gX8_parcel_X8_within rfl rfl rfl (by decide +kernel) ⟨Nat.le_of_ble_eq_true rfl, Nat.le_of_ble_eq_true rfl⟩) rfl hl.1 rfl (Nat.le_of_ble_eq_true rfl) dX8_parcel_3) (fun H locs I => ?_)
  refine lv_if_ne (tgt := 12) hx hb dX8_parcel_6 (by decide) (fun c6 => ?_) (fun c6 => ?_)
  · replace hF := gw_if0 c6 hF
    refine lv_aload_n hx hb dX8_parcel_12 rfl (lv_at hl 0 rfl) ?_
    refine lv_iload_n hx hb dX8_parcel_13 rfl (lv_at hl 2 rfl) ?_
    replace hF := gw_bdE hF
    obtain ⟨r14, e14, hF⟩ := hF
    refine gw_calli I (gw_runV E I (ok_X8_isHook l hD t0 v2 _ e14) (cwV 1 E.1.2.2.2.2 gX8_parcel_X8_isHook rfl rfl rfl (by decide +kernel) ⟨Nat.le_of_ble_eq_true rfl, Nat.le_of_ble_eq_true rfl⟩) (by decide) rfl rfl rfl hl.1 rfl (Nat.le_of_ble_eq_true rfl) dX8_parcel_14) (fun H locs I => ?_)
    refine lv_if_ne (tgt := 23) hx hb dX8_parcel_17 (by decide) (fun c17 => ?_) (fun c17 => ?_)
    · replace hF := gw_if0 c17 hF
      refine lv_aload_n hx hb dX8_parcel_23 rfl (lv_at hl 0 rfl) ?_
      refine gf_M_0_10 E I in_X8_parcel_X8 lk_X8_parcel_118 dX8_parcel_24 ?_
      refine lv_bipush (v := 8) hx hb dX8_parcel_27 (by decide) ?_
      refine lv_icmp_ne (tgt := 35) hx hb dX8_parcel_29 (by decide) (fun c29 => ?_) (fun c29 => ?_)
      · replace hF := gw_if0 c29 hF
        refine lv_aload_n hx hb dX8_parcel_35 rfl (lv_at hl 0 rfl) ?_
        refine gf_M_0_11 E I in_X8_parcel_X8 lk_X8_parcel_34 dX8_parcel_36 ?_
        refine lv_aload_n hx hb dX8_parcel_39 rfl (lv_at hl 0 rfl) ?_
        refine gf_M_0_10 E I in_X8_parcel_X8 lk_X8_parcel_118 dX8_parcel_40 ?_
        refine lv_iload_n hx hb dX8_parcel_43 rfl (lv_at hl 1 rfl) ?_
        replace hF := gw_ifn hF
        obtain ⟨hz44, hF⟩ := hF
        replace hF := gw_nmE hF
        obtain ⟨t_44, et_44, hF⟩ := hF
        refine gw_iast E I 9 (by decide) (fun _ => rfl) hz44 et_44 dX8_parcel_44 (fun H locs I => ?_)
        refine lv_aload_n hx hb dX8_parcel_45 rfl (lv_at hl 0 rfl) ?_
        refine gf_M_0_12 E I in_X8_parcel_X8 lk_X8_parcel_37 dX8_parcel_46 ?_
        refine lv_aload_n hx hb dX8_parcel_49 rfl (lv_at hl 0 rfl) ?_
        refine gf_M_0_10 E I in_X8_parcel_X8 lk_X8_parcel_118 dX8_parcel_50 ?_
        refine lv_iload_n hx hb dX8_parcel_53 rfl (lv_at hl 2 rfl) ?_
        replace hF := gw_ifn hF
        obtain ⟨hz54, hF⟩ := hF
        replace hF := gw_nmE hF
        obtain ⟨t_54, et_54, hF⟩ := hF
        refine gw_iast E I 10 (by decide) (fun _ => rfl) hz54 et_54 dX8_parcel_54 (fun H locs I => ?_)
        refine lv_aload_n hx hb dX8_parcel_55 rfl (lv_at hl 0 rfl) ?_
        refine lv_dup hx hb dX8_parcel_56 rfl ?_
        refine gf_M_0_10 E I in_X8_parcel_X8 lk_X8_parcel_118 dX8_parcel_57 ?_
        refine lv_iconst (v := 1) hx hb dX8_parcel_60 (by decide) ?_
        refine lv_iadd hx hb dX8_parcel_61 ?_
        replace hF := gw_nmE hF
        obtain ⟨t_62, et_62, hF⟩ := hF
        refine gp_M_0_10 E I in_X8_parcel_X8 lk_X8_parcel_118 et_62 dX8_parcel_62 (fun H locs I => ?_)
        refine lv_aload_n hx hb dX8_parcel_65 rfl (lv_at hl 0 rfl) ?_
        refine gf_M_0_10 E I in_X8_parcel_X8 lk_X8_parcel_118 dX8_parcel_66 ?_
        exact gw_iret E I hr hlocks rfl (Prod.mk.inj (Option.some.inj hF)).1 (Prod.mk.inj (Option.some.inj hF)).2 dX8_parcel_69
      · replace hF := gw_if1 c29 hF
        refine lv_bipush (v := (-104)) hx hb dX8_parcel_32 (by decide) ?_
        exact gw_iret E I hr hlocks rfl (Prod.mk.inj (Option.some.inj hF)).1 (Prod.mk.inj (Option.some.inj hF)).2 dX8_parcel_34
    · replace hF := gw_if1 c17 hF
      refine lv_bipush (v := (-101)) hx hb dX8_parcel_20 (by decide) ?_
      exact gw_iret E I hr hlocks rfl (Prod.mk.inj (Option.some.inj hF)).1 (Prod.mk.inj (Option.some.inj hF)).2 dX8_parcel_22
  · replace hF := gw_if1 c6 hF
    refine lv_bipush (v := (-102)) hx hb dX8_parcel_9 (by decide) ?_
    exact gw_iret E I hr hlocks rfl (Prod.mk.inj (Option.some.inj hF)).1 (Prod.mk.inj (Option.some.inj hF)).2 dX8_parcel_11
abbrev rmX8_isPlace : Room := { frames := 1, cells := 0, slots := 0, locals := 22 }
theorem lk_X8_isPlace_118 : Cond.fieldLink RX8 118 "ThrownSacksModel" "onBelt" "I" ∈ wsX8_isPlace := by decide +kernel
theorem in_X8_isPlace_X8 : ∀ w ∈ u_ws RX8 TX8 42, w ∈ wsX8_isPlace := by decide +kernel
set_option maxHeartbeats 4000000 in
set_option maxRecDepth 100000 in
theorem ok_X8_isPlace (l : Launch) {D : va_G} {g : gw_G} {tG : Nat} {ad : Nat → Nat} {A : Nat → Prop} (hD : gw_D A 23 ad) (t0 : gw_S) (v1 : Int32) (r0 : Int32) (hF : fX8_isPlace v1 t0 = some r0) : Met l yX8_isPlace wsX8_isPlace rmX8_isPlace (gw_Pc D g tG (tM g ad) 23 ad A [.ref (ad 0), .int v1] t0) (gw_Qi D (tM g ad) 23 ad A r0 t0) 0 0 A := by
  unfold fX8_isPlace at hF
  refine gw_met (by decide) rfl hD (Nat.le_of_ble_eq_true rfl) (fun p e s m args below meth c E hr hlocks I ls hl => ?_)
  have hx := E.1.1
  have hb := E.1.2.1
  have hl : lv_has ls 2 [(0, .ref (ad 0)), (1, .int v1)] := hl
  refine lv_iload_n hx hb dX8_isPlace_0 rfl (lv_at hl 1 rfl) ?_
  refine lv_iconst (v := 0) hx hb dX8_isPlace_1 (by decide) ?_
  refine lv_aload_n hx hb dX8_isPlace_2 rfl (lv_at hl 0 rfl) ?_
  refine gf_M_0_10 E I in_X8_isPlace_X8 lk_X8_isPlace_118 dX8_isPlace_3 ?_
  refine lv_iconst (v := 1) hx hb dX8_isPlace_6 (by decide) ?_
  refine lv_isub hx hb dX8_isPlace_7 ?_
  refine gw_calli I (gw_runS E I (ok_X8_within l hD t0 v1 0 ((rdI t0 0 10) - 1) _ rfl) (va_cwS 3 E.1.2.2.2.2 gX8_isPlace_X8_within rfl rfl rfl (by decide +kernel) ⟨Nat.le_of_ble_eq_true rfl, Nat.le_of_ble_eq_true rfl⟩) rfl hl.1 rfl (Nat.le_of_ble_eq_true rfl) dX8_isPlace_8) (fun H locs I => ?_)
  replace hF := gw_ifn hF
  obtain ⟨hz11, hF⟩ := hF
  exact gw_iret E I hr hlocks (gw_nar hz11) (Option.some.inj hF) rfl dX8_isPlace_11
abbrev rmX8_gripOf : Room := { frames := 0, cells := 0, slots := 0, locals := 0 }
set_option maxHeartbeats 4000000 in
set_option maxRecDepth 100000 in
theorem ok_X8_gripOf (l : Launch) {D : va_G} {g : gw_G} {tG : Nat} {ad : Nat → Nat} {A : Nat → Prop} (hD : gw_D A 23 ad) (t0 : gw_S) (v0 : Int32) (r0 : Int32) (hF : fX8_gripOf v0 t0 = r0) : Met l yX8_gripOf wsX8_gripOf rmX8_gripOf (gw_Pc D g tG (tM g ad) 23 ad A [.int v0] t0) (gw_Qi D (tM g ad) 23 ad A r0 t0) 0 0 A := by
  unfold fX8_gripOf at hF
  refine gw_met (by decide) rfl hD (Nat.le_of_ble_eq_true rfl) (fun p e s m args below meth c E hr hlocks I ls hl => ?_)
  have hx := E.1.1
  have hb := E.1.2.1
  have hl : lv_has ls 1 [(0, .int v0)] := hl
  refine lv_iload_n hx hb dX8_gripOf_0 rfl (lv_at hl 0 rfl) ?_
  by_cases c1_1 : v0 = 1
  · replace hF := gw_if1 c1_1 hF
    refine lv_tableIn (off := 31) (tgt := 32) hx hb dX8_gripOf_1 (by rw [gw_sw c1_1 (a := 1) (by decide)]; decide) (by rw [gw_sw c1_1 (a := 1) (by decide)]; decide) (by rw [gw_sw c1_1 (a := 1) (by decide)]; rfl) (by decide) ?_
    refine lv_iconst (v := 1) hx hb dX8_gripOf_32 (by decide) ?_
    exact gw_iret E I hr hlocks rfl hF rfl dX8_gripOf_33
  · replace hF := gw_if0 c1_1 hF
    by_cases c1_2 : v0 = 2
    · replace hF := gw_if1 c1_2 hF
      refine lv_tableIn (off := 33) (tgt := 34) hx hb dX8_gripOf_1 (by rw [gw_sw c1_2 (a := 2) (by decide)]; decide) (by rw [gw_sw c1_2 (a := 2) (by decide)]; decide) (by rw [gw_sw c1_2 (a := 2) (by decide)]; rfl) (by decide) ?_
      refine lv_bipush (v := (-2)) hx hb dX8_gripOf_34 (by decide) ?_
      exact gw_iret E I hr hlocks rfl hF rfl dX8_gripOf_36
    · replace hF := gw_if0 c1_2 hF
      by_cases c1_3 : v0 = 3
      · replace hF := gw_if1 c1_3 hF
        refine lv_tableIn (off := 36) (tgt := 37) hx hb dX8_gripOf_1 (by rw [gw_sw c1_3 (a := 3) (by decide)]; decide) (by rw [gw_sw c1_3 (a := 3) (by decide)]; decide) (by rw [gw_sw c1_3 (a := 3) (by decide)]; rfl) (by decide) ?_
        refine lv_iconst (v := (-1)) hx hb dX8_gripOf_37 (by decide) ?_
        exact gw_iret E I hr hlocks rfl hF rfl dX8_gripOf_38
      · replace hF := gw_if0 c1_3 hF
        by_cases c1_4 : v0 = 4
        · replace hF := gw_if1 c1_4 hF
          refine lv_tableIn (off := 33) (tgt := 34) hx hb dX8_gripOf_1 (by rw [gw_sw c1_4 (a := 4) (by decide)]; decide) (by rw [gw_sw c1_4 (a := 4) (by decide)]; decide) (by rw [gw_sw c1_4 (a := 4) (by decide)]; rfl) (by decide) ?_
          refine lv_bipush (v := (-2)) hx hb dX8_gripOf_34 (by decide) ?_
          exact gw_iret E I hr hlocks rfl hF rfl dX8_gripOf_36
        · replace hF := gw_if0 c1_4 hF
          refine lv_tableOut (tgt := 39) hx hb dX8_gripOf_1 (by have q1 := lv_neT c1_1 (a := 1) (by decide); have q2 := lv_neT c1_2 (a := 2) (by decide); have q3 := lv_neT c1_3 (a := 3) (by decide); have q4 := lv_neT c1_4 (a := 4) (by decide); omega) (by decide) ?_
          refine lv_iconst (v := 0) hx hb dX8_gripOf_39 (by decide) ?_
          exact gw_iret E I hr hlocks rfl hF rfl dX8_gripOf_40
abbrev rmX8_beltNow : Room := { frames := 1, cells := 0, slots := 0, locals := 20 }
theorem lk_X8_beltNow_34 : Cond.fieldLink RX8 34 "ThrownSacksModel" "beltKind" "[I" ∈ wsX8_beltNow := by decide +kernel
theorem lk_X8_beltNow_37 : Cond.fieldLink RX8 37 "ThrownSacksModel" "beltTown" "[I" ∈ wsX8_beltNow := by decide +kernel
theorem in_X8_beltNow_X8 : ∀ w ∈ u_ws RX8 TX8 42, w ∈ wsX8_beltNow := by decide +kernel
set_option maxHeartbeats 4000000 in
set_option maxRecDepth 100000 in
theorem ok_X8_beltNow (l : Launch) {D : va_G} {g : gw_G} {tG : Nat} {ad : Nat → Nat} {A : Nat → Prop} (hD : gw_D A 23 ad) (t0 : gw_S) (v1 : Int32) (v2 : Int32) (r0 : Int32) (hF : fX8_beltNow v1 v2 t0 = some r0) : Met l yX8_beltNow wsX8_beltNow rmX8_beltNow (gw_Pc D g tG (tM g ad) 23 ad A [.ref (ad 0), .int v1, .int v2] t0) (gw_Qi D (tM g ad) 23 ad A r0 t0) 0 0 A := by
  unfold fX8_beltNow at hF
  refine gw_met (by decide) rfl hD (Nat.le_of_ble_eq_true rfl) (fun p e s m args below meth c E hr hlocks I ls hl => ?_)
  have hx := E.1.1
  have hb := E.1.2.1
  have hl : lv_has ls 3 [(0, .ref (ad 0)), (1, .int v1), (2, .int v2)] := hl
  refine lv_iload_n hx hb dX8_beltNow_0 rfl (lv_at hl 2 rfl) ?_
  refine lv_if_ne (tgt := 13) hx hb dX8_beltNow_1 (by decide) (fun c1 => ?_) (fun c1 => ?_)
  · replace hF := gw_if0 c1 hF
    refine lv_iload_n hx hb dX8_beltNow_13 rfl (lv_at hl 2 rfl) ?_
    refine lv_iconst (v := 1) hx hb dX8_beltNow_14 (by decide) ?_
    refine lv_icmp_ne (tgt := 27) hx hb dX8_beltNow_15 (by decide) (fun c15 => ?_) (fun c15 => ?_)
    · replace hF := gw_if0 c15 hF
      refine lv_aload_n hx hb dX8_beltNow_27 rfl (lv_at hl 0 rfl) ?_
      refine gf_M_0_11 E I in_X8_beltNow_X8 lk_X8_beltNow_34 dX8_beltNow_28 ?_
      refine lv_iload_n hx hb dX8_beltNow_31 rfl (lv_at hl 1 rfl) ?_
      replace hF := gw_ifn hF
      obtain ⟨hz32, hF⟩ := hF
      refine gw_iald E I 9 (by decide) rfl hz32 dX8_beltNow_32 ?_
      refine gw_calli I (gw_runS E I (ok_X8_gripOf l hD t0 (rdI t0 9 (Int32.toNatClampNeg v1)) _ rfl) (va_cwS 1 E.1.2.2.2.2 gX8_beltNow_X8_gripOf rfl rfl rfl (by decide +kernel) ⟨Nat.le_of_ble_eq_true rfl, Nat.le_of_ble_eq_true rfl⟩) rfl hl.1 rfl (Nat.le_of_ble_eq_true rfl) dX8_beltNow_33) (fun H locs I => ?_)
      exact gw_iret E I hr hlocks rfl (Option.some.inj hF) rfl dX8_beltNow_36
    · replace hF := gw_if1 c15 hF
      refine lv_aload_n hx hb dX8_beltNow_18 rfl (lv_at hl 0 rfl) ?_
      refine gf_M_0_12 E I in_X8_beltNow_X8 lk_X8_beltNow_37 dX8_beltNow_19 ?_
      refine lv_iload_n hx hb dX8_beltNow_22 rfl (lv_at hl 1 rfl) ?_
      replace hF := gw_ifn hF
      obtain ⟨hz23, hF⟩ := hF
      refine gw_iald E I 10 (by decide) rfl hz23 dX8_beltNow_23 ?_
      refine lv_goto (tgt := 36) hx hb dX8_beltNow_24 (by decide) ?_
      exact gw_iret E I hr hlocks rfl (Option.some.inj hF) rfl dX8_beltNow_36
  · replace hF := gw_if1 c1 hF
    refine lv_aload_n hx hb dX8_beltNow_4 rfl (lv_at hl 0 rfl) ?_
    refine gf_M_0_11 E I in_X8_beltNow_X8 lk_X8_beltNow_34 dX8_beltNow_5 ?_
    refine lv_iload_n hx hb dX8_beltNow_8 rfl (lv_at hl 1 rfl) ?_
    replace hF := gw_ifn hF
    obtain ⟨hz9, hF⟩ := hF
    refine gw_iald E I 9 (by decide) rfl hz9 dX8_beltNow_9 ?_
    refine lv_goto (tgt := 36) hx hb dX8_beltNow_10 (by decide) ?_
    exact gw_iret E I hr hlocks rfl (Option.some.inj hF) rfl dX8_beltNow_36
abbrev rmX8_belt : Room := { frames := 2, cells := 0, slots := 0, locals := 43 }
set_option maxHeartbeats 4000000 in
set_option maxRecDepth 100000 in
theorem ok_X8_belt (l : Launch) {D : va_G} {g : gw_G} {tG : Nat} {ad : Nat → Nat} {A : Nat → Prop} (hD : gw_D A 23 ad) (t0 : gw_S) (v1 : Int32) (v2 : Int32) (r0 : Int32) (hF : fX8_belt v1 v2 t0 = some r0) : Met l yX8_belt wsX8_belt rmX8_belt (gw_Pc D g tG (tM g ad) 23 ad A [.ref (ad 0), .int v1, .int v2] t0) (gw_Qi D (tM g ad) 23 ad A r0 t0) 0 0 A := by
  unfold fX8_belt at hF
  refine gw_met (by decide) rfl hD (Nat.le_of_ble_eq_true rfl) (fun p e s m args below meth c E hr hlocks I ls hl => ?_)
  have hx := E.1.1
  have hb := E.1.2.1
  have hl : lv_has ls 3 [(0, .ref (ad 0)), (1, .int v1), (2, .int v2)] := hl
  refine lv_aload_n hx hb dX8_belt_0 rfl (lv_at hl 0 rfl) ?_
  refine lv_iload_n hx hb dX8_belt_1 rfl (lv_at hl 1 rfl) ?_
  replace hF := gw_bdE hF
  obtain ⟨r2, e2, hF⟩ := hF
  refine gw_calli I (gw_runV E I (ok_X8_isPlace l hD t0 v1 _ e2) (cwV 1 E.1.2.2.2.2 gX8_belt_X8_isPlace rfl rfl rfl (by decide +kernel) ⟨Nat.le_of_ble_eq_true rfl, Nat.le_of_ble_eq_true rfl⟩) (by decide) rfl rfl rfl hl.1 rfl (Nat.le_of_ble_eq_true rfl) dX8_belt_2) (fun H locs I => ?_)
  refine lv_if_ne (tgt := 13) hx hb dX8_belt_5 (by decide) (fun c5 => ?_) (fun c5 => ?_)
  · replace hF := gw_if0 c5 hF
    refine lv_iload_n hx hb dX8_belt_13 rfl (lv_at hl 2 rfl) ?_
    refine lv_iconst (v := 0) hx hb dX8_belt_14 (by decide) ?_
    refine lv_iconst (v := 2) hx hb dX8_belt_15 (by decide) ?_
    refine gw_calli I (gw_runS E I (ok_X8_within l hD t0 v2 0 2 _ rfl) (va_cwS 3 E.1.2.2.2.2 gX8_belt_X8_within rfl rfl rfl (by decide +kernel) ⟨Nat.le_of_ble_eq_true rfl, Nat.le_of_ble_eq_true rfl⟩) rfl hl.1 rfl (Nat.le_of_ble_eq_true rfl) dX8_belt_16) (fun H locs I => ?_)
    refine lv_if_eq (tgt := 31) hx hb dX8_belt_19 (by decide) (fun c19 => ?_) (fun c19 => ?_)
    · replace hF := gw_if1 c19 hF
      refine lv_bipush (v := (-102)) hx hb dX8_belt_31 (by decide) ?_
      exact gw_iret E I hr hlocks rfl (Option.some.inj hF) rfl dX8_belt_33
    · replace hF := gw_if0 c19 hF
      refine lv_aload_n hx hb dX8_belt_22 rfl (lv_at hl 0 rfl) ?_
      refine lv_iload_n hx hb dX8_belt_23 rfl (lv_at hl 1 rfl) ?_
      refine lv_iload_n hx hb dX8_belt_24 rfl (lv_at hl 2 rfl) ?_
      replace hF := gw_bdE hF
      obtain ⟨r25, e25, hF⟩ := hF
      refine gw_calli I (gw_runV E I (ok_X8_beltNow l hD t0 v1 v2 _ e25) (cwV 2 E.1.2.2.2.2 gX8_belt_X8_beltNow rfl rfl rfl (by decide +kernel) ⟨Nat.le_of_ble_eq_true rfl, Nat.le_of_ble_eq_true rfl⟩) (by decide) rfl rfl rfl hl.1 rfl (Nat.le_of_ble_eq_true rfl) dX8_belt_25) (fun H locs I => ?_)
      refine lv_goto (tgt := 33) hx hb dX8_belt_28 (by decide) ?_
      exact gw_iret E I hr hlocks rfl (Option.some.inj hF) rfl dX8_belt_33
  · replace hF := gw_if1 c5 hF
    refine lv_bipush (v := (-101)) hx hb dX8_belt_8 (by decide) ?_
    refine lv_goto (tgt := 33) hx hb dX8_belt_10 (by decide) ?_
    exact gw_iret E I hr hlocks rfl (Option.some.inj hF) rfl dX8_belt_33
abbrev rmX8_as : Room := { frames := 2, cells := 0, slots := 0, locals := 43 }
theorem lk_X8_as_34 : Cond.fieldLink RX8 34 "ThrownSacksModel" "beltKind" "[I" ∈ wsX8_as := by decide +kernel
theorem lk_X8_as_37 : Cond.fieldLink RX8 37 "ThrownSacksModel" "beltTown" "[I" ∈ wsX8_as := by decide +kernel
theorem in_X8_as_X8 : ∀ w ∈ u_ws RX8 TX8 42, w ∈ wsX8_as := by decide +kernel
set_option maxHeartbeats 4000000 in
set_option maxRecDepth 100000 in
theorem ok_X8_as (l : Launch) {D : va_G} {g : gw_G} {tG : Nat} {ad : Nat → Nat} {A : Nat → Prop} (hD : gw_D A 23 ad) (t0 : gw_S) (v1 : Int32) (v2 : Int32) (r0 : Int32) (hF : fX8_as v1 v2 t0 = some r0) : Met l yX8_as wsX8_as rmX8_as (gw_Pc D g tG (tM g ad) 23 ad A [.ref (ad 0), .int v1, .int v2] t0) (gw_Qi D (tM g ad) 23 ad A r0 t0) 0 0 A := by
  unfold fX8_as at hF
  refine gw_met (by decide) rfl hD (Nat.le_of_ble_eq_true rfl) (fun p e s m args below meth c E hr hlocks I ls hl => ?_)
  have hx := E.1.1
  have hb := E.1.2.1
  have hl : lv_has ls 4 [(0, .ref (ad 0)), (1, .int v1), (2, .int v2)] := hl
  have hJ49 : ∀ (v1 : Int32) (H : Heap) (locs : List Loc) (ls : Array Slot), lv_has ls 4 [(0, .ref (ad 0)), (1, .int v1)] → gw_I D (tM g ad) 23 ad A s.heap t0 H locs → fX8_as_J49 v1 t0 = some r0 → W p l e rmX8_as s m args below meth c H locs 0 0 (MQ below (gw_Qi D (tM g ad) 23 ad A r0 t0) args s 0 0 A) (F0 m 49 ls []) := by
    intro v1 H locs ls hl I hF
    unfold fX8_as_J49 at hF
    refine lv_aload_n hx hb dX8_as_49 rfl (lv_at hl 0 rfl) ?_
    refine gf_M_0_12 E I in_X8_as_X8 lk_X8_as_37 dX8_as_50 ?_
    refine lv_iload_n hx hb dX8_as_53 rfl (lv_at hl 1 rfl) ?_
    replace hF := gw_ifn hF
    obtain ⟨hz54, hF⟩ := hF
    refine gw_iald E I 10 (by decide) rfl hz54 dX8_as_54 ?_
    refine lv_goto (tgt := 59) hx hb dX8_as_55 (by decide) ?_
    exact gw_iret E I hr hlocks rfl (Option.some.inj hF) rfl dX8_as_59
  refine lv_aload_n hx hb dX8_as_0 rfl (lv_at hl 0 rfl) ?_
  refine lv_iload_n hx hb dX8_as_1 rfl (lv_at hl 1 rfl) ?_
  replace hF := gw_bdE hF
  obtain ⟨r2, e2, hF⟩ := hF
  refine gw_calli I (gw_runV E I (ok_X8_isPlace l hD t0 v1 _ e2) (cwV 1 E.1.2.2.2.2 gX8_as_X8_isPlace rfl rfl rfl (by decide +kernel) ⟨Nat.le_of_ble_eq_true rfl, Nat.le_of_ble_eq_true rfl⟩) (by decide) rfl rfl rfl hl.1 rfl (Nat.le_of_ble_eq_true rfl) dX8_as_2) (fun H locs I => ?_)
  refine lv_if_ne (tgt := 11) hx hb dX8_as_5 (by decide) (fun c5 => ?_) (fun c5 => ?_)
  · replace hF := gw_if0 c5 hF
    refine lv_iload_n hx hb dX8_as_11 rfl (lv_at hl 2 rfl) ?_
    refine lv_iconst (v := 0) hx hb dX8_as_12 (by decide) ?_
    refine lv_iconst (v := 4) hx hb dX8_as_13 (by decide) ?_
    refine gw_calli I (gw_runS E I (ok_X8_within l hD t0 v2 0 4 _ rfl) (va_cwS 3 E.1.2.2.2.2 gX8_as_X8_within rfl rfl rfl (by decide +kernel) ⟨Nat.le_of_ble_eq_true rfl, Nat.le_of_ble_eq_true rfl⟩) rfl hl.1 rfl (Nat.le_of_ble_eq_true rfl) dX8_as_14) (fun H locs I => ?_)
    refine lv_if_ne (tgt := 23) hx hb dX8_as_17 (by decide) (fun c17 => ?_) (fun c17 => ?_)
    · replace hF := gw_if0 c17 hF
      refine lv_aload_n hx hb dX8_as_23 rfl (lv_at hl 0 rfl) ?_
      refine gf_M_0_11 E I in_X8_as_X8 lk_X8_as_34 dX8_as_24 ?_
      refine lv_iload_n hx hb dX8_as_27 rfl (lv_at hl 1 rfl) ?_
      replace hF := gw_ifn hF
      obtain ⟨hz28, hF⟩ := hF
      refine gw_iald E I 9 (by decide) rfl hz28 dX8_as_28 ?_
      replace hF := gw_nmE hF
      obtain ⟨v3_29, ev3_29, hF⟩ := hF
      refine gw_topi ev3_29 ?_
      refine lv_istore_n (lv' := [(3, .int v3_29), (0, .ref (ad 0)), (1, .int v1), (2, .int v2)]) hx hb dX8_as_29 rfl hl (by decide) rfl (fun ls hl => ?_)
      refine lv_iload_n hx hb dX8_as_30 rfl (lv_at hl 3 rfl) ?_
      refine lv_if_eq (tgt := 49) hx hb dX8_as_31 (by decide) (fun c31 => ?_) (fun c31 => ?_)
      · replace hF := gw_if1 c31 hF
        exact hJ49 v1 _ _ _ (lv_sub hl [1, 2] rfl) I hF
      · replace hF := gw_if0 c31 hF
        refine lv_iload_n hx hb dX8_as_34 rfl (lv_at hl 0 rfl) ?_
        refine lv_iload_n hx hb dX8_as_35 rfl (lv_at hl 3 rfl) ?_
        refine lv_icmp_eq (tgt := 49) hx hb dX8_as_36 (by decide) (fun c36 => ?_) (fun c36 => ?_)
        · replace hF := gw_if1 c36 hF
          exact hJ49 v1 _ _ _ (lv_sub hl [1, 2] rfl) I hF
        · replace hF := gw_if0 c36 hF
          refine lv_iload_n hx hb dX8_as_39 rfl (lv_at hl 3 rfl) ?_
          refine lv_iconst (v := 2) hx hb dX8_as_40 (by decide) ?_
          refine lv_icmp_ne (tgt := 58) hx hb dX8_as_41 (by decide) (fun c41 => ?_) (fun c41 => ?_)
          · replace hF := gw_if0 c41 hF
            refine lv_iconst (v := (-1)) hx hb dX8_as_58 (by decide) ?_
            exact gw_iret E I hr hlocks rfl (Option.some.inj hF) rfl dX8_as_59
          · replace hF := gw_if1 c41 hF
            refine lv_iload_n hx hb dX8_as_44 rfl (lv_at hl 0 rfl) ?_
            refine lv_iconst (v := 4) hx hb dX8_as_45 (by decide) ?_
            refine lv_icmp_ne (tgt := 58) hx hb dX8_as_46 (by decide) (fun c46 => ?_) (fun c46 => ?_)
            · replace hF := gw_if0 c46 hF
              refine lv_iconst (v := (-1)) hx hb dX8_as_58 (by decide) ?_
              exact gw_iret E I hr hlocks rfl (Option.some.inj hF) rfl dX8_as_59
            · replace hF := gw_if1 c46 hF
              exact hJ49 v1 _ _ _ (lv_sub hl [1, 2] rfl) I hF
    · replace hF := gw_if1 c17 hF
      refine lv_bipush (v := (-102)) hx hb dX8_as_20 (by decide) ?_
      exact gw_iret E I hr hlocks rfl (Option.some.inj hF) rfl dX8_as_22
  · replace hF := gw_if1 c5 hF
    refine lv_bipush (v := (-101)) hx hb dX8_as_8 (by decide) ?_
    exact gw_iret E I hr hlocks rfl (Option.some.inj hF) rfl dX8_as_10
abbrev rmX8_isFull : Room := { frames := 0, cells := 0, slots := 0, locals := 0 }
theorem lk_X8_isFull_13 : Cond.fieldLink RX8 13 "ThrownSacksModel" "roomOf" "[I" ∈ wsX8_isFull := by decide +kernel
theorem lk_X8_isFull_19 : Cond.fieldLink RX8 19 "ThrownSacksModel" "hangsOn" "[I" ∈ wsX8_isFull := by decide +kernel
theorem lk_X8_isFull_22 : Cond.fieldLink RX8 22 "ThrownSacksModel" "manyIn" "[I" ∈ wsX8_isFull := by decide +kernel
theorem in_X8_isFull_X8 : ∀ w ∈ u_ws RX8 TX8 42, w ∈ wsX8_isFull := by decide +kernel
set_option maxHeartbeats 4000000 in
set_option maxRecDepth 100000 in
theorem ok_X8_isFull (l : Launch) {D : va_G} {g : gw_G} {tG : Nat} {ad : Nat → Nat} {A : Nat → Prop} (hD : gw_D A 23 ad) (t0 : gw_S) (v1 : Int32) (r0 : Int32) (hF : fX8_isFull v1 t0 = some r0) : Met l yX8_isFull wsX8_isFull rmX8_isFull (gw_Pc D g tG (tM g ad) 23 ad A [.ref (ad 0), .int v1] t0) (gw_Qi D (tM g ad) 23 ad A r0 t0) 0 0 A := by
  unfold fX8_isFull at hF
  refine gw_met (by decide) rfl hD (Nat.le_of_ble_eq_true rfl) (fun p e s m args below meth c E hr hlocks I ls hl => ?_)
  have hx := E.1.1
  have hb := E.1.2.1
  have hl : lv_has ls 2 [(0, .ref (ad 0)), (1, .int v1)] := hl
  refine lv_aload_n hx hb dX8_isFull_0 rfl (lv_at hl 0 rfl) ?_
  refine gf_M_0_6 E I in_X8_isFull_X8 lk_X8_isFull_22 dX8_isFull_1 ?_
  refine lv_aload_n hx hb dX8_isFull_4 rfl (lv_at hl 0 rfl) ?_
  refine gf_M_0_5 E I in_X8_isFull_X8 lk_X8_isFull_19 dX8_isFull_5 ?_
  refine lv_iload_n hx hb dX8_isFull_8 rfl (lv_at hl 1 rfl) ?_
  replace hF := gw_ifn hF
  obtain ⟨hz9, hF⟩ := hF
  refine gw_iald E I 4 (by decide) rfl hz9 dX8_isFull_9 ?_
  replace hF := gw_ifn hF
  obtain ⟨hz10, hF⟩ := hF
  refine gw_iald E I 5 (by decide) rfl hz10 dX8_isFull_10 ?_
  refine lv_aload_n hx hb dX8_isFull_11 rfl (lv_at hl 0 rfl) ?_
  refine gf_M_0_3 E I in_X8_isFull_X8 lk_X8_isFull_13 dX8_isFull_12 ?_
  refine lv_iload_n hx hb dX8_isFull_15 rfl (lv_at hl 1 rfl) ?_
  replace hF := gw_ifn hF
  obtain ⟨hz16, hF⟩ := hF
  refine gw_iald E I 2 (by decide) rfl hz16 dX8_isFull_16 ?_
  refine lv_icmp_lt (tgt := 24) hx hb dX8_isFull_17 (by decide) (fun c17 => ?_) (fun c17 => ?_)
  · replace hF := gw_if1 c17 hF
    refine lv_iconst (v := 0) hx hb dX8_isFull_24 (by decide) ?_
    exact gw_iret E I hr hlocks rfl (Option.some.inj hF) rfl dX8_isFull_25
  · replace hF := gw_if0 c17 hF
    refine lv_iconst (v := 1) hx hb dX8_isFull_20 (by decide) ?_
    refine lv_goto (tgt := 25) hx hb dX8_isFull_21 (by decide) ?_
    exact gw_iret E I hr hlocks rfl (Option.some.inj hF) rfl dX8_isFull_25
abbrev rmX8_tenthsIn : Room := { frames := 1, cells := 0, slots := 0, locals := 20 }
theorem lk_X8_tenthsIn_7 : Cond.fieldLink RX8 7 "ThrownSacksModel" "yardsOf" "[I" ∈ wsX8_tenthsIn := by decide +kernel
theorem in_X8_tenthsIn_X8 : ∀ w ∈ u_ws RX8 TX8 42, w ∈ wsX8_tenthsIn := by decide +kernel
set_option maxHeartbeats 4000000 in
set_option maxRecDepth 100000 in
theorem ok_X8_tenthsIn (l : Launch) {D : va_G} {g : gw_G} {tG : Nat} {ad : Nat → Nat} {A : Nat → Prop} (hD : gw_D A 23 ad) (t0 : gw_S) (v1 : Int32) (v2 : Int32) (r0 : Int32) (hF : fX8_tenthsIn v1 v2 t0 = some r0) : Met l yX8_tenthsIn wsX8_tenthsIn rmX8_tenthsIn (gw_Pc D g tG (tM g ad) 23 ad A [.ref (ad 0), .int v1, .int v2] t0) (gw_Qi D (tM g ad) 23 ad A r0 t0) 0 0 A := by
  unfold fX8_tenthsIn at hF
  refine gw_met (by decide) rfl hD (Nat.le_of_ble_eq_true rfl) (fun p e s m args below meth c E hr hlocks I ls hl => ?_)
  have hx := E.1.1
  have hb := E.1.2.1
  have hl : lv_has ls 4 [(0, .ref (ad 0)), (1, .int v1), (2, .int v2)] := hl
  refine lv_bipush (v := 10) hx hb dX8_tenthsIn_0 (by decide) ?_
  refine lv_iload_n hx hb dX8_tenthsIn_2 rfl (lv_at hl 1 rfl) ?_
  refine gw_calli I (gw_runS E I (ok_X8_gripOf l hD t0 v1 _ rfl) (va_cwS 1 E.1.2.2.2.2 gX8_tenthsIn_X8_gripOf rfl rfl rfl (by decide +kernel) ⟨Nat.le_of_ble_eq_true rfl, Nat.le_of_ble_eq_true rfl⟩) rfl hl.1 rfl (Nat.le_of_ble_eq_true rfl) dX8_tenthsIn_3) (fun H locs I => ?_)
  refine lv_iadd hx hb dX8_tenthsIn_6 ?_
  refine lv_aload_n hx hb dX8_tenthsIn_7 rfl (lv_at hl 0 rfl) ?_
  refine gf_M_0_2 E I in_X8_tenthsIn_X8 lk_X8_tenthsIn_7 dX8_tenthsIn_8 ?_
  refine lv_iload_n hx hb dX8_tenthsIn_11 rfl (lv_at hl 2 rfl) ?_
  replace hF := gw_ifn hF
  obtain ⟨hz12, hF⟩ := hF
  refine gw_iald E I 1 (by decide) rfl hz12 dX8_tenthsIn_12 ?_
  refine lv_isub hx hb dX8_tenthsIn_13 ?_
  replace hF := gw_nmE hF
  obtain ⟨v3_14, ev3_14, hF⟩ := hF
  refine gw_topi ev3_14 ?_
  refine lv_istore_n (lv' := [(3, .int v3_14), (0, .ref (ad 0)), (1, .int v1), (2, .int v2)]) hx hb dX8_tenthsIn_14 rfl hl (by decide) rfl (fun ls hl => ?_)
  refine lv_iload_n hx hb dX8_tenthsIn_15 rfl (lv_at hl 0 rfl) ?_
  refine lv_if_ge (tgt := 23) hx hb dX8_tenthsIn_16 (by decide) (fun c16 => ?_) (fun c16 => ?_)
  · replace hF := gw_if1 c16 hF
    refine lv_iload_n hx hb dX8_tenthsIn_23 rfl (lv_at hl 0 rfl) ?_
    refine lv_bipush (v := 10) hx hb dX8_tenthsIn_24 (by decide) ?_
    refine lv_icmp_le (tgt := 34) hx hb dX8_tenthsIn_26 (by decide) (fun c26 => ?_) (fun c26 => ?_)
    · replace hF := gw_if1 c26 hF
      refine lv_iload_n hx hb dX8_tenthsIn_34 rfl (lv_at hl 0 rfl) ?_
      exact gw_iret E I hr hlocks rfl (Option.some.inj hF) rfl dX8_tenthsIn_35
    · replace hF := gw_if0 c26 hF
      refine lv_bipush (v := 10) hx hb dX8_tenthsIn_29 (by decide) ?_
      refine lv_goto (tgt := 35) hx hb dX8_tenthsIn_31 (by decide) ?_
      exact gw_iret E I hr hlocks rfl (Option.some.inj hF) rfl dX8_tenthsIn_35
  · replace hF := gw_if0 c16 hF
    refine lv_iconst (v := 0) hx hb dX8_tenthsIn_19 (by decide) ?_
    refine lv_goto (tgt := 35) hx hb dX8_tenthsIn_20 (by decide) ?_
    exact gw_iret E I hr hlocks rfl (Option.some.inj hF) rfl dX8_tenthsIn_35
abbrev rmX8_nextOf : Room := { frames := 0, cells := 0, slots := 0, locals := 0 }
theorem lk_X8_nextOf_109 : Cond.fieldLink RX8 109 "ThrownSacksModel" "hooks" "I" ∈ wsX8_nextOf := by decide +kernel
theorem in_X8_nextOf_X8 : ∀ w ∈ u_ws RX8 TX8 42, w ∈ wsX8_nextOf := by decide +kernel
set_option maxHeartbeats 4000000 in
set_option maxRecDepth 100000 in
theorem ok_X8_nextOf (l : Launch) {D : va_G} {g : gw_G} {tG : Nat} {ad : Nat → Nat} {A : Nat → Prop} (hD : gw_D A 23 ad) (t0 : gw_S) (v1 : Int32) (r0 : Int32) (hF : fX8_nextOf v1 t0 = r0) : Met l yX8_nextOf wsX8_nextOf rmX8_nextOf (gw_Pc D g tG (tM g ad) 23 ad A [.ref (ad 0), .int v1] t0) (gw_Qi D (tM g ad) 23 ad A r0 t0) 0 0 A := by
  unfold fX8_nextOf at hF
  refine gw_met (by decide) rfl hD (Nat.le_of_ble_eq_true rfl) (fun p e s m args below meth c E hr hlocks I ls hl => ?_)
  have hx := E.1.1
  have hb := E.1.2.1
  have hl : lv_has ls 2 [(0, .ref (ad 0)), (1, .int v1)] := hl
  refine lv_iload_n hx hb dX8_nextOf_0 rfl (lv_at hl 1 rfl) ?_
  refine lv_aload_n hx hb dX8_nextOf_1 rfl (lv_at hl 0 rfl) ?_
  refine gf_M_0_1 E I in_X8_nextOf_X8 lk_X8_nextOf_109 dX8_nextOf_2 ?_
  refine lv_iconst (v := 1) hx hb dX8_nextOf_5 (by decide) ?_
  refine lv_isub hx hb dX8_nextOf_6 ?_
  refine lv_icmp_ne (tgt := 16) hx hb dX8_nextOf_7 (by decide) (fun c7 => ?_) (fun c7 => ?_)
  · replace hF := gw_if0 c7 hF
    refine lv_iload_n hx hb dX8_nextOf_16 rfl (lv_at hl 1 rfl) ?_
    refine lv_iconst (v := 1) hx hb dX8_nextOf_17 (by decide) ?_
    refine lv_iadd hx hb dX8_nextOf_18 ?_
    exact gw_iret E I hr hlocks rfl hF rfl dX8_nextOf_19
  · replace hF := gw_if1 c7 hF
    refine lv_iload_n hx hb dX8_nextOf_10 rfl (lv_at hl 1 rfl) ?_
    refine lv_iconst (v := 1) hx hb dX8_nextOf_11 (by decide) ?_
    refine lv_isub hx hb dX8_nextOf_12 ?_
    refine lv_goto (tgt := 19) hx hb dX8_nextOf_13 (by decide) ?_
    exact gw_iret E I hr hlocks rfl hF rfl dX8_nextOf_19
abbrev rmX8_tenthsNext : Room := { frames := 2, cells := 0, slots := 0, locals := 43 }
set_option maxHeartbeats 4000000 in
set_option maxRecDepth 100000 in
theorem ok_X8_tenthsNext (l : Launch) {D : va_G} {g : gw_G} {tG : Nat} {ad : Nat → Nat} {A : Nat → Prop} (hD : gw_D A 23 ad) (t0 : gw_S) (v1 : Int32) (v2 : Int32) (r0 : Int32) (hF : fX8_tenthsNext v1 v2 t0 = some r0) : Met l yX8_tenthsNext wsX8_tenthsNext rmX8_tenthsNext (gw_Pc D g tG (tM g ad) 23 ad A [.ref (ad 0), .int v1, .int v2] t0) (gw_Qi D (tM g ad) 23 ad A r0 t0) 0 0 A := by
  unfold fX8_tenthsNext at hF
  refine gw_met (by decide) rfl hD (Nat.le_of_ble_eq_true rfl) (fun p e s m args below meth c E hr hlocks I ls hl => ?_)
  have hx := E.1.1
  have hb := E.1.2.1
  have hl : lv_has ls 3 [(0, .ref (ad 0)), (1, .int v1), (2, .int v2)] := hl
  refine lv_bipush (v := 10) hx hb dX8_tenthsNext_0 (by decide) ?_
  refine lv_aload_n hx hb dX8_tenthsNext_2 rfl (lv_at hl 0 rfl) ?_
  refine lv_iload_n hx hb dX8_tenthsNext_3 rfl (lv_at hl 1 rfl) ?_
  refine lv_iload_n hx hb dX8_tenthsNext_4 rfl (lv_at hl 2 rfl) ?_
  replace hF := gw_bdE hF
  obtain ⟨r5, e5, hF⟩ := hF
  refine gw_calli I (gw_runV E I (ok_X8_tenthsIn l hD t0 v1 v2 _ e5) (cwV 2 E.1.2.2.2.2 gX8_tenthsNext_X8_tenthsIn rfl rfl rfl (by decide +kernel) ⟨Nat.le_of_ble_eq_true rfl, Nat.le_of_ble_eq_true rfl⟩) (by decide) rfl rfl rfl hl.1 rfl (Nat.le_of_ble_eq_true rfl) dX8_tenthsNext_5) (fun H locs I => ?_)
  refine lv_isub hx hb dX8_tenthsNext_8 ?_
  refine lv_iconst (v := 3) hx hb dX8_tenthsNext_9 (by decide) ?_
  refine lv_idiv hx hb dX8_tenthsNext_10 (by decide) ?_
  exact gw_iret E I hr hlocks rfl (Option.some.inj hF) rfl dX8_tenthsNext_11
abbrev rmX8_tenthsOf : Room := { frames := 3, cells := 0, slots := 0, locals := 65 }
set_option maxHeartbeats 4000000 in
set_option maxRecDepth 100000 in
theorem ok_X8_tenthsOf (l : Launch) {D : va_G} {g : gw_G} {tG : Nat} {ad : Nat → Nat} {A : Nat → Prop} (hD : gw_D A 23 ad) (t0 : gw_S) (v1 : Int32) (v2 : Int32) (v3 : Int32) (r0 : Int32) (hF : fX8_tenthsOf v1 v2 v3 t0 = some r0) : Met l yX8_tenthsOf wsX8_tenthsOf rmX8_tenthsOf (gw_Pc D g tG (tM g ad) 23 ad A [.ref (ad 0), .int v1, .int v2, .int v3] t0) (gw_Qi D (tM g ad) 23 ad A r0 t0) 0 0 A := by
  unfold fX8_tenthsOf at hF
  refine gw_met (by decide) rfl hD (Nat.le_of_ble_eq_true rfl) (fun p e s m args below meth c E hr hlocks I ls hl => ?_)
  have hx := E.1.1
  have hb := E.1.2.1
  have hl : lv_has ls 6 [(0, .ref (ad 0)), (1, .int v1), (2, .int v2), (3, .int v3)] := hl
  have hJ30 : ∀ (v3 : Int32) (v4 : Int32) (x0 : Int32) (H : Heap) (locs : List Loc) (ls : Array Slot), lv_has ls 6 [(3, .int v3), (4, .int v4)] → gw_I D (tM g ad) 23 ad A s.heap t0 H locs → fX8_tenthsOf_J30 v3 v4 x0 t0 = some r0 → W p l e rmX8_tenthsOf s m args below meth c H locs 0 0 (MQ below (gw_Qi D (tM g ad) 23 ad A r0 t0) args s 0 0 A) (F0 m 30 ls [.int x0]) := by
    intro v3 v4 x0 H locs ls hl I hF
    unfold fX8_tenthsOf_J30 at hF
    refine lv_istore (lv' := [(5, .int x0), (3, .int v3), (4, .int v4)]) hx hb dX8_tenthsOf_30 hl (by decide) rfl (fun ls hl => ?_)
    refine lv_iload_n hx hb dX8_tenthsOf_32 rfl (lv_at hl 1 rfl) ?_
    refine lv_if_ne (tgt := 41) hx hb dX8_tenthsOf_33 (by decide) (fun c33 => ?_) (fun c33 => ?_)
    · replace hF := gw_if0 c33 hF
      refine lv_iload_n hx hb dX8_tenthsOf_41 rfl (lv_at hl 1 rfl) ?_
      refine lv_iconst (v := 1) hx hb dX8_tenthsOf_42 (by decide) ?_
      refine lv_icmp_ne (tgt := 51) hx hb dX8_tenthsOf_43 (by decide) (fun c43 => ?_) (fun c43 => ?_)
      · replace hF := gw_if0 c43 hF
        refine lv_bipush (v := 10) hx hb dX8_tenthsOf_51 (by decide) ?_
        refine lv_iload hx hb dX8_tenthsOf_53 (lv_at hl 2 rfl) ?_
        refine lv_isub hx hb dX8_tenthsOf_55 ?_
        refine lv_iload hx hb dX8_tenthsOf_56 (lv_at hl 0 rfl) ?_
        refine lv_isub hx hb dX8_tenthsOf_58 ?_
        exact gw_iret E I hr hlocks rfl (Option.some.inj hF) rfl dX8_tenthsOf_59
      · replace hF := gw_if1 c43 hF
        refine lv_iload hx hb dX8_tenthsOf_46 (lv_at hl 0 rfl) ?_
        refine lv_goto (tgt := 59) hx hb dX8_tenthsOf_48 (by decide) ?_
        exact gw_iret E I hr hlocks rfl (Option.some.inj hF) rfl dX8_tenthsOf_59
    · replace hF := gw_if1 c33 hF
      refine lv_iload hx hb dX8_tenthsOf_36 (lv_at hl 2 rfl) ?_
      refine lv_goto (tgt := 59) hx hb dX8_tenthsOf_38 (by decide) ?_
      exact gw_iret E I hr hlocks rfl (Option.some.inj hF) rfl dX8_tenthsOf_59
  refine lv_aload_n hx hb dX8_tenthsOf_0 rfl (lv_at hl 0 rfl) ?_
  refine lv_iload_n hx hb dX8_tenthsOf_1 rfl (lv_at hl 1 rfl) ?_
  refine lv_iload_n hx hb dX8_tenthsOf_2 rfl (lv_at hl 2 rfl) ?_
  replace hF := gw_bdE hF
  obtain ⟨r3, e3, hF⟩ := hF
  refine gw_calli I (gw_runV E I (ok_X8_tenthsIn l hD t0 v1 v2 _ e3) (cwV 2 E.1.2.2.2.2 gX8_tenthsOf_X8_tenthsIn rfl rfl rfl (by decide +kernel) ⟨Nat.le_of_ble_eq_true rfl, Nat.le_of_ble_eq_true rfl⟩) (by decide) rfl rfl rfl hl.1 rfl (Nat.le_of_ble_eq_true rfl) dX8_tenthsOf_3) (fun H locs I => ?_)
  refine lv_istore (lv' := [(4, .int r3), (0, .ref (ad 0)), (1, .int v1), (2, .int v2), (3, .int v3)]) hx hb dX8_tenthsOf_6 hl (by decide) rfl (fun ls hl => ?_)
  refine lv_aload_n hx hb dX8_tenthsOf_8 rfl (lv_at hl 1 rfl) ?_
  refine lv_aload_n hx hb dX8_tenthsOf_9 rfl (lv_at hl 1 rfl) ?_
  refine lv_iload_n hx hb dX8_tenthsOf_10 rfl (lv_at hl 3 rfl) ?_
  refine gw_calli I (gw_runV E I (ok_X8_nextOf l hD t0 v2 _ rfl) (cwV 1 E.1.2.2.2.2 gX8_tenthsOf_X8_nextOf rfl rfl rfl (by decide +kernel) ⟨Nat.le_of_ble_eq_true rfl, Nat.le_of_ble_eq_true rfl⟩) (by decide) rfl rfl rfl hl.1 rfl (Nat.le_of_ble_eq_true rfl) dX8_tenthsOf_11) (fun H locs I => ?_)
  replace hF := gw_bdE hF
  obtain ⟨r14, e14, hF⟩ := hF
  refine gw_calli I (gw_runV E I (ok_X8_isFull l hD t0 (fX8_nextOf v2 t0) _ e14) (cwV 1 E.1.2.2.2.2 gX8_tenthsOf_X8_isFull rfl rfl rfl (by decide +kernel) ⟨Nat.le_of_ble_eq_true rfl, Nat.le_of_ble_eq_true rfl⟩) (by decide) rfl rfl rfl hl.1 rfl (Nat.le_of_ble_eq_true rfl) dX8_tenthsOf_14) (fun H locs I => ?_)
  refine lv_if_eq (tgt := 24) hx hb dX8_tenthsOf_17 (by decide) (fun c17 => ?_) (fun c17 => ?_)
  · replace hF := gw_if1 c17 hF
    refine lv_aload_n hx hb dX8_tenthsOf_24 rfl (lv_at hl 1 rfl) ?_
    refine lv_iload_n hx hb dX8_tenthsOf_25 rfl (lv_at hl 2 rfl) ?_
    refine lv_iload_n hx hb dX8_tenthsOf_26 rfl (lv_at hl 3 rfl) ?_
    replace hF := gw_bdE hF
    obtain ⟨r27, e27, hF⟩ := hF
    refine gw_calli I (gw_runV E I (ok_X8_tenthsNext l hD t0 v1 v2 _ e27) (cwV 2 E.1.2.2.2.2 gX8_tenthsOf_X8_tenthsNext rfl rfl rfl (by decide +kernel) ⟨Nat.le_of_ble_eq_true rfl, Nat.le_of_ble_eq_true rfl⟩) (by decide) rfl rfl rfl hl.1 rfl (Nat.le_of_ble_eq_true rfl) dX8_tenthsOf_27) (fun H locs I => ?_)
    exact hJ30 v3 r3 r27 _ _ _ (lv_sub hl [4, 0] rfl) I hF
  · replace hF := gw_if0 c17 hF
    refine lv_iconst (v := 0) hx hb dX8_tenthsOf_20 (by decide) ?_
    refine lv_goto (tgt := 30) hx hb dX8_tenthsOf_21 (by decide) ?_
    exact hJ30 v3 r3 0 _ _ _ (lv_sub hl [4, 0] rfl) I hF
abbrev rmX8_walk : Room := { frames := 0, cells := 0, slots := 0, locals := 0 }
theorem lk_X8_walk_7 : Cond.fieldLink RX8 7 "ThrownSacksModel" "yardsOf" "[I" ∈ wsX8_walk := by decide +kernel
theorem in_X8_walk_X8 : ∀ w ∈ u_ws RX8 TX8 42, w ∈ wsX8_walk := by decide +kernel
set_option maxHeartbeats 4000000 in
set_option maxRecDepth 100000 in
theorem ok_X8_walk (l : Launch) {D : va_G} {g : gw_G} {tG : Nat} {ad : Nat → Nat} {A : Nat → Prop} (hD : gw_D A 23 ad) (t0 : gw_S) (v1 : Int32) (r0 : Int32) (hF : fX8_walk v1 t0 = some r0) : Met l yX8_walk wsX8_walk rmX8_walk (gw_Pc D g tG (tM g ad) 23 ad A [.ref (ad 0), .int v1] t0) (gw_Qi D (tM g ad) 23 ad A r0 t0) 0 0 A := by
  unfold fX8_walk at hF
  refine gw_met (by decide) rfl hD (Nat.le_of_ble_eq_true rfl) (fun p e s m args below meth c E hr hlocks I ls hl => ?_)
  have hx := E.1.1
  have hb := E.1.2.1
  have hl : lv_has ls 2 [(0, .ref (ad 0)), (1, .int v1)] := hl
  refine lv_iconst (v := 2) hx hb dX8_walk_0 (by decide) ?_
  refine lv_aload_n hx hb dX8_walk_1 rfl (lv_at hl 0 rfl) ?_
  refine gf_M_0_2 E I in_X8_walk_X8 lk_X8_walk_7 dX8_walk_2 ?_
  refine lv_iload_n hx hb dX8_walk_5 rfl (lv_at hl 1 rfl) ?_
  replace hF := gw_ifn hF
  obtain ⟨hz6, hF⟩ := hF
  refine gw_iald E I 1 (by decide) rfl hz6 dX8_walk_6 ?_
  refine lv_imul hx hb dX8_walk_7 ?_
  refine lv_iconst (v := 3) hx hb dX8_walk_8 (by decide) ?_
  refine lv_iadd hx hb dX8_walk_9 ?_
  exact gw_iret E I hr hlocks rfl (Option.some.inj hF) rfl dX8_walk_10
abbrev rmX8_comes : Room := { frames := 0, cells := 0, slots := 0, locals := 0 }
theorem lk_X8_comes_19 : Cond.fieldLink RX8 19 "ThrownSacksModel" "hangsOn" "[I" ∈ wsX8_comes := by decide +kernel
theorem lk_X8_comes_22 : Cond.fieldLink RX8 22 "ThrownSacksModel" "manyIn" "[I" ∈ wsX8_comes := by decide +kernel
theorem lk_X8_comes_25 : Cond.fieldLink RX8 25 "ThrownSacksModel" "wrongIn" "[I" ∈ wsX8_comes := by decide +kernel
theorem lk_X8_comes_28 : Cond.fieldLink RX8 28 "ThrownSacksModel" "glassIn" "[I" ∈ wsX8_comes := by decide +kernel
theorem lk_X8_comes_31 : Cond.fieldLink RX8 31 "ThrownSacksModel" "wholeIn" "[I" ∈ wsX8_comes := by decide +kernel
theorem lk_X8_comes_34 : Cond.fieldLink RX8 34 "ThrownSacksModel" "beltKind" "[I" ∈ wsX8_comes := by decide +kernel
theorem lk_X8_comes_37 : Cond.fieldLink RX8 37 "ThrownSacksModel" "beltTown" "[I" ∈ wsX8_comes := by decide +kernel
theorem lk_X8_comes_118 : Cond.fieldLink RX8 118 "ThrownSacksModel" "onBelt" "I" ∈ wsX8_comes := by decide +kernel
theorem lk_X8_comes_124 : Cond.fieldLink RX8 124 "ThrownSacksModel" "harmed" "I" ∈ wsX8_comes := by decide +kernel
theorem in_X8_comes_X8 : ∀ w ∈ u_ws RX8 TX8 42, w ∈ wsX8_comes := by decide +kernel
set_option maxHeartbeats 4000000 in
set_option maxRecDepth 100000 in
theorem ok_X8_comes (l : Launch) {D : va_G} {g : gw_G} {tG : Nat} {ad : Nat → Nat} {A : Nat → Prop} (hD : gw_D A 23 ad) (t0 : gw_S) (v1 : Int32) (v2 : Int32) (tz : gw_S) (hF : fX8_comes v1 v2 t0 = some tz) : Met l yX8_comes wsX8_comes rmX8_comes (gw_Pc D g tG (tM g ad) 23 ad A [.ref (ad 0), .int v1, .int v2] t0) (gw_Qv D (tM g ad) 23 ad A tz) 0 0 A := by
  unfold fX8_comes at hF
  refine gw_met (by decide) rfl hD (Nat.le_of_ble_eq_true rfl) (fun p e s m args below meth c E hr hlocks I ls hl => ?_)
  have hx := E.1.1
  have hb := E.1.2.1
  have hl : lv_has ls 6 [(0, .ref (ad 0)), (1, .int v1), (2, .int v2)] := hl
  have hL142 : ∀ (Kx : Int32 → gw_S → Option (gw_S)), (∀ (v5 : Int32) (t : gw_S) (H : Heap) (locs : List Loc) (ls : Array Slot), lv_has ls 6 [] → gw_I D (tM g ad) 23 ad A s.heap t H locs → Kx v5 t = some tz → W p l e rmX8_comes s m args below meth c H locs 0 0 (MQ below (gw_Qv D (tM g ad) 23 ad A tz) args s 0 0 A) (F0 m 189 ls [])) → ∀ (n : Nat) (v5 : Int32) (t : gw_S) (H : Heap) (locs : List Loc) (ls : Array Slot), lv_has ls 6 [(0, .ref (ad 0)), (5, .int v5)] → gw_I D (tM g ad) 23 ad A s.heap t H locs → fX8_comes_L142 Kx n v5 t = some tz → W p l e rmX8_comes s m args below meth c H locs 0 0 (MQ below (gw_Qv D (tM g ad) 23 ad A tz) args s 0 0 A) (F0 m 142 ls []) := by
    intro Kx hKx n
    induction n with
    | zero =>
      intro v5 t H locs ls hl I hF
      rw [fX8_comes_L142] at hF
      cases hF
    | succ n ih =>
      intro v5 t H locs ls hl I hF
      rw [fX8_comes_L142] at hF
      refine lv_iload hx hb dX8_comes_142 (lv_at hl 1 rfl) ?_
      refine lv_aload_n hx hb dX8_comes_144 rfl (lv_at hl 0 rfl) ?_
      refine gf_M_0_10 E I in_X8_comes_X8 lk_X8_comes_118 dX8_comes_145 ?_
      refine lv_icmp_ge (tgt := 189) hx hb dX8_comes_148 (by decide) (fun c148 => ?_) (fun c148 => ?_)
      · replace hF := gw_if1 c148 hF
        exact hKx v5 t _ _ _ (lv_sub hl [] rfl) I hF
      · replace hF := gw_if0 c148 hF
        refine lv_aload_n hx hb dX8_comes_151 rfl (lv_at hl 0 rfl) ?_
        refine gf_M_0_11 E I in_X8_comes_X8 lk_X8_comes_34 dX8_comes_152 ?_
        refine lv_iload hx hb dX8_comes_155 (lv_at hl 1 rfl) ?_
        refine lv_aload_n hx hb dX8_comes_157 rfl (lv_at hl 0 rfl) ?_
        refine gf_M_0_11 E I in_X8_comes_X8 lk_X8_comes_34 dX8_comes_158 ?_
        refine lv_iload hx hb dX8_comes_161 (lv_at hl 1 rfl) ?_
        refine lv_iconst (v := 1) hx hb dX8_comes_163 (by decide) ?_
        refine lv_iadd hx hb dX8_comes_164 ?_
        replace hF := gw_ifn hF
        obtain ⟨hz165, hF⟩ := hF
        refine gw_iald E I 9 (by decide) rfl hz165 dX8_comes_165 ?_
        replace hF := gw_ifn hF
        obtain ⟨hz166, hF⟩ := hF
        replace hF := gw_nmE hF
        obtain ⟨t_166, et_166, hF⟩ := hF
        refine gw_iast E I 9 (by decide) (fun _ => rfl) hz166 et_166 dX8_comes_166 (fun H locs I => ?_)
        refine lv_aload_n hx hb dX8_comes_167 rfl (lv_at hl 0 rfl) ?_
        refine gf_M_0_12 E I in_X8_comes_X8 lk_X8_comes_37 dX8_comes_168 ?_
        refine lv_iload hx hb dX8_comes_171 (lv_at hl 1 rfl) ?_
        refine lv_aload_n hx hb dX8_comes_173 rfl (lv_at hl 0 rfl) ?_
        refine gf_M_0_12 E I in_X8_comes_X8 lk_X8_comes_37 dX8_comes_174 ?_
        refine lv_iload hx hb dX8_comes_177 (lv_at hl 1 rfl) ?_
        refine lv_iconst (v := 1) hx hb dX8_comes_179 (by decide) ?_
        refine lv_iadd hx hb dX8_comes_180 ?_
        replace hF := gw_ifn hF
        obtain ⟨hz181, hF⟩ := hF
        refine gw_iald E I 10 (by decide) rfl hz181 dX8_comes_181 ?_
        replace hF := gw_ifn hF
        obtain ⟨hz182, hF⟩ := hF
        replace hF := gw_nmE hF
        obtain ⟨t_182, et_182, hF⟩ := hF
        refine gw_iast E I 10 (by decide) (fun _ => rfl) hz182 et_182 dX8_comes_182 (fun H locs I => ?_)
        replace hF := gw_nmE hF
        obtain ⟨v5_183, ev5_183, hF⟩ := hF
        refine lv_iinc (v := v5_183) (lv' := [(5, .int v5_183), (0, .ref (ad 0))]) hx hb dX8_comes_183 hl (k := 1) rfl (by subst ev5_183; rfl) (by decide) rfl (fun ls hl => ?_)
        refine lv_goto (tgt := 142) hx hb dX8_comes_186 (by decide) ?_
        exact ih v5_183 t_182 _ _ _ (lv_sub hl [1, 0] rfl) I hF
  have hJ129 : ∀ (t : gw_S) (H : Heap) (locs : List Loc) (ls : Array Slot), lv_has ls 6 [(0, .ref (ad 0))] → gw_I D (tM g ad) 23 ad A s.heap t H locs → fX8_comes_J129 t = some tz → W p l e rmX8_comes s m args below meth c H locs 0 0 (MQ below (gw_Qv D (tM g ad) 23 ad A tz) args s 0 0 A) (F0 m 129 ls []) := by
    intro t H locs ls hl I hF
    unfold fX8_comes_J129 at hF
    refine lv_aload_n hx hb dX8_comes_129 rfl (lv_at hl 0 rfl) ?_
    refine lv_dup hx hb dX8_comes_130 rfl ?_
    refine gf_M_0_10 E I in_X8_comes_X8 lk_X8_comes_118 dX8_comes_131 ?_
    refine lv_iconst (v := 1) hx hb dX8_comes_134 (by decide) ?_
    refine lv_isub hx hb dX8_comes_135 ?_
    replace hF := gw_nmE hF
    obtain ⟨t_136, et_136, hF⟩ := hF
    refine gp_M_0_10 E I in_X8_comes_X8 lk_X8_comes_118 et_136 dX8_comes_136 (fun H locs I => ?_)
    refine lv_iconst (v := 0) hx hb dX8_comes_139 (by decide) ?_
    refine lv_istore (lv' := [(5, .int 0), (0, .ref (ad 0))]) hx hb dX8_comes_140 hl (by decide) rfl (fun ls hl => ?_)
    refine hL142 _  (fun v5_x142 t_x142 H locs ls hl I hF => ?_) 2000 0 t_136 _ _ _ (lv_sub hl [1, 0] rfl) I hF
    exact gw_vret E I hr hlocks (Option.some.inj hF) dX8_comes_189
  have hJ127 : ∀ (x1 : Int32) (x2 : Int32) (x3 : Int32) (t : gw_S) (H : Heap) (locs : List Loc) (ls : Array Slot), lv_has ls 6 [(0, .ref (ad 0))] → gw_I D (tM g ad) 23 ad A s.heap t H locs → fX8_comes_J127 x1 x2 x3 t = some tz → W p l e rmX8_comes s m args below meth c H locs 0 0 (MQ below (gw_Qv D (tM g ad) 23 ad A tz) args s 0 0 A) (F0 m 127 ls [.int x3, .int x2, .int x1, .ref (ad 8)]) := by
    intro x1 x2 x3 t H locs ls hl I hF
    unfold fX8_comes_J127 at hF
    refine lv_iadd hx hb dX8_comes_127 ?_
    replace hF := gw_ifn hF
    obtain ⟨hz128, hF⟩ := hF
    replace hF := gw_nmE hF
    obtain ⟨t_128, et_128, hF⟩ := hF
    refine gw_iast E I 8 (by decide) (fun _ => rfl) hz128 et_128 dX8_comes_128 (fun H locs I => ?_)
    exact hJ129 t_128 _ _ _ (lv_sub hl [0] rfl) I hF
  have hJ107 : ∀ (v2 : Int32) (v3 : Int32) (x1 : Int32) (x2 : Int32) (t : gw_S) (H : Heap) (locs : List Loc) (ls : Array Slot), lv_has ls 6 [(0, .ref (ad 0)), (2, .int v2), (3, .int v3)] → gw_I D (tM g ad) 23 ad A s.heap t H locs → fX8_comes_J107 v2 v3 x1 x2 t = some tz → W p l e rmX8_comes s m args below meth c H locs 0 0 (MQ below (gw_Qv D (tM g ad) 23 ad A tz) args s 0 0 A) (F0 m 107 ls [.int x2, .int x1, .ref (ad 0)]) := by
    intro v2 v3 x1 x2 t H locs ls hl I hF
    unfold fX8_comes_J107 at hF
    refine lv_iadd hx hb dX8_comes_107 ?_
    replace hF := gw_nmE hF
    obtain ⟨t_108, et_108, hF⟩ := hF
    refine gp_M_0_14 E I in_X8_comes_X8 lk_X8_comes_124 et_108 dX8_comes_108 (fun H locs I => ?_)
    refine lv_aload_n hx hb dX8_comes_111 rfl (lv_at hl 0 rfl) ?_
    refine gf_M_0_9 E I in_X8_comes_X8 lk_X8_comes_31 dX8_comes_112 ?_
    refine lv_iload_n hx hb dX8_comes_115 rfl (lv_at hl 2 rfl) ?_
    refine lv_dup2_11 hx hb dX8_comes_116 rfl rfl ?_
    replace hF := gw_ifn hF
    obtain ⟨hz117, hF⟩ := hF
    refine gw_iald E I 8 (by decide) rfl hz117 dX8_comes_117 ?_
    refine lv_iload_n hx hb dX8_comes_118 rfl (lv_at hl 1 rfl) ?_
    refine lv_if_eq (tgt := 126) hx hb dX8_comes_119 (by decide) (fun c119 => ?_) (fun c119 => ?_)
    · replace hF := gw_if1 c119 hF
      refine lv_iconst (v := 1) hx hb dX8_comes_126 (by decide) ?_
      exact hJ127 v3 (rdI t_108 8 (Int32.toNatClampNeg v3)) 1 t_108 _ _ _ (lv_sub hl [0] rfl) I hF
    · replace hF := gw_if0 c119 hF
      refine lv_iconst (v := 0) hx hb dX8_comes_122 (by decide) ?_
      refine lv_goto (tgt := 127) hx hb dX8_comes_123 (by decide) ?_
      exact hJ127 v3 (rdI t_108 8 (Int32.toNatClampNeg v3)) 0 t_108 _ _ _ (lv_sub hl [0] rfl) I hF
  have hJ77 : ∀ (v2 : Int32) (v3 : Int32) (v4 : Int32) (t : gw_S) (H : Heap) (locs : List Loc) (ls : Array Slot), lv_has ls 6 [(0, .ref (ad 0)), (2, .int v2), (3, .int v3), (4, .int v4)] → gw_I D (tM g ad) 23 ad A s.heap t H locs → fX8_comes_J77 v2 v3 v4 t = some tz → W p l e rmX8_comes s m args below meth c H locs 0 0 (MQ below (gw_Qv D (tM g ad) 23 ad A tz) args s 0 0 A) (F0 m 77 ls []) := by
    intro v2 v3 v4 t H locs ls hl I hF
    unfold fX8_comes_J77 at hF
    refine lv_iload hx hb dX8_comes_77 (lv_at hl 3 rfl) ?_
    refine lv_iconst (v := 3) hx hb dX8_comes_79 (by decide) ?_
    refine lv_icmp_ne (tgt := 129) hx hb dX8_comes_80 (by decide) (fun c80 => ?_) (fun c80 => ?_)
    · replace hF := gw_if0 c80 hF
      exact hJ129 t _ _ _ (lv_sub hl [0] rfl) I hF
    · replace hF := gw_if1 c80 hF
      refine lv_aload_n hx hb dX8_comes_83 rfl (lv_at hl 0 rfl) ?_
      refine gf_M_0_8 E I in_X8_comes_X8 lk_X8_comes_28 dX8_comes_84 ?_
      refine lv_iload_n hx hb dX8_comes_87 rfl (lv_at hl 2 rfl) ?_
      refine lv_dup2_11 hx hb dX8_comes_88 rfl rfl ?_
      replace hF := gw_ifn hF
      obtain ⟨hz89, hF⟩ := hF
      refine gw_iald E I 7 (by decide) rfl hz89 dX8_comes_89 ?_
      refine lv_iconst (v := 1) hx hb dX8_comes_90 (by decide) ?_
      refine lv_iadd hx hb dX8_comes_91 ?_
      replace hF := gw_ifn hF
      obtain ⟨hz92, hF⟩ := hF
      replace hF := gw_nmE hF
      obtain ⟨t_92, et_92, hF⟩ := hF
      refine gw_iast E I 7 (by decide) (fun _ => rfl) hz92 et_92 dX8_comes_92 (fun H locs I => ?_)
      refine lv_aload_n hx hb dX8_comes_93 rfl (lv_at hl 0 rfl) ?_
      refine lv_dup hx hb dX8_comes_94 rfl ?_
      refine gf_M_0_14 E I in_X8_comes_X8 lk_X8_comes_124 dX8_comes_95 ?_
      refine lv_iload_n hx hb dX8_comes_98 rfl (lv_at hl 1 rfl) ?_
      refine lv_if_eq (tgt := 106) hx hb dX8_comes_99 (by decide) (fun c99 => ?_) (fun c99 => ?_)
      · replace hF := gw_if1 c99 hF
        refine lv_iconst (v := 0) hx hb dX8_comes_106 (by decide) ?_
        exact hJ107 v2 v3 (rdI t_92 0 14) 0 t_92 _ _ _ (lv_sub hl [0, 1, 2] rfl) I hF
      · replace hF := gw_if0 c99 hF
        refine lv_iconst (v := 1) hx hb dX8_comes_102 (by decide) ?_
        refine lv_goto (tgt := 107) hx hb dX8_comes_103 (by decide) ?_
        exact hJ107 v2 v3 (rdI t_92 0 14) 1 t_92 _ _ _ (lv_sub hl [0, 1, 2] rfl) I hF
  have hJ47 : ∀ (v2 : Int32) (v3 : Int32) (v4 : Int32) (x1 : Int32) (x2 : Int32) (x3 : Int32) (t : gw_S) (H : Heap) (locs : List Loc) (ls : Array Slot), lv_has ls 6 [(0, .ref (ad 0)), (2, .int v2), (3, .int v3), (4, .int v4)] → gw_I D (tM g ad) 23 ad A s.heap t H locs → fX8_comes_J47 v2 v3 v4 x1 x2 x3 t = some tz → W p l e rmX8_comes s m args below meth c H locs 0 0 (MQ below (gw_Qv D (tM g ad) 23 ad A tz) args s 0 0 A) (F0 m 47 ls [.int x3, .int x2, .int x1, .ref (ad 6)]) := by
    intro v2 v3 v4 x1 x2 x3 t H locs ls hl I hF
    unfold fX8_comes_J47 at hF
    refine lv_iadd hx hb dX8_comes_47 ?_
    replace hF := gw_ifn hF
    obtain ⟨hz48, hF⟩ := hF
    replace hF := gw_nmE hF
    obtain ⟨t_48, et_48, hF⟩ := hF
    refine gw_iast E I 6 (by decide) (fun _ => rfl) hz48 et_48 dX8_comes_48 (fun H locs I => ?_)
    refine lv_iload hx hb dX8_comes_49 (lv_at hl 3 rfl) ?_
    refine lv_iconst (v := 4) hx hb dX8_comes_51 (by decide) ?_
    refine lv_icmp_ne (tgt := 77) hx hb dX8_comes_52 (by decide) (fun c52 => ?_) (fun c52 => ?_)
    · replace hF := gw_if0 c52 hF
      exact hJ77 v2 v3 v4 t_48 _ _ _ (lv_sub hl [0, 1, 2, 3] rfl) I hF
    · replace hF := gw_if1 c52 hF
      refine lv_aload_n hx hb dX8_comes_55 rfl (lv_at hl 0 rfl) ?_
      refine lv_dup hx hb dX8_comes_56 rfl ?_
      refine gf_M_0_14 E I in_X8_comes_X8 lk_X8_comes_124 dX8_comes_57 ?_
      refine lv_aload_n hx hb dX8_comes_60 rfl (lv_at hl 0 rfl) ?_
      refine gf_M_0_9 E I in_X8_comes_X8 lk_X8_comes_31 dX8_comes_61 ?_
      refine lv_iload_n hx hb dX8_comes_64 rfl (lv_at hl 2 rfl) ?_
      replace hF := gw_ifn hF
      obtain ⟨hz65, hF⟩ := hF
      refine gw_iald E I 8 (by decide) rfl hz65 dX8_comes_65 ?_
      refine lv_iadd hx hb dX8_comes_66 ?_
      replace hF := gw_nmE hF
      obtain ⟨t_67, et_67, hF⟩ := hF
      refine gp_M_0_14 E I in_X8_comes_X8 lk_X8_comes_124 et_67 dX8_comes_67 (fun H locs I => ?_)
      refine lv_aload_n hx hb dX8_comes_70 rfl (lv_at hl 0 rfl) ?_
      refine gf_M_0_9 E I in_X8_comes_X8 lk_X8_comes_31 dX8_comes_71 ?_
      refine lv_iload_n hx hb dX8_comes_74 rfl (lv_at hl 2 rfl) ?_
      refine lv_iconst (v := 0) hx hb dX8_comes_75 (by decide) ?_
      replace hF := gw_ifn hF
      obtain ⟨hz76, hF⟩ := hF
      replace hF := gw_nmE hF
      obtain ⟨t_76, et_76, hF⟩ := hF
      refine gw_iast E I 8 (by decide) (fun _ => rfl) hz76 et_76 dX8_comes_76 (fun H locs I => ?_)
      exact hJ77 v2 v3 v4 t_76 _ _ _ (lv_sub hl [0, 1, 2, 3] rfl) I hF
  refine lv_aload_n hx hb dX8_comes_0 rfl (lv_at hl 0 rfl) ?_
  refine gf_M_0_5 E I in_X8_comes_X8 lk_X8_comes_19 dX8_comes_1 ?_
  refine lv_iload_n hx hb dX8_comes_4 rfl (lv_at hl 1 rfl) ?_
  replace hF := gw_ifn hF
  obtain ⟨hz5, hF⟩ := hF
  refine gw_iald E I 4 (by decide) rfl hz5 dX8_comes_5 ?_
  replace hF := gw_nmE hF
  obtain ⟨v3_6, ev3_6, hF⟩ := hF
  refine gw_topi ev3_6 ?_
  refine lv_istore_n (lv' := [(3, .int v3_6), (0, .ref (ad 0)), (1, .int v1), (2, .int v2)]) hx hb dX8_comes_6 rfl hl (by decide) rfl (fun ls hl => ?_)
  refine lv_aload_n hx hb dX8_comes_7 rfl (lv_at hl 1 rfl) ?_
  refine gf_M_0_11 E I in_X8_comes_X8 lk_X8_comes_34 dX8_comes_8 ?_
  refine lv_iconst (v := 0) hx hb dX8_comes_11 (by decide) ?_
  replace hF := gw_ifn hF
  obtain ⟨hz12, hF⟩ := hF
  refine gw_iald E I 9 (by decide) rfl hz12 dX8_comes_12 ?_
  replace hF := gw_nmE hF
  obtain ⟨v4_13, ev4_13, hF⟩ := hF
  refine gw_topi ev4_13 ?_
  refine lv_istore (lv' := [(4, .int v4_13), (3, .int v3_6), (0, .ref (ad 0)), (1, .int v1), (2, .int v2)]) hx hb dX8_comes_13 hl (by decide) rfl (fun ls hl => ?_)
  refine lv_aload_n hx hb dX8_comes_15 rfl (lv_at hl 2 rfl) ?_
  refine gf_M_0_6 E I in_X8_comes_X8 lk_X8_comes_22 dX8_comes_16 ?_
  refine lv_iload_n hx hb dX8_comes_19 rfl (lv_at hl 1 rfl) ?_
  refine lv_dup2_11 hx hb dX8_comes_20 rfl rfl ?_
  replace hF := gw_ifn hF
  obtain ⟨hz21, hF⟩ := hF
  refine gw_iald E I 5 (by decide) rfl hz21 dX8_comes_21 ?_
  refine lv_iconst (v := 1) hx hb dX8_comes_22 (by decide) ?_
  refine lv_iadd hx hb dX8_comes_23 ?_
  replace hF := gw_ifn hF
  obtain ⟨hz24, hF⟩ := hF
  replace hF := gw_nmE hF
  obtain ⟨t_24, et_24, hF⟩ := hF
  refine gw_iast E I 5 (by decide) (fun _ => rfl) hz24 et_24 dX8_comes_24 (fun H locs I => ?_)
  refine lv_aload_n hx hb dX8_comes_25 rfl (lv_at hl 2 rfl) ?_
  refine gf_M_0_7 E I in_X8_comes_X8 lk_X8_comes_25 dX8_comes_26 ?_
  refine lv_iload_n hx hb dX8_comes_29 rfl (lv_at hl 1 rfl) ?_
  refine lv_dup2_11 hx hb dX8_comes_30 rfl rfl ?_
  replace hF := gw_ifn hF
  obtain ⟨hz31, hF⟩ := hF
  refine gw_iald E I 6 (by decide) rfl hz31 dX8_comes_31 ?_
  refine lv_aload_n hx hb dX8_comes_32 rfl (lv_at hl 2 rfl) ?_
  refine gf_M_0_12 E I in_X8_comes_X8 lk_X8_comes_37 dX8_comes_33 ?_
  refine lv_iconst (v := 0) hx hb dX8_comes_36 (by decide) ?_
  replace hF := gw_ifn hF
  obtain ⟨hz37, hF⟩ := hF
  refine gw_iald E I 10 (by decide) rfl hz37 dX8_comes_37 ?_
  refine lv_iload_n hx hb dX8_comes_38 rfl (lv_at hl 1 rfl) ?_
  refine lv_icmp_ne (tgt := 46) hx hb dX8_comes_39 (by decide) (fun c39 => ?_) (fun c39 => ?_)
  · replace hF := gw_if0 c39 hF
    refine lv_iconst (v := 1) hx hb dX8_comes_46 (by decide) ?_
    exact hJ47 v2 v3_6 v4_13 v3_6 (rdI t_24 6 (Int32.toNatClampNeg v3_6)) 1 t_24 _ _ _ (lv_sub hl [2, 4, 1, 0] rfl) I hF
  · replace hF := gw_if1 c39 hF
    refine lv_iconst (v := 0) hx hb dX8_comes_42 (by decide) ?_
    refine lv_goto (tgt := 47) hx hb dX8_comes_43 (by decide) ?_
    exact hJ47 v2 v3_6 v4_13 v3_6 (rdI t_24 6 (Int32.toNatClampNeg v3_6)) 0 t_24 _ _ _ (lv_sub hl [2, 4, 1, 0] rfl) I hF
abbrev rmX8_toss : Room := { frames := 4, cells := 0, slots := 0, locals := 90 }
theorem lk_X8_toss_34 : Cond.fieldLink RX8 34 "ThrownSacksModel" "beltKind" "[I" ∈ wsX8_toss := by decide +kernel
theorem lk_X8_toss_118 : Cond.fieldLink RX8 118 "ThrownSacksModel" "onBelt" "I" ∈ wsX8_toss := by decide +kernel
theorem lk_X8_toss_121 : Cond.fieldLink RX8 121 "ThrownSacksModel" "seconds" "I" ∈ wsX8_toss := by decide +kernel
theorem in_X8_toss_X8 : ∀ w ∈ u_ws RX8 TX8 42, w ∈ wsX8_toss := by decide +kernel
set_option maxHeartbeats 4000000 in
set_option maxRecDepth 100000 in
theorem ok_X8_toss (l : Launch) {D : va_G} {g : gw_G} {tG : Nat} {ad : Nat → Nat} {A : Nat → Prop} (hD : gw_D A 23 ad) (t0 : gw_S) (v1 : Int32) (v2 : Int32) (r0 : Int32) (tz : gw_S) (hF : fX8_toss v1 v2 t0 = some (r0, tz)) : Met l yX8_toss wsX8_toss rmX8_toss (gw_Pc D g tG (tM g ad) 23 ad A [.ref (ad 0), .int v1, .int v2] t0) (gw_Qi D (tM g ad) 23 ad A r0 tz) 0 0 A := by
  unfold fX8_toss at hF
  refine gw_met (by decide) rfl hD (Nat.le_of_ble_eq_true rfl) (fun p e s m args below meth c E hr hlocks I ls hl => ?_)
  have hx := E.1.1
  have hb := E.1.2.1
  have hl : lv_has ls 4 [(0, .ref (ad 0)), (1, .int v1), (2, .int v2)] := hl
  have hJ108 : ∀ (v3 : Int32) (x1 : Int32) (x2 : Int32) (t : gw_S) (H : Heap) (locs : List Loc) (ls : Array Slot), lv_has ls 4 [(3, .int v3)] → gw_I D (tM g ad) 23 ad A s.heap t H locs → fX8_toss_J108 v3 x1 x2 t = some (r0, tz) → W p l e rmX8_toss s m args below meth c H locs 0 0 (MQ below (gw_Qi D (tM g ad) 23 ad A r0 tz) args s 0 0 A) (F0 m 108 ls [.int x2, .int x1, .ref (ad 0)]) := by
    intro v3 x1 x2 t H locs ls hl I hF
    unfold fX8_toss_J108 at hF
    replace hF := gw_bdE hF
    obtain ⟨t_108, e108, hF⟩ := hF
    refine gw_callv I (gw_runV E I (ok_X8_comes l hD t x1 x2 _ e108) (cwV 2 E.1.2.2.2.2 gX8_toss_X8_comes rfl rfl rfl (by decide +kernel) ⟨Nat.le_of_ble_eq_true rfl, Nat.le_of_ble_eq_true rfl⟩) (by decide) rfl rfl rfl hl.1 rfl (Nat.le_of_ble_eq_true rfl) dX8_toss_108) (fun H locs I => ?_)
    refine lv_iload_n hx hb dX8_toss_111 rfl (lv_at hl 0 rfl) ?_
    exact gw_iret E I hr hlocks rfl (Prod.mk.inj (Option.some.inj hF)).1 (Prod.mk.inj (Option.some.inj hF)).2 dX8_toss_112
  have hJ91 : ∀ (v2 : Int32) (v3 : Int32) (x1 : Int32) (x2 : Int32) (x3 : Int32) (t : gw_S) (H : Heap) (locs : List Loc) (ls : Array Slot), lv_has ls 4 [(0, .ref (ad 0)), (2, .int v2), (3, .int v3)] → gw_I D (tM g ad) 23 ad A s.heap t H locs → fX8_toss_J91 v2 v3 x1 x2 x3 t = some (r0, tz) → W p l e rmX8_toss s m args below meth c H locs 0 0 (MQ below (gw_Qi D (tM g ad) 23 ad A r0 tz) args s 0 0 A) (F0 m 91 ls [.int x3, .int x2, .int x1, .ref (ad 0)]) := by
    intro v2 v3 x1 x2 x3 t H locs ls hl I hF
    unfold fX8_toss_J91 at hF
    refine lv_iadd hx hb dX8_toss_91 ?_
    refine lv_iadd hx hb dX8_toss_92 ?_
    replace hF := gw_nmE hF
    obtain ⟨t_93, et_93, hF⟩ := hF
    refine gp_M_0_13 E I in_X8_toss_X8 lk_X8_toss_121 et_93 dX8_toss_93 (fun H locs I => ?_)
    refine lv_aload_n hx hb dX8_toss_96 rfl (lv_at hl 0 rfl) ?_
    refine lv_iload_n hx hb dX8_toss_97 rfl (lv_at hl 2 rfl) ?_
    refine lv_iload_n hx hb dX8_toss_98 rfl (lv_at hl 1 rfl) ?_
    refine lv_iconst (v := 2) hx hb dX8_toss_99 (by decide) ?_
    refine lv_icmp_ge (tgt := 107) hx hb dX8_toss_100 (by decide) (fun c100 => ?_) (fun c100 => ?_)
    · replace hF := gw_if1 c100 hF
      refine lv_iconst (v := 0) hx hb dX8_toss_107 (by decide) ?_
      exact hJ108 v3 v3 0 t_93 _ _ _ (lv_sub hl [2] rfl) I hF
    · replace hF := gw_if0 c100 hF
      refine lv_iconst (v := 1) hx hb dX8_toss_103 (by decide) ?_
      refine lv_goto (tgt := 108) hx hb dX8_toss_104 (by decide) ?_
      exact hJ108 v3 v3 1 t_93 _ _ _ (lv_sub hl [2] rfl) I hF
  have hJ70 : ∀ (v1 : Int32) (v2 : Int32) (x0 : Int32) (t : gw_S) (H : Heap) (locs : List Loc) (ls : Array Slot), lv_has ls 4 [(0, .ref (ad 0)), (1, .int v1), (2, .int v2)] → gw_I D (tM g ad) 23 ad A s.heap t H locs → fX8_toss_J70 v1 v2 x0 t = some (r0, tz) → W p l e rmX8_toss s m args below meth c H locs 0 0 (MQ below (gw_Qi D (tM g ad) 23 ad A r0 tz) args s 0 0 A) (F0 m 70 ls [.int x0]) := by
    intro v1 v2 x0 t H locs ls hl I hF
    unfold fX8_toss_J70 at hF
    refine lv_istore_n (lv' := [(3, .int x0), (0, .ref (ad 0)), (1, .int v1), (2, .int v2)]) hx hb dX8_toss_70 rfl hl (by decide) rfl (fun ls hl => ?_)
    refine lv_aload_n hx hb dX8_toss_71 rfl (lv_at hl 1 rfl) ?_
    refine lv_dup hx hb dX8_toss_72 rfl ?_
    refine gf_M_0_13 E I in_X8_toss_X8 lk_X8_toss_121 dX8_toss_73 ?_
    refine lv_iconst (v := 2) hx hb dX8_toss_76 (by decide) ?_
    refine lv_iload_n hx hb dX8_toss_77 rfl (lv_at hl 3 rfl) ?_
    refine lv_iconst (v := 2) hx hb dX8_toss_78 (by decide) ?_
    refine lv_icmp_ne (tgt := 90) hx hb dX8_toss_79 (by decide) (fun c79 => ?_) (fun c79 => ?_)
    · replace hF := gw_if0 c79 hF
      refine lv_iconst (v := 0) hx hb dX8_toss_90 (by decide) ?_
      exact hJ91 v2 x0 (rdI t 0 13) 2 0 t _ _ _ (lv_sub hl [1, 3, 0] rfl) I hF
    · replace hF := gw_if1 c79 hF
      refine lv_aload_n hx hb dX8_toss_82 rfl (lv_at hl 1 rfl) ?_
      refine lv_iload_n hx hb dX8_toss_83 rfl (lv_at hl 2 rfl) ?_
      replace hF := gw_bdE hF
      obtain ⟨r84, e84, hF⟩ := hF
      refine gw_calli I (gw_runV E I (ok_X8_walk l hD t v1 _ e84) (cwV 1 E.1.2.2.2.2 gX8_toss_X8_walk rfl rfl rfl (by decide +kernel) ⟨Nat.le_of_ble_eq_true rfl, Nat.le_of_ble_eq_true rfl⟩) (by decide) rfl rfl rfl hl.1 rfl (Nat.le_of_ble_eq_true rfl) dX8_toss_84) (fun H locs I => ?_)
      refine lv_goto (tgt := 91) hx hb dX8_toss_87 (by decide) ?_
      exact hJ91 v2 x0 (rdI t 0 13) 2 r84 t _ _ _ (lv_sub hl [1, 3, 0] rfl) I hF
  refine lv_aload_n hx hb dX8_toss_0 rfl (lv_at hl 0 rfl) ?_
  refine lv_iload_n hx hb dX8_toss_1 rfl (lv_at hl 1 rfl) ?_
  replace hF := gw_bdE hF
  obtain ⟨r2, e2, hF⟩ := hF
  refine gw_calli I (gw_runV E I (ok_X8_isHook l hD t0 v1 _ e2) (cwV 1 E.1.2.2.2.2 gX8_toss_X8_isHook rfl rfl rfl (by decide +kernel) ⟨Nat.le_of_ble_eq_true rfl, Nat.le_of_ble_eq_true rfl⟩) (by decide) rfl rfl rfl hl.1 rfl (Nat.le_of_ble_eq_true rfl) dX8_toss_2) (fun H locs I => ?_)
  refine lv_if_ne (tgt := 11) hx hb dX8_toss_5 (by decide) (fun c5 => ?_) (fun c5 => ?_)
  · replace hF := gw_if0 c5 hF
    refine lv_iload_n hx hb dX8_toss_11 rfl (lv_at hl 2 rfl) ?_
    refine lv_iconst (v := 0) hx hb dX8_toss_12 (by decide) ?_
    refine lv_iconst (v := 2) hx hb dX8_toss_13 (by decide) ?_
    refine gw_calli I (gw_runS E I (ok_X8_within l hD t0 v2 0 2 _ rfl) (va_cwS 3 E.1.2.2.2.2 gX8_toss_X8_within rfl rfl rfl (by decide +kernel) ⟨Nat.le_of_ble_eq_true rfl, Nat.le_of_ble_eq_true rfl⟩) rfl hl.1 rfl (Nat.le_of_ble_eq_true rfl) dX8_toss_14) (fun H locs I => ?_)
    refine lv_if_ne (tgt := 23) hx hb dX8_toss_17 (by decide) (fun c17 => ?_) (fun c17 => ?_)
    · replace hF := gw_if0 c17 hF
      refine lv_aload_n hx hb dX8_toss_23 rfl (lv_at hl 0 rfl) ?_
      refine gf_M_0_10 E I in_X8_toss_X8 lk_X8_toss_118 dX8_toss_24 ?_
      refine lv_if_eq (tgt := 53) hx hb dX8_toss_27 (by decide) (fun c27 => ?_) (fun c27 => ?_)
      · replace hF := gw_if1 c27 hF
        refine lv_bipush (v := (-103)) hx hb dX8_toss_53 (by decide) ?_
        exact gw_iret E I hr hlocks rfl (Prod.mk.inj (Option.some.inj hF)).1 (Prod.mk.inj (Option.some.inj hF)).2 dX8_toss_55
      · replace hF := gw_if0 c27 hF
        refine lv_aload_n hx hb dX8_toss_30 rfl (lv_at hl 0 rfl) ?_
        refine lv_iload_n hx hb dX8_toss_31 rfl (lv_at hl 1 rfl) ?_
        replace hF := gw_bdE hF
        obtain ⟨r32, e32, hF⟩ := hF
        refine gw_calli I (gw_runV E I (ok_X8_isFull l hD t0 v1 _ e32) (cwV 1 E.1.2.2.2.2 gX8_toss_X8_isFull rfl rfl rfl (by decide +kernel) ⟨Nat.le_of_ble_eq_true rfl, Nat.le_of_ble_eq_true rfl⟩) (by decide) rfl rfl rfl hl.1 rfl (Nat.le_of_ble_eq_true rfl) dX8_toss_32) (fun H locs I => ?_)
        refine lv_if_ne (tgt := 53) hx hb dX8_toss_35 (by decide) (fun c35 => ?_) (fun c35 => ?_)
        · replace hF := gw_if0 c35 hF
          refine lv_bipush (v := (-103)) hx hb dX8_toss_53 (by decide) ?_
          exact gw_iret E I hr hlocks rfl (Prod.mk.inj (Option.some.inj hF)).1 (Prod.mk.inj (Option.some.inj hF)).2 dX8_toss_55
        · replace hF := gw_if1 c35 hF
          refine lv_aload_n hx hb dX8_toss_38 rfl (lv_at hl 0 rfl) ?_
          refine lv_aload_n hx hb dX8_toss_39 rfl (lv_at hl 0 rfl) ?_
          refine gf_M_0_11 E I in_X8_toss_X8 lk_X8_toss_34 dX8_toss_40 ?_
          refine lv_iconst (v := 0) hx hb dX8_toss_43 (by decide) ?_
          replace hF := gw_ifn hF
          obtain ⟨hz44, hF⟩ := hF
          refine gw_iald E I 9 (by decide) rfl hz44 dX8_toss_44 ?_
          refine lv_iload_n hx hb dX8_toss_45 rfl (lv_at hl 1 rfl) ?_
          refine lv_iload_n hx hb dX8_toss_46 rfl (lv_at hl 2 rfl) ?_
          replace hF := gw_bdE hF
          obtain ⟨r47, e47, hF⟩ := hF
          refine gw_calli I (gw_runV E I (ok_X8_tenthsOf l hD t0 (rdI t0 9 (Int32.toNatClampNeg 0)) v1 v2 _ e47) (cwV 3 E.1.2.2.2.2 gX8_toss_X8_tenthsOf rfl rfl rfl (by decide +kernel) ⟨Nat.le_of_ble_eq_true rfl, Nat.le_of_ble_eq_true rfl⟩) (by decide) rfl rfl rfl hl.1 rfl (Nat.le_of_ble_eq_true rfl) dX8_toss_47) (fun H locs I => ?_)
          refine lv_if_ne (tgt := 56) hx hb dX8_toss_50 (by decide) (fun c50 => ?_) (fun c50 => ?_)
          · replace hF := gw_if0 c50 hF
            refine lv_iload_n hx hb dX8_toss_56 rfl (lv_at hl 2 rfl) ?_
            refine lv_iconst (v := 1) hx hb dX8_toss_57 (by decide) ?_
            refine lv_icmp_ne (tgt := 69) hx hb dX8_toss_58 (by decide) (fun c58 => ?_) (fun c58 => ?_)
            · replace hF := gw_if0 c58 hF
              refine lv_iload_n hx hb dX8_toss_69 rfl (lv_at hl 1 rfl) ?_
              exact hJ70 v1 v2 v1 t0 _ _ _ (lv_sub hl [0, 1, 2] rfl) I hF
            · replace hF := gw_if1 c58 hF
              refine lv_aload_n hx hb dX8_toss_61 rfl (lv_at hl 0 rfl) ?_
              refine lv_iload_n hx hb dX8_toss_62 rfl (lv_at hl 1 rfl) ?_
              refine gw_calli I (gw_runV E I (ok_X8_nextOf l hD t0 v1 _ rfl) (cwV 1 E.1.2.2.2.2 gX8_toss_X8_nextOf rfl rfl rfl (by decide +kernel) ⟨Nat.le_of_ble_eq_true rfl, Nat.le_of_ble_eq_true rfl⟩) (by decide) rfl rfl rfl hl.1 rfl (Nat.le_of_ble_eq_true rfl) dX8_toss_63) (fun H locs I => ?_)
              refine lv_goto (tgt := 70) hx hb dX8_toss_66 (by decide) ?_
              exact hJ70 v1 v2 (fX8_nextOf v1 t0) t0 _ _ _ (lv_sub hl [0, 1, 2] rfl) I hF
          · replace hF := gw_if1 c50 hF
            refine lv_bipush (v := (-103)) hx hb dX8_toss_53 (by decide) ?_
            exact gw_iret E I hr hlocks rfl (Prod.mk.inj (Option.some.inj hF)).1 (Prod.mk.inj (Option.some.inj hF)).2 dX8_toss_55
    · replace hF := gw_if1 c17 hF
      refine lv_bipush (v := (-102)) hx hb dX8_toss_20 (by decide) ?_
      exact gw_iret E I hr hlocks rfl (Prod.mk.inj (Option.some.inj hF)).1 (Prod.mk.inj (Option.some.inj hF)).2 dX8_toss_22
  · replace hF := gw_if1 c5 hF
    refine lv_bipush (v := (-101)) hx hb dX8_toss_8 (by decide) ?_
    exact gw_iret E I hr hlocks rfl (Prod.mk.inj (Option.some.inj hF)).1 (Prod.mk.inj (Option.some.inj hF)).2 dX8_toss_10
