/-! The contracts: each method does what its function says: written by wip/whole/genall.py. -/
abbrev rmX3_add : Room := { frames := 0, cells := 0, slots := 0, locals := 0 }
theorem lk_X3_add_9 : Cond.fieldLink RX3 9 "ThrownSacks$Row" "kinds" "[I" ∈ wsX3_add := by decide +kernel
theorem lk_X3_add_15 : Cond.fieldLink RX3 15 "ThrownSacks$Row" "towns" "[I" ∈ wsX3_add := by decide +kernel
theorem lk_X3_add_18 : Cond.fieldLink RX3 18 "ThrownSacks$Row" "harms" "[Z" ∈ wsX3_add := by decide +kernel
theorem lk_X3_add_22 : Cond.fieldLink RX3 22 "ThrownSacks$Row" "size" "I" ∈ wsX3_add := by decide +kernel
theorem in_X3_add_X3 : ∀ w ∈ u_ws RX3 TX3 4, w ∈ wsX3_add := by decide +kernel
set_option maxHeartbeats 4000000 in
set_option maxRecDepth 100000 in
theorem ok_X3_add (l : Launch) {D : va_G} {g : gw_G} {tG : Nat} {ad : Nat → Nat} {A : Nat → Prop} (hD : gw_D A 83 ad) (t0 : gw_S) (q0 : Nat) (v1 : Int32) (v2 : Int32) (v3 : Int32) (hq0 : gw_row q0 = true) (tz : gw_S) (hF : fX3_add q0 v1 v2 v3 t0 = some tz) : Met l yX3_add wsX3_add rmX3_add (gw_Pc D g tG (tC g ad) 83 ad A [.ref (ad q0), .int v1, .int v2, .int v3] t0) (gw_Qv D (tC g ad) 83 ad A tz) 0 0 A := by
  unfold fX3_add at hF
  refine gw_met (by decide) rfl hD (Nat.le_of_ble_eq_true rfl) (fun p e s m args below meth c E hr hlocks I ls hl => ?_)
  have hx := E.1.1
  have hb := E.1.2.1
  have hl : lv_has ls 4 [(0, .ref (ad q0)), (1, .int v1), (2, .int v2), (3, .int v3)] := hl
  refine lv_aload_n hx hb dX3_add_0 rfl (lv_at hl 0 rfl) ?_
  refine gf_row_3 hq0 E I in_X3_add_X3 lk_X3_add_22 dX3_add_1 ?_
  refine lv_if_lt (tgt := 59) hx hb dX3_add_4 (by decide) (fun c4 => ?_) (fun c4 => ?_)
  · replace hF := gw_if1 c4 hF
    exact gw_vret E I hr hlocks (Option.some.inj hF) dX3_add_59
  · replace hF := gw_if0 c4 hF
    refine lv_aload_n hx hb dX3_add_7 rfl (lv_at hl 0 rfl) ?_
    refine gf_row_3 hq0 E I in_X3_add_X3 lk_X3_add_22 dX3_add_8 ?_
    refine lv_aload_n hx hb dX3_add_11 rfl (lv_at hl 0 rfl) ?_
    refine gf_row_0 hq0 E I in_X3_add_X3 lk_X3_add_9 dX3_add_12 ?_
    refine gw_alen E I (q0 + 1) (tC_lt1 hq0) (tC_ra1 hq0) (v := 9) (by decide) dX3_add_15 ?_
    refine lv_icmp_ge (tgt := 59) hx hb dX3_add_16 (by decide) (fun c16 => ?_) (fun c16 => ?_)
    · replace hF := gw_if1 c16 hF
      exact gw_vret E I hr hlocks (Option.some.inj hF) dX3_add_59
    · replace hF := gw_if0 c16 hF
      refine lv_aload_n hx hb dX3_add_19 rfl (lv_at hl 0 rfl) ?_
      refine gf_row_0 hq0 E I in_X3_add_X3 lk_X3_add_9 dX3_add_20 ?_
      refine lv_aload_n hx hb dX3_add_23 rfl (lv_at hl 0 rfl) ?_
      refine gf_row_3 hq0 E I in_X3_add_X3 lk_X3_add_22 dX3_add_24 ?_
      refine lv_iload_n hx hb dX3_add_27 rfl (lv_at hl 1 rfl) ?_
      replace hF := gw_ifn hF
      obtain ⟨hz28, hF⟩ := hF
      replace hF := gw_nmE hF
      obtain ⟨t_28, et_28, hF⟩ := hF
      refine gw_iast E I (q0 + 1) (tC_lt1 hq0) (fun _ => tC_ra1 hq0) hz28 et_28 dX3_add_28 (fun H locs I => ?_)
      refine lv_aload_n hx hb dX3_add_29 rfl (lv_at hl 0 rfl) ?_
      refine gf_row_1 hq0 E I in_X3_add_X3 lk_X3_add_15 dX3_add_30 ?_
      refine lv_aload_n hx hb dX3_add_33 rfl (lv_at hl 0 rfl) ?_
      refine gf_row_3 hq0 E I in_X3_add_X3 lk_X3_add_22 dX3_add_34 ?_
      refine lv_iload_n hx hb dX3_add_37 rfl (lv_at hl 2 rfl) ?_
      replace hF := gw_ifn hF
      obtain ⟨hz38, hF⟩ := hF
      replace hF := gw_nmE hF
      obtain ⟨t_38, et_38, hF⟩ := hF
      refine gw_iast E I (q0 + 2) (tC_lt2 hq0) (fun _ => tC_ra2 hq0) hz38 et_38 dX3_add_38 (fun H locs I => ?_)
      refine lv_aload_n hx hb dX3_add_39 rfl (lv_at hl 0 rfl) ?_
      refine gf_row_2 hq0 E I in_X3_add_X3 lk_X3_add_18 dX3_add_40 ?_
      refine lv_aload_n hx hb dX3_add_43 rfl (lv_at hl 0 rfl) ?_
      refine gf_row_3 hq0 E I in_X3_add_X3 lk_X3_add_22 dX3_add_44 ?_
      refine lv_iload_n hx hb dX3_add_47 rfl (lv_at hl 3 rfl) ?_
      replace hF := gw_ifn hF
      obtain ⟨hz48, hF⟩ := hF
      replace hF := gw_ifn hF
      obtain ⟨hy48, hF⟩ := hF
      replace hF := gw_nmE hF
      obtain ⟨t_48, et_48, hF⟩ := hF
      refine gw_zast E I (q0 + 3) (tC_lt3 hq0) (fun _ => tC_ra3 hq0) hz48 hy48 et_48 dX3_add_48 (fun H locs I => ?_)
      refine lv_aload_n hx hb dX3_add_49 rfl (lv_at hl 0 rfl) ?_
      refine lv_dup hx hb dX3_add_50 rfl ?_
      refine gf_row_3 hq0 E I in_X3_add_X3 lk_X3_add_22 dX3_add_51 ?_
      refine lv_iconst (v := 1) hx hb dX3_add_54 (by decide) ?_
      refine lv_iadd hx hb dX3_add_55 ?_
      replace hF := gw_nmE hF
      obtain ⟨t_56, et_56, hF⟩ := hF
      refine gp_row_3 hq0 E I in_X3_add_X3 lk_X3_add_22 et_56 dX3_add_56 (fun H locs I => ?_)
      exact gw_vret E I hr hlocks (Option.some.inj hF) dX3_add_59
abbrev rmX7_parcel : Room := { frames := 2, cells := 0, slots := 0, locals := 42 }
theorem lk_X7_parcel_26 : Cond.fieldLink RX7 26 "ThrownSacks" "now" "LThrownSacks$Standing;" ∈ wsX7_parcel := by decide +kernel
theorem lk_X7_parcel_112 : Cond.fieldLink RX7 112 "ThrownSacks$Row" "size" "I" ∈ wsX7_parcel := by decide +kernel
theorem lk_X7_parcel_128 : Cond.fieldLink RX7 128 "ThrownSacks$Standing" "belt" "LThrownSacks$Row;" ∈ wsX7_parcel := by decide +kernel
theorem in_X7_parcel_X3 : ∀ w ∈ u_ws RX3 TX3 4, w ∈ wsX7_parcel := by decide +kernel
theorem in_X7_parcel_X4 : ∀ w ∈ u_ws RX4 TX4 8, w ∈ wsX7_parcel := by decide +kernel
theorem in_X7_parcel_X7 : ∀ w ∈ u_ws RX7 TX7 9, w ∈ wsX7_parcel := by decide +kernel
set_option maxHeartbeats 4000000 in
set_option maxRecDepth 100000 in
theorem ok_X7_parcel (l : Launch) {D : va_G} {g : gw_G} {tG : Nat} {ad : Nat → Nat} {A : Nat → Prop} (hD : gw_D A 83 ad) (t0 : gw_S) (v1 : Int32) (v2 : Int32) (r0 : Int32) (tz : gw_S) (hF : fX7_parcel v1 v2 t0 = some (r0, tz)) : Met l yX7_parcel wsX7_parcel rmX7_parcel (gw_Pc D g tG (tC g ad) 83 ad A [.ref (ad 0), .int v1, .int v2] t0) (gw_Qi D (tC g ad) 83 ad A r0 tz) 0 0 A := by
  unfold fX7_parcel at hF
  refine gw_met (by decide) rfl hD (Nat.le_of_ble_eq_true rfl) (fun p e s m args below meth c E hr hlocks I ls hl => ?_)
  have hx := E.1.1
  have hb := E.1.2.1
  have hl : lv_has ls 3 [(0, .ref (ad 0)), (1, .int v1), (2, .int v2)] := hl
  refine lv_iload_n hx hb dX7_parcel_0 rfl (lv_at hl 1 rfl) ?_
  refine gw_calli I (gw_runS E I (ok_X7_isKind l hD t0 v1 _ rfl) (va_cwS 1 E.1.2.2.2.2 gX7_parcel_X7_isKind rfl rfl rfl (by decide +kernel) ⟨Nat.le_of_ble_eq_true rfl, Nat.le_of_ble_eq_true rfl⟩) rfl hl.1 rfl (Nat.le_of_ble_eq_true rfl) dX7_parcel_1) (fun H locs I => ?_)
  refine lv_if_ne (tgt := 10) hx hb dX7_parcel_4 (by decide) (fun c4 => ?_) (fun c4 => ?_)
  · replace hF := gw_if0 c4 hF
    refine lv_aload_n hx hb dX7_parcel_10 rfl (lv_at hl 0 rfl) ?_
    refine lv_iload_n hx hb dX7_parcel_11 rfl (lv_at hl 2 rfl) ?_
    refine gw_calli I (gw_runV E I (ok_X7_isKnown l hD t0 v2 _ rfl) (cwV 1 E.1.2.2.2.2 gX7_parcel_X7_isKnown rfl rfl rfl (by decide +kernel) ⟨Nat.le_of_ble_eq_true rfl, Nat.le_of_ble_eq_true rfl⟩) (by decide) rfl rfl rfl hl.1 rfl (Nat.le_of_ble_eq_true rfl) dX7_parcel_12) (fun H locs I => ?_)
    refine lv_if_ne (tgt := 21) hx hb dX7_parcel_15 (by decide) (fun c15 => ?_) (fun c15 => ?_)
    · replace hF := gw_if0 c15 hF
      refine lv_aload_n hx hb dX7_parcel_21 rfl (lv_at hl 0 rfl) ?_
      refine gf_C_0_2 E I in_X7_parcel_X7 lk_X7_parcel_26 dX7_parcel_22 ?_
      refine gf_C_7_2 E I in_X7_parcel_X4 lk_X7_parcel_128 dX7_parcel_25 ?_
      refine gf_row_3 (by decide) E I in_X7_parcel_X3 lk_X7_parcel_112 dX7_parcel_28 ?_
      refine lv_bipush (v := 8) hx hb dX7_parcel_31 (by decide) ?_
      refine lv_icmp_lt (tgt := 39) hx hb dX7_parcel_33 (by decide) (fun c33 => ?_) (fun c33 => ?_)
      · replace hF := gw_if1 c33 hF
        refine lv_aload_n hx hb dX7_parcel_39 rfl (lv_at hl 0 rfl) ?_
        refine gf_C_0_2 E I in_X7_parcel_X7 lk_X7_parcel_26 dX7_parcel_40 ?_
        refine gf_C_7_2 E I in_X7_parcel_X4 lk_X7_parcel_128 dX7_parcel_43 ?_
        refine lv_iload_n hx hb dX7_parcel_46 rfl (lv_at hl 1 rfl) ?_
        refine lv_iload_n hx hb dX7_parcel_47 rfl (lv_at hl 2 rfl) ?_
        refine lv_iconst (v := 0) hx hb dX7_parcel_48 (by decide) ?_
        replace hF := gw_bdE hF
        obtain ⟨t_49, e49, hF⟩ := hF
        refine gw_callv I (gw_runV E I (ok_X3_add l hD t0 27 v1 v2 0 (by decide) _ e49) (cwV 3 E.1.2.2.2.2 gX7_parcel_X3_add rfl rfl rfl (by decide +kernel) ⟨Nat.le_of_ble_eq_true rfl, Nat.le_of_ble_eq_true rfl⟩) (tC_lt0 (by decide)) (tC_row (by decide)) rfl rfl hl.1 rfl (Nat.le_of_ble_eq_true rfl) dX7_parcel_49) (fun H locs I => ?_)
        refine lv_aload_n hx hb dX7_parcel_52 rfl (lv_at hl 0 rfl) ?_
        refine gf_C_0_2 E I in_X7_parcel_X7 lk_X7_parcel_26 dX7_parcel_53 ?_
        refine gf_C_7_2 E I in_X7_parcel_X4 lk_X7_parcel_128 dX7_parcel_56 ?_
        refine gf_row_3 (by decide) E I in_X7_parcel_X3 lk_X7_parcel_112 dX7_parcel_59 ?_
        exact gw_iret E I hr hlocks rfl (Prod.mk.inj (Option.some.inj hF)).1 (Prod.mk.inj (Option.some.inj hF)).2 dX7_parcel_62
      · replace hF := gw_if0 c33 hF
        refine lv_bipush (v := (-104)) hx hb dX7_parcel_36 (by decide) ?_
        exact gw_iret E I hr hlocks rfl (Prod.mk.inj (Option.some.inj hF)).1 (Prod.mk.inj (Option.some.inj hF)).2 dX7_parcel_38
    · replace hF := gw_if1 c15 hF
      refine lv_bipush (v := (-101)) hx hb dX7_parcel_18 (by decide) ?_
      exact gw_iret E I hr hlocks rfl (Prod.mk.inj (Option.some.inj hF)).1 (Prod.mk.inj (Option.some.inj hF)).2 dX7_parcel_20
  · replace hF := gw_if1 c4 hF
    refine lv_bipush (v := (-102)) hx hb dX7_parcel_7 (by decide) ?_
    exact gw_iret E I hr hlocks rfl (Prod.mk.inj (Option.some.inj hF)).1 (Prod.mk.inj (Option.some.inj hF)).2 dX7_parcel_9
abbrev rmX3_kindAt : Room := { frames := 0, cells := 0, slots := 0, locals := 0 }
theorem lk_X3_kindAt_9 : Cond.fieldLink RX3 9 "ThrownSacks$Row" "kinds" "[I" ∈ wsX3_kindAt := by decide +kernel
theorem lk_X3_kindAt_22 : Cond.fieldLink RX3 22 "ThrownSacks$Row" "size" "I" ∈ wsX3_kindAt := by decide +kernel
theorem in_X3_kindAt_X3 : ∀ w ∈ u_ws RX3 TX3 4, w ∈ wsX3_kindAt := by decide +kernel
set_option maxHeartbeats 4000000 in
set_option maxRecDepth 100000 in
theorem ok_X3_kindAt (l : Launch) {D : va_G} {g : gw_G} {tG : Nat} {ad : Nat → Nat} {A : Nat → Prop} (hD : gw_D A 83 ad) (t0 : gw_S) (q0 : Nat) (v1 : Int32) (hq0 : gw_row q0 = true) (r0 : Int32) (hF : fX3_kindAt q0 v1 t0 = some r0) : Met l yX3_kindAt wsX3_kindAt rmX3_kindAt (gw_Pc D g tG (tC g ad) 83 ad A [.ref (ad q0), .int v1] t0) (gw_Qi D (tC g ad) 83 ad A r0 t0) 0 0 A := by
  unfold fX3_kindAt at hF
  refine gw_met (by decide) rfl hD (Nat.le_of_ble_eq_true rfl) (fun p e s m args below meth c E hr hlocks I ls hl => ?_)
  have hx := E.1.1
  have hb := E.1.2.1
  have hl : lv_has ls 2 [(0, .ref (ad q0)), (1, .int v1)] := hl
  refine lv_iload_n hx hb dX3_kindAt_0 rfl (lv_at hl 1 rfl) ?_
  refine lv_if_lt (tgt := 21) hx hb dX3_kindAt_1 (by decide) (fun c1 => ?_) (fun c1 => ?_)
  · replace hF := gw_if1 c1 hF
    refine lv_iconst (v := (-1)) hx hb dX3_kindAt_21 (by decide) ?_
    exact gw_iret E I hr hlocks rfl (Option.some.inj hF) rfl dX3_kindAt_22
  · replace hF := gw_if0 c1 hF
    refine lv_iload_n hx hb dX3_kindAt_4 rfl (lv_at hl 1 rfl) ?_
    refine lv_aload_n hx hb dX3_kindAt_5 rfl (lv_at hl 0 rfl) ?_
    refine gf_row_3 hq0 E I in_X3_kindAt_X3 lk_X3_kindAt_22 dX3_kindAt_6 ?_
    refine lv_icmp_ge (tgt := 21) hx hb dX3_kindAt_9 (by decide) (fun c9 => ?_) (fun c9 => ?_)
    · replace hF := gw_if1 c9 hF
      refine lv_iconst (v := (-1)) hx hb dX3_kindAt_21 (by decide) ?_
      exact gw_iret E I hr hlocks rfl (Option.some.inj hF) rfl dX3_kindAt_22
    · replace hF := gw_if0 c9 hF
      refine lv_aload_n hx hb dX3_kindAt_12 rfl (lv_at hl 0 rfl) ?_
      refine gf_row_0 hq0 E I in_X3_kindAt_X3 lk_X3_kindAt_9 dX3_kindAt_13 ?_
      refine lv_iload_n hx hb dX3_kindAt_16 rfl (lv_at hl 1 rfl) ?_
      replace hF := gw_ifn hF
      obtain ⟨hz17, hF⟩ := hF
      refine gw_iald E I (q0 + 1) (tC_lt1 hq0) (tC_ra1 hq0) hz17 dX3_kindAt_17 ?_
      refine lv_goto (tgt := 22) hx hb dX3_kindAt_18 (by decide) ?_
      exact gw_iret E I hr hlocks rfl (Option.some.inj hF) rfl dX3_kindAt_22
abbrev rmX3_townAt : Room := { frames := 0, cells := 0, slots := 0, locals := 0 }
theorem lk_X3_townAt_15 : Cond.fieldLink RX3 15 "ThrownSacks$Row" "towns" "[I" ∈ wsX3_townAt := by decide +kernel
theorem lk_X3_townAt_22 : Cond.fieldLink RX3 22 "ThrownSacks$Row" "size" "I" ∈ wsX3_townAt := by decide +kernel
theorem in_X3_townAt_X3 : ∀ w ∈ u_ws RX3 TX3 4, w ∈ wsX3_townAt := by decide +kernel
set_option maxHeartbeats 4000000 in
set_option maxRecDepth 100000 in
theorem ok_X3_townAt (l : Launch) {D : va_G} {g : gw_G} {tG : Nat} {ad : Nat → Nat} {A : Nat → Prop} (hD : gw_D A 83 ad) (t0 : gw_S) (q0 : Nat) (v1 : Int32) (hq0 : gw_row q0 = true) (r0 : Int32) (hF : fX3_townAt q0 v1 t0 = some r0) : Met l yX3_townAt wsX3_townAt rmX3_townAt (gw_Pc D g tG (tC g ad) 83 ad A [.ref (ad q0), .int v1] t0) (gw_Qi D (tC g ad) 83 ad A r0 t0) 0 0 A := by
  unfold fX3_townAt at hF
  refine gw_met (by decide) rfl hD (Nat.le_of_ble_eq_true rfl) (fun p e s m args below meth c E hr hlocks I ls hl => ?_)
  have hx := E.1.1
  have hb := E.1.2.1
  have hl : lv_has ls 2 [(0, .ref (ad q0)), (1, .int v1)] := hl
  refine lv_iload_n hx hb dX3_townAt_0 rfl (lv_at hl 1 rfl) ?_
  refine lv_if_lt (tgt := 21) hx hb dX3_townAt_1 (by decide) (fun c1 => ?_) (fun c1 => ?_)
  · replace hF := gw_if1 c1 hF
    refine lv_iconst (v := (-1)) hx hb dX3_townAt_21 (by decide) ?_
    exact gw_iret E I hr hlocks rfl (Option.some.inj hF) rfl dX3_townAt_22
  · replace hF := gw_if0 c1 hF
    refine lv_iload_n hx hb dX3_townAt_4 rfl (lv_at hl 1 rfl) ?_
    refine lv_aload_n hx hb dX3_townAt_5 rfl (lv_at hl 0 rfl) ?_
    refine gf_row_3 hq0 E I in_X3_townAt_X3 lk_X3_townAt_22 dX3_townAt_6 ?_
    refine lv_icmp_ge (tgt := 21) hx hb dX3_townAt_9 (by decide) (fun c9 => ?_) (fun c9 => ?_)
    · replace hF := gw_if1 c9 hF
      refine lv_iconst (v := (-1)) hx hb dX3_townAt_21 (by decide) ?_
      exact gw_iret E I hr hlocks rfl (Option.some.inj hF) rfl dX3_townAt_22
    · replace hF := gw_if0 c9 hF
      refine lv_aload_n hx hb dX3_townAt_12 rfl (lv_at hl 0 rfl) ?_
      refine gf_row_1 hq0 E I in_X3_townAt_X3 lk_X3_townAt_15 dX3_townAt_13 ?_
      refine lv_iload_n hx hb dX3_townAt_16 rfl (lv_at hl 1 rfl) ?_
      replace hF := gw_ifn hF
      obtain ⟨hz17, hF⟩ := hF
      refine gw_iald E I (q0 + 2) (tC_lt2 hq0) (tC_ra2 hq0) hz17 dX3_townAt_17 ?_
      refine lv_goto (tgt := 22) hx hb dX3_townAt_18 (by decide) ?_
      exact gw_iret E I hr hlocks rfl (Option.some.inj hF) rfl dX3_townAt_22
abbrev rmX7_belt : Room := { frames := 1, cells := 0, slots := 0, locals := 21 }
theorem lk_X7_belt_26 : Cond.fieldLink RX7 26 "ThrownSacks" "now" "LThrownSacks$Standing;" ∈ wsX7_belt := by decide +kernel
theorem lk_X7_belt_112 : Cond.fieldLink RX7 112 "ThrownSacks$Row" "size" "I" ∈ wsX7_belt := by decide +kernel
theorem lk_X7_belt_128 : Cond.fieldLink RX7 128 "ThrownSacks$Standing" "belt" "LThrownSacks$Row;" ∈ wsX7_belt := by decide +kernel
theorem in_X7_belt_X3 : ∀ w ∈ u_ws RX3 TX3 4, w ∈ wsX7_belt := by decide +kernel
theorem in_X7_belt_X4 : ∀ w ∈ u_ws RX4 TX4 8, w ∈ wsX7_belt := by decide +kernel
theorem in_X7_belt_X7 : ∀ w ∈ u_ws RX7 TX7 9, w ∈ wsX7_belt := by decide +kernel
set_option maxHeartbeats 4000000 in
set_option maxRecDepth 100000 in
theorem ok_X7_belt (l : Launch) {D : va_G} {g : gw_G} {tG : Nat} {ad : Nat → Nat} {A : Nat → Prop} (hD : gw_D A 83 ad) (t0 : gw_S) (v1 : Int32) (v2 : Int32) (r0 : Int32) (hF : fX7_belt v1 v2 t0 = some r0) : Met l yX7_belt wsX7_belt rmX7_belt (gw_Pc D g tG (tC g ad) 83 ad A [.ref (ad 0), .int v1, .int v2] t0) (gw_Qi D (tC g ad) 83 ad A r0 t0) 0 0 A := by
  unfold fX7_belt at hF
  refine gw_met (by decide) rfl hD (Nat.le_of_ble_eq_true rfl) (fun p e s m args below meth c E hr hlocks I ls hl => ?_)
  have hx := E.1.1
  have hb := E.1.2.1
  have hl : lv_has ls 3 [(0, .ref (ad 0)), (1, .int v1), (2, .int v2)] := hl
  refine lv_iload_n hx hb dX7_belt_0 rfl (lv_at hl 1 rfl) ?_
  refine lv_if_lt (tgt := 18) hx hb dX7_belt_1 (by decide) (fun c1 => ?_) (fun c1 => ?_)
  · replace hF := gw_if1 c1 hF
    refine lv_bipush (v := (-101)) hx hb dX7_belt_18 (by decide) ?_
    exact gw_iret E I hr hlocks rfl (Option.some.inj hF) rfl dX7_belt_20
  · replace hF := gw_if0 c1 hF
    refine lv_iload_n hx hb dX7_belt_4 rfl (lv_at hl 1 rfl) ?_
    refine lv_aload_n hx hb dX7_belt_5 rfl (lv_at hl 0 rfl) ?_
    refine gf_C_0_2 E I in_X7_belt_X7 lk_X7_belt_26 dX7_belt_6 ?_
    refine gf_C_7_2 E I in_X7_belt_X4 lk_X7_belt_128 dX7_belt_9 ?_
    refine gf_row_3 (by decide) E I in_X7_belt_X3 lk_X7_belt_112 dX7_belt_12 ?_
    refine lv_icmp_lt (tgt := 21) hx hb dX7_belt_15 (by decide) (fun c15 => ?_) (fun c15 => ?_)
    · replace hF := gw_if1 c15 hF
      refine lv_iload_n hx hb dX7_belt_21 rfl (lv_at hl 2 rfl) ?_
      by_cases c22_0 : v2 = 0
      · replace hF := gw_if1 c22_0 hF
        refine lv_tableIn (off := 26) (tgt := 48) hx hb dX7_belt_22 (by rw [gw_sw c22_0 (a := 0) (by decide)]; decide) (by rw [gw_sw c22_0 (a := 0) (by decide)]; decide) (by rw [gw_sw c22_0 (a := 0) (by decide)]; rfl) (by decide) ?_
        refine lv_aload_n hx hb dX7_belt_48 rfl (lv_at hl 0 rfl) ?_
        refine gf_C_0_2 E I in_X7_belt_X7 lk_X7_belt_26 dX7_belt_49 ?_
        refine gf_C_7_2 E I in_X7_belt_X4 lk_X7_belt_128 dX7_belt_52 ?_
        refine lv_iload_n hx hb dX7_belt_55 rfl (lv_at hl 1 rfl) ?_
        replace hF := gw_bdE hF
        obtain ⟨r56, e56, hF⟩ := hF
        refine gw_calli I (gw_runV E I (ok_X3_kindAt l hD t0 27 v1 (by decide) _ e56) (cwV 1 E.1.2.2.2.2 gX7_belt_X3_kindAt rfl rfl rfl (by decide +kernel) ⟨Nat.le_of_ble_eq_true rfl, Nat.le_of_ble_eq_true rfl⟩) (tC_lt0 (by decide)) (tC_row (by decide)) rfl rfl hl.1 rfl (Nat.le_of_ble_eq_true rfl) dX7_belt_56) (fun H locs I => ?_)
        exact gw_iret E I hr hlocks rfl (Option.some.inj hF) rfl dX7_belt_59
      · replace hF := gw_if0 c22_0 hF
        by_cases c22_1 : v2 = 1
        · replace hF := gw_if1 c22_1 hF
          refine lv_tableIn (off := 38) (tgt := 60) hx hb dX7_belt_22 (by rw [gw_sw c22_1 (a := 1) (by decide)]; decide) (by rw [gw_sw c22_1 (a := 1) (by decide)]; decide) (by rw [gw_sw c22_1 (a := 1) (by decide)]; rfl) (by decide) ?_
          refine lv_aload_n hx hb dX7_belt_60 rfl (lv_at hl 0 rfl) ?_
          refine gf_C_0_2 E I in_X7_belt_X7 lk_X7_belt_26 dX7_belt_61 ?_
          refine gf_C_7_2 E I in_X7_belt_X4 lk_X7_belt_128 dX7_belt_64 ?_
          refine lv_iload_n hx hb dX7_belt_67 rfl (lv_at hl 1 rfl) ?_
          replace hF := gw_bdE hF
          obtain ⟨r68, e68, hF⟩ := hF
          refine gw_calli I (gw_runV E I (ok_X3_townAt l hD t0 27 v1 (by decide) _ e68) (cwV 1 E.1.2.2.2.2 gX7_belt_X3_townAt rfl rfl rfl (by decide +kernel) ⟨Nat.le_of_ble_eq_true rfl, Nat.le_of_ble_eq_true rfl⟩) (tC_lt0 (by decide)) (tC_row (by decide)) rfl rfl hl.1 rfl (Nat.le_of_ble_eq_true rfl) dX7_belt_68) (fun H locs I => ?_)
          exact gw_iret E I hr hlocks rfl (Option.some.inj hF) rfl dX7_belt_71
        · replace hF := gw_if0 c22_1 hF
          by_cases c22_2 : v2 = 2
          · replace hF := gw_if1 c22_2 hF
            refine lv_tableIn (off := 50) (tgt := 72) hx hb dX7_belt_22 (by rw [gw_sw c22_2 (a := 2) (by decide)]; decide) (by rw [gw_sw c22_2 (a := 2) (by decide)]; decide) (by rw [gw_sw c22_2 (a := 2) (by decide)]; rfl) (by decide) ?_
            refine lv_aload_n hx hb dX7_belt_72 rfl (lv_at hl 0 rfl) ?_
            refine gf_C_0_2 E I in_X7_belt_X7 lk_X7_belt_26 dX7_belt_73 ?_
            refine gf_C_7_2 E I in_X7_belt_X4 lk_X7_belt_128 dX7_belt_76 ?_
            refine lv_iload_n hx hb dX7_belt_79 rfl (lv_at hl 1 rfl) ?_
            replace hF := gw_bdE hF
            obtain ⟨r80, e80, hF⟩ := hF
            refine gw_calli I (gw_runV E I (ok_X3_kindAt l hD t0 27 v1 (by decide) _ e80) (cwV 1 E.1.2.2.2.2 gX7_belt_X3_kindAt rfl rfl rfl (by decide +kernel) ⟨Nat.le_of_ble_eq_true rfl, Nat.le_of_ble_eq_true rfl⟩) (tC_lt0 (by decide)) (tC_row (by decide)) rfl rfl hl.1 rfl (Nat.le_of_ble_eq_true rfl) dX7_belt_80) (fun H locs I => ?_)
            replace hF := gw_bdE hF
            obtain ⟨r83, e83, hF⟩ := hF
            refine gw_calli I (gw_runS E I (ok_X7_gripOf l hD t0 r80 _ e83) (va_cwS 1 E.1.2.2.2.2 gX7_belt_X7_gripOf rfl rfl rfl (by decide +kernel) ⟨Nat.le_of_ble_eq_true rfl, Nat.le_of_ble_eq_true rfl⟩) rfl hl.1 rfl (Nat.le_of_ble_eq_true rfl) dX7_belt_83) (fun H locs I => ?_)
            exact gw_iret E I hr hlocks rfl (Option.some.inj hF) rfl dX7_belt_86
          · replace hF := gw_if0 c22_2 hF
            refine lv_tableOut (tgt := 87) hx hb dX7_belt_22 (by have q0 := lv_neT c22_0 (a := 0) (by decide); have q1 := lv_neT c22_1 (a := 1) (by decide); have q2 := lv_neT c22_2 (a := 2) (by decide); omega) (by decide) ?_
            refine lv_bipush (v := (-102)) hx hb dX7_belt_87 (by decide) ?_
            exact gw_iret E I hr hlocks rfl (Option.some.inj hF) rfl dX7_belt_89
    · replace hF := gw_if0 c15 hF
      refine lv_bipush (v := (-101)) hx hb dX7_belt_18 (by decide) ?_
      exact gw_iret E I hr hlocks rfl (Option.some.inj hF) rfl dX7_belt_20
abbrev rmX7_isA : Room := { frames := 0, cells := 0, slots := 0, locals := 0 }
set_option maxHeartbeats 4000000 in
set_option maxRecDepth 100000 in
theorem ok_X7_isA (l : Launch) {D : va_G} {g : gw_G} {tG : Nat} {ad : Nat → Nat} {A : Nat → Prop} (hD : gw_D A 83 ad) (t0 : gw_S) (v0 : Int32) (v1 : Int32) (r0 : Int32) (hF : fX7_isA v0 v1 t0 = r0) : Met l yX7_isA wsX7_isA rmX7_isA (gw_Pc D g tG (tC g ad) 83 ad A [.int v0, .int v1] t0) (gw_Qi D (tC g ad) 83 ad A r0 t0) 0 0 A := by
  unfold fX7_isA at hF
  refine gw_met (by decide) rfl hD (Nat.le_of_ble_eq_true rfl) (fun p e s m args below meth c E hr hlocks I ls hl => ?_)
  have hx := E.1.1
  have hb := E.1.2.1
  have hl : lv_has ls 2 [(0, .int v0), (1, .int v1)] := hl
  have hJ19 : ∀ (H : Heap) (locs : List Loc) (ls : Array Slot), lv_has ls 2 [] → gw_I D (tC g ad) 83 ad A s.heap t0 H locs → fX7_isA_J19 t0 = r0 → W p l e rmX7_isA s m args below meth c H locs 0 0 (MQ below (gw_Qi D (tC g ad) 83 ad A r0 t0) args s 0 0 A) (F0 m 19 ls []) := by
    intro H locs ls hl I hF
    unfold fX7_isA_J19 at hF
    refine lv_iconst (v := 1) hx hb dX7_isA_19 (by decide) ?_
    refine lv_goto (tgt := 24) hx hb dX7_isA_20 (by decide) ?_
    exact gw_iret E I hr hlocks rfl hF rfl dX7_isA_24
  refine lv_iload_n hx hb dX7_isA_0 rfl (lv_at hl 0 rfl) ?_
  refine lv_iload_n hx hb dX7_isA_1 rfl (lv_at hl 1 rfl) ?_
  refine lv_icmp_eq (tgt := 19) hx hb dX7_isA_2 (by decide) (fun c2 => ?_) (fun c2 => ?_)
  · replace hF := gw_if1 c2 hF
    exact hJ19  _ _ _ (lv_sub hl [] rfl) I hF
  · replace hF := gw_if0 c2 hF
    refine lv_iload_n hx hb dX7_isA_5 rfl (lv_at hl 1 rfl) ?_
    refine lv_if_eq (tgt := 19) hx hb dX7_isA_6 (by decide) (fun c6 => ?_) (fun c6 => ?_)
    · replace hF := gw_if1 c6 hF
      exact hJ19  _ _ _ (lv_sub hl [] rfl) I hF
    · replace hF := gw_if0 c6 hF
      refine lv_iload_n hx hb dX7_isA_9 rfl (lv_at hl 0 rfl) ?_
      refine lv_iconst (v := 4) hx hb dX7_isA_10 (by decide) ?_
      refine lv_icmp_ne (tgt := 23) hx hb dX7_isA_11 (by decide) (fun c11 => ?_) (fun c11 => ?_)
      · replace hF := gw_if0 c11 hF
        refine lv_iconst (v := 0) hx hb dX7_isA_23 (by decide) ?_
        exact gw_iret E I hr hlocks rfl hF rfl dX7_isA_24
      · replace hF := gw_if1 c11 hF
        refine lv_iload_n hx hb dX7_isA_14 rfl (lv_at hl 1 rfl) ?_
        refine lv_iconst (v := 2) hx hb dX7_isA_15 (by decide) ?_
        refine lv_icmp_ne (tgt := 23) hx hb dX7_isA_16 (by decide) (fun c16 => ?_) (fun c16 => ?_)
        · replace hF := gw_if0 c16 hF
          refine lv_iconst (v := 0) hx hb dX7_isA_23 (by decide) ?_
          exact gw_iret E I hr hlocks rfl hF rfl dX7_isA_24
        · replace hF := gw_if1 c16 hF
          exact hJ19  _ _ _ (lv_sub hl [] rfl) I hF
abbrev rmX7_as : Room := { frames := 1, cells := 0, slots := 0, locals := 21 }
theorem lk_X7_as_26 : Cond.fieldLink RX7 26 "ThrownSacks" "now" "LThrownSacks$Standing;" ∈ wsX7_as := by decide +kernel
theorem lk_X7_as_112 : Cond.fieldLink RX7 112 "ThrownSacks$Row" "size" "I" ∈ wsX7_as := by decide +kernel
theorem lk_X7_as_128 : Cond.fieldLink RX7 128 "ThrownSacks$Standing" "belt" "LThrownSacks$Row;" ∈ wsX7_as := by decide +kernel
theorem in_X7_as_X3 : ∀ w ∈ u_ws RX3 TX3 4, w ∈ wsX7_as := by decide +kernel
theorem in_X7_as_X4 : ∀ w ∈ u_ws RX4 TX4 8, w ∈ wsX7_as := by decide +kernel
theorem in_X7_as_X7 : ∀ w ∈ u_ws RX7 TX7 9, w ∈ wsX7_as := by decide +kernel
set_option maxHeartbeats 4000000 in
set_option maxRecDepth 100000 in
theorem ok_X7_as (l : Launch) {D : va_G} {g : gw_G} {tG : Nat} {ad : Nat → Nat} {A : Nat → Prop} (hD : gw_D A 83 ad) (t0 : gw_S) (v1 : Int32) (v2 : Int32) (r0 : Int32) (hF : fX7_as v1 v2 t0 = some r0) : Met l yX7_as wsX7_as rmX7_as (gw_Pc D g tG (tC g ad) 83 ad A [.ref (ad 0), .int v1, .int v2] t0) (gw_Qi D (tC g ad) 83 ad A r0 t0) 0 0 A := by
  unfold fX7_as at hF
  refine gw_met (by decide) rfl hD (Nat.le_of_ble_eq_true rfl) (fun p e s m args below meth c E hr hlocks I ls hl => ?_)
  have hx := E.1.1
  have hb := E.1.2.1
  have hl : lv_has ls 3 [(0, .ref (ad 0)), (1, .int v1), (2, .int v2)] := hl
  refine lv_iload_n hx hb dX7_as_0 rfl (lv_at hl 1 rfl) ?_
  refine lv_if_lt (tgt := 18) hx hb dX7_as_1 (by decide) (fun c1 => ?_) (fun c1 => ?_)
  · replace hF := gw_if1 c1 hF
    refine lv_bipush (v := (-101)) hx hb dX7_as_18 (by decide) ?_
    exact gw_iret E I hr hlocks rfl (Option.some.inj hF) rfl dX7_as_20
  · replace hF := gw_if0 c1 hF
    refine lv_iload_n hx hb dX7_as_4 rfl (lv_at hl 1 rfl) ?_
    refine lv_aload_n hx hb dX7_as_5 rfl (lv_at hl 0 rfl) ?_
    refine gf_C_0_2 E I in_X7_as_X7 lk_X7_as_26 dX7_as_6 ?_
    refine gf_C_7_2 E I in_X7_as_X4 lk_X7_as_128 dX7_as_9 ?_
    refine gf_row_3 (by decide) E I in_X7_as_X3 lk_X7_as_112 dX7_as_12 ?_
    refine lv_icmp_lt (tgt := 21) hx hb dX7_as_15 (by decide) (fun c15 => ?_) (fun c15 => ?_)
    · replace hF := gw_if1 c15 hF
      refine lv_iload_n hx hb dX7_as_21 rfl (lv_at hl 2 rfl) ?_
      refine gw_calli I (gw_runS E I (ok_X7_isKind l hD t0 v2 _ rfl) (va_cwS 1 E.1.2.2.2.2 gX7_as_X7_isKind rfl rfl rfl (by decide +kernel) ⟨Nat.le_of_ble_eq_true rfl, Nat.le_of_ble_eq_true rfl⟩) rfl hl.1 rfl (Nat.le_of_ble_eq_true rfl) dX7_as_22) (fun H locs I => ?_)
      refine lv_if_ne (tgt := 31) hx hb dX7_as_25 (by decide) (fun c25 => ?_) (fun c25 => ?_)
      · replace hF := gw_if0 c25 hF
        refine lv_aload_n hx hb dX7_as_31 rfl (lv_at hl 0 rfl) ?_
        refine gf_C_0_2 E I in_X7_as_X7 lk_X7_as_26 dX7_as_32 ?_
        refine gf_C_7_2 E I in_X7_as_X4 lk_X7_as_128 dX7_as_35 ?_
        refine lv_iload_n hx hb dX7_as_38 rfl (lv_at hl 1 rfl) ?_
        replace hF := gw_bdE hF
        obtain ⟨r39, e39, hF⟩ := hF
        refine gw_calli I (gw_runV E I (ok_X3_kindAt l hD t0 27 v1 (by decide) _ e39) (cwV 1 E.1.2.2.2.2 gX7_as_X3_kindAt rfl rfl rfl (by decide +kernel) ⟨Nat.le_of_ble_eq_true rfl, Nat.le_of_ble_eq_true rfl⟩) (tC_lt0 (by decide)) (tC_row (by decide)) rfl rfl hl.1 rfl (Nat.le_of_ble_eq_true rfl) dX7_as_39) (fun H locs I => ?_)
        refine lv_iload_n hx hb dX7_as_42 rfl (lv_at hl 2 rfl) ?_
        refine gw_calli I (gw_runS E I (ok_X7_isA l hD t0 r39 v2 _ rfl) (va_cwS 2 E.1.2.2.2.2 gX7_as_X7_isA rfl rfl rfl (by decide +kernel) ⟨Nat.le_of_ble_eq_true rfl, Nat.le_of_ble_eq_true rfl⟩) rfl hl.1 rfl (Nat.le_of_ble_eq_true rfl) dX7_as_43) (fun H locs I => ?_)
        refine lv_if_eq (tgt := 63) hx hb dX7_as_46 (by decide) (fun c46 => ?_) (fun c46 => ?_)
        · replace hF := gw_if1 c46 hF
          refine lv_iconst (v := (-1)) hx hb dX7_as_63 (by decide) ?_
          exact gw_iret E I hr hlocks rfl (Option.some.inj hF) rfl dX7_as_64
        · replace hF := gw_if0 c46 hF
          refine lv_aload_n hx hb dX7_as_49 rfl (lv_at hl 0 rfl) ?_
          refine gf_C_0_2 E I in_X7_as_X7 lk_X7_as_26 dX7_as_50 ?_
          refine gf_C_7_2 E I in_X7_as_X4 lk_X7_as_128 dX7_as_53 ?_
          refine lv_iload_n hx hb dX7_as_56 rfl (lv_at hl 1 rfl) ?_
          replace hF := gw_bdE hF
          obtain ⟨r57, e57, hF⟩ := hF
          refine gw_calli I (gw_runV E I (ok_X3_townAt l hD t0 27 v1 (by decide) _ e57) (cwV 1 E.1.2.2.2.2 gX7_as_X3_townAt rfl rfl rfl (by decide +kernel) ⟨Nat.le_of_ble_eq_true rfl, Nat.le_of_ble_eq_true rfl⟩) (tC_lt0 (by decide)) (tC_row (by decide)) rfl rfl hl.1 rfl (Nat.le_of_ble_eq_true rfl) dX7_as_57) (fun H locs I => ?_)
          refine lv_goto (tgt := 64) hx hb dX7_as_60 (by decide) ?_
          exact gw_iret E I hr hlocks rfl (Option.some.inj hF) rfl dX7_as_64
      · replace hF := gw_if1 c25 hF
        refine lv_bipush (v := (-102)) hx hb dX7_as_28 (by decide) ?_
        exact gw_iret E I hr hlocks rfl (Option.some.inj hF) rfl dX7_as_30
    · replace hF := gw_if0 c15 hF
      refine lv_bipush (v := (-101)) hx hb dX7_as_18 (by decide) ?_
      exact gw_iret E I hr hlocks rfl (Option.some.inj hF) rfl dX7_as_20
abbrev rmX7_isFull : Room := { frames := 2, cells := 0, slots := 0, locals := 42 }
theorem lk_X7_isFull_19 : Cond.fieldLink RX7 19 "ThrownSacks" "plan" "LThrownSacks$Plan;" ∈ wsX7_isFull := by decide +kernel
theorem lk_X7_isFull_26 : Cond.fieldLink RX7 26 "ThrownSacks" "now" "LThrownSacks$Standing;" ∈ wsX7_isFull := by decide +kernel
theorem lk_X7_isFull_98 : Cond.fieldLink RX7 98 "ThrownSacks$Standing" "sacks" "[LThrownSacks$Row;" ∈ wsX7_isFull := by decide +kernel
theorem lk_X7_isFull_109 : Cond.fieldLink RX7 109 "ThrownSacks$Plan" "room" "[I" ∈ wsX7_isFull := by decide +kernel
theorem lk_X7_isFull_112 : Cond.fieldLink RX7 112 "ThrownSacks$Row" "size" "I" ∈ wsX7_isFull := by decide +kernel
theorem in_X7_isFull_X2 : ∀ w ∈ u_ws RX2 TX2 4, w ∈ wsX7_isFull := by decide +kernel
theorem in_X7_isFull_X3 : ∀ w ∈ u_ws RX3 TX3 4, w ∈ wsX7_isFull := by decide +kernel
theorem in_X7_isFull_X4 : ∀ w ∈ u_ws RX4 TX4 8, w ∈ wsX7_isFull := by decide +kernel
theorem in_X7_isFull_X7 : ∀ w ∈ u_ws RX7 TX7 9, w ∈ wsX7_isFull := by decide +kernel
set_option maxHeartbeats 4000000 in
set_option maxRecDepth 100000 in
theorem ok_X7_isFull (l : Launch) {D : va_G} {g : gw_G} {tG : Nat} {ad : Nat → Nat} {A : Nat → Prop} (hD : gw_D A 83 ad) (t0 : gw_S) (v1 : Int32) (r0 : Int32) (hF : fX7_isFull v1 t0 = some r0) : Met l yX7_isFull wsX7_isFull rmX7_isFull (gw_Pc D g tG (tC g ad) 83 ad A [.ref (ad 0), .int v1] t0) (gw_Qi D (tC g ad) 83 ad A r0 t0) 0 0 A := by
  unfold fX7_isFull at hF
  refine gw_met (by decide) rfl hD (Nat.le_of_ble_eq_true rfl) (fun p e s m args below meth c E hr hlocks I ls hl => ?_)
  have hx := E.1.1
  have hb := E.1.2.1
  have hl : lv_has ls 2 [(0, .ref (ad 0)), (1, .int v1)] := hl
  refine lv_aload_n hx hb dX7_isFull_0 rfl (lv_at hl 0 rfl) ?_
  refine lv_iload_n hx hb dX7_isFull_1 rfl (lv_at hl 1 rfl) ?_
  refine gw_calli I (gw_runV E I (ok_X7_isKnown l hD t0 v1 _ rfl) (cwV 1 E.1.2.2.2.2 gX7_isFull_X7_isKnown rfl rfl rfl (by decide +kernel) ⟨Nat.le_of_ble_eq_true rfl, Nat.le_of_ble_eq_true rfl⟩) (by decide) rfl rfl rfl hl.1 rfl (Nat.le_of_ble_eq_true rfl) dX7_isFull_2) (fun H locs I => ?_)
  refine lv_if_eq (tgt := 36) hx hb dX7_isFull_5 (by decide) (fun c5 => ?_) (fun c5 => ?_)
  · replace hF := gw_if1 c5 hF
    refine lv_iconst (v := 0) hx hb dX7_isFull_36 (by decide) ?_
    exact gw_iret E I hr hlocks rfl (Option.some.inj hF) rfl dX7_isFull_37
  · replace hF := gw_if0 c5 hF
    refine lv_aload_n hx hb dX7_isFull_8 rfl (lv_at hl 0 rfl) ?_
    refine gf_C_0_2 E I in_X7_isFull_X7 lk_X7_isFull_26 dX7_isFull_9 ?_
    refine gf_C_7_1 E I in_X7_isFull_X4 lk_X7_isFull_98 dX7_isFull_12 ?_
    refine lv_iload_n hx hb dX7_isFull_15 rfl (lv_at hl 1 rfl) ?_
    replace hF := gw_ifn hF
    obtain ⟨hz16, hF⟩ := hF
    refine gw_aald E I 9 (by decide) rfl hz16 dX7_isFull_16 ?_
    replace hF := gw_nmE hF
    obtain ⟨r16, er16, hF⟩ := hF
    replace hF := gw_ifn hF
    obtain ⟨hr16, hF⟩ := hF
    refine gw_topr er16 ?_
    refine gf_row_3 hr16 E I in_X7_isFull_X3 lk_X7_isFull_112 dX7_isFull_17 ?_
    refine lv_aload_n hx hb dX7_isFull_20 rfl (lv_at hl 0 rfl) ?_
    refine gf_C_0_1 E I in_X7_isFull_X7 lk_X7_isFull_19 dX7_isFull_21 ?_
    refine gf_C_3_1 E I in_X7_isFull_X2 lk_X7_isFull_109 dX7_isFull_24 ?_
    refine lv_iload_n hx hb dX7_isFull_27 rfl (lv_at hl 1 rfl) ?_
    replace hF := gw_ifn hF
    obtain ⟨hz28, hF⟩ := hF
    refine gw_iald E I 5 (by decide) rfl hz28 dX7_isFull_28 ?_
    refine lv_icmp_lt (tgt := 36) hx hb dX7_isFull_29 (by decide) (fun c29 => ?_) (fun c29 => ?_)
    · replace hF := gw_if1 c29 hF
      refine lv_iconst (v := 0) hx hb dX7_isFull_36 (by decide) ?_
      exact gw_iret E I hr hlocks rfl (Option.some.inj hF) rfl dX7_isFull_37
    · replace hF := gw_if0 c29 hF
      refine lv_iconst (v := 1) hx hb dX7_isFull_32 (by decide) ?_
      refine lv_goto (tgt := 37) hx hb dX7_isFull_33 (by decide) ?_
      exact gw_iret E I hr hlocks rfl (Option.some.inj hF) rfl dX7_isFull_37
abbrev rmX7_nextTo : Room := { frames := 0, cells := 0, slots := 0, locals := 0 }
set_option maxHeartbeats 4000000 in
set_option maxRecDepth 100000 in
theorem ok_X7_nextTo (l : Launch) {D : va_G} {g : gw_G} {tG : Nat} {ad : Nat → Nat} {A : Nat → Prop} (hD : gw_D A 83 ad) (t0 : gw_S) (v0 : Int32) (v1 : Int32) (r0 : Int32) (hF : fX7_nextTo v0 v1 t0 = r0) : Met l yX7_nextTo wsX7_nextTo rmX7_nextTo (gw_Pc D g tG (tC g ad) 83 ad A [.int v0, .int v1] t0) (gw_Qi D (tC g ad) 83 ad A r0 t0) 0 0 A := by
  unfold fX7_nextTo at hF
  refine gw_met (by decide) rfl hD (Nat.le_of_ble_eq_true rfl) (fun p e s m args below meth c E hr hlocks I ls hl => ?_)
  have hx := E.1.1
  have hb := E.1.2.1
  have hl : lv_has ls 2 [(0, .int v0), (1, .int v1)] := hl
  refine lv_iload_n hx hb dX7_nextTo_0 rfl (lv_at hl 0 rfl) ?_
  refine lv_iconst (v := 1) hx hb dX7_nextTo_1 (by decide) ?_
  refine lv_iadd hx hb dX7_nextTo_2 ?_
  refine lv_iload_n hx hb dX7_nextTo_3 rfl (lv_at hl 1 rfl) ?_
  refine lv_icmp_ge (tgt := 13) hx hb dX7_nextTo_4 (by decide) (fun c4 => ?_) (fun c4 => ?_)
  · replace hF := gw_if1 c4 hF
    refine lv_iload_n hx hb dX7_nextTo_13 rfl (lv_at hl 0 rfl) ?_
    refine lv_iconst (v := 1) hx hb dX7_nextTo_14 (by decide) ?_
    refine lv_isub hx hb dX7_nextTo_15 ?_
    exact gw_iret E I hr hlocks rfl hF rfl dX7_nextTo_16
  · replace hF := gw_if0 c4 hF
    refine lv_iload_n hx hb dX7_nextTo_7 rfl (lv_at hl 0 rfl) ?_
    refine lv_iconst (v := 1) hx hb dX7_nextTo_8 (by decide) ?_
    refine lv_iadd hx hb dX7_nextTo_9 ?_
    refine lv_goto (tgt := 16) hx hb dX7_nextTo_10 (by decide) ?_
    exact gw_iret E I hr hlocks rfl hF rfl dX7_nextTo_16
abbrev rmX7_tenthsAt : Room := { frames := 3, cells := 0, slots := 0, locals := 63 }
theorem lk_X7_tenthsAt_19 : Cond.fieldLink RX7 19 "ThrownSacks" "plan" "LThrownSacks$Plan;" ∈ wsX7_tenthsAt := by decide +kernel
theorem lk_X7_tenthsAt_91 : Cond.fieldLink RX7 91 "ThrownSacks$Plan" "hooks" "I" ∈ wsX7_tenthsAt := by decide +kernel
theorem lk_X7_tenthsAt_106 : Cond.fieldLink RX7 106 "ThrownSacks$Plan" "yards" "[I" ∈ wsX7_tenthsAt := by decide +kernel
theorem in_X7_tenthsAt_X2 : ∀ w ∈ u_ws RX2 TX2 4, w ∈ wsX7_tenthsAt := by decide +kernel
theorem in_X7_tenthsAt_X7 : ∀ w ∈ u_ws RX7 TX7 9, w ∈ wsX7_tenthsAt := by decide +kernel
set_option maxHeartbeats 4000000 in
set_option maxRecDepth 100000 in
theorem ok_X7_tenthsAt (l : Launch) {D : va_G} {g : gw_G} {tG : Nat} {ad : Nat → Nat} {A : Nat → Prop} (hD : gw_D A 83 ad) (t0 : gw_S) (v1 : Int32) (v2 : Int32) (v3 : Int32) (r0 : Int32) (hF : fX7_tenthsAt v1 v2 v3 t0 = some r0) : Met l yX7_tenthsAt wsX7_tenthsAt rmX7_tenthsAt (gw_Pc D g tG (tC g ad) 83 ad A [.ref (ad 0), .int v1, .int v2, .int v3] t0) (gw_Qi D (tC g ad) 83 ad A r0 t0) 0 0 A := by
  unfold fX7_tenthsAt at hF
  refine gw_met (by decide) rfl hD (Nat.le_of_ble_eq_true rfl) (fun p e s m args below meth c E hr hlocks I ls hl => ?_)
  have hx := E.1.1
  have hb := E.1.2.1
  have hl : lv_has ls 4 [(0, .ref (ad 0)), (1, .int v1), (2, .int v2), (3, .int v3)] := hl
  refine lv_aload_n hx hb dX7_tenthsAt_0 rfl (lv_at hl 0 rfl) ?_
  refine lv_iload_n hx hb dX7_tenthsAt_1 rfl (lv_at hl 2 rfl) ?_
  refine gw_calli I (gw_runV E I (ok_X7_isKnown l hD t0 v2 _ rfl) (cwV 1 E.1.2.2.2.2 gX7_tenthsAt_X7_isKnown rfl rfl rfl (by decide +kernel) ⟨Nat.le_of_ble_eq_true rfl, Nat.le_of_ble_eq_true rfl⟩) (by decide) rfl rfl rfl hl.1 rfl (Nat.le_of_ble_eq_true rfl) dX7_tenthsAt_2) (fun H locs I => ?_)
  refine lv_if_ne (tgt := 10) hx hb dX7_tenthsAt_5 (by decide) (fun c5 => ?_) (fun c5 => ?_)
  · replace hF := gw_if0 c5 hF
    refine lv_iload_n hx hb dX7_tenthsAt_10 rfl (lv_at hl 1 rfl) ?_
    refine lv_aload_n hx hb dX7_tenthsAt_11 rfl (lv_at hl 0 rfl) ?_
    refine gf_C_0_1 E I in_X7_tenthsAt_X7 lk_X7_tenthsAt_19 dX7_tenthsAt_12 ?_
    refine gf_C_3_0 E I in_X7_tenthsAt_X2 lk_X7_tenthsAt_106 dX7_tenthsAt_15 ?_
    refine lv_iload_n hx hb dX7_tenthsAt_18 rfl (lv_at hl 2 rfl) ?_
    replace hF := gw_ifn hF
    obtain ⟨hz19, hF⟩ := hF
    refine gw_iald E I 4 (by decide) rfl hz19 dX7_tenthsAt_19 ?_
    refine lv_aload_n hx hb dX7_tenthsAt_20 rfl (lv_at hl 0 rfl) ?_
    refine lv_iload_n hx hb dX7_tenthsAt_21 rfl (lv_at hl 2 rfl) ?_
    refine lv_aload_n hx hb dX7_tenthsAt_22 rfl (lv_at hl 0 rfl) ?_
    refine gf_C_0_1 E I in_X7_tenthsAt_X7 lk_X7_tenthsAt_19 dX7_tenthsAt_23 ?_
    refine gf_C_3_3 E I in_X7_tenthsAt_X2 lk_X7_tenthsAt_91 dX7_tenthsAt_26 ?_
    refine gw_calli I (gw_runS E I (ok_X7_nextTo l hD t0 v2 (rdI t0 3 3) _ rfl) (va_cwS 2 E.1.2.2.2.2 gX7_tenthsAt_X7_nextTo rfl rfl rfl (by decide +kernel) ⟨Nat.le_of_ble_eq_true rfl, Nat.le_of_ble_eq_true rfl⟩) rfl hl.1 rfl (Nat.le_of_ble_eq_true rfl) dX7_tenthsAt_29) (fun H locs I => ?_)
    replace hF := gw_bdE hF
    obtain ⟨r32, e32, hF⟩ := hF
    refine gw_calli I (gw_runV E I (ok_X7_isFull l hD t0 (fX7_nextTo v2 (rdI t0 3 3) t0) _ e32) (cwV 1 E.1.2.2.2.2 gX7_tenthsAt_X7_isFull rfl rfl rfl (by decide +kernel) ⟨Nat.le_of_ble_eq_true rfl, Nat.le_of_ble_eq_true rfl⟩) (by decide) rfl rfl rfl hl.1 rfl (Nat.le_of_ble_eq_true rfl) dX7_tenthsAt_32) (fun H locs I => ?_)
    refine lv_iload_n hx hb dX7_tenthsAt_35 rfl (lv_at hl 3 rfl) ?_
    replace hF := gw_bdE hF
    obtain ⟨r36, e36, hF⟩ := hF
    refine gw_calli I (gw_runS E I (ok_X7_tenthsOf l hD t0 v1 (rdI t0 4 (Int32.toNatClampNeg v2)) r32 v3 _ e36) (va_cwS 4 E.1.2.2.2.2 gX7_tenthsAt_X7_tenthsOf rfl rfl rfl (by decide +kernel) ⟨Nat.le_of_ble_eq_true rfl, Nat.le_of_ble_eq_true rfl⟩) rfl hl.1 rfl (Nat.le_of_ble_eq_true rfl) dX7_tenthsAt_36) (fun H locs I => ?_)
    exact gw_iret E I hr hlocks rfl (Option.some.inj hF) rfl dX7_tenthsAt_39
  · replace hF := gw_if1 c5 hF
    refine lv_iconst (v := 0) hx hb dX7_tenthsAt_8 (by decide) ?_
    exact gw_iret E I hr hlocks rfl (Option.some.inj hF) rfl dX7_tenthsAt_9
abbrev rmX3_harmGlass : Room := { frames := 0, cells := 0, slots := 0, locals := 0 }
theorem lk_X3_harmGlass_9 : Cond.fieldLink RX3 9 "ThrownSacks$Row" "kinds" "[I" ∈ wsX3_harmGlass := by decide +kernel
theorem lk_X3_harmGlass_18 : Cond.fieldLink RX3 18 "ThrownSacks$Row" "harms" "[Z" ∈ wsX3_harmGlass := by decide +kernel
theorem lk_X3_harmGlass_22 : Cond.fieldLink RX3 22 "ThrownSacks$Row" "size" "I" ∈ wsX3_harmGlass := by decide +kernel
theorem in_X3_harmGlass_X3 : ∀ w ∈ u_ws RX3 TX3 4, w ∈ wsX3_harmGlass := by decide +kernel
set_option maxHeartbeats 4000000 in
set_option maxRecDepth 100000 in
theorem ok_X3_harmGlass (l : Launch) {D : va_G} {g : gw_G} {tG : Nat} {ad : Nat → Nat} {A : Nat → Prop} (hD : gw_D A 83 ad) (t0 : gw_S) (q0 : Nat) (hq0 : gw_row q0 = true) (r0 : Int32) (tz : gw_S) (hF : fX3_harmGlass q0 t0 = some (r0, tz)) : Met l yX3_harmGlass wsX3_harmGlass rmX3_harmGlass (gw_Pc D g tG (tC g ad) 83 ad A [.ref (ad q0)] t0) (gw_Qi D (tC g ad) 83 ad A r0 tz) 0 0 A := by
  unfold fX3_harmGlass at hF
  refine gw_met (by decide) rfl hD (Nat.le_of_ble_eq_true rfl) (fun p e s m args below meth c E hr hlocks I ls hl => ?_)
  have hx := E.1.1
  have hb := E.1.2.1
  have hl : lv_has ls 3 [(0, .ref (ad q0))] := hl
  have hJ41 : ∀ (Kx : Int32 → Int32 → gw_S → Option (Int32 × gw_S)) (Kh : Int32 → Int32 → gw_S → Option (Int32 × gw_S)) (q0 : Nat) (v1 : Int32) (v2 : Int32) (hq0 : gw_row q0 = true) (hKx : ∀ (v1 : Int32) (v2 : Int32) (t : gw_S) (H : Heap) (locs : List Loc) (ls : Array Slot), lv_has ls 3 [(1, .int v1)] → gw_I D (tC g ad) 83 ad A s.heap t H locs → Kx v1 v2 t = some (r0, tz) → W p l e rmX3_harmGlass s m args below meth c H locs 0 0 (MQ below (gw_Qi D (tC g ad) 83 ad A r0 tz) args s 0 0 A) (F0 m 47 ls [])) (hKh : ∀ (v1 : Int32) (v2 : Int32) (t : gw_S) (H : Heap) (locs : List Loc) (ls : Array Slot), lv_has ls 3 [(0, .ref (ad q0)), (1, .int v1), (2, .int v2)] → gw_I D (tC g ad) 83 ad A s.heap t H locs → Kh v1 v2 t = some (r0, tz) → W p l e rmX3_harmGlass s m args below meth c H locs 0 0 (MQ below (gw_Qi D (tC g ad) 83 ad A r0 tz) args s 0 0 A) (F0 m 4 ls [])) (t : gw_S) (H : Heap) (locs : List Loc) (ls : Array Slot), lv_has ls 3 [(0, .ref (ad q0)), (1, .int v1), (2, .int v2)] → gw_I D (tC g ad) 83 ad A s.heap t H locs → fX3_harmGlass_J41 Kx Kh q0 v1 v2 t = some (r0, tz) → W p l e rmX3_harmGlass s m args below meth c H locs 0 0 (MQ below (gw_Qi D (tC g ad) 83 ad A r0 tz) args s 0 0 A) (F0 m 41 ls []) := by
    intro Kx Kh q0 v1 v2 hq0 hKx hKh t H locs ls hl I hF
    unfold fX3_harmGlass_J41 at hF
    replace hF := gw_nmE hF
    obtain ⟨v2_41, ev2_41, hF⟩ := hF
    refine lv_iinc (v := v2_41) (lv' := [(2, .int v2_41), (0, .ref (ad q0)), (1, .int v1)]) hx hb dX3_harmGlass_41 hl (k := 2) rfl (by subst ev2_41; rfl) (by decide) rfl (fun ls hl => ?_)
    refine lv_goto (tgt := 4) hx hb dX3_harmGlass_44 (by decide) ?_
    exact hKh v1 v2_41 t _ _ _ (lv_sub hl [1, 2, 0] rfl) I hF
  have hL4 : ∀ (Kx : Int32 → Int32 → gw_S → Option (Int32 × gw_S)) (q0 : Nat) (hq0 : gw_row q0 = true), (∀ (v1 : Int32) (v2 : Int32) (t : gw_S) (H : Heap) (locs : List Loc) (ls : Array Slot), lv_has ls 3 [(1, .int v1)] → gw_I D (tC g ad) 83 ad A s.heap t H locs → Kx v1 v2 t = some (r0, tz) → W p l e rmX3_harmGlass s m args below meth c H locs 0 0 (MQ below (gw_Qi D (tC g ad) 83 ad A r0 tz) args s 0 0 A) (F0 m 47 ls [])) → ∀ (n : Nat) (v1 : Int32) (v2 : Int32) (t : gw_S) (H : Heap) (locs : List Loc) (ls : Array Slot), lv_has ls 3 [(0, .ref (ad q0)), (1, .int v1), (2, .int v2)] → gw_I D (tC g ad) 83 ad A s.heap t H locs → fX3_harmGlass_L4 Kx q0 n v1 v2 t = some (r0, tz) → W p l e rmX3_harmGlass s m args below meth c H locs 0 0 (MQ below (gw_Qi D (tC g ad) 83 ad A r0 tz) args s 0 0 A) (F0 m 4 ls []) := by
    intro Kx q0 hq0 hKx n
    induction n with
    | zero =>
      intro v1 v2 t H locs ls hl I hF
      rw [fX3_harmGlass_L4] at hF
      cases hF
    | succ n ih =>
      intro v1 v2 t H locs ls hl I hF
      rw [fX3_harmGlass_L4] at hF
      refine lv_iload_n hx hb dX3_harmGlass_4 rfl (lv_at hl 2 rfl) ?_
      refine lv_aload_n hx hb dX3_harmGlass_5 rfl (lv_at hl 0 rfl) ?_
      refine gf_row_3 hq0 E I in_X3_harmGlass_X3 lk_X3_harmGlass_22 dX3_harmGlass_6 ?_
      refine lv_icmp_ge (tgt := 47) hx hb dX3_harmGlass_9 (by decide) (fun c9 => ?_) (fun c9 => ?_)
      · replace hF := gw_if1 c9 hF
        exact hKx v1 v2 t _ _ _ (lv_sub hl [1] rfl) I hF
      · replace hF := gw_if0 c9 hF
        refine lv_aload_n hx hb dX3_harmGlass_12 rfl (lv_at hl 0 rfl) ?_
        refine gf_row_0 hq0 E I in_X3_harmGlass_X3 lk_X3_harmGlass_9 dX3_harmGlass_13 ?_
        refine lv_iload_n hx hb dX3_harmGlass_16 rfl (lv_at hl 2 rfl) ?_
        replace hF := gw_ifn hF
        obtain ⟨hz17, hF⟩ := hF
        refine gw_iald E I (q0 + 1) (tC_lt1 hq0) (tC_ra1 hq0) hz17 dX3_harmGlass_17 ?_
        refine lv_iconst (v := 3) hx hb dX3_harmGlass_18 (by decide) ?_
        refine lv_icmp_ne (tgt := 41) hx hb dX3_harmGlass_19 (by decide) (fun c19 => ?_) (fun c19 => ?_)
        · replace hF := gw_if0 c19 hF
          exact hJ41 Kx (fX3_harmGlass_L4 Kx q0 n) q0 v1 v2 hq0 hKx ih t _ _ _ (lv_sub hl [0, 1, 2] rfl) I hF
        · replace hF := gw_if1 c19 hF
          refine lv_aload_n hx hb dX3_harmGlass_22 rfl (lv_at hl 0 rfl) ?_
          refine gf_row_2 hq0 E I in_X3_harmGlass_X3 lk_X3_harmGlass_18 dX3_harmGlass_23 ?_
          refine lv_iload_n hx hb dX3_harmGlass_26 rfl (lv_at hl 2 rfl) ?_
          replace hF := gw_ifn hF
          obtain ⟨hz27, hF⟩ := hF
          refine gw_zald E I (q0 + 3) (tC_lt3 hq0) (tC_ra3 hq0) hz27 dX3_harmGlass_27 ?_
          refine lv_if_ne (tgt := 41) hx hb dX3_harmGlass_28 (by decide) (fun c28 => ?_) (fun c28 => ?_)
          · replace hF := gw_if0 c28 hF
            exact hJ41 Kx (fX3_harmGlass_L4 Kx q0 n) q0 v1 v2 hq0 hKx ih t _ _ _ (lv_sub hl [0, 1, 2] rfl) I hF
          · replace hF := gw_if1 c28 hF
            refine lv_aload_n hx hb dX3_harmGlass_31 rfl (lv_at hl 0 rfl) ?_
            refine gf_row_2 hq0 E I in_X3_harmGlass_X3 lk_X3_harmGlass_18 dX3_harmGlass_32 ?_
            refine lv_iload_n hx hb dX3_harmGlass_35 rfl (lv_at hl 2 rfl) ?_
            refine lv_iconst (v := 1) hx hb dX3_harmGlass_36 (by decide) ?_
            replace hF := gw_ifn hF
            obtain ⟨hz37, hF⟩ := hF
            replace hF := gw_nmE hF
            obtain ⟨t_37, et_37, hF⟩ := hF
            refine gw_zast E I (q0 + 3) (tC_lt3 hq0) (fun _ => tC_ra3 hq0) hz37 (by decide) et_37 dX3_harmGlass_37 (fun H locs I => ?_)
            replace hF := gw_nmE hF
            obtain ⟨v1_38, ev1_38, hF⟩ := hF
            refine lv_iinc (v := v1_38) (lv' := [(1, .int v1_38), (0, .ref (ad q0)), (2, .int v2)]) hx hb dX3_harmGlass_38 hl (k := 1) rfl (by subst ev1_38; rfl) (by decide) rfl (fun ls hl => ?_)
            exact hJ41 Kx (fX3_harmGlass_L4 Kx q0 n) q0 v1_38 v2 hq0 hKx ih t_37 _ _ _ (lv_sub hl [1, 0, 2] rfl) I hF
  refine lv_iconst (v := 0) hx hb dX3_harmGlass_0 (by decide) ?_
  refine lv_istore_n (lv' := [(1, .int 0), (0, .ref (ad q0))]) hx hb dX3_harmGlass_1 rfl hl (by decide) rfl (fun ls hl => ?_)
  refine lv_iconst (v := 0) hx hb dX3_harmGlass_2 (by decide) ?_
  refine lv_istore_n (lv' := [(2, .int 0), (1, .int 0), (0, .ref (ad q0))]) hx hb dX3_harmGlass_3 rfl hl (by decide) rfl (fun ls hl => ?_)
  refine hL4 _ q0 hq0 (fun v1_x4 v2_x4 t_x4 H locs ls hl I hF => ?_) 2000 0 0 t0 _ _ _ (lv_sub hl [2, 1, 0] rfl) I hF
  refine lv_iload_n hx hb dX3_harmGlass_47 rfl (lv_at hl 0 rfl) ?_
  exact gw_iret E I hr hlocks rfl (Prod.mk.inj (Option.some.inj hF)).1 (Prod.mk.inj (Option.some.inj hF)).2 dX3_harmGlass_48
abbrev rmX3_dropFirst : Room := { frames := 1, cells := 0, slots := 0, locals := 21 }
theorem lk_X3_dropFirst_9 : Cond.fieldLink RX3 9 "ThrownSacks$Row" "kinds" "[I" ∈ wsX3_dropFirst := by decide +kernel
theorem lk_X3_dropFirst_15 : Cond.fieldLink RX3 15 "ThrownSacks$Row" "towns" "[I" ∈ wsX3_dropFirst := by decide +kernel
theorem lk_X3_dropFirst_18 : Cond.fieldLink RX3 18 "ThrownSacks$Row" "harms" "[Z" ∈ wsX3_dropFirst := by decide +kernel
theorem lk_X3_dropFirst_22 : Cond.fieldLink RX3 22 "ThrownSacks$Row" "size" "I" ∈ wsX3_dropFirst := by decide +kernel
theorem in_X3_dropFirst_X3 : ∀ w ∈ u_ws RX3 TX3 4, w ∈ wsX3_dropFirst := by decide +kernel
theorem mk_X3_dropFirst_max_l : Cond.methodLink RX3 26 Lib.Math.max.name ∈ wsX3_dropFirst := by decide +kernel
theorem mk_X3_dropFirst_max_s : Cond.static Lib.Math.max.name ∈ wsX3_dropFirst := by decide +kernel
theorem mk_X3_dropFirst_max_c : Cond.code Lib.Math.max.name Lib.Math.max.code 2 (some .int) ∈ wsX3_dropFirst := by decide +kernel
theorem mk_X3_dropFirst_i : Cond.initialized "java/lang/Math" ∈ wsX3_dropFirst := by decide +kernel
set_option maxHeartbeats 4000000 in
set_option maxRecDepth 100000 in
theorem ok_X3_dropFirst (l : Launch) {D : va_G} {g : gw_G} {tG : Nat} {ad : Nat → Nat} {A : Nat → Prop} (hD : gw_D A 83 ad) (t0 : gw_S) (q0 : Nat) (hq0 : gw_row q0 = true) (tz : gw_S) (hF : fX3_dropFirst q0 t0 = some tz) : Met l yX3_dropFirst wsX3_dropFirst rmX3_dropFirst (gw_Pc D g tG (tC g ad) 83 ad A [.ref (ad q0)] t0) (gw_Qv D (tC g ad) 83 ad A tz) 0 0 A := by
  unfold fX3_dropFirst at hF
  refine gw_met (by decide) rfl hD (Nat.le_of_ble_eq_true rfl) (fun p e s m args below meth c E hr hlocks I ls hl => ?_)
  have hx := E.1.1
  have hb := E.1.2.1
  have hl : lv_has ls 2 [(0, .ref (ad q0))] := hl
  have hL2 : ∀ (Kx : Int32 → gw_S → Option (gw_S)) (q0 : Nat) (hq0 : gw_row q0 = true), (∀ (v1 : Int32) (t : gw_S) (H : Heap) (locs : List Loc) (ls : Array Slot), lv_has ls 2 [(0, .ref (ad q0))] → gw_I D (tC g ad) 83 ad A s.heap t H locs → Kx v1 t = some tz → W p l e rmX3_dropFirst s m args below meth c H locs 0 0 (MQ below (gw_Qv D (tC g ad) 83 ad A tz) args s 0 0 A) (F0 m 58 ls [])) → ∀ (n : Nat) (v1 : Int32) (t : gw_S) (H : Heap) (locs : List Loc) (ls : Array Slot), lv_has ls 2 [(0, .ref (ad q0)), (1, .int v1)] → gw_I D (tC g ad) 83 ad A s.heap t H locs → fX3_dropFirst_L2 Kx q0 n v1 t = some tz → W p l e rmX3_dropFirst s m args below meth c H locs 0 0 (MQ below (gw_Qv D (tC g ad) 83 ad A tz) args s 0 0 A) (F0 m 2 ls []) := by
    intro Kx q0 hq0 hKx n
    induction n with
    | zero =>
      intro v1 t H locs ls hl I hF
      rw [fX3_dropFirst_L2] at hF
      cases hF
    | succ n ih =>
      intro v1 t H locs ls hl I hF
      rw [fX3_dropFirst_L2] at hF
      refine lv_iload_n hx hb dX3_dropFirst_2 rfl (lv_at hl 1 rfl) ?_
      refine lv_aload_n hx hb dX3_dropFirst_3 rfl (lv_at hl 0 rfl) ?_
      refine gf_row_3 hq0 E I in_X3_dropFirst_X3 lk_X3_dropFirst_22 dX3_dropFirst_4 ?_
      refine lv_icmp_ge (tgt := 58) hx hb dX3_dropFirst_7 (by decide) (fun c7 => ?_) (fun c7 => ?_)
      · replace hF := gw_if1 c7 hF
        exact hKx v1 t _ _ _ (lv_sub hl [0] rfl) I hF
      · replace hF := gw_if0 c7 hF
        refine lv_aload_n hx hb dX3_dropFirst_10 rfl (lv_at hl 0 rfl) ?_
        refine gf_row_0 hq0 E I in_X3_dropFirst_X3 lk_X3_dropFirst_9 dX3_dropFirst_11 ?_
        refine lv_iload_n hx hb dX3_dropFirst_14 rfl (lv_at hl 1 rfl) ?_
        refine lv_iconst (v := 1) hx hb dX3_dropFirst_15 (by decide) ?_
        refine lv_isub hx hb dX3_dropFirst_16 ?_
        refine lv_aload_n hx hb dX3_dropFirst_17 rfl (lv_at hl 0 rfl) ?_
        refine gf_row_0 hq0 E I in_X3_dropFirst_X3 lk_X3_dropFirst_9 dX3_dropFirst_18 ?_
        refine lv_iload_n hx hb dX3_dropFirst_21 rfl (lv_at hl 1 rfl) ?_
        replace hF := gw_ifn hF
        obtain ⟨hz22, hF⟩ := hF
        refine gw_iald E I (q0 + 1) (tC_lt1 hq0) (tC_ra1 hq0) hz22 dX3_dropFirst_22 ?_
        replace hF := gw_ifn hF
        obtain ⟨hz23, hF⟩ := hF
        replace hF := gw_nmE hF
        obtain ⟨t_23, et_23, hF⟩ := hF
        refine gw_iast E I (q0 + 1) (tC_lt1 hq0) (fun _ => tC_ra1 hq0) hz23 et_23 dX3_dropFirst_23 (fun H locs I => ?_)
        refine lv_aload_n hx hb dX3_dropFirst_24 rfl (lv_at hl 0 rfl) ?_
        refine gf_row_1 hq0 E I in_X3_dropFirst_X3 lk_X3_dropFirst_15 dX3_dropFirst_25 ?_
        refine lv_iload_n hx hb dX3_dropFirst_28 rfl (lv_at hl 1 rfl) ?_
        refine lv_iconst (v := 1) hx hb dX3_dropFirst_29 (by decide) ?_
        refine lv_isub hx hb dX3_dropFirst_30 ?_
        refine lv_aload_n hx hb dX3_dropFirst_31 rfl (lv_at hl 0 rfl) ?_
        refine gf_row_1 hq0 E I in_X3_dropFirst_X3 lk_X3_dropFirst_15 dX3_dropFirst_32 ?_
        refine lv_iload_n hx hb dX3_dropFirst_35 rfl (lv_at hl 1 rfl) ?_
        replace hF := gw_ifn hF
        obtain ⟨hz36, hF⟩ := hF
        refine gw_iald E I (q0 + 2) (tC_lt2 hq0) (tC_ra2 hq0) hz36 dX3_dropFirst_36 ?_
        replace hF := gw_ifn hF
        obtain ⟨hz37, hF⟩ := hF
        replace hF := gw_nmE hF
        obtain ⟨t_37, et_37, hF⟩ := hF
        refine gw_iast E I (q0 + 2) (tC_lt2 hq0) (fun _ => tC_ra2 hq0) hz37 et_37 dX3_dropFirst_37 (fun H locs I => ?_)
        refine lv_aload_n hx hb dX3_dropFirst_38 rfl (lv_at hl 0 rfl) ?_
        refine gf_row_2 hq0 E I in_X3_dropFirst_X3 lk_X3_dropFirst_18 dX3_dropFirst_39 ?_
        refine lv_iload_n hx hb dX3_dropFirst_42 rfl (lv_at hl 1 rfl) ?_
        refine lv_iconst (v := 1) hx hb dX3_dropFirst_43 (by decide) ?_
        refine lv_isub hx hb dX3_dropFirst_44 ?_
        refine lv_aload_n hx hb dX3_dropFirst_45 rfl (lv_at hl 0 rfl) ?_
        refine gf_row_2 hq0 E I in_X3_dropFirst_X3 lk_X3_dropFirst_18 dX3_dropFirst_46 ?_
        refine lv_iload_n hx hb dX3_dropFirst_49 rfl (lv_at hl 1 rfl) ?_
        replace hF := gw_ifn hF
        obtain ⟨hz50, hF⟩ := hF
        refine gw_zald E I (q0 + 3) (tC_lt3 hq0) (tC_ra3 hq0) hz50 dX3_dropFirst_50 ?_
        replace hF := gw_ifn hF
        obtain ⟨hz51, hF⟩ := hF
        replace hF := gw_ifn hF
        obtain ⟨hy51, hF⟩ := hF
        replace hF := gw_nmE hF
        obtain ⟨t_51, et_51, hF⟩ := hF
        refine gw_zast E I (q0 + 3) (tC_lt3 hq0) (fun _ => tC_ra3 hq0) hz51 hy51 et_51 dX3_dropFirst_51 (fun H locs I => ?_)
        replace hF := gw_nmE hF
        obtain ⟨v1_52, ev1_52, hF⟩ := hF
        refine lv_iinc (v := v1_52) (lv' := [(1, .int v1_52), (0, .ref (ad q0))]) hx hb dX3_dropFirst_52 hl (k := 1) rfl (by subst ev1_52; rfl) (by decide) rfl (fun ls hl => ?_)
        refine lv_goto (tgt := 2) hx hb dX3_dropFirst_55 (by decide) ?_
        exact ih v1_52 t_51 _ _ _ (lv_sub hl [1, 0] rfl) I hF
  refine lv_iconst (v := 1) hx hb dX3_dropFirst_0 (by decide) ?_
  refine lv_istore_n (lv' := [(1, .int 1), (0, .ref (ad q0))]) hx hb dX3_dropFirst_1 rfl hl (by decide) rfl (fun ls hl => ?_)
  refine hL2 _ q0 hq0 (fun v1_x2 t_x2 H locs ls hl I hF => ?_) 2000 1 t0 _ _ _ (lv_sub hl [1, 0] rfl) I hF
  refine lv_aload_n hx hb dX3_dropFirst_58 rfl (lv_at hl 0 rfl) ?_
  refine lv_iconst (v := 0) hx hb dX3_dropFirst_59 (by decide) ?_
  refine lv_aload_n hx hb dX3_dropFirst_60 rfl (lv_at hl 0 rfl) ?_
  refine gf_row_3 hq0 E I in_X3_dropFirst_X3 lk_X3_dropFirst_22 dX3_dropFirst_61 ?_
  refine lv_iconst (v := 1) hx hb dX3_dropFirst_64 (by decide) ?_
  refine lv_isub hx hb dX3_dropFirst_65 ?_
  refine va_mmax hx hb (E.1.2.2.1.trans hl.1.symm) E.1.2.2.2.1 (E.1.2.2.2.2 _ mk_X3_dropFirst_max_l) (E.1.2.2.2.2 _ mk_X3_dropFirst_max_s) (E.1.2.2.2.2 _ mk_X3_dropFirst_i) (E.1.2.2.2.2 _ mk_X3_dropFirst_max_c) (Nat.le_of_ble_eq_true rfl) (Nat.le_of_ble_eq_true rfl) (Nat.zero_le _) (Nat.zero_le _) dX3_dropFirst_66 ?_
  replace hF := gw_nmE hF
  obtain ⟨t_69, et_69, hF⟩ := hF
  refine gp_row_3 hq0 E I in_X3_dropFirst_X3 lk_X3_dropFirst_22 et_69 dX3_dropFirst_69 (fun H locs I => ?_)
  exact gw_vret E I hr hlocks (Option.some.inj hF) dX3_dropFirst_72
abbrev rmX4_putFirst : Room := { frames := 2, cells := 0, slots := 0, locals := 42 }
theorem lk_X4_putFirst_17 : Cond.fieldLink RX4 17 "ThrownSacks$Standing" "sacks" "[LThrownSacks$Row;" ∈ wsX4_putFirst := by decide +kernel
theorem lk_X4_putFirst_22 : Cond.fieldLink RX4 22 "ThrownSacks$Standing" "belt" "LThrownSacks$Row;" ∈ wsX4_putFirst := by decide +kernel
theorem lk_X4_putFirst_42 : Cond.fieldLink RX4 42 "ThrownSacks$Standing" "harmed" "I" ∈ wsX4_putFirst := by decide +kernel
theorem in_X4_putFirst_X4 : ∀ w ∈ u_ws RX4 TX4 8, w ∈ wsX4_putFirst := by decide +kernel
set_option maxHeartbeats 4000000 in
set_option maxRecDepth 100000 in
theorem ok_X4_putFirst (l : Launch) {D : va_G} {g : gw_G} {tG : Nat} {ad : Nat → Nat} {A : Nat → Prop} (hD : gw_D A 83 ad) (t0 : gw_S) (v1 : Int32) (v2 : Int32) (tz : gw_S) (hF : fX4_putFirst v1 v2 t0 = some tz) : Met l yX4_putFirst wsX4_putFirst rmX4_putFirst (gw_Pc D g tG (tC g ad) 83 ad A [.ref (ad 7), .int v1, .int v2] t0) (gw_Qv D (tC g ad) 83 ad A tz) 0 0 A := by
  unfold fX4_putFirst at hF
  refine gw_met (by decide) rfl hD (Nat.le_of_ble_eq_true rfl) (fun p e s m args below meth c E hr hlocks I ls hl => ?_)
  have hx := E.1.1
  have hb := E.1.2.1
  have hl : lv_has ls 5 [(0, .ref (ad 7)), (1, .int v1), (2, .int v2)] := hl
  have hJ77 : ∀ (v1 : Int32) (v3 : Int32) (v4 : Int32) (t : gw_S) (H : Heap) (locs : List Loc) (ls : Array Slot), lv_has ls 5 [(0, .ref (ad 7)), (1, .int v1), (3, .int v3), (4, .int v4)] → gw_I D (tC g ad) 83 ad A s.heap t H locs → fX4_putFirst_J77 v1 v3 v4 t = some tz → W p l e rmX4_putFirst s m args below meth c H locs 0 0 (MQ below (gw_Qv D (tC g ad) 83 ad A tz) args s 0 0 A) (F0 m 77 ls []) := by
    intro v1 v3 v4 t H locs ls hl I hF
    unfold fX4_putFirst_J77 at hF
    refine lv_aload_n hx hb dX4_putFirst_77 rfl (lv_at hl 0 rfl) ?_
    refine gf_C_7_1 E I in_X4_putFirst_X4 lk_X4_putFirst_17 dX4_putFirst_78 ?_
    refine lv_iload_n hx hb dX4_putFirst_81 rfl (lv_at hl 1 rfl) ?_
    replace hF := gw_ifn hF
    obtain ⟨hz82, hF⟩ := hF
    refine gw_aald E I 9 (by decide) rfl hz82 dX4_putFirst_82 ?_
    replace hF := gw_nmE hF
    obtain ⟨r82, er82, hF⟩ := hF
    replace hF := gw_ifn hF
    obtain ⟨hr82, hF⟩ := hF
    refine gw_topr er82 ?_
    refine lv_iload_n hx hb dX4_putFirst_83 rfl (lv_at hl 2 rfl) ?_
    refine lv_aload_n hx hb dX4_putFirst_84 rfl (lv_at hl 0 rfl) ?_
    refine gf_C_7_2 E I in_X4_putFirst_X4 lk_X4_putFirst_22 dX4_putFirst_85 ?_
    refine lv_iconst (v := 0) hx hb dX4_putFirst_88 (by decide) ?_
    replace hF := gw_bdE hF
    obtain ⟨r89, e89, hF⟩ := hF
    refine gw_calli I (gw_runV E I (ok_X3_townAt l hD t 27 0 (by decide) _ e89) (cwV 1 E.1.2.2.2.2 gX4_putFirst_X3_townAt rfl rfl rfl (by decide +kernel) ⟨Nat.le_of_ble_eq_true rfl, Nat.le_of_ble_eq_true rfl⟩) (tC_lt0 (by decide)) (tC_row (by decide)) rfl rfl hl.1 rfl (Nat.le_of_ble_eq_true rfl) dX4_putFirst_89) (fun H locs I => ?_)
    refine lv_iload hx hb dX4_putFirst_92 (lv_at hl 3 rfl) ?_
    replace hF := gw_bdE hF
    obtain ⟨t_94, e94, hF⟩ := hF
    refine gw_callv I (gw_runV E I (ok_X3_add l hD t r82 v3 r89 v4 hr82 _ e94) (cwV 3 E.1.2.2.2.2 gX4_putFirst_X3_add rfl rfl rfl (by decide +kernel) ⟨Nat.le_of_ble_eq_true rfl, Nat.le_of_ble_eq_true rfl⟩) (tC_lt0 hr82) (tC_row hr82) rfl rfl hl.1 rfl (Nat.le_of_ble_eq_true rfl) dX4_putFirst_94) (fun H locs I => ?_)
    refine lv_aload_n hx hb dX4_putFirst_97 rfl (lv_at hl 0 rfl) ?_
    refine gf_C_7_2 E I in_X4_putFirst_X4 lk_X4_putFirst_22 dX4_putFirst_98 ?_
    replace hF := gw_bdE hF
    obtain ⟨t_101, e101, hF⟩ := hF
    refine gw_callv I (gw_runV E I (ok_X3_dropFirst l hD t_94 27 (by decide) _ e101) (cwV 0 E.1.2.2.2.2 gX4_putFirst_X3_dropFirst rfl rfl rfl (by decide +kernel) ⟨Nat.le_of_ble_eq_true rfl, Nat.le_of_ble_eq_true rfl⟩) (tC_lt0 (by decide)) (tC_row (by decide)) rfl rfl hl.1 rfl (Nat.le_of_ble_eq_true rfl) dX4_putFirst_101) (fun H locs I => ?_)
    exact gw_vret E I hr hlocks (Option.some.inj hF) dX4_putFirst_104
  have hJ62 : ∀ (v1 : Int32) (v3 : Int32) (v4 : Int32) (t : gw_S) (H : Heap) (locs : List Loc) (ls : Array Slot), lv_has ls 5 [(0, .ref (ad 7)), (1, .int v1), (3, .int v3), (4, .int v4)] → gw_I D (tC g ad) 83 ad A s.heap t H locs → fX4_putFirst_J62 v1 v3 v4 t = some tz → W p l e rmX4_putFirst s m args below meth c H locs 0 0 (MQ below (gw_Qv D (tC g ad) 83 ad A tz) args s 0 0 A) (F0 m 62 ls []) := by
    intro v1 v3 v4 t H locs ls hl I hF
    unfold fX4_putFirst_J62 at hF
    refine lv_iload hx hb dX4_putFirst_62 (lv_at hl 3 rfl) ?_
    refine lv_if_eq (tgt := 77) hx hb dX4_putFirst_64 (by decide) (fun c64 => ?_) (fun c64 => ?_)
    · replace hF := gw_if1 c64 hF
      exact hJ77 v1 v3 v4 t _ _ _ (lv_sub hl [0, 1, 2, 3] rfl) I hF
    · replace hF := gw_if0 c64 hF
      refine lv_aload_n hx hb dX4_putFirst_67 rfl (lv_at hl 0 rfl) ?_
      refine lv_dup hx hb dX4_putFirst_68 rfl ?_
      refine gf_C_7_7 E I in_X4_putFirst_X4 lk_X4_putFirst_42 dX4_putFirst_69 ?_
      refine lv_iconst (v := 1) hx hb dX4_putFirst_72 (by decide) ?_
      refine lv_iadd hx hb dX4_putFirst_73 ?_
      replace hF := gw_nmE hF
      obtain ⟨t_74, et_74, hF⟩ := hF
      refine gp_C_7_7 E I in_X4_putFirst_X4 lk_X4_putFirst_42 et_74 dX4_putFirst_74 (fun H locs I => ?_)
      exact hJ77 v1 v3 v4 t_74 _ _ _ (lv_sub hl [0, 1, 2, 3] rfl) I hF
  have hJ37 : ∀ (v1 : Int32) (v3 : Int32) (x0 : Int32) (t : gw_S) (H : Heap) (locs : List Loc) (ls : Array Slot), lv_has ls 5 [(0, .ref (ad 7)), (1, .int v1), (3, .int v3)] → gw_I D (tC g ad) 83 ad A s.heap t H locs → fX4_putFirst_J37 v1 v3 x0 t = some tz → W p l e rmX4_putFirst s m args below meth c H locs 0 0 (MQ below (gw_Qv D (tC g ad) 83 ad A tz) args s 0 0 A) (F0 m 37 ls [.int x0]) := by
    intro v1 v3 x0 t H locs ls hl I hF
    unfold fX4_putFirst_J37 at hF
    refine lv_istore (lv' := [(4, .int x0), (0, .ref (ad 7)), (1, .int v1), (3, .int v3)]) hx hb dX4_putFirst_37 hl (by decide) rfl (fun ls hl => ?_)
    refine lv_iload_n hx hb dX4_putFirst_39 rfl (lv_at hl 3 rfl) ?_
    refine lv_iconst (v := 4) hx hb dX4_putFirst_40 (by decide) ?_
    refine lv_icmp_ne (tgt := 62) hx hb dX4_putFirst_41 (by decide) (fun c41 => ?_) (fun c41 => ?_)
    · replace hF := gw_if0 c41 hF
      exact hJ62 v1 v3 x0 t _ _ _ (lv_sub hl [1, 2, 3, 0] rfl) I hF
    · replace hF := gw_if1 c41 hF
      refine lv_aload_n hx hb dX4_putFirst_44 rfl (lv_at hl 1 rfl) ?_
      refine lv_dup hx hb dX4_putFirst_45 rfl ?_
      refine gf_C_7_7 E I in_X4_putFirst_X4 lk_X4_putFirst_42 dX4_putFirst_46 ?_
      refine lv_aload_n hx hb dX4_putFirst_49 rfl (lv_at hl 1 rfl) ?_
      refine gf_C_7_1 E I in_X4_putFirst_X4 lk_X4_putFirst_17 dX4_putFirst_50 ?_
      refine lv_iload_n hx hb dX4_putFirst_53 rfl (lv_at hl 2 rfl) ?_
      replace hF := gw_ifn hF
      obtain ⟨hz54, hF⟩ := hF
      refine gw_aald E I 9 (by decide) rfl hz54 dX4_putFirst_54 ?_
      replace hF := gw_nmE hF
      obtain ⟨r54, er54, hF⟩ := hF
      replace hF := gw_ifn hF
      obtain ⟨hr54, hF⟩ := hF
      refine gw_topr er54 ?_
      replace hF := gw_b2E hF
      obtain ⟨r55, t_55, e55, hF⟩ := hF
      refine gw_calli I (gw_runV E I (ok_X3_harmGlass l hD t r54 hr54 _ _ e55) (cwV 0 E.1.2.2.2.2 gX4_putFirst_X3_harmGlass rfl rfl rfl (by decide +kernel) ⟨Nat.le_of_ble_eq_true rfl, Nat.le_of_ble_eq_true rfl⟩) (tC_lt0 hr54) (tC_row hr54) rfl rfl hl.1 rfl (Nat.le_of_ble_eq_true rfl) dX4_putFirst_55) (fun H locs I => ?_)
      refine lv_iadd hx hb dX4_putFirst_58 ?_
      replace hF := gw_nmE hF
      obtain ⟨t_59, et_59, hF⟩ := hF
      refine gp_C_7_7 E I in_X4_putFirst_X4 lk_X4_putFirst_42 et_59 dX4_putFirst_59 (fun H locs I => ?_)
      exact hJ62 v1 v3 x0 t_59 _ _ _ (lv_sub hl [1, 2, 3, 0] rfl) I hF
  have hJ36 : ∀ (v1 : Int32) (v3 : Int32) (t : gw_S) (H : Heap) (locs : List Loc) (ls : Array Slot), lv_has ls 5 [(0, .ref (ad 7)), (1, .int v1), (3, .int v3)] → gw_I D (tC g ad) 83 ad A s.heap t H locs → fX4_putFirst_J36 v1 v3 t = some tz → W p l e rmX4_putFirst s m args below meth c H locs 0 0 (MQ below (gw_Qv D (tC g ad) 83 ad A tz) args s 0 0 A) (F0 m 36 ls []) := by
    intro v1 v3 t H locs ls hl I hF
    unfold fX4_putFirst_J36 at hF
    refine lv_iconst (v := 0) hx hb dX4_putFirst_36 (by decide) ?_
    exact hJ37 v1 v3 0 t _ _ _ (lv_sub hl [0, 1, 2] rfl) I hF
  refine lv_iload_n hx hb dX4_putFirst_0 rfl (lv_at hl 1 rfl) ?_
  refine lv_if_lt (tgt := 13) hx hb dX4_putFirst_1 (by decide) (fun c1 => ?_) (fun c1 => ?_)
  · replace hF := gw_if1 c1 hF
    exact gw_vret E I hr hlocks (Option.some.inj hF) dX4_putFirst_13
  · replace hF := gw_if0 c1 hF
    refine lv_iload_n hx hb dX4_putFirst_4 rfl (lv_at hl 1 rfl) ?_
    refine lv_aload_n hx hb dX4_putFirst_5 rfl (lv_at hl 0 rfl) ?_
    refine gf_C_7_1 E I in_X4_putFirst_X4 lk_X4_putFirst_17 dX4_putFirst_6 ?_
    refine gw_qlen E I 9 (by decide) rfl (v := 6) (by decide) dX4_putFirst_9 ?_
    refine lv_icmp_lt (tgt := 14) hx hb dX4_putFirst_10 (by decide) (fun c10 => ?_) (fun c10 => ?_)
    · replace hF := gw_if1 c10 hF
      refine lv_aload_n hx hb dX4_putFirst_14 rfl (lv_at hl 0 rfl) ?_
      refine gf_C_7_2 E I in_X4_putFirst_X4 lk_X4_putFirst_22 dX4_putFirst_15 ?_
      refine lv_iconst (v := 0) hx hb dX4_putFirst_18 (by decide) ?_
      replace hF := gw_bdE hF
      obtain ⟨r19, e19, hF⟩ := hF
      refine gw_calli I (gw_runV E I (ok_X3_kindAt l hD t0 27 0 (by decide) _ e19) (cwV 1 E.1.2.2.2.2 gX4_putFirst_X3_kindAt rfl rfl rfl (by decide +kernel) ⟨Nat.le_of_ble_eq_true rfl, Nat.le_of_ble_eq_true rfl⟩) (tC_lt0 (by decide)) (tC_row (by decide)) rfl rfl hl.1 rfl (Nat.le_of_ble_eq_true rfl) dX4_putFirst_19) (fun H locs I => ?_)
      refine lv_istore_n (lv' := [(3, .int r19), (0, .ref (ad 7)), (1, .int v1), (2, .int v2)]) hx hb dX4_putFirst_22 rfl hl (by decide) rfl (fun ls hl => ?_)
      refine lv_iload_n hx hb dX4_putFirst_23 rfl (lv_at hl 3 rfl) ?_
      refine lv_if_eq (tgt := 36) hx hb dX4_putFirst_24 (by decide) (fun c24 => ?_) (fun c24 => ?_)
      · replace hF := gw_if1 c24 hF
        exact hJ36 v1 r19 t0 _ _ _ (lv_sub hl [1, 2, 0] rfl) I hF
      · replace hF := gw_if0 c24 hF
        refine lv_iload_n hx hb dX4_putFirst_27 rfl (lv_at hl 0 rfl) ?_
        refine lv_iconst (v := 3) hx hb dX4_putFirst_28 (by decide) ?_
        refine lv_icmp_ne (tgt := 36) hx hb dX4_putFirst_29 (by decide) (fun c29 => ?_) (fun c29 => ?_)
        · replace hF := gw_if0 c29 hF
          exact hJ36 v1 r19 t0 _ _ _ (lv_sub hl [1, 2, 0] rfl) I hF
        · replace hF := gw_if1 c29 hF
          refine lv_iconst (v := 1) hx hb dX4_putFirst_32 (by decide) ?_
          refine lv_goto (tgt := 37) hx hb dX4_putFirst_33 (by decide) ?_
          exact hJ37 v1 r19 1 t0 _ _ _ (lv_sub hl [1, 2, 0] rfl) I hF
    · replace hF := gw_if0 c10 hF
      exact gw_vret E I hr hlocks (Option.some.inj hF) dX4_putFirst_13
