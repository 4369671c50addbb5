/-! The contracts: each method does what its function says: written by wip/whole/genall.py. -/
abbrev rmX8_carry : Room := { frames := 2, cells := 0, slots := 0, locals := 43 }
theorem lk_X8_carry_118 : Cond.fieldLink RX8 118 "ThrownSacksModel" "onBelt" "I" ∈ wsX8_carry := by decide +kernel
theorem lk_X8_carry_121 : Cond.fieldLink RX8 121 "ThrownSacksModel" "seconds" "I" ∈ wsX8_carry := by decide +kernel
theorem in_X8_carry_X8 : ∀ w ∈ u_ws RX8 TX8 42, w ∈ wsX8_carry := by decide +kernel
set_option maxHeartbeats 4000000 in
set_option maxRecDepth 100000 in
theorem ok_X8_carry (l : Launch) {D : va_G} {g : gw_G} {tG : Nat} {ad : Nat → Nat} {A : Nat → Prop} (hD : gw_D A 23 ad) (t0 : gw_S) (v1 : Int32) (r0 : Int32) (tz : gw_S) (hF : fX8_carry v1 t0 = some (r0, tz)) : Met l yX8_carry wsX8_carry rmX8_carry (gw_Pc D g tG (tM g ad) 23 ad A [.ref (ad 0), .int v1] t0) (gw_Qi D (tM g ad) 23 ad A r0 tz) 0 0 A := by
  unfold fX8_carry at hF
  refine gw_met (by decide) rfl hD (Nat.le_of_ble_eq_true rfl) (fun p e s m args below meth c E hr hlocks I ls hl => ?_)
  have hx := E.1.1
  have hb := E.1.2.1
  have hl : lv_has ls 2 [(0, .ref (ad 0)), (1, .int v1)] := hl
  refine lv_aload_n hx hb dX8_carry_0 rfl (lv_at hl 0 rfl) ?_
  refine lv_iload_n hx hb dX8_carry_1 rfl (lv_at hl 1 rfl) ?_
  replace hF := gw_bdE hF
  obtain ⟨r2, e2, hF⟩ := hF
  refine gw_calli I (gw_runV E I (ok_X8_isHook l hD t0 v1 _ e2) (cwV 1 E.1.2.2.2.2 gX8_carry_X8_isHook rfl rfl rfl (by decide +kernel) ⟨Nat.le_of_ble_eq_true rfl, Nat.le_of_ble_eq_true rfl⟩) (by decide) rfl rfl rfl hl.1 rfl (Nat.le_of_ble_eq_true rfl) dX8_carry_2) (fun H locs I => ?_)
  refine lv_if_ne (tgt := 11) hx hb dX8_carry_5 (by decide) (fun c5 => ?_) (fun c5 => ?_)
  · replace hF := gw_if0 c5 hF
    refine lv_aload_n hx hb dX8_carry_11 rfl (lv_at hl 0 rfl) ?_
    refine gf_M_0_10 E I in_X8_carry_X8 lk_X8_carry_118 dX8_carry_12 ?_
    refine lv_if_eq (tgt := 26) hx hb dX8_carry_15 (by decide) (fun c15 => ?_) (fun c15 => ?_)
    · replace hF := gw_if1 c15 hF
      refine lv_bipush (v := (-103)) hx hb dX8_carry_26 (by decide) ?_
      exact gw_iret E I hr hlocks rfl (Prod.mk.inj (Option.some.inj hF)).1 (Prod.mk.inj (Option.some.inj hF)).2 dX8_carry_28
    · replace hF := gw_if0 c15 hF
      refine lv_aload_n hx hb dX8_carry_18 rfl (lv_at hl 0 rfl) ?_
      refine lv_iload_n hx hb dX8_carry_19 rfl (lv_at hl 1 rfl) ?_
      replace hF := gw_bdE hF
      obtain ⟨r20, e20, hF⟩ := hF
      refine gw_calli I (gw_runV E I (ok_X8_isFull l hD t0 v1 _ e20) (cwV 1 E.1.2.2.2.2 gX8_carry_X8_isFull rfl rfl rfl (by decide +kernel) ⟨Nat.le_of_ble_eq_true rfl, Nat.le_of_ble_eq_true rfl⟩) (by decide) rfl rfl rfl hl.1 rfl (Nat.le_of_ble_eq_true rfl) dX8_carry_20) (fun H locs I => ?_)
      refine lv_if_eq (tgt := 29) hx hb dX8_carry_23 (by decide) (fun c23 => ?_) (fun c23 => ?_)
      · replace hF := gw_if1 c23 hF
        refine lv_aload_n hx hb dX8_carry_29 rfl (lv_at hl 0 rfl) ?_
        refine lv_dup hx hb dX8_carry_30 rfl ?_
        refine gf_M_0_13 E I in_X8_carry_X8 lk_X8_carry_121 dX8_carry_31 ?_
        refine lv_aload_n hx hb dX8_carry_34 rfl (lv_at hl 0 rfl) ?_
        refine lv_iload_n hx hb dX8_carry_35 rfl (lv_at hl 1 rfl) ?_
        replace hF := gw_bdE hF
        obtain ⟨r36, e36, hF⟩ := hF
        refine gw_calli I (gw_runV E I (ok_X8_walk l hD t0 v1 _ e36) (cwV 1 E.1.2.2.2.2 gX8_carry_X8_walk rfl rfl rfl (by decide +kernel) ⟨Nat.le_of_ble_eq_true rfl, Nat.le_of_ble_eq_true rfl⟩) (by decide) rfl rfl rfl hl.1 rfl (Nat.le_of_ble_eq_true rfl) dX8_carry_36) (fun H locs I => ?_)
        refine lv_iadd hx hb dX8_carry_39 ?_
        replace hF := gw_nmE hF
        obtain ⟨t_40, et_40, hF⟩ := hF
        refine gp_M_0_13 E I in_X8_carry_X8 lk_X8_carry_121 et_40 dX8_carry_40 (fun H locs I => ?_)
        refine lv_aload_n hx hb dX8_carry_43 rfl (lv_at hl 0 rfl) ?_
        refine lv_iload_n hx hb dX8_carry_44 rfl (lv_at hl 1 rfl) ?_
        refine lv_iconst (v := 0) hx hb dX8_carry_45 (by decide) ?_
        replace hF := gw_bdE hF
        obtain ⟨t_46, e46, hF⟩ := hF
        refine gw_callv I (gw_runV E I (ok_X8_comes l hD t_40 v1 0 _ e46) (cwV 2 E.1.2.2.2.2 gX8_carry_X8_comes rfl rfl rfl (by decide +kernel) ⟨Nat.le_of_ble_eq_true rfl, Nat.le_of_ble_eq_true rfl⟩) (by decide) rfl rfl rfl hl.1 rfl (Nat.le_of_ble_eq_true rfl) dX8_carry_46) (fun H locs I => ?_)
        refine lv_aload_n hx hb dX8_carry_49 rfl (lv_at hl 0 rfl) ?_
        refine gf_M_0_13 E I in_X8_carry_X8 lk_X8_carry_121 dX8_carry_50 ?_
        exact gw_iret E I hr hlocks rfl (Prod.mk.inj (Option.some.inj hF)).1 (Prod.mk.inj (Option.some.inj hF)).2 dX8_carry_53
      · replace hF := gw_if0 c23 hF
        refine lv_bipush (v := (-103)) hx hb dX8_carry_26 (by decide) ?_
        exact gw_iret E I hr hlocks rfl (Prod.mk.inj (Option.some.inj hF)).1 (Prod.mk.inj (Option.some.inj hF)).2 dX8_carry_28
  · replace hF := gw_if1 c5 hF
    refine lv_bipush (v := (-101)) hx hb dX8_carry_8 (by decide) ?_
    exact gw_iret E I hr hlocks rfl (Prod.mk.inj (Option.some.inj hF)).1 (Prod.mk.inj (Option.some.inj hF)).2 dX8_carry_10
abbrev rmX8_change : Room := { frames := 2, cells := 0, slots := 0, locals := 43 }
theorem lk_X8_change_19 : Cond.fieldLink RX8 19 "ThrownSacksModel" "hangsOn" "[I" ∈ wsX8_change := by decide +kernel
theorem lk_X8_change_22 : Cond.fieldLink RX8 22 "ThrownSacksModel" "manyIn" "[I" ∈ wsX8_change := by decide +kernel
theorem lk_X8_change_121 : Cond.fieldLink RX8 121 "ThrownSacksModel" "seconds" "I" ∈ wsX8_change := by decide +kernel
theorem in_X8_change_X8 : ∀ w ∈ u_ws RX8 TX8 42, w ∈ wsX8_change := by decide +kernel
set_option maxHeartbeats 4000000 in
set_option maxRecDepth 100000 in
theorem ok_X8_change (l : Launch) {D : va_G} {g : gw_G} {tG : Nat} {ad : Nat → Nat} {A : Nat → Prop} (hD : gw_D A 23 ad) (t0 : gw_S) (v1 : Int32) (r0 : Int32) (tz : gw_S) (hF : fX8_change v1 t0 = some (r0, tz)) : Met l yX8_change wsX8_change rmX8_change (gw_Pc D g tG (tM g ad) 23 ad A [.ref (ad 0), .int v1] t0) (gw_Qi D (tM g ad) 23 ad A r0 tz) 0 0 A := by
  unfold fX8_change at hF
  refine gw_met (by decide) rfl hD (Nat.le_of_ble_eq_true rfl) (fun p e s m args below meth c E hr hlocks I ls hl => ?_)
  have hx := E.1.1
  have hb := E.1.2.1
  have hl : lv_has ls 3 [(0, .ref (ad 0)), (1, .int v1)] := hl
  refine lv_aload_n hx hb dX8_change_0 rfl (lv_at hl 0 rfl) ?_
  refine lv_iload_n hx hb dX8_change_1 rfl (lv_at hl 1 rfl) ?_
  replace hF := gw_bdE hF
  obtain ⟨r2, e2, hF⟩ := hF
  refine gw_calli I (gw_runV E I (ok_X8_isHook l hD t0 v1 _ e2) (cwV 1 E.1.2.2.2.2 gX8_change_X8_isHook rfl rfl rfl (by decide +kernel) ⟨Nat.le_of_ble_eq_true rfl, Nat.le_of_ble_eq_true rfl⟩) (by decide) rfl rfl rfl hl.1 rfl (Nat.le_of_ble_eq_true rfl) dX8_change_2) (fun H locs I => ?_)
  refine lv_if_ne (tgt := 11) hx hb dX8_change_5 (by decide) (fun c5 => ?_) (fun c5 => ?_)
  · replace hF := gw_if0 c5 hF
    refine lv_aload_n hx hb dX8_change_11 rfl (lv_at hl 0 rfl) ?_
    refine gf_M_0_6 E I in_X8_change_X8 lk_X8_change_22 dX8_change_12 ?_
    refine lv_aload_n hx hb dX8_change_15 rfl (lv_at hl 0 rfl) ?_
    refine gf_M_0_5 E I in_X8_change_X8 lk_X8_change_19 dX8_change_16 ?_
    refine lv_iload_n hx hb dX8_change_19 rfl (lv_at hl 1 rfl) ?_
    replace hF := gw_ifn hF
    obtain ⟨hz20, hF⟩ := hF
    refine gw_iald E I 4 (by decide) rfl hz20 dX8_change_20 ?_
    replace hF := gw_ifn hF
    obtain ⟨hz21, hF⟩ := hF
    refine gw_iald E I 5 (by decide) rfl hz21 dX8_change_21 ?_
    replace hF := gw_nmE hF
    obtain ⟨v2_22, ev2_22, hF⟩ := hF
    refine gw_topi ev2_22 ?_
    refine lv_istore_n (lv' := [(2, .int v2_22), (0, .ref (ad 0)), (1, .int v1)]) hx hb dX8_change_22 rfl hl (by decide) rfl (fun ls hl => ?_)
    refine lv_aload_n hx hb dX8_change_23 rfl (lv_at hl 1 rfl) ?_
    refine lv_aload_n hx hb dX8_change_24 rfl (lv_at hl 1 rfl) ?_
    refine gf_M_0_5 E I in_X8_change_X8 lk_X8_change_19 dX8_change_25 ?_
    refine lv_iload_n hx hb dX8_change_28 rfl (lv_at hl 2 rfl) ?_
    replace hF := gw_ifn hF
    obtain ⟨hz29, hF⟩ := hF
    refine gw_iald E I 4 (by decide) rfl hz29 dX8_change_29 ?_
    replace hF := gw_bdE hF
    obtain ⟨t_30, e30, hF⟩ := hF
    refine gw_callv I (gw_runV E I (ok_X8_empty l hD t0 (rdI t0 4 (Int32.toNatClampNeg v1)) _ e30) (cwV 1 E.1.2.2.2.2 gX8_change_X8_empty rfl rfl rfl (by decide +kernel) ⟨Nat.le_of_ble_eq_true rfl, Nat.le_of_ble_eq_true rfl⟩) (by decide) rfl rfl rfl hl.1 rfl (Nat.le_of_ble_eq_true rfl) dX8_change_30) (fun H locs I => ?_)
    refine lv_aload_n hx hb dX8_change_33 rfl (lv_at hl 1 rfl) ?_
    refine lv_dup hx hb dX8_change_34 rfl ?_
    refine gf_M_0_13 E I in_X8_change_X8 lk_X8_change_121 dX8_change_35 ?_
    refine lv_bipush (v := 40) hx hb dX8_change_38 (by decide) ?_
    refine lv_iadd hx hb dX8_change_40 ?_
    replace hF := gw_nmE hF
    obtain ⟨t_41, et_41, hF⟩ := hF
    refine gp_M_0_13 E I in_X8_change_X8 lk_X8_change_121 et_41 dX8_change_41 (fun H locs I => ?_)
    refine lv_iload_n hx hb dX8_change_44 rfl (lv_at hl 0 rfl) ?_
    exact gw_iret E I hr hlocks rfl (Prod.mk.inj (Option.some.inj hF)).1 (Prod.mk.inj (Option.some.inj hF)).2 dX8_change_45
  · replace hF := gw_if1 c5 hF
    refine lv_bipush (v := (-101)) hx hb dX8_change_8 (by decide) ?_
    exact gw_iret E I hr hlocks rfl (Prod.mk.inj (Option.some.inj hF)).1 (Prod.mk.inj (Option.some.inj hF)).2 dX8_change_10
abbrev rmX8_exchange : Room := { frames := 2, cells := 0, slots := 0, locals := 43 }
theorem lk_X8_exchange_13 : Cond.fieldLink RX8 13 "ThrownSacksModel" "roomOf" "[I" ∈ wsX8_exchange := by decide +kernel
theorem lk_X8_exchange_19 : Cond.fieldLink RX8 19 "ThrownSacksModel" "hangsOn" "[I" ∈ wsX8_exchange := by decide +kernel
theorem lk_X8_exchange_22 : Cond.fieldLink RX8 22 "ThrownSacksModel" "manyIn" "[I" ∈ wsX8_exchange := by decide +kernel
theorem lk_X8_exchange_121 : Cond.fieldLink RX8 121 "ThrownSacksModel" "seconds" "I" ∈ wsX8_exchange := by decide +kernel
theorem in_X8_exchange_X8 : ∀ w ∈ u_ws RX8 TX8 42, w ∈ wsX8_exchange := by decide +kernel
set_option maxHeartbeats 4000000 in
set_option maxRecDepth 100000 in
theorem ok_X8_exchange (l : Launch) {D : va_G} {g : gw_G} {tG : Nat} {ad : Nat → Nat} {A : Nat → Prop} (hD : gw_D A 23 ad) (t0 : gw_S) (v1 : Int32) (v2 : Int32) (r0 : Int32) (tz : gw_S) (hF : fX8_exchange v1 v2 t0 = some (r0, tz)) : Met l yX8_exchange wsX8_exchange rmX8_exchange (gw_Pc D g tG (tM g ad) 23 ad A [.ref (ad 0), .int v1, .int v2] t0) (gw_Qi D (tM g ad) 23 ad A r0 tz) 0 0 A := by
  unfold fX8_exchange at hF
  refine gw_met (by decide) rfl hD (Nat.le_of_ble_eq_true rfl) (fun p e s m args below meth c E hr hlocks I ls hl => ?_)
  have hx := E.1.1
  have hb := E.1.2.1
  have hl : lv_has ls 5 [(0, .ref (ad 0)), (1, .int v1), (2, .int v2)] := hl
  refine lv_aload_n hx hb dX8_exchange_0 rfl (lv_at hl 0 rfl) ?_
  refine lv_iload_n hx hb dX8_exchange_1 rfl (lv_at hl 1 rfl) ?_
  replace hF := gw_bdE hF
  obtain ⟨r2, e2, hF⟩ := hF
  refine gw_calli I (gw_runV E I (ok_X8_isHook l hD t0 v1 _ e2) (cwV 1 E.1.2.2.2.2 gX8_exchange_X8_isHook rfl rfl rfl (by decide +kernel) ⟨Nat.le_of_ble_eq_true rfl, Nat.le_of_ble_eq_true rfl⟩) (by decide) rfl rfl rfl hl.1 rfl (Nat.le_of_ble_eq_true rfl) dX8_exchange_2) (fun H locs I => ?_)
  refine lv_if_eq (tgt := 21) hx hb dX8_exchange_5 (by decide) (fun c5 => ?_) (fun c5 => ?_)
  · replace hF := gw_if1 c5 hF
    refine lv_bipush (v := (-101)) hx hb dX8_exchange_21 (by decide) ?_
    exact gw_iret E I hr hlocks rfl (Prod.mk.inj (Option.some.inj hF)).1 (Prod.mk.inj (Option.some.inj hF)).2 dX8_exchange_23
  · replace hF := gw_if0 c5 hF
    refine lv_aload_n hx hb dX8_exchange_8 rfl (lv_at hl 0 rfl) ?_
    refine lv_iload_n hx hb dX8_exchange_9 rfl (lv_at hl 2 rfl) ?_
    replace hF := gw_bdE hF
    obtain ⟨r10, e10, hF⟩ := hF
    refine gw_calli I (gw_runV E I (ok_X8_isHook l hD t0 v2 _ e10) (cwV 1 E.1.2.2.2.2 gX8_exchange_X8_isHook rfl rfl rfl (by decide +kernel) ⟨Nat.le_of_ble_eq_true rfl, Nat.le_of_ble_eq_true rfl⟩) (by decide) rfl rfl rfl hl.1 rfl (Nat.le_of_ble_eq_true rfl) dX8_exchange_10) (fun H locs I => ?_)
    refine lv_if_eq (tgt := 21) hx hb dX8_exchange_13 (by decide) (fun c13 => ?_) (fun c13 => ?_)
    · replace hF := gw_if1 c13 hF
      refine lv_bipush (v := (-101)) hx hb dX8_exchange_21 (by decide) ?_
      exact gw_iret E I hr hlocks rfl (Prod.mk.inj (Option.some.inj hF)).1 (Prod.mk.inj (Option.some.inj hF)).2 dX8_exchange_23
    · replace hF := gw_if0 c13 hF
      refine lv_iload_n hx hb dX8_exchange_16 rfl (lv_at hl 1 rfl) ?_
      refine lv_iload_n hx hb dX8_exchange_17 rfl (lv_at hl 2 rfl) ?_
      refine lv_icmp_ne (tgt := 24) hx hb dX8_exchange_18 (by decide) (fun c18 => ?_) (fun c18 => ?_)
      · replace hF := gw_if0 c18 hF
        refine lv_aload_n hx hb dX8_exchange_24 rfl (lv_at hl 0 rfl) ?_
        refine gf_M_0_5 E I in_X8_exchange_X8 lk_X8_exchange_19 dX8_exchange_25 ?_
        refine lv_iload_n hx hb dX8_exchange_28 rfl (lv_at hl 1 rfl) ?_
        replace hF := gw_ifn hF
        obtain ⟨hz29, hF⟩ := hF
        refine gw_iald E I 4 (by decide) rfl hz29 dX8_exchange_29 ?_
        replace hF := gw_nmE hF
        obtain ⟨v3_30, ev3_30, hF⟩ := hF
        refine gw_topi ev3_30 ?_
        refine lv_istore_n (lv' := [(3, .int v3_30), (0, .ref (ad 0)), (1, .int v1), (2, .int v2)]) hx hb dX8_exchange_30 rfl hl (by decide) rfl (fun ls hl => ?_)
        refine lv_aload_n hx hb dX8_exchange_31 rfl (lv_at hl 1 rfl) ?_
        refine gf_M_0_5 E I in_X8_exchange_X8 lk_X8_exchange_19 dX8_exchange_32 ?_
        refine lv_iload_n hx hb dX8_exchange_35 rfl (lv_at hl 3 rfl) ?_
        replace hF := gw_ifn hF
        obtain ⟨hz36, hF⟩ := hF
        refine gw_iald E I 4 (by decide) rfl hz36 dX8_exchange_36 ?_
        replace hF := gw_nmE hF
        obtain ⟨v4_37, ev4_37, hF⟩ := hF
        refine gw_topi ev4_37 ?_
        refine lv_istore (lv' := [(4, .int v4_37), (3, .int v3_30), (0, .ref (ad 0)), (1, .int v1), (2, .int v2)]) hx hb dX8_exchange_37 hl (by decide) rfl (fun ls hl => ?_)
        refine lv_aload_n hx hb dX8_exchange_39 rfl (lv_at hl 2 rfl) ?_
        refine gf_M_0_6 E I in_X8_exchange_X8 lk_X8_exchange_22 dX8_exchange_40 ?_
        refine lv_iload_n hx hb dX8_exchange_43 rfl (lv_at hl 1 rfl) ?_
        replace hF := gw_ifn hF
        obtain ⟨hz44, hF⟩ := hF
        refine gw_iald E I 5 (by decide) rfl hz44 dX8_exchange_44 ?_
        refine lv_aload_n hx hb dX8_exchange_45 rfl (lv_at hl 2 rfl) ?_
        refine gf_M_0_3 E I in_X8_exchange_X8 lk_X8_exchange_13 dX8_exchange_46 ?_
        refine lv_iload_n hx hb dX8_exchange_49 rfl (lv_at hl 4 rfl) ?_
        replace hF := gw_ifn hF
        obtain ⟨hz50, hF⟩ := hF
        refine gw_iald E I 2 (by decide) rfl hz50 dX8_exchange_50 ?_
        refine lv_icmp_gt (tgt := 70) hx hb dX8_exchange_51 (by decide) (fun c51 => ?_) (fun c51 => ?_)
        · replace hF := gw_if1 c51 hF
          refine lv_bipush (v := (-103)) hx hb dX8_exchange_70 (by decide) ?_
          exact gw_iret E I hr hlocks rfl (Prod.mk.inj (Option.some.inj hF)).1 (Prod.mk.inj (Option.some.inj hF)).2 dX8_exchange_72
        · replace hF := gw_if0 c51 hF
          refine lv_aload_n hx hb dX8_exchange_54 rfl (lv_at hl 2 rfl) ?_
          refine gf_M_0_6 E I in_X8_exchange_X8 lk_X8_exchange_22 dX8_exchange_55 ?_
          refine lv_iload hx hb dX8_exchange_58 (lv_at hl 0 rfl) ?_
          replace hF := gw_ifn hF
          obtain ⟨hz60, hF⟩ := hF
          refine gw_iald E I 5 (by decide) rfl hz60 dX8_exchange_60 ?_
          refine lv_aload_n hx hb dX8_exchange_61 rfl (lv_at hl 2 rfl) ?_
          refine gf_M_0_3 E I in_X8_exchange_X8 lk_X8_exchange_13 dX8_exchange_62 ?_
          refine lv_iload_n hx hb dX8_exchange_65 rfl (lv_at hl 3 rfl) ?_
          replace hF := gw_ifn hF
          obtain ⟨hz66, hF⟩ := hF
          refine gw_iald E I 2 (by decide) rfl hz66 dX8_exchange_66 ?_
          refine lv_icmp_le (tgt := 73) hx hb dX8_exchange_67 (by decide) (fun c67 => ?_) (fun c67 => ?_)
          · replace hF := gw_if1 c67 hF
            refine lv_aload_n hx hb dX8_exchange_73 rfl (lv_at hl 2 rfl) ?_
            refine gf_M_0_5 E I in_X8_exchange_X8 lk_X8_exchange_19 dX8_exchange_74 ?_
            refine lv_iload_n hx hb dX8_exchange_77 rfl (lv_at hl 3 rfl) ?_
            refine lv_iload hx hb dX8_exchange_78 (lv_at hl 0 rfl) ?_
            replace hF := gw_ifn hF
            obtain ⟨hz80, hF⟩ := hF
            replace hF := gw_nmE hF
            obtain ⟨t_80, et_80, hF⟩ := hF
            refine gw_iast E I 4 (by decide) (fun _ => rfl) hz80 et_80 dX8_exchange_80 (fun H locs I => ?_)
            refine lv_aload_n hx hb dX8_exchange_81 rfl (lv_at hl 2 rfl) ?_
            refine gf_M_0_5 E I in_X8_exchange_X8 lk_X8_exchange_19 dX8_exchange_82 ?_
            refine lv_iload_n hx hb dX8_exchange_85 rfl (lv_at hl 4 rfl) ?_
            refine lv_iload_n hx hb dX8_exchange_86 rfl (lv_at hl 1 rfl) ?_
            replace hF := gw_ifn hF
            obtain ⟨hz87, hF⟩ := hF
            replace hF := gw_nmE hF
            obtain ⟨t_87, et_87, hF⟩ := hF
            refine gw_iast E I 4 (by decide) (fun _ => rfl) hz87 et_87 dX8_exchange_87 (fun H locs I => ?_)
            refine lv_aload_n hx hb dX8_exchange_88 rfl (lv_at hl 2 rfl) ?_
            refine lv_dup hx hb dX8_exchange_89 rfl ?_
            refine gf_M_0_13 E I in_X8_exchange_X8 lk_X8_exchange_121 dX8_exchange_90 ?_
            refine lv_bipush (v := 10) hx hb dX8_exchange_93 (by decide) ?_
            refine lv_iadd hx hb dX8_exchange_95 ?_
            replace hF := gw_nmE hF
            obtain ⟨t_96, et_96, hF⟩ := hF
            refine gp_M_0_13 E I in_X8_exchange_X8 lk_X8_exchange_121 et_96 dX8_exchange_96 (fun H locs I => ?_)
            refine lv_aload_n hx hb dX8_exchange_99 rfl (lv_at hl 2 rfl) ?_
            refine gf_M_0_13 E I in_X8_exchange_X8 lk_X8_exchange_121 dX8_exchange_100 ?_
            exact gw_iret E I hr hlocks rfl (Prod.mk.inj (Option.some.inj hF)).1 (Prod.mk.inj (Option.some.inj hF)).2 dX8_exchange_103
          · replace hF := gw_if0 c67 hF
            refine lv_bipush (v := (-103)) hx hb dX8_exchange_70 (by decide) ?_
            exact gw_iret E I hr hlocks rfl (Prod.mk.inj (Option.some.inj hF)).1 (Prod.mk.inj (Option.some.inj hF)).2 dX8_exchange_72
      · replace hF := gw_if1 c18 hF
        refine lv_bipush (v := (-101)) hx hb dX8_exchange_21 (by decide) ?_
        exact gw_iret E I hr hlocks rfl (Prod.mk.inj (Option.some.inj hF)).1 (Prod.mk.inj (Option.some.inj hF)).2 dX8_exchange_23
abbrev rmX8_costBy : Room := { frames := 1, cells := 0, slots := 0, locals := 21 }
set_option maxHeartbeats 4000000 in
set_option maxRecDepth 100000 in
theorem ok_X8_costBy (l : Launch) {D : va_G} {g : gw_G} {tG : Nat} {ad : Nat → Nat} {A : Nat → Prop} (hD : gw_D A 23 ad) (t0 : gw_S) (v1 : Int32) (v2 : Int32) (v3 : Int32) (v4 : Int32) (r0 : Int32) (hF : fX8_costBy v1 v2 v3 v4 t0 = some r0) : Met l yX8_costBy wsX8_costBy rmX8_costBy (gw_Pc D g tG (tM g ad) 23 ad A [.ref (ad 0), .int v1, .int v2, .int v3, .int v4] t0) (gw_Qi D (tM g ad) 23 ad A r0 t0) 0 0 A := by
  unfold fX8_costBy at hF
  refine gw_met (by decide) rfl hD (Nat.le_of_ble_eq_true rfl) (fun p e s m args below meth c E hr hlocks I ls hl => ?_)
  have hx := E.1.1
  have hb := E.1.2.1
  have hl : lv_has ls 6 [(0, .ref (ad 0)), (1, .int v1), (2, .int v2), (3, .int v3), (4, .int v4)] := hl
  have hJ16 : ∀ (v2 : Int32) (v3 : Int32) (v4 : Int32) (x0 : Int32) (H : Heap) (locs : List Loc) (ls : Array Slot), lv_has ls 6 [(0, .ref (ad 0)), (2, .int v2), (3, .int v3), (4, .int v4)] → gw_I D (tM g ad) 23 ad A s.heap t0 H locs → fX8_costBy_J16 v2 v3 v4 x0 t0 = some r0 → W p l e rmX8_costBy s m args below meth c H locs 0 0 (MQ below (gw_Qi D (tM g ad) 23 ad A r0 t0) args s 0 0 A) (F0 m 16 ls [.int x0]) := by
    intro v2 v3 v4 x0 H locs ls hl I hF
    unfold fX8_costBy_J16 at hF
    refine lv_istore (lv' := [(5, .int x0), (0, .ref (ad 0)), (2, .int v2), (3, .int v3), (4, .int v4)]) hx hb dX8_costBy_16 hl (by decide) rfl (fun ls hl => ?_)
    refine lv_bipush (v := 20) hx hb dX8_costBy_18 (by decide) ?_
    refine lv_bipush (v := 60) hx hb dX8_costBy_20 (by decide) ?_
    refine lv_iload hx hb dX8_costBy_22 (lv_at hl 4 rfl) ?_
    refine lv_imul hx hb dX8_costBy_24 ?_
    refine lv_iadd hx hb dX8_costBy_25 ?_
    refine lv_aload_n hx hb dX8_costBy_26 rfl (lv_at hl 1 rfl) ?_
    refine lv_iload_n hx hb dX8_costBy_27 rfl (lv_at hl 2 rfl) ?_
    replace hF := gw_bdE hF
    obtain ⟨r28, e28, hF⟩ := hF
    refine gw_calli I (gw_runV E I (ok_X8_walk l hD t0 v2 _ e28) (cwV 1 E.1.2.2.2.2 gX8_costBy_X8_walk rfl rfl rfl (by decide +kernel) ⟨Nat.le_of_ble_eq_true rfl, Nat.le_of_ble_eq_true rfl⟩) (by decide) rfl rfl rfl hl.1 rfl (Nat.le_of_ble_eq_true rfl) dX8_costBy_28) (fun H locs I => ?_)
    refine lv_bipush (v := 10) hx hb dX8_costBy_31 (by decide) ?_
    refine lv_iload_n hx hb dX8_costBy_33 rfl (lv_at hl 3 rfl) ?_
    refine lv_isub hx hb dX8_costBy_34 ?_
    refine lv_iload hx hb dX8_costBy_35 (lv_at hl 4 rfl) ?_
    refine lv_isub hx hb dX8_costBy_37 ?_
    refine lv_imul hx hb dX8_costBy_38 ?_
    refine lv_iadd hx hb dX8_costBy_39 ?_
    refine lv_iload hx hb dX8_costBy_40 (lv_at hl 0 rfl) ?_
    refine lv_iadd hx hb dX8_costBy_42 ?_
    exact gw_iret E I hr hlocks rfl (Option.some.inj hF) rfl dX8_costBy_43
  refine lv_iload_n hx hb dX8_costBy_0 rfl (lv_at hl 1 rfl) ?_
  refine lv_iconst (v := 3) hx hb dX8_costBy_1 (by decide) ?_
  refine lv_icmp_ne (tgt := 15) hx hb dX8_costBy_2 (by decide) (fun c2 => ?_) (fun c2 => ?_)
  · replace hF := gw_if0 c2 hF
    refine lv_iconst (v := 0) hx hb dX8_costBy_15 (by decide) ?_
    exact hJ16 v2 v3 v4 0 _ _ _ (lv_sub hl [0, 2, 3, 4] rfl) I hF
  · replace hF := gw_if1 c2 hF
    refine lv_bipush (v := 9) hx hb dX8_costBy_5 (by decide) ?_
    refine lv_iload_n hx hb dX8_costBy_7 rfl (lv_at hl 3 rfl) ?_
    refine lv_iload hx hb dX8_costBy_8 (lv_at hl 4 rfl) ?_
    refine lv_iadd hx hb dX8_costBy_10 ?_
    refine lv_imul hx hb dX8_costBy_11 ?_
    refine lv_goto (tgt := 16) hx hb dX8_costBy_12 (by decide) ?_
    exact hJ16 v2 v3 v4 (9 * (v3 + v4)) _ _ _ (lv_sub hl [0, 2, 3, 4] rfl) I hF
abbrev rmX8_costNow : Room := { frames := 4, cells := 0, slots := 0, locals := 90 }
set_option maxHeartbeats 4000000 in
set_option maxRecDepth 100000 in
theorem ok_X8_costNow (l : Launch) {D : va_G} {g : gw_G} {tG : Nat} {ad : Nat → Nat} {A : Nat → Prop} (hD : gw_D A 23 ad) (t0 : gw_S) (v1 : Int32) (v2 : Int32) (r0 : Int32) (hF : fX8_costNow v1 v2 t0 = some r0) : Met l yX8_costNow wsX8_costNow rmX8_costNow (gw_Pc D g tG (tM g ad) 23 ad A [.ref (ad 0), .int v1, .int v2] t0) (gw_Qi D (tM g ad) 23 ad A r0 t0) 0 0 A := by
  unfold fX8_costNow at hF
  refine gw_met (by decide) rfl hD (Nat.le_of_ble_eq_true rfl) (fun p e s m args below meth c E hr hlocks I ls hl => ?_)
  have hx := E.1.1
  have hb := E.1.2.1
  have hl : lv_has ls 3 [(0, .ref (ad 0)), (1, .int v1), (2, .int v2)] := hl
  refine lv_aload_n hx hb dX8_costNow_0 rfl (lv_at hl 0 rfl) ?_
  refine lv_iload_n hx hb dX8_costNow_1 rfl (lv_at hl 1 rfl) ?_
  refine lv_iload_n hx hb dX8_costNow_2 rfl (lv_at hl 2 rfl) ?_
  refine lv_aload_n hx hb dX8_costNow_3 rfl (lv_at hl 0 rfl) ?_
  refine lv_iload_n hx hb dX8_costNow_4 rfl (lv_at hl 1 rfl) ?_
  refine lv_iload_n hx hb dX8_costNow_5 rfl (lv_at hl 2 rfl) ?_
  refine lv_iconst (v := 0) hx hb dX8_costNow_6 (by decide) ?_
  replace hF := gw_bdE hF
  obtain ⟨r7, e7, hF⟩ := hF
  refine gw_calli I (gw_runV E I (ok_X8_tenthsOf l hD t0 v1 v2 0 _ e7) (cwV 3 E.1.2.2.2.2 gX8_costNow_X8_tenthsOf rfl rfl rfl (by decide +kernel) ⟨Nat.le_of_ble_eq_true rfl, Nat.le_of_ble_eq_true rfl⟩) (by decide) rfl rfl rfl hl.1 rfl (Nat.le_of_ble_eq_true rfl) dX8_costNow_7) (fun H locs I => ?_)
  refine lv_aload_n hx hb dX8_costNow_10 rfl (lv_at hl 0 rfl) ?_
  refine lv_iload_n hx hb dX8_costNow_11 rfl (lv_at hl 1 rfl) ?_
  refine lv_iload_n hx hb dX8_costNow_12 rfl (lv_at hl 2 rfl) ?_
  refine lv_iconst (v := 1) hx hb dX8_costNow_13 (by decide) ?_
  replace hF := gw_bdE hF
  obtain ⟨r14, e14, hF⟩ := hF
  refine gw_calli I (gw_runV E I (ok_X8_tenthsOf l hD t0 v1 v2 1 _ e14) (cwV 3 E.1.2.2.2.2 gX8_costNow_X8_tenthsOf rfl rfl rfl (by decide +kernel) ⟨Nat.le_of_ble_eq_true rfl, Nat.le_of_ble_eq_true rfl⟩) (by decide) rfl rfl rfl hl.1 rfl (Nat.le_of_ble_eq_true rfl) dX8_costNow_14) (fun H locs I => ?_)
  replace hF := gw_bdE hF
  obtain ⟨r17, e17, hF⟩ := hF
  refine gw_calli I (gw_runV E I (ok_X8_costBy l hD t0 v1 v2 r7 r14 _ e17) (cwV 4 E.1.2.2.2.2 gX8_costNow_X8_costBy rfl rfl rfl (by decide +kernel) ⟨Nat.le_of_ble_eq_true rfl, Nat.le_of_ble_eq_true rfl⟩) (by decide) rfl rfl rfl hl.1 rfl (Nat.le_of_ble_eq_true rfl) dX8_costNow_17) (fun H locs I => ?_)
  exact gw_iret E I hr hlocks rfl (Option.some.inj hF) rfl dX8_costNow_20
abbrev rmX8_oddsNow : Room := { frames := 5, cells := 0, slots := 0, locals := 112 }
set_option maxHeartbeats 4000000 in
set_option maxRecDepth 100000 in
theorem ok_X8_oddsNow (l : Launch) {D : va_G} {g : gw_G} {tG : Nat} {ad : Nat → Nat} {A : Nat → Prop} (hD : gw_D A 23 ad) (t0 : gw_S) (v1 : Int32) (v2 : Int32) (v3 : Int32) (r0 : Int32) (hF : fX8_oddsNow v1 v2 v3 t0 = some r0) : Met l yX8_oddsNow wsX8_oddsNow rmX8_oddsNow (gw_Pc D g tG (tM g ad) 23 ad A [.ref (ad 0), .int v1, .int v2, .int v3] t0) (gw_Qi D (tM g ad) 23 ad A r0 t0) 0 0 A := by
  unfold fX8_oddsNow at hF
  refine gw_met (by decide) rfl hD (Nat.le_of_ble_eq_true rfl) (fun p e s m args below meth c E hr hlocks I ls hl => ?_)
  have hx := E.1.1
  have hb := E.1.2.1
  have hl : lv_has ls 4 [(0, .ref (ad 0)), (1, .int v1), (2, .int v2), (3, .int v3)] := hl
  refine lv_iload_n hx hb dX8_oddsNow_0 rfl (lv_at hl 3 rfl) ?_
  by_cases c1_0 : v3 = 0
  · replace hF := gw_if1 c1_0 hF
    refine lv_tableIn (off := 35) (tgt := 36) hx hb dX8_oddsNow_1 (by rw [gw_sw c1_0 (a := 0) (by decide)]; decide) (by rw [gw_sw c1_0 (a := 0) (by decide)]; decide) (by rw [gw_sw c1_0 (a := 0) (by decide)]; rfl) (by decide) ?_
    refine lv_aload_n hx hb dX8_oddsNow_36 rfl (lv_at hl 0 rfl) ?_
    refine lv_iload_n hx hb dX8_oddsNow_37 rfl (lv_at hl 1 rfl) ?_
    refine lv_iload_n hx hb dX8_oddsNow_38 rfl (lv_at hl 2 rfl) ?_
    refine lv_iload_n hx hb dX8_oddsNow_39 rfl (lv_at hl 3 rfl) ?_
    replace hF := gw_bdE hF
    obtain ⟨r40, e40, hF⟩ := hF
    refine gw_calli I (gw_runV E I (ok_X8_tenthsOf l hD t0 v1 v2 v3 _ e40) (cwV 3 E.1.2.2.2.2 gX8_oddsNow_X8_tenthsOf rfl rfl rfl (by decide +kernel) ⟨Nat.le_of_ble_eq_true rfl, Nat.le_of_ble_eq_true rfl⟩) (by decide) rfl rfl rfl hl.1 rfl (Nat.le_of_ble_eq_true rfl) dX8_oddsNow_40) (fun H locs I => ?_)
    exact gw_iret E I hr hlocks rfl (Option.some.inj hF) rfl dX8_oddsNow_43
  · replace hF := gw_if0 c1_0 hF
    by_cases c1_1 : v3 = 1
    · replace hF := gw_if1 c1_1 hF
      refine lv_tableIn (off := 35) (tgt := 36) hx hb dX8_oddsNow_1 (by rw [gw_sw c1_1 (a := 1) (by decide)]; decide) (by rw [gw_sw c1_1 (a := 1) (by decide)]; decide) (by rw [gw_sw c1_1 (a := 1) (by decide)]; rfl) (by decide) ?_
      refine lv_aload_n hx hb dX8_oddsNow_36 rfl (lv_at hl 0 rfl) ?_
      refine lv_iload_n hx hb dX8_oddsNow_37 rfl (lv_at hl 1 rfl) ?_
      refine lv_iload_n hx hb dX8_oddsNow_38 rfl (lv_at hl 2 rfl) ?_
      refine lv_iload_n hx hb dX8_oddsNow_39 rfl (lv_at hl 3 rfl) ?_
      replace hF := gw_bdE hF
      obtain ⟨r40, e40, hF⟩ := hF
      refine gw_calli I (gw_runV E I (ok_X8_tenthsOf l hD t0 v1 v2 v3 _ e40) (cwV 3 E.1.2.2.2.2 gX8_oddsNow_X8_tenthsOf rfl rfl rfl (by decide +kernel) ⟨Nat.le_of_ble_eq_true rfl, Nat.le_of_ble_eq_true rfl⟩) (by decide) rfl rfl rfl hl.1 rfl (Nat.le_of_ble_eq_true rfl) dX8_oddsNow_40) (fun H locs I => ?_)
      exact gw_iret E I hr hlocks rfl (Option.some.inj hF) rfl dX8_oddsNow_43
    · replace hF := gw_if0 c1_1 hF
      by_cases c1_2 : v3 = 2
      · replace hF := gw_if1 c1_2 hF
        refine lv_tableIn (off := 35) (tgt := 36) hx hb dX8_oddsNow_1 (by rw [gw_sw c1_2 (a := 2) (by decide)]; decide) (by rw [gw_sw c1_2 (a := 2) (by decide)]; decide) (by rw [gw_sw c1_2 (a := 2) (by decide)]; rfl) (by decide) ?_
        refine lv_aload_n hx hb dX8_oddsNow_36 rfl (lv_at hl 0 rfl) ?_
        refine lv_iload_n hx hb dX8_oddsNow_37 rfl (lv_at hl 1 rfl) ?_
        refine lv_iload_n hx hb dX8_oddsNow_38 rfl (lv_at hl 2 rfl) ?_
        refine lv_iload_n hx hb dX8_oddsNow_39 rfl (lv_at hl 3 rfl) ?_
        replace hF := gw_bdE hF
        obtain ⟨r40, e40, hF⟩ := hF
        refine gw_calli I (gw_runV E I (ok_X8_tenthsOf l hD t0 v1 v2 v3 _ e40) (cwV 3 E.1.2.2.2.2 gX8_oddsNow_X8_tenthsOf rfl rfl rfl (by decide +kernel) ⟨Nat.le_of_ble_eq_true rfl, Nat.le_of_ble_eq_true rfl⟩) (by decide) rfl rfl rfl hl.1 rfl (Nat.le_of_ble_eq_true rfl) dX8_oddsNow_40) (fun H locs I => ?_)
        exact gw_iret E I hr hlocks rfl (Option.some.inj hF) rfl dX8_oddsNow_43
      · replace hF := gw_if0 c1_2 hF
        by_cases c1_3 : v3 = 3
        · replace hF := gw_if1 c1_3 hF
          refine lv_tableIn (off := 43) (tgt := 44) hx hb dX8_oddsNow_1 (by rw [gw_sw c1_3 (a := 3) (by decide)]; decide) (by rw [gw_sw c1_3 (a := 3) (by decide)]; decide) (by rw [gw_sw c1_3 (a := 3) (by decide)]; rfl) (by decide) ?_
          refine lv_aload_n hx hb dX8_oddsNow_44 rfl (lv_at hl 0 rfl) ?_
          refine lv_iload_n hx hb dX8_oddsNow_45 rfl (lv_at hl 1 rfl) ?_
          refine lv_iload_n hx hb dX8_oddsNow_46 rfl (lv_at hl 2 rfl) ?_
          replace hF := gw_bdE hF
          obtain ⟨r47, e47, hF⟩ := hF
          refine gw_calli I (gw_runV E I (ok_X8_costNow l hD t0 v1 v2 _ e47) (cwV 2 E.1.2.2.2.2 gX8_oddsNow_X8_costNow rfl rfl rfl (by decide +kernel) ⟨Nat.le_of_ble_eq_true rfl, Nat.le_of_ble_eq_true rfl⟩) (by decide) rfl rfl rfl hl.1 rfl (Nat.le_of_ble_eq_true rfl) dX8_oddsNow_47) (fun H locs I => ?_)
          exact gw_iret E I hr hlocks rfl (Option.some.inj hF) rfl dX8_oddsNow_50
        · replace hF := gw_if0 c1_3 hF
          by_cases c1_4 : v3 = 4
          · replace hF := gw_if1 c1_4 hF
            refine lv_tableIn (off := 50) (tgt := 51) hx hb dX8_oddsNow_1 (by rw [gw_sw c1_4 (a := 4) (by decide)]; decide) (by rw [gw_sw c1_4 (a := 4) (by decide)]; decide) (by rw [gw_sw c1_4 (a := 4) (by decide)]; rfl) (by decide) ?_
            refine lv_bipush (v := 10) hx hb dX8_oddsNow_51 (by decide) ?_
            refine lv_aload_n hx hb dX8_oddsNow_53 rfl (lv_at hl 0 rfl) ?_
            refine lv_iload_n hx hb dX8_oddsNow_54 rfl (lv_at hl 2 rfl) ?_
            replace hF := gw_bdE hF
            obtain ⟨r55, e55, hF⟩ := hF
            refine gw_calli I (gw_runV E I (ok_X8_walk l hD t0 v2 _ e55) (cwV 1 E.1.2.2.2.2 gX8_oddsNow_X8_walk rfl rfl rfl (by decide +kernel) ⟨Nat.le_of_ble_eq_true rfl, Nat.le_of_ble_eq_true rfl⟩) (by decide) rfl rfl rfl hl.1 rfl (Nat.le_of_ble_eq_true rfl) dX8_oddsNow_55) (fun H locs I => ?_)
            refine lv_imul hx hb dX8_oddsNow_58 ?_
            exact gw_iret E I hr hlocks rfl (Option.some.inj hF) rfl dX8_oddsNow_59
          · replace hF := gw_if0 c1_4 hF
            refine lv_tableOut (tgt := 60) hx hb dX8_oddsNow_1 (by have q0 := lv_neT c1_0 (a := 0) (by decide); have q1 := lv_neT c1_1 (a := 1) (by decide); have q2 := lv_neT c1_2 (a := 2) (by decide); have q3 := lv_neT c1_3 (a := 3) (by decide); have q4 := lv_neT c1_4 (a := 4) (by decide); omega) (by decide) ?_
            refine lv_aload_n hx hb dX8_oddsNow_60 rfl (lv_at hl 0 rfl) ?_
            refine lv_iload_n hx hb dX8_oddsNow_61 rfl (lv_at hl 1 rfl) ?_
            refine lv_iload_n hx hb dX8_oddsNow_62 rfl (lv_at hl 2 rfl) ?_
            replace hF := gw_bdE hF
            obtain ⟨r63, e63, hF⟩ := hF
            refine gw_calli I (gw_runV E I (ok_X8_costNow l hD t0 v1 v2 _ e63) (cwV 2 E.1.2.2.2.2 gX8_oddsNow_X8_costNow rfl rfl rfl (by decide +kernel) ⟨Nat.le_of_ble_eq_true rfl, Nat.le_of_ble_eq_true rfl⟩) (by decide) rfl rfl rfl hl.1 rfl (Nat.le_of_ble_eq_true rfl) dX8_oddsNow_63) (fun H locs I => ?_)
            refine lv_bipush (v := 10) hx hb dX8_oddsNow_66 (by decide) ?_
            refine lv_aload_n hx hb dX8_oddsNow_68 rfl (lv_at hl 0 rfl) ?_
            refine lv_iload_n hx hb dX8_oddsNow_69 rfl (lv_at hl 2 rfl) ?_
            replace hF := gw_bdE hF
            obtain ⟨r70, e70, hF⟩ := hF
            refine gw_calli I (gw_runV E I (ok_X8_walk l hD t0 v2 _ e70) (cwV 1 E.1.2.2.2.2 gX8_oddsNow_X8_walk rfl rfl rfl (by decide +kernel) ⟨Nat.le_of_ble_eq_true rfl, Nat.le_of_ble_eq_true rfl⟩) (by decide) rfl rfl rfl hl.1 rfl (Nat.le_of_ble_eq_true rfl) dX8_oddsNow_70) (fun H locs I => ?_)
            refine lv_imul hx hb dX8_oddsNow_73 ?_
            refine lv_icmp_ge (tgt := 81) hx hb dX8_oddsNow_74 (by decide) (fun c74 => ?_) (fun c74 => ?_)
            · replace hF := gw_if1 c74 hF
              refine lv_iconst (v := 0) hx hb dX8_oddsNow_81 (by decide) ?_
              exact gw_iret E I hr hlocks rfl (Option.some.inj hF) rfl dX8_oddsNow_82
            · replace hF := gw_if0 c74 hF
              refine lv_iconst (v := 1) hx hb dX8_oddsNow_77 (by decide) ?_
              refine lv_goto (tgt := 82) hx hb dX8_oddsNow_78 (by decide) ?_
              exact gw_iret E I hr hlocks rfl (Option.some.inj hF) rfl dX8_oddsNow_82
abbrev rmX8_odds : Room := { frames := 6, cells := 0, slots := 0, locals := 135 }
set_option maxHeartbeats 4000000 in
set_option maxRecDepth 100000 in
theorem ok_X8_odds (l : Launch) {D : va_G} {g : gw_G} {tG : Nat} {ad : Nat → Nat} {A : Nat → Prop} (hD : gw_D A 23 ad) (t0 : gw_S) (v1 : Int32) (v2 : Int32) (v3 : Int32) (r0 : Int32) (hF : fX8_odds v1 v2 v3 t0 = some r0) : Met l yX8_odds wsX8_odds rmX8_odds (gw_Pc D g tG (tM g ad) 23 ad A [.ref (ad 0), .int v1, .int v2, .int v3] t0) (gw_Qi D (tM g ad) 23 ad A r0 t0) 0 0 A := by
  unfold fX8_odds at hF
  refine gw_met (by decide) rfl hD (Nat.le_of_ble_eq_true rfl) (fun p e s m args below meth c E hr hlocks I ls hl => ?_)
  have hx := E.1.1
  have hb := E.1.2.1
  have hl : lv_has ls 4 [(0, .ref (ad 0)), (1, .int v1), (2, .int v2), (3, .int v3)] := hl
  refine lv_iload_n hx hb dX8_odds_0 rfl (lv_at hl 1 rfl) ?_
  refine lv_iconst (v := 0) hx hb dX8_odds_1 (by decide) ?_
  refine lv_iconst (v := 4) hx hb dX8_odds_2 (by decide) ?_
  refine gw_calli I (gw_runS E I (ok_X8_within l hD t0 v1 0 4 _ rfl) (va_cwS 3 E.1.2.2.2.2 gX8_odds_X8_within rfl rfl rfl (by decide +kernel) ⟨Nat.le_of_ble_eq_true rfl, Nat.le_of_ble_eq_true rfl⟩) rfl hl.1 rfl (Nat.le_of_ble_eq_true rfl) dX8_odds_3) (fun H locs I => ?_)
  refine lv_if_ne (tgt := 12) hx hb dX8_odds_6 (by decide) (fun c6 => ?_) (fun c6 => ?_)
  · replace hF := gw_if0 c6 hF
    refine lv_aload_n hx hb dX8_odds_12 rfl (lv_at hl 0 rfl) ?_
    refine lv_iload_n hx hb dX8_odds_13 rfl (lv_at hl 2 rfl) ?_
    replace hF := gw_bdE hF
    obtain ⟨r14, e14, hF⟩ := hF
    refine gw_calli I (gw_runV E I (ok_X8_isHook l hD t0 v2 _ e14) (cwV 1 E.1.2.2.2.2 gX8_odds_X8_isHook rfl rfl rfl (by decide +kernel) ⟨Nat.le_of_ble_eq_true rfl, Nat.le_of_ble_eq_true rfl⟩) (by decide) rfl rfl rfl hl.1 rfl (Nat.le_of_ble_eq_true rfl) dX8_odds_14) (fun H locs I => ?_)
    refine lv_if_ne (tgt := 23) hx hb dX8_odds_17 (by decide) (fun c17 => ?_) (fun c17 => ?_)
    · replace hF := gw_if0 c17 hF
      refine lv_iload_n hx hb dX8_odds_23 rfl (lv_at hl 3 rfl) ?_
      refine lv_iconst (v := 0) hx hb dX8_odds_24 (by decide) ?_
      refine lv_iconst (v := 5) hx hb dX8_odds_25 (by decide) ?_
      refine gw_calli I (gw_runS E I (ok_X8_within l hD t0 v3 0 5 _ rfl) (va_cwS 3 E.1.2.2.2.2 gX8_odds_X8_within rfl rfl rfl (by decide +kernel) ⟨Nat.le_of_ble_eq_true rfl, Nat.le_of_ble_eq_true rfl⟩) rfl hl.1 rfl (Nat.le_of_ble_eq_true rfl) dX8_odds_26) (fun H locs I => ?_)
      refine lv_if_eq (tgt := 42) hx hb dX8_odds_29 (by decide) (fun c29 => ?_) (fun c29 => ?_)
      · replace hF := gw_if1 c29 hF
        refine lv_bipush (v := (-102)) hx hb dX8_odds_42 (by decide) ?_
        exact gw_iret E I hr hlocks rfl (Option.some.inj hF) rfl dX8_odds_44
      · replace hF := gw_if0 c29 hF
        refine lv_aload_n hx hb dX8_odds_32 rfl (lv_at hl 0 rfl) ?_
        refine lv_iload_n hx hb dX8_odds_33 rfl (lv_at hl 1 rfl) ?_
        refine lv_iload_n hx hb dX8_odds_34 rfl (lv_at hl 2 rfl) ?_
        refine lv_iload_n hx hb dX8_odds_35 rfl (lv_at hl 3 rfl) ?_
        replace hF := gw_bdE hF
        obtain ⟨r36, e36, hF⟩ := hF
        refine gw_calli I (gw_runV E I (ok_X8_oddsNow l hD t0 v1 v2 v3 _ e36) (cwV 3 E.1.2.2.2.2 gX8_odds_X8_oddsNow rfl rfl rfl (by decide +kernel) ⟨Nat.le_of_ble_eq_true rfl, Nat.le_of_ble_eq_true rfl⟩) (by decide) rfl rfl rfl hl.1 rfl (Nat.le_of_ble_eq_true rfl) dX8_odds_36) (fun H locs I => ?_)
        refine lv_goto (tgt := 44) hx hb dX8_odds_39 (by decide) ?_
        exact gw_iret E I hr hlocks rfl (Option.some.inj hF) rfl dX8_odds_44
    · replace hF := gw_if1 c17 hF
      refine lv_bipush (v := (-101)) hx hb dX8_odds_20 (by decide) ?_
      exact gw_iret E I hr hlocks rfl (Option.some.inj hF) rfl dX8_odds_22
  · replace hF := gw_if1 c6 hF
    refine lv_bipush (v := (-102)) hx hb dX8_odds_9 (by decide) ?_
    exact gw_iret E I hr hlocks rfl (Option.some.inj hF) rfl dX8_odds_11
abbrev rmX8_ways : Room := { frames := 0, cells := 0, slots := 0, locals := 0 }
theorem lk_X8_ways_109 : Cond.fieldLink RX8 109 "ThrownSacksModel" "hooks" "I" ∈ wsX8_ways := by decide +kernel
theorem in_X8_ways_X8 : ∀ w ∈ u_ws RX8 TX8 42, w ∈ wsX8_ways := by decide +kernel
set_option maxHeartbeats 4000000 in
set_option maxRecDepth 100000 in
theorem ok_X8_ways (l : Launch) {D : va_G} {g : gw_G} {tG : Nat} {ad : Nat → Nat} {A : Nat → Prop} (hD : gw_D A 23 ad) (t0 : gw_S) (r0 : Int32) (hF : fX8_ways t0 = some r0) : Met l yX8_ways wsX8_ways rmX8_ways (gw_Pc D g tG (tM g ad) 23 ad A [.ref (ad 0)] t0) (gw_Qi D (tM g ad) 23 ad A r0 t0) 0 0 A := by
  unfold fX8_ways at hF
  refine gw_met (by decide) rfl hD (Nat.le_of_ble_eq_true rfl) (fun p e s m args below meth c E hr hlocks I ls hl => ?_)
  have hx := E.1.1
  have hb := E.1.2.1
  have hl : lv_has ls 3 [(0, .ref (ad 0))] := hl
  have hL4 : ∀ (Kx : Int32 → Int32 → Option (Int32)), (∀ (v1 : Int32) (v2 : Int32) (H : Heap) (locs : List Loc) (ls : Array Slot), lv_has ls 3 [(1, .int v1)] → gw_I D (tM g ad) 23 ad A s.heap t0 H locs → Kx v1 v2 = some r0 → W p l e rmX8_ways s m args below meth c H locs 0 0 (MQ below (gw_Qi D (tM g ad) 23 ad A r0 t0) args s 0 0 A) (F0 m 22 ls [])) → ∀ (n : Nat) (v1 : Int32) (v2 : Int32) (H : Heap) (locs : List Loc) (ls : Array Slot), lv_has ls 3 [(0, .ref (ad 0)), (1, .int v1), (2, .int v2)] → gw_I D (tM g ad) 23 ad A s.heap t0 H locs → fX8_ways_L4 Kx t0 n v1 v2 = some r0 → W p l e rmX8_ways s m args below meth c H locs 0 0 (MQ below (gw_Qi D (tM g ad) 23 ad A r0 t0) args s 0 0 A) (F0 m 4 ls []) := by
    intro Kx hKx n
    induction n with
    | zero =>
      intro v1 v2 H locs ls hl I hF
      rw [fX8_ways_L4] at hF
      cases hF
    | succ n ih =>
      intro v1 v2 H locs ls hl I hF
      rw [fX8_ways_L4] at hF
      refine lv_iload_n hx hb dX8_ways_4 rfl (lv_at hl 2 rfl) ?_
      refine lv_aload_n hx hb dX8_ways_5 rfl (lv_at hl 0 rfl) ?_
      refine gf_M_0_1 E I in_X8_ways_X8 lk_X8_ways_109 dX8_ways_6 ?_
      refine lv_icmp_gt (tgt := 22) hx hb dX8_ways_9 (by decide) (fun c9 => ?_) (fun c9 => ?_)
      · replace hF := gw_if1 c9 hF
        exact hKx v1 v2 _ _ _ (lv_sub hl [1] rfl) I hF
      · replace hF := gw_if0 c9 hF
        refine lv_iload_n hx hb dX8_ways_12 rfl (lv_at hl 1 rfl) ?_
        refine lv_iload_n hx hb dX8_ways_13 rfl (lv_at hl 2 rfl) ?_
        refine lv_imul hx hb dX8_ways_14 ?_
        replace hF := gw_nmE hF
        obtain ⟨v1_15, ev1_15, hF⟩ := hF
        refine gw_topi ev1_15 ?_
        refine lv_istore_n (lv' := [(1, .int v1_15), (0, .ref (ad 0)), (2, .int v2)]) hx hb dX8_ways_15 rfl hl (by decide) rfl (fun ls hl => ?_)
        replace hF := gw_nmE hF
        obtain ⟨v2_16, ev2_16, hF⟩ := hF
        refine lv_iinc (v := v2_16) (lv' := [(2, .int v2_16), (1, .int v1_15), (0, .ref (ad 0))]) hx hb dX8_ways_16 hl (k := 2) rfl (by subst ev2_16; rfl) (by decide) rfl (fun ls hl => ?_)
        refine lv_goto (tgt := 4) hx hb dX8_ways_19 (by decide) ?_
        exact ih v1_15 v2_16 _ _ _ (lv_sub hl [2, 1, 0] rfl) I hF
  refine lv_iconst (v := 1) hx hb dX8_ways_0 (by decide) ?_
  refine lv_istore_n (lv' := [(1, .int 1), (0, .ref (ad 0))]) hx hb dX8_ways_1 rfl hl (by decide) rfl (fun ls hl => ?_)
  refine lv_iconst (v := 2) hx hb dX8_ways_2 (by decide) ?_
  refine lv_istore_n (lv' := [(2, .int 2), (1, .int 1), (0, .ref (ad 0))]) hx hb dX8_ways_3 rfl hl (by decide) rfl (fun ls hl => ?_)
  refine hL4 _  (fun v1_x4 v2_x4 H locs ls hl I hF => ?_) 2000 1 2 _ _ _ (lv_sub hl [2, 1, 0] rfl) I hF
  refine lv_iload_n hx hb dX8_ways_22 rfl (lv_at hl 0 rfl) ?_
  exact gw_iret E I hr hlocks rfl (Option.some.inj hF) rfl dX8_ways_23
abbrev rmX8_hangBy : Room := { frames := 1, cells := 0, slots := 0, locals := 22 }
theorem lk_X8_hangBy_19 : Cond.fieldLink RX8 19 "ThrownSacksModel" "hangsOn" "[I" ∈ wsX8_hangBy := by decide +kernel
theorem lk_X8_hangBy_109 : Cond.fieldLink RX8 109 "ThrownSacksModel" "hooks" "I" ∈ wsX8_hangBy := by decide +kernel
theorem in_X8_hangBy_X8 : ∀ w ∈ u_ws RX8 TX8 42, w ∈ wsX8_hangBy := by decide +kernel
set_option maxHeartbeats 4000000 in
set_option maxRecDepth 100000 in
theorem ok_X8_hangBy (l : Launch) {D : va_G} {g : gw_G} {tG : Nat} {ad : Nat → Nat} {A : Nat → Prop} (hD : gw_D A 23 ad) (t0 : gw_S) (v1 : Int32) (tz : gw_S) (hF : fX8_hangBy v1 t0 = some tz) : Met l yX8_hangBy wsX8_hangBy rmX8_hangBy (gw_Pc D g tG (tM g ad) 23 ad A [.ref (ad 0), .int v1] t0) (gw_Qv D (tM g ad) 23 ad A tz) 0 0 A := by
  unfold fX8_hangBy at hF
  refine gw_met (by decide) rfl hD (Nat.le_of_ble_eq_true rfl) (fun p e s m args below meth c E hr hlocks I ls hl => ?_)
  have hx := E.1.1
  have hb := E.1.2.1
  have hl : lv_has ls 8 [(0, .ref (ad 0)), (1, .int v1)] := hl
  have hJ77 : ∀ (Kx : Int32 → Int32 → gw_S → Option (gw_S)) (Kh : Int32 → Int32 → gw_S → Option (gw_S)) (v2 : Int32) (v3 : Int32) (v4 : Int32) (v5 : Int32) (v7 : Int32) (x0 : Int32) (x1 : Int32) (hKx : ∀ (v6 : Int32) (v7 : Int32) (t : gw_S) (H : Heap) (locs : List Loc) (ls : Array Slot), lv_has ls 8 [(0, .ref (ad 0)), (2, .int v2), (3, .int v3), (4, .int v4), (5, .int v5), (7, .int v7)] → gw_I D (tM g ad) 23 ad A s.heap t H locs → Kx v6 v7 t = some tz → W p l e rmX8_hangBy s m args below meth c H locs 0 0 (MQ below (gw_Qv D (tM g ad) 23 ad A tz) args s 0 0 A) (F0 m 86 ls [])) (hKh : ∀ (v6 : Int32) (v7 : Int32) (t : gw_S) (H : Heap) (locs : List Loc) (ls : Array Slot), lv_has ls 8 [(0, .ref (ad 0)), (2, .int v2), (3, .int v3), (4, .int v4), (5, .int v5), (6, .int v6), (7, .int v7)] → gw_I D (tM g ad) 23 ad A s.heap t H locs → Kh v6 v7 t = some tz → W p l e rmX8_hangBy s m args below meth c H locs 0 0 (MQ below (gw_Qv D (tM g ad) 23 ad A tz) args s 0 0 A) (F0 m 44 ls [])) (t : gw_S) (H : Heap) (locs : List Loc) (ls : Array Slot), lv_has ls 8 [(0, .ref (ad 0)), (2, .int v2), (3, .int v3), (4, .int v4), (5, .int v5), (7, .int v7)] → gw_I D (tM g ad) 23 ad A s.heap t H locs → fX8_hangBy_J77 Kx Kh v2 v3 v4 v5 v7 x0 x1 t = some tz → W p l e rmX8_hangBy s m args below meth c H locs 0 0 (MQ below (gw_Qv D (tM g ad) 23 ad A tz) args s 0 0 A) (F0 m 77 ls [.int x1, .int x0]) := by
    intro Kx Kh v2 v3 v4 v5 v7 x0 x1 hKx hKh t H locs ls hl I hF
    unfold fX8_hangBy_J77 at hF
    refine lv_isub hx hb dX8_hangBy_77 ?_
    replace hF := gw_nmE hF
    obtain ⟨v6_78, ev6_78, hF⟩ := hF
    refine gw_topi ev6_78 ?_
    refine lv_istore (lv' := [(6, .int v6_78), (0, .ref (ad 0)), (2, .int v2), (3, .int v3), (4, .int v4), (5, .int v5), (7, .int v7)]) hx hb dX8_hangBy_78 hl (by decide) rfl (fun ls hl => ?_)
    replace hF := gw_nmE hF
    obtain ⟨v7_80, ev7_80, hF⟩ := hF
    refine lv_iinc (v := v7_80) (lv' := [(7, .int v7_80), (6, .int v6_78), (0, .ref (ad 0)), (2, .int v2), (3, .int v3), (4, .int v4), (5, .int v5)]) hx hb dX8_hangBy_80 hl (k := 6) rfl (by subst ev7_80; rfl) (by decide) rfl (fun ls hl => ?_)
    refine lv_goto (tgt := 44) hx hb dX8_hangBy_83 (by decide) ?_
    exact hKh v6_78 v7_80 t _ _ _ (lv_sub hl [2, 3, 4, 5, 6, 1, 0] rfl) I hF
  have hJ60 : ∀ (Kx : Int32 → Int32 → gw_S → Option (gw_S)) (Kh : Int32 → Int32 → gw_S → Option (gw_S)) (v2 : Int32) (v3 : Int32) (v4 : Int32) (v5 : Int32) (v6 : Int32) (v7 : Int32) (hKx : ∀ (v6 : Int32) (v7 : Int32) (t : gw_S) (H : Heap) (locs : List Loc) (ls : Array Slot), lv_has ls 8 [(0, .ref (ad 0)), (2, .int v2), (3, .int v3), (4, .int v4), (5, .int v5), (7, .int v7)] → gw_I D (tM g ad) 23 ad A s.heap t H locs → Kx v6 v7 t = some tz → W p l e rmX8_hangBy s m args below meth c H locs 0 0 (MQ below (gw_Qv D (tM g ad) 23 ad A tz) args s 0 0 A) (F0 m 86 ls [])) (hKh : ∀ (v6 : Int32) (v7 : Int32) (t : gw_S) (H : Heap) (locs : List Loc) (ls : Array Slot), lv_has ls 8 [(0, .ref (ad 0)), (2, .int v2), (3, .int v3), (4, .int v4), (5, .int v5), (6, .int v6), (7, .int v7)] → gw_I D (tM g ad) 23 ad A s.heap t H locs → Kh v6 v7 t = some tz → W p l e rmX8_hangBy s m args below meth c H locs 0 0 (MQ below (gw_Qv D (tM g ad) 23 ad A tz) args s 0 0 A) (F0 m 44 ls [])) (t : gw_S) (H : Heap) (locs : List Loc) (ls : Array Slot), lv_has ls 8 [(0, .ref (ad 0)), (2, .int v2), (3, .int v3), (4, .int v4), (5, .int v5), (6, .int v6), (7, .int v7)] → gw_I D (tM g ad) 23 ad A s.heap t H locs → fX8_hangBy_J60 Kx Kh v2 v3 v4 v5 v6 v7 t = some tz → W p l e rmX8_hangBy s m args below meth c H locs 0 0 (MQ below (gw_Qv D (tM g ad) 23 ad A tz) args s 0 0 A) (F0 m 60 ls []) := by
    intro Kx Kh v2 v3 v4 v5 v6 v7 hKx hKh t H locs ls hl I hF
    unfold fX8_hangBy_J60 at hF
    refine lv_iload hx hb dX8_hangBy_60 (lv_at hl 5 rfl) ?_
    refine lv_iload hx hb dX8_hangBy_62 (lv_at hl 3 rfl) ?_
    refine lv_iload hx hb dX8_hangBy_64 (lv_at hl 6 rfl) ?_
    refine lv_ishr hx hb dX8_hangBy_66 ?_
    refine lv_iconst (v := 1) hx hb dX8_hangBy_67 (by decide) ?_
    refine lv_iand hx hb dX8_hangBy_68 ?_
    refine lv_if_ne (tgt := 76) hx hb dX8_hangBy_69 (by decide) (fun c69 => ?_) (fun c69 => ?_)
    · replace hF := gw_if0 c69 hF
      refine lv_iconst (v := 0) hx hb dX8_hangBy_76 (by decide) ?_
      exact hJ77 Kx Kh v2 v3 v4 v5 v7 v6 0 hKx hKh t _ _ _ (lv_sub hl [0, 1, 2, 3, 4, 6] rfl) I hF
    · replace hF := gw_if1 c69 hF
      refine lv_iconst (v := 1) hx hb dX8_hangBy_72 (by decide) ?_
      refine lv_goto (tgt := 77) hx hb dX8_hangBy_73 (by decide) ?_
      exact hJ77 Kx Kh v2 v3 v4 v5 v7 v6 1 hKx hKh t _ _ _ (lv_sub hl [0, 1, 2, 3, 4, 6] rfl) I hF
  have hL44 : ∀ (Kx : Int32 → Int32 → gw_S → Option (gw_S)) (v2 : Int32) (v3 : Int32) (v4 : Int32) (v5 : Int32), (∀ (v6 : Int32) (v7 : Int32) (t : gw_S) (H : Heap) (locs : List Loc) (ls : Array Slot), lv_has ls 8 [(0, .ref (ad 0)), (2, .int v2), (3, .int v3), (4, .int v4), (5, .int v5), (7, .int v7)] → gw_I D (tM g ad) 23 ad A s.heap t H locs → Kx v6 v7 t = some tz → W p l e rmX8_hangBy s m args below meth c H locs 0 0 (MQ below (gw_Qv D (tM g ad) 23 ad A tz) args s 0 0 A) (F0 m 86 ls [])) → ∀ (n : Nat) (v6 : Int32) (v7 : Int32) (t : gw_S) (H : Heap) (locs : List Loc) (ls : Array Slot), lv_has ls 8 [(0, .ref (ad 0)), (2, .int v2), (3, .int v3), (4, .int v4), (5, .int v5), (6, .int v6), (7, .int v7)] → gw_I D (tM g ad) 23 ad A s.heap t H locs → fX8_hangBy_L44 Kx v2 v3 v4 v5 n v6 v7 t = some tz → W p l e rmX8_hangBy s m args below meth c H locs 0 0 (MQ below (gw_Qv D (tM g ad) 23 ad A tz) args s 0 0 A) (F0 m 44 ls []) := by
    intro Kx v2 v3 v4 v5 hKx n
    induction n with
    | zero =>
      intro v6 v7 t H locs ls hl I hF
      rw [fX8_hangBy_L44] at hF
      cases hF
    | succ n ih =>
      intro v6 v7 t H locs ls hl I hF
      rw [fX8_hangBy_L44] at hF
      refine lv_iload hx hb dX8_hangBy_44 (lv_at hl 3 rfl) ?_
      refine lv_iload hx hb dX8_hangBy_46 (lv_at hl 6 rfl) ?_
      refine lv_ishr hx hb dX8_hangBy_48 ?_
      refine lv_iconst (v := 1) hx hb dX8_hangBy_49 (by decide) ?_
      refine lv_iand hx hb dX8_hangBy_50 ?_
      refine lv_iconst (v := 1) hx hb dX8_hangBy_51 (by decide) ?_
      refine lv_icmp_eq (tgt := 60) hx hb dX8_hangBy_52 (by decide) (fun c52 => ?_) (fun c52 => ?_)
      · replace hF := gw_if1 c52 hF
        exact hJ60 Kx (fX8_hangBy_L44 Kx v2 v3 v4 v5 n) v2 v3 v4 v5 v6 v7 hKx ih t _ _ _ (lv_sub hl [0, 1, 2, 3, 4, 5, 6] rfl) I hF
      · replace hF := gw_if0 c52 hF
        refine lv_iload hx hb dX8_hangBy_55 (lv_at hl 5 rfl) ?_
        refine lv_if_le (tgt := 86) hx hb dX8_hangBy_57 (by decide) (fun c57 => ?_) (fun c57 => ?_)
        · replace hF := gw_if1 c57 hF
          exact hKx v6 v7 t _ _ _ (lv_sub hl [0, 1, 2, 3, 4, 6] rfl) I hF
        · replace hF := gw_if0 c57 hF
          exact hJ60 Kx (fX8_hangBy_L44 Kx v2 v3 v4 v5 n) v2 v3 v4 v5 v6 v7 hKx ih t _ _ _ (lv_sub hl [0, 1, 2, 3, 4, 5, 6] rfl) I hF
  have hL13 : ∀ (Kx : Int32 → Int32 → Int32 → Int32 → gw_S → Option (gw_S)), (∀ (v2 : Int32) (v3 : Int32) (v4 : Int32) (v5 : Int32) (t : gw_S) (H : Heap) (locs : List Loc) (ls : Array Slot), lv_has ls 8 [] → gw_I D (tM g ad) 23 ad A s.heap t H locs → Kx v2 v3 v4 v5 t = some tz → W p l e rmX8_hangBy s m args below meth c H locs 0 0 (MQ below (gw_Qv D (tM g ad) 23 ad A tz) args s 0 0 A) (F0 m 113 ls [])) → ∀ (n : Nat) (v2 : Int32) (v3 : Int32) (v4 : Int32) (v5 : Int32) (t : gw_S) (H : Heap) (locs : List Loc) (ls : Array Slot), lv_has ls 8 [(0, .ref (ad 0)), (2, .int v2), (3, .int v3), (4, .int v4), (5, .int v5)] → gw_I D (tM g ad) 23 ad A s.heap t H locs → fX8_hangBy_L13 Kx n v2 v3 v4 v5 t = some tz → W p l e rmX8_hangBy s m args below meth c H locs 0 0 (MQ below (gw_Qv D (tM g ad) 23 ad A tz) args s 0 0 A) (F0 m 13 ls []) := by
    intro Kx hKx n
    induction n with
    | zero =>
      intro v2 v3 v4 v5 t H locs ls hl I hF
      rw [fX8_hangBy_L13] at hF
      cases hF
    | succ n ih =>
      intro v2 v3 v4 v5 t H locs ls hl I hF
      rw [fX8_hangBy_L13] at hF
      refine lv_iload hx hb dX8_hangBy_13 (lv_at hl 4 rfl) ?_
      refine lv_aload_n hx hb dX8_hangBy_15 rfl (lv_at hl 0 rfl) ?_
      refine gf_M_0_1 E I in_X8_hangBy_X8 lk_X8_hangBy_109 dX8_hangBy_16 ?_
      refine lv_icmp_ge (tgt := 113) hx hb dX8_hangBy_19 (by decide) (fun c19 => ?_) (fun c19 => ?_)
      · replace hF := gw_if1 c19 hF
        exact hKx v2 v3 v4 v5 t _ _ _ (lv_sub hl [] rfl) I hF
      · replace hF := gw_if0 c19 hF
        refine lv_iload_n hx hb dX8_hangBy_22 rfl (lv_at hl 2 rfl) ?_
        refine lv_aload_n hx hb dX8_hangBy_23 rfl (lv_at hl 0 rfl) ?_
        refine gf_M_0_1 E I in_X8_hangBy_X8 lk_X8_hangBy_109 dX8_hangBy_24 ?_
        refine lv_iload hx hb dX8_hangBy_27 (lv_at hl 4 rfl) ?_
        refine lv_isub hx hb dX8_hangBy_29 ?_
        replace hF := gw_ifz hF
        obtain ⟨hz30, hF⟩ := hF
        refine lv_idiv hx hb dX8_hangBy_30 hz30 ?_
        replace hF := gw_nmE hF
        obtain ⟨v3_31, ev3_31, hF⟩ := hF
        refine gw_topi ev3_31 ?_
        refine lv_istore_n (lv' := [(3, .int v3_31), (0, .ref (ad 0)), (2, .int v2), (4, .int v4), (5, .int v5)]) hx hb dX8_hangBy_31 rfl hl (by decide) rfl (fun ls hl => ?_)
        refine lv_iload_n hx hb dX8_hangBy_32 rfl (lv_at hl 2 rfl) ?_
        refine lv_iload_n hx hb dX8_hangBy_33 rfl (lv_at hl 0 rfl) ?_
        replace hF := gw_ifz hF
        obtain ⟨hz34, hF⟩ := hF
        refine lv_idiv hx hb dX8_hangBy_34 hz34 ?_
        replace hF := gw_nmE hF
        obtain ⟨v6_35, ev6_35, hF⟩ := hF
        refine gw_topi ev6_35 ?_
        refine lv_istore (lv' := [(6, .int v6_35), (3, .int v3_31), (0, .ref (ad 0)), (2, .int v2), (4, .int v4), (5, .int v5)]) hx hb dX8_hangBy_35 hl (by decide) rfl (fun ls hl => ?_)
        refine lv_iload_n hx hb dX8_hangBy_37 rfl (lv_at hl 3 rfl) ?_
        refine lv_iload_n hx hb dX8_hangBy_38 rfl (lv_at hl 1 rfl) ?_
        replace hF := gw_ifz hF
        obtain ⟨hz39, hF⟩ := hF
        refine lv_irem hx hb dX8_hangBy_39 hz39 ?_
        replace hF := gw_nmE hF
        obtain ⟨v2_40, ev2_40, hF⟩ := hF
        refine gw_topi ev2_40 ?_
        refine lv_istore_n (lv' := [(2, .int v2_40), (6, .int v6_35), (3, .int v3_31), (0, .ref (ad 0)), (4, .int v4), (5, .int v5)]) hx hb dX8_hangBy_40 rfl hl (by decide) rfl (fun ls hl => ?_)
        refine lv_iconst (v := 0) hx hb dX8_hangBy_41 (by decide) ?_
        refine lv_istore (lv' := [(7, .int 0), (2, .int v2_40), (6, .int v6_35), (3, .int v3_31), (0, .ref (ad 0)), (4, .int v4), (5, .int v5)]) hx hb dX8_hangBy_42 hl (by decide) rfl (fun ls hl => ?_)
        refine hL44 _ v2_40 v3_31 v4 v5 (fun v6_x44 v7_x44 t_x44 H locs ls hl I hF => ?_) 2000 v6_35 0 t _ _ _ (lv_sub hl [4, 1, 3, 5, 6, 2, 0] rfl) I hF
        refine lv_iload hx hb dX8_hangBy_86 (lv_at hl 3 rfl) ?_
        refine lv_iconst (v := 1) hx hb dX8_hangBy_88 (by decide) ?_
        refine lv_iload hx hb dX8_hangBy_89 (lv_at hl 5 rfl) ?_
        refine lv_ishl hx hb dX8_hangBy_91 ?_
        refine lv_ior hx hb dX8_hangBy_92 ?_
        replace hF := gw_nmE hF
        obtain ⟨v4_93, ev4_93, hF⟩ := hF
        refine gw_topi ev4_93 ?_
        refine lv_istore (lv' := [(4, .int v4_93), (0, .ref (ad 0)), (2, .int v2_40), (3, .int v3_31), (5, .int v5), (7, .int v7_x44)]) hx hb dX8_hangBy_93 hl (by decide) rfl (fun ls hl => ?_)
        refine lv_aload_n hx hb dX8_hangBy_95 rfl (lv_at hl 1 rfl) ?_
        refine gf_M_0_5 E I in_X8_hangBy_X8 lk_X8_hangBy_19 dX8_hangBy_96 ?_
        refine lv_bipush (v := 6) hx hb dX8_hangBy_99 (by decide) ?_
        refine lv_iload hx hb dX8_hangBy_101 (lv_at hl 4 rfl) ?_
        refine lv_iadd hx hb dX8_hangBy_103 ?_
        refine lv_iload hx hb dX8_hangBy_104 (lv_at hl 5 rfl) ?_
        replace hF := gw_ifn hF
        obtain ⟨hz106, hF⟩ := hF
        replace hF := gw_nmE hF
        obtain ⟨t_106, et_106, hF⟩ := hF
        refine gw_iast E I 4 (by decide) (fun _ => rfl) hz106 et_106 dX8_hangBy_106 (fun H locs I => ?_)
        replace hF := gw_nmE hF
        obtain ⟨v5_107, ev5_107, hF⟩ := hF
        refine lv_iinc (v := v5_107) (lv' := [(5, .int v5_107), (4, .int v4_93), (0, .ref (ad 0)), (2, .int v2_40), (3, .int v3_31), (7, .int v7_x44)]) hx hb dX8_hangBy_107 hl (k := 4) rfl (by subst ev5_107; rfl) (by decide) rfl (fun ls hl => ?_)
        refine lv_goto (tgt := 13) hx hb dX8_hangBy_110 (by decide) ?_
        exact ih v2_40 v3_31 v4_93 v5_107 t_106 _ _ _ (lv_sub hl [2, 3, 4, 1, 0] rfl) I hF
  refine lv_iload_n hx hb dX8_hangBy_0 rfl (lv_at hl 1 rfl) ?_
  refine lv_istore_n (lv' := [(2, .int v1), (0, .ref (ad 0)), (1, .int v1)]) hx hb dX8_hangBy_1 rfl hl (by decide) rfl (fun ls hl => ?_)
  refine lv_aload_n hx hb dX8_hangBy_2 rfl (lv_at hl 1 rfl) ?_
  replace hF := gw_bdE hF
  obtain ⟨r3, e3, hF⟩ := hF
  refine gw_calli I (gw_runV E I (ok_X8_ways l hD t0 _ e3) (cwV 0 E.1.2.2.2.2 gX8_hangBy_X8_ways rfl rfl rfl (by decide +kernel) ⟨Nat.le_of_ble_eq_true rfl, Nat.le_of_ble_eq_true rfl⟩) (by decide) rfl rfl rfl hl.1 rfl (Nat.le_of_ble_eq_true rfl) dX8_hangBy_3) (fun H locs I => ?_)
  refine lv_istore_n (lv' := [(3, .int r3), (2, .int v1), (0, .ref (ad 0)), (1, .int v1)]) hx hb dX8_hangBy_6 rfl hl (by decide) rfl (fun ls hl => ?_)
  refine lv_iconst (v := 0) hx hb dX8_hangBy_7 (by decide) ?_
  refine lv_istore (lv' := [(4, .int 0), (3, .int r3), (2, .int v1), (0, .ref (ad 0)), (1, .int v1)]) hx hb dX8_hangBy_8 hl (by decide) rfl (fun ls hl => ?_)
  refine lv_iconst (v := 0) hx hb dX8_hangBy_10 (by decide) ?_
  refine lv_istore (lv' := [(5, .int 0), (4, .int 0), (3, .int r3), (2, .int v1), (0, .ref (ad 0)), (1, .int v1)]) hx hb dX8_hangBy_11 hl (by decide) rfl (fun ls hl => ?_)
  refine hL13 _  (fun v2_x13 v3_x13 v4_x13 v5_x13 t_x13 H locs ls hl I hF => ?_) 2000 v1 r3 0 0 t0 _ _ _ (lv_sub hl [4, 3, 2, 1, 0] rfl) I hF
  exact gw_vret E I hr hlocks (Option.some.inj hF) dX8_hangBy_113
abbrev rmX8_takesOn : Room := { frames := 3, cells := 0, slots := 0, locals := 65 }
set_option maxHeartbeats 4000000 in
set_option maxRecDepth 100000 in
theorem ok_X8_takesOn (l : Launch) {D : va_G} {g : gw_G} {tG : Nat} {ad : Nat → Nat} {A : Nat → Prop} (hD : gw_D A 23 ad) (t0 : gw_S) (v1 : Int32) (r0 : Int32) (hF : fX8_takesOn v1 t0 = some r0) : Met l yX8_takesOn wsX8_takesOn rmX8_takesOn (gw_Pc D g tG (tM g ad) 23 ad A [.ref (ad 0), .int v1] t0) (gw_Qi D (tM g ad) 23 ad A r0 t0) 0 0 A := by
  unfold fX8_takesOn at hF
  refine gw_met (by decide) rfl hD (Nat.le_of_ble_eq_true rfl) (fun p e s m args below meth c E hr hlocks I ls hl => ?_)
  have hx := E.1.1
  have hb := E.1.2.1
  have hl : lv_has ls 3 [(0, .ref (ad 0)), (1, .int v1)] := hl
  refine lv_aload_n hx hb dX8_takesOn_0 rfl (lv_at hl 0 rfl) ?_
  refine lv_iconst (v := 0) hx hb dX8_takesOn_1 (by decide) ?_
  refine lv_iload_n hx hb dX8_takesOn_2 rfl (lv_at hl 1 rfl) ?_
  refine lv_aload_n hx hb dX8_takesOn_3 rfl (lv_at hl 0 rfl) ?_
  refine lv_iconst (v := 0) hx hb dX8_takesOn_4 (by decide) ?_
  refine lv_iload_n hx hb dX8_takesOn_5 rfl (lv_at hl 1 rfl) ?_
  replace hF := gw_bdE hF
  obtain ⟨r6, e6, hF⟩ := hF
  refine gw_calli I (gw_runV E I (ok_X8_tenthsIn l hD t0 0 v1 _ e6) (cwV 2 E.1.2.2.2.2 gX8_takesOn_X8_tenthsIn rfl rfl rfl (by decide +kernel) ⟨Nat.le_of_ble_eq_true rfl, Nat.le_of_ble_eq_true rfl⟩) (by decide) rfl rfl rfl hl.1 rfl (Nat.le_of_ble_eq_true rfl) dX8_takesOn_6) (fun H locs I => ?_)
  refine lv_aload_n hx hb dX8_takesOn_9 rfl (lv_at hl 0 rfl) ?_
  refine lv_iconst (v := 0) hx hb dX8_takesOn_10 (by decide) ?_
  refine lv_iload_n hx hb dX8_takesOn_11 rfl (lv_at hl 1 rfl) ?_
  replace hF := gw_bdE hF
  obtain ⟨r12, e12, hF⟩ := hF
  refine gw_calli I (gw_runV E I (ok_X8_tenthsNext l hD t0 0 v1 _ e12) (cwV 2 E.1.2.2.2.2 gX8_takesOn_X8_tenthsNext rfl rfl rfl (by decide +kernel) ⟨Nat.le_of_ble_eq_true rfl, Nat.le_of_ble_eq_true rfl⟩) (by decide) rfl rfl rfl hl.1 rfl (Nat.le_of_ble_eq_true rfl) dX8_takesOn_12) (fun H locs I => ?_)
  replace hF := gw_bdE hF
  obtain ⟨r15, e15, hF⟩ := hF
  refine gw_calli I (gw_runV E I (ok_X8_costBy l hD t0 0 v1 r6 r12 _ e15) (cwV 4 E.1.2.2.2.2 gX8_takesOn_X8_costBy rfl rfl rfl (by decide +kernel) ⟨Nat.le_of_ble_eq_true rfl, Nat.le_of_ble_eq_true rfl⟩) (by decide) rfl rfl rfl hl.1 rfl (Nat.le_of_ble_eq_true rfl) dX8_takesOn_15) (fun H locs I => ?_)
  refine lv_istore_n (lv' := [(2, .int r15), (0, .ref (ad 0)), (1, .int v1)]) hx hb dX8_takesOn_18 rfl hl (by decide) rfl (fun ls hl => ?_)
  refine lv_iload_n hx hb dX8_takesOn_19 rfl (lv_at hl 0 rfl) ?_
  refine lv_bipush (v := 10) hx hb dX8_takesOn_20 (by decide) ?_
  refine lv_aload_n hx hb dX8_takesOn_22 rfl (lv_at hl 1 rfl) ?_
  refine lv_iload_n hx hb dX8_takesOn_23 rfl (lv_at hl 2 rfl) ?_
  replace hF := gw_bdE hF
  obtain ⟨r24, e24, hF⟩ := hF
  refine gw_calli I (gw_runV E I (ok_X8_walk l hD t0 v1 _ e24) (cwV 1 E.1.2.2.2.2 gX8_takesOn_X8_walk rfl rfl rfl (by decide +kernel) ⟨Nat.le_of_ble_eq_true rfl, Nat.le_of_ble_eq_true rfl⟩) (by decide) rfl rfl rfl hl.1 rfl (Nat.le_of_ble_eq_true rfl) dX8_takesOn_24) (fun H locs I => ?_)
  refine lv_imul hx hb dX8_takesOn_27 ?_
  refine lv_icmp_ge (tgt := 35) hx hb dX8_takesOn_28 (by decide) (fun c28 => ?_) (fun c28 => ?_)
  · replace hF := gw_if1 c28 hF
    refine lv_bipush (v := 10) hx hb dX8_takesOn_35 (by decide) ?_
    refine lv_aload_n hx hb dX8_takesOn_37 rfl (lv_at hl 1 rfl) ?_
    refine lv_iload_n hx hb dX8_takesOn_38 rfl (lv_at hl 2 rfl) ?_
    replace hF := gw_bdE hF
    obtain ⟨r39, e39, hF⟩ := hF
    refine gw_calli I (gw_runV E I (ok_X8_walk l hD t0 v1 _ e39) (cwV 1 E.1.2.2.2.2 gX8_takesOn_X8_walk rfl rfl rfl (by decide +kernel) ⟨Nat.le_of_ble_eq_true rfl, Nat.le_of_ble_eq_true rfl⟩) (by decide) rfl rfl rfl hl.1 rfl (Nat.le_of_ble_eq_true rfl) dX8_takesOn_39) (fun H locs I => ?_)
    refine lv_imul hx hb dX8_takesOn_42 ?_
    exact gw_iret E I hr hlocks rfl (Option.some.inj hF) rfl dX8_takesOn_43
  · replace hF := gw_if0 c28 hF
    refine lv_iload_n hx hb dX8_takesOn_31 rfl (lv_at hl 0 rfl) ?_
    refine lv_goto (tgt := 43) hx hb dX8_takesOn_32 (by decide) ?_
    exact gw_iret E I hr hlocks rfl (Option.some.inj hF) rfl dX8_takesOn_43
abbrev rmX8_takesBy : Room := { frames := 4, cells := 0, slots := 0, locals := 87 }
theorem lk_X8_takesBy_16 : Cond.fieldLink RX8 16 "ThrownSacksModel" "oftenOf" "[I" ∈ wsX8_takesBy := by decide +kernel
theorem lk_X8_takesBy_19 : Cond.fieldLink RX8 19 "ThrownSacksModel" "hangsOn" "[I" ∈ wsX8_takesBy := by decide +kernel
theorem lk_X8_takesBy_109 : Cond.fieldLink RX8 109 "ThrownSacksModel" "hooks" "I" ∈ wsX8_takesBy := by decide +kernel
theorem in_X8_takesBy_X8 : ∀ w ∈ u_ws RX8 TX8 42, w ∈ wsX8_takesBy := by decide +kernel
set_option maxHeartbeats 4000000 in
set_option maxRecDepth 100000 in
theorem ok_X8_takesBy (l : Launch) {D : va_G} {g : gw_G} {tG : Nat} {ad : Nat → Nat} {A : Nat → Prop} (hD : gw_D A 23 ad) (t0 : gw_S) (r0 : Int32) (hF : fX8_takesBy t0 = some r0) : Met l yX8_takesBy wsX8_takesBy rmX8_takesBy (gw_Pc D g tG (tM g ad) 23 ad A [.ref (ad 0)] t0) (gw_Qi D (tM g ad) 23 ad A r0 t0) 0 0 A := by
  unfold fX8_takesBy at hF
  refine gw_met (by decide) rfl hD (Nat.le_of_ble_eq_true rfl) (fun p e s m args below meth c E hr hlocks I ls hl => ?_)
  have hx := E.1.1
  have hb := E.1.2.1
  have hl : lv_has ls 3 [(0, .ref (ad 0))] := hl
  have hL4 : ∀ (Kx : Int32 → Int32 → Option (Int32)), (∀ (v1 : Int32) (v2 : Int32) (H : Heap) (locs : List Loc) (ls : Array Slot), lv_has ls 3 [(1, .int v1)] → gw_I D (tM g ad) 23 ad A s.heap t0 H locs → Kx v1 v2 = some r0 → W p l e rmX8_takesBy s m args below meth c H locs 0 0 (MQ below (gw_Qi D (tM g ad) 23 ad A r0 t0) args s 0 0 A) (F0 m 41 ls [])) → ∀ (n : Nat) (v1 : Int32) (v2 : Int32) (H : Heap) (locs : List Loc) (ls : Array Slot), lv_has ls 3 [(0, .ref (ad 0)), (1, .int v1), (2, .int v2)] → gw_I D (tM g ad) 23 ad A s.heap t0 H locs → fX8_takesBy_L4 Kx t0 n v1 v2 = some r0 → W p l e rmX8_takesBy s m args below meth c H locs 0 0 (MQ below (gw_Qi D (tM g ad) 23 ad A r0 t0) args s 0 0 A) (F0 m 4 ls []) := by
    intro Kx hKx n
    induction n with
    | zero =>
      intro v1 v2 H locs ls hl I hF
      rw [fX8_takesBy_L4] at hF
      cases hF
    | succ n ih =>
      intro v1 v2 H locs ls hl I hF
      rw [fX8_takesBy_L4] at hF
      refine lv_iload_n hx hb dX8_takesBy_4 rfl (lv_at hl 2 rfl) ?_
      refine lv_aload_n hx hb dX8_takesBy_5 rfl (lv_at hl 0 rfl) ?_
      refine gf_M_0_1 E I in_X8_takesBy_X8 lk_X8_takesBy_109 dX8_takesBy_6 ?_
      refine lv_icmp_ge (tgt := 41) hx hb dX8_takesBy_9 (by decide) (fun c9 => ?_) (fun c9 => ?_)
      · replace hF := gw_if1 c9 hF
        exact hKx v1 v2 _ _ _ (lv_sub hl [1] rfl) I hF
      · replace hF := gw_if0 c9 hF
        refine lv_iload_n hx hb dX8_takesBy_12 rfl (lv_at hl 1 rfl) ?_
        refine lv_aload_n hx hb dX8_takesBy_13 rfl (lv_at hl 0 rfl) ?_
        refine gf_M_0_4 E I in_X8_takesBy_X8 lk_X8_takesBy_16 dX8_takesBy_14 ?_
        refine lv_aload_n hx hb dX8_takesBy_17 rfl (lv_at hl 0 rfl) ?_
        refine gf_M_0_5 E I in_X8_takesBy_X8 lk_X8_takesBy_19 dX8_takesBy_18 ?_
        refine lv_bipush (v := 6) hx hb dX8_takesBy_21 (by decide) ?_
        refine lv_iload_n hx hb dX8_takesBy_23 rfl (lv_at hl 2 rfl) ?_
        refine lv_iadd hx hb dX8_takesBy_24 ?_
        replace hF := gw_ifn hF
        obtain ⟨hz25, hF⟩ := hF
        refine gw_iald E I 4 (by decide) rfl hz25 dX8_takesBy_25 ?_
        replace hF := gw_ifn hF
        obtain ⟨hz26, hF⟩ := hF
        refine gw_iald E I 3 (by decide) rfl hz26 dX8_takesBy_26 ?_
        refine lv_aload_n hx hb dX8_takesBy_27 rfl (lv_at hl 0 rfl) ?_
        refine lv_iload_n hx hb dX8_takesBy_28 rfl (lv_at hl 2 rfl) ?_
        replace hF := gw_bdE hF
        obtain ⟨r29, e29, hF⟩ := hF
        refine gw_calli I (gw_runV E I (ok_X8_takesOn l hD t0 v2 _ e29) (cwV 1 E.1.2.2.2.2 gX8_takesBy_X8_takesOn rfl rfl rfl (by decide +kernel) ⟨Nat.le_of_ble_eq_true rfl, Nat.le_of_ble_eq_true rfl⟩) (by decide) rfl rfl rfl hl.1 rfl (Nat.le_of_ble_eq_true rfl) dX8_takesBy_29) (fun H locs I => ?_)
        refine lv_imul hx hb dX8_takesBy_32 ?_
        refine lv_iadd hx hb dX8_takesBy_33 ?_
        replace hF := gw_nmE hF
        obtain ⟨v1_34, ev1_34, hF⟩ := hF
        refine gw_topi ev1_34 ?_
        refine lv_istore_n (lv' := [(1, .int v1_34), (0, .ref (ad 0)), (2, .int v2)]) hx hb dX8_takesBy_34 rfl hl (by decide) rfl (fun ls hl => ?_)
        replace hF := gw_nmE hF
        obtain ⟨v2_35, ev2_35, hF⟩ := hF
        refine lv_iinc (v := v2_35) (lv' := [(2, .int v2_35), (1, .int v1_34), (0, .ref (ad 0))]) hx hb dX8_takesBy_35 hl (k := 2) rfl (by subst ev2_35; rfl) (by decide) rfl (fun ls hl => ?_)
        refine lv_goto (tgt := 4) hx hb dX8_takesBy_38 (by decide) ?_
        exact ih v1_34 v2_35 _ _ _ (lv_sub hl [2, 1, 0] rfl) I hF
  refine lv_iconst (v := 0) hx hb dX8_takesBy_0 (by decide) ?_
  refine lv_istore_n (lv' := [(1, .int 0), (0, .ref (ad 0))]) hx hb dX8_takesBy_1 rfl hl (by decide) rfl (fun ls hl => ?_)
  refine lv_iconst (v := 0) hx hb dX8_takesBy_2 (by decide) ?_
  refine lv_istore_n (lv' := [(2, .int 0), (1, .int 0), (0, .ref (ad 0))]) hx hb dX8_takesBy_3 rfl hl (by decide) rfl (fun ls hl => ?_)
  refine hL4 _  (fun v1_x4 v2_x4 H locs ls hl I hF => ?_) 2000 0 0 _ _ _ (lv_sub hl [2, 1, 0] rfl) I hF
  refine lv_iload_n hx hb dX8_takesBy_41 rfl (lv_at hl 0 rfl) ?_
  exact gw_iret E I hr hlocks rfl (Option.some.inj hF) rfl dX8_takesBy_42
abbrev rmX8_hookOf : Room := { frames := 0, cells := 0, slots := 0, locals := 0 }
theorem lk_X8_hookOf_19 : Cond.fieldLink RX8 19 "ThrownSacksModel" "hangsOn" "[I" ∈ wsX8_hookOf := by decide +kernel
theorem lk_X8_hookOf_109 : Cond.fieldLink RX8 109 "ThrownSacksModel" "hooks" "I" ∈ wsX8_hookOf := by decide +kernel
theorem in_X8_hookOf_X8 : ∀ w ∈ u_ws RX8 TX8 42, w ∈ wsX8_hookOf := by decide +kernel
set_option maxHeartbeats 4000000 in
set_option maxRecDepth 100000 in
theorem ok_X8_hookOf (l : Launch) {D : va_G} {g : gw_G} {tG : Nat} {ad : Nat → Nat} {A : Nat → Prop} (hD : gw_D A 23 ad) (t0 : gw_S) (v1 : Int32) (v2 : Int32) (r0 : Int32) (hF : fX8_hookOf v1 v2 t0 = some r0) : Met l yX8_hookOf wsX8_hookOf rmX8_hookOf (gw_Pc D g tG (tM g ad) 23 ad A [.ref (ad 0), .int v1, .int v2] t0) (gw_Qi D (tM g ad) 23 ad A r0 t0) 0 0 A := by
  unfold fX8_hookOf at hF
  refine gw_met (by decide) rfl hD (Nat.le_of_ble_eq_true rfl) (fun p e s m args below meth c E hr hlocks I ls hl => ?_)
  have hx := E.1.1
  have hb := E.1.2.1
  have hl : lv_has ls 5 [(0, .ref (ad 0)), (1, .int v1), (2, .int v2)] := hl
  have hJ33 : ∀ (Kx : Int32 → Int32 → Option (Int32)) (Kh : Int32 → Int32 → Option (Int32)) (v1 : Int32) (v2 : Int32) (v4 : Int32) (x0 : Int32) (hKx : ∀ (v3 : Int32) (v4 : Int32) (H : Heap) (locs : List Loc) (ls : Array Slot), lv_has ls 5 [(3, .int v3)] → gw_I D (tM g ad) 23 ad A s.heap t0 H locs → Kx v3 v4 = some r0 → W p l e rmX8_hookOf s m args below meth c H locs 0 0 (MQ below (gw_Qi D (tM g ad) 23 ad A r0 t0) args s 0 0 A) (F0 m 40 ls [])) (hKh : ∀ (v3 : Int32) (v4 : Int32) (H : Heap) (locs : List Loc) (ls : Array Slot), lv_has ls 5 [(0, .ref (ad 0)), (1, .int v1), (2, .int v2), (3, .int v3), (4, .int v4)] → gw_I D (tM g ad) 23 ad A s.heap t0 H locs → Kh v3 v4 = some r0 → W p l e rmX8_hookOf s m args below meth c H locs 0 0 (MQ below (gw_Qi D (tM g ad) 23 ad A r0 t0) args s 0 0 A) (F0 m 5 ls [])) (H : Heap) (locs : List Loc) (ls : Array Slot), lv_has ls 5 [(0, .ref (ad 0)), (1, .int v1), (2, .int v2), (4, .int v4)] → gw_I D (tM g ad) 23 ad A s.heap t0 H locs → fX8_hookOf_J33 Kx Kh v1 v2 v4 x0 t0 = some r0 → W p l e rmX8_hookOf s m args below meth c H locs 0 0 (MQ below (gw_Qi D (tM g ad) 23 ad A r0 t0) args s 0 0 A) (F0 m 33 ls [.int x0]) := by
    intro Kx Kh v1 v2 v4 x0 hKx hKh H locs ls hl I hF
    unfold fX8_hookOf_J33 at hF
    refine lv_istore_n (lv' := [(3, .int x0), (0, .ref (ad 0)), (1, .int v1), (2, .int v2), (4, .int v4)]) hx hb dX8_hookOf_33 rfl hl (by decide) rfl (fun ls hl => ?_)
    replace hF := gw_nmE hF
    obtain ⟨v4_34, ev4_34, hF⟩ := hF
    refine lv_iinc (v := v4_34) (lv' := [(4, .int v4_34), (3, .int x0), (0, .ref (ad 0)), (1, .int v1), (2, .int v2)]) hx hb dX8_hookOf_34 hl (k := 4) rfl (by subst ev4_34; rfl) (by decide) rfl (fun ls hl => ?_)
    refine lv_goto (tgt := 5) hx hb dX8_hookOf_37 (by decide) ?_
    exact hKh x0 v4_34 _ _ _ (lv_sub hl [2, 3, 4, 1, 0] rfl) I hF
  have hL5 : ∀ (Kx : Int32 → Int32 → Option (Int32)) (v1 : Int32) (v2 : Int32), (∀ (v3 : Int32) (v4 : Int32) (H : Heap) (locs : List Loc) (ls : Array Slot), lv_has ls 5 [(3, .int v3)] → gw_I D (tM g ad) 23 ad A s.heap t0 H locs → Kx v3 v4 = some r0 → W p l e rmX8_hookOf s m args below meth c H locs 0 0 (MQ below (gw_Qi D (tM g ad) 23 ad A r0 t0) args s 0 0 A) (F0 m 40 ls [])) → ∀ (n : Nat) (v3 : Int32) (v4 : Int32) (H : Heap) (locs : List Loc) (ls : Array Slot), lv_has ls 5 [(0, .ref (ad 0)), (1, .int v1), (2, .int v2), (3, .int v3), (4, .int v4)] → gw_I D (tM g ad) 23 ad A s.heap t0 H locs → fX8_hookOf_L5 Kx v1 v2 t0 n v3 v4 = some r0 → W p l e rmX8_hookOf s m args below meth c H locs 0 0 (MQ below (gw_Qi D (tM g ad) 23 ad A r0 t0) args s 0 0 A) (F0 m 5 ls []) := by
    intro Kx v1 v2 hKx n
    induction n with
    | zero =>
      intro v3 v4 H locs ls hl I hF
      rw [fX8_hookOf_L5] at hF
      cases hF
    | succ n ih =>
      intro v3 v4 H locs ls hl I hF
      rw [fX8_hookOf_L5] at hF
      refine lv_iload hx hb dX8_hookOf_5 (lv_at hl 4 rfl) ?_
      refine lv_aload_n hx hb dX8_hookOf_7 rfl (lv_at hl 0 rfl) ?_
      refine gf_M_0_1 E I in_X8_hookOf_X8 lk_X8_hookOf_109 dX8_hookOf_8 ?_
      refine lv_icmp_ge (tgt := 40) hx hb dX8_hookOf_11 (by decide) (fun c11 => ?_) (fun c11 => ?_)
      · replace hF := gw_if1 c11 hF
        exact hKx v3 v4 _ _ _ (lv_sub hl [3] rfl) I hF
      · replace hF := gw_if0 c11 hF
        refine lv_aload_n hx hb dX8_hookOf_14 rfl (lv_at hl 0 rfl) ?_
        refine gf_M_0_5 E I in_X8_hookOf_X8 lk_X8_hookOf_19 dX8_hookOf_15 ?_
        refine lv_iload_n hx hb dX8_hookOf_18 rfl (lv_at hl 1 rfl) ?_
        refine lv_iload hx hb dX8_hookOf_19 (lv_at hl 4 rfl) ?_
        refine lv_iadd hx hb dX8_hookOf_21 ?_
        replace hF := gw_ifn hF
        obtain ⟨hz22, hF⟩ := hF
        refine gw_iald E I 4 (by decide) rfl hz22 dX8_hookOf_22 ?_
        refine lv_iload_n hx hb dX8_hookOf_23 rfl (lv_at hl 2 rfl) ?_
        refine lv_icmp_ne (tgt := 32) hx hb dX8_hookOf_24 (by decide) (fun c24 => ?_) (fun c24 => ?_)
        · replace hF := gw_if0 c24 hF
          refine lv_iload_n hx hb dX8_hookOf_32 rfl (lv_at hl 3 rfl) ?_
          exact hJ33 Kx (fX8_hookOf_L5 Kx v1 v2 t0 n) v1 v2 v4 v3 hKx ih _ _ _ (lv_sub hl [0, 1, 2, 4] rfl) I hF
        · replace hF := gw_if1 c24 hF
          refine lv_iload hx hb dX8_hookOf_27 (lv_at hl 4 rfl) ?_
          refine lv_goto (tgt := 33) hx hb dX8_hookOf_29 (by decide) ?_
          exact hJ33 Kx (fX8_hookOf_L5 Kx v1 v2 t0 n) v1 v2 v4 v4 hKx ih _ _ _ (lv_sub hl [0, 1, 2, 4] rfl) I hF
  refine lv_iconst (v := 0) hx hb dX8_hookOf_0 (by decide) ?_
  refine lv_istore_n (lv' := [(3, .int 0), (0, .ref (ad 0)), (1, .int v1), (2, .int v2)]) hx hb dX8_hookOf_1 rfl hl (by decide) rfl (fun ls hl => ?_)
  refine lv_iconst (v := 0) hx hb dX8_hookOf_2 (by decide) ?_
  refine lv_istore (lv' := [(4, .int 0), (3, .int 0), (0, .ref (ad 0)), (1, .int v1), (2, .int v2)]) hx hb dX8_hookOf_3 hl (by decide) rfl (fun ls hl => ?_)
  refine hL5 _ v1 v2 (fun v3_x5 v4_x5 H locs ls hl I hF => ?_) 2000 0 0 _ _ _ (lv_sub hl [2, 3, 4, 1, 0] rfl) I hF
  refine lv_iload_n hx hb dX8_hookOf_40 rfl (lv_at hl 0 rfl) ?_
  exact gw_iret E I hr hlocks rfl (Option.some.inj hF) rfl dX8_hookOf_41
