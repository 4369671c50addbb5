/-! The contracts: each method does what its function says: written by wip/whole/genall.py. -/
abbrev rmX7_hanging : Room := { frames := 2, cells := 0, slots := 0, locals := 49 }
theorem lk_X7_hanging_19 : Cond.fieldLink RX7 19 "ThrownSacks" "plan" "LThrownSacks$Plan;" ∈ wsX7_hanging := by decide +kernel
theorem lk_X7_hanging_26 : Cond.fieldLink RX7 26 "ThrownSacks" "now" "LThrownSacks$Standing;" ∈ wsX7_hanging := by decide +kernel
theorem lk_X7_hanging_36 : Cond.fieldLink RX7 36 "ThrownSacks" "best" "LThrownSacks$Best;" ∈ wsX7_hanging := by decide +kernel
theorem lk_X7_hanging_91 : Cond.fieldLink RX7 91 "ThrownSacks$Plan" "hooks" "I" ∈ wsX7_hanging := by decide +kernel
theorem lk_X7_hanging_180 : Cond.fieldLink RX7 180 "ThrownSacks$Best" "total" "I" ∈ wsX7_hanging := by decide +kernel
theorem lk_X7_hanging_187 : Cond.fieldLink RX7 187 "ThrownSacks$Best" "towns" "[I" ∈ wsX7_hanging := by decide +kernel
theorem in_X7_hanging_X0 : ∀ w ∈ u_ws RX0 TX0 4, w ∈ wsX7_hanging := by decide +kernel
theorem in_X7_hanging_X2 : ∀ w ∈ u_ws RX2 TX2 4, w ∈ wsX7_hanging := by decide +kernel
theorem in_X7_hanging_X7 : ∀ w ∈ u_ws RX7 TX7 9, w ∈ wsX7_hanging := by decide +kernel
set_option maxHeartbeats 4000000 in
set_option maxRecDepth 100000 in
theorem ok_X7_hanging (l : Launch) {D : va_G} {g : gw_G} {tG : Nat} {ad : Nat → Nat} {A : Nat → Prop} (hD : gw_D A 83 ad) (t0 : gw_S) (v1 : Int32) (r0 : Int32) (hF : fX7_hanging v1 t0 = some r0) : Met l yX7_hanging wsX7_hanging rmX7_hanging (gw_Pc D g tG (tC g ad) 83 ad A [.ref (ad 0), .int v1] t0) (gw_Qi D (tC g ad) 83 ad A r0 t0) 0 0 A := by
  unfold fX7_hanging at hF
  refine gw_met (by decide) rfl hD (Nat.le_of_ble_eq_true rfl) (fun p e s m args below meth c E hr hlocks I ls hl => ?_)
  have hx := E.1.1
  have hb := E.1.2.1
  have hl : lv_has ls 3 [(0, .ref (ad 0)), (1, .int v1)] := hl
  have hJ34 : ∀ (v1 : Int32) (H : Heap) (locs : List Loc) (ls : Array Slot), lv_has ls 3 [(0, .ref (ad 0)), (1, .int v1)] → gw_I D (tC g ad) 83 ad A s.heap t0 H locs → fX7_hanging_J34 v1 t0 = some r0 → W p l e rmX7_hanging s m args below meth c H locs 0 0 (MQ below (gw_Qi D (tC g ad) 83 ad A r0 t0) args s 0 0 A) (F0 m 34 ls []) := by
    intro v1 H locs ls hl I hF
    unfold fX7_hanging_J34 at hF
    refine lv_aload_n hx hb dX7_hanging_34 rfl (lv_at hl 0 rfl) ?_
    refine gf_C_0_1 E I in_X7_hanging_X7 lk_X7_hanging_19 dX7_hanging_35 ?_
    refine gf_C_3_3 E I in_X7_hanging_X2 lk_X7_hanging_91 dX7_hanging_38 ?_
    refine lv_if_ne (tgt := 47) hx hb dX7_hanging_41 (by decide) (fun c41 => ?_) (fun c41 => ?_)
    · replace hF := gw_if0 c41 hF
      refine lv_iload_n hx hb dX7_hanging_47 rfl (lv_at hl 1 rfl) ?_
      refine lv_if_ne (tgt := 59) hx hb dX7_hanging_48 (by decide) (fun c48 => ?_) (fun c48 => ?_)
      · replace hF := gw_if0 c48 hF
        refine lv_iload_n hx hb dX7_hanging_59 rfl (lv_at hl 1 rfl) ?_
        refine lv_iconst (v := 1) hx hb dX7_hanging_60 (by decide) ?_
        refine lv_icmp_ne (tgt := 83) hx hb dX7_hanging_61 (by decide) (fun c61 => ?_) (fun c61 => ?_)
        · replace hF := gw_if0 c61 hF
          refine lv_aload_n hx hb dX7_hanging_83 rfl (lv_at hl 0 rfl) ?_
          refine lv_iload_n hx hb dX7_hanging_84 rfl (lv_at hl 1 rfl) ?_
          refine lv_bipush (v := 10) hx hb dX7_hanging_85 (by decide) ?_
          refine lv_isub hx hb dX7_hanging_87 ?_
          refine gw_calli I (gw_runV E I (ok_X7_isKnown l hD t0 (v1 - 10) _ rfl) (cwV 1 E.1.2.2.2.2 gX7_hanging_X7_isKnown rfl rfl rfl (by decide +kernel) ⟨Nat.le_of_ble_eq_true rfl, Nat.le_of_ble_eq_true rfl⟩) (by decide) rfl rfl rfl hl.1 rfl (Nat.le_of_ble_eq_true rfl) dX7_hanging_88) (fun H locs I => ?_)
          refine lv_if_eq (tgt := 109) hx hb dX7_hanging_91 (by decide) (fun c91 => ?_) (fun c91 => ?_)
          · replace hF := gw_if1 c91 hF
            refine lv_iconst (v := (-1)) hx hb dX7_hanging_109 (by decide) ?_
            exact gw_iret E I hr hlocks rfl (Option.some.inj hF) rfl dX7_hanging_110
          · replace hF := gw_if0 c91 hF
            refine lv_aload_n hx hb dX7_hanging_94 rfl (lv_at hl 0 rfl) ?_
            refine gf_C_0_4 E I in_X7_hanging_X7 lk_X7_hanging_36 dX7_hanging_95 ?_
            refine gf_C_17_0 E I in_X7_hanging_X0 lk_X7_hanging_187 dX7_hanging_98 ?_
            refine lv_iload_n hx hb dX7_hanging_101 rfl (lv_at hl 1 rfl) ?_
            refine lv_bipush (v := 10) hx hb dX7_hanging_102 (by decide) ?_
            refine lv_isub hx hb dX7_hanging_104 ?_
            replace hF := gw_ifn hF
            obtain ⟨hz105, hF⟩ := hF
            refine gw_iald E I 18 (by decide) rfl hz105 dX7_hanging_105 ?_
            refine lv_goto (tgt := 110) hx hb dX7_hanging_106 (by decide) ?_
            exact gw_iret E I hr hlocks rfl (Option.some.inj hF) rfl dX7_hanging_110
        · replace hF := gw_if1 c61 hF
          refine lv_aload_n hx hb dX7_hanging_64 rfl (lv_at hl 0 rfl) ?_
          refine gf_C_0_4 E I in_X7_hanging_X7 lk_X7_hanging_36 dX7_hanging_65 ?_
          refine lv_aload_n hx hb dX7_hanging_68 rfl (lv_at hl 0 rfl) ?_
          refine gf_C_0_2 E I in_X7_hanging_X7 lk_X7_hanging_26 dX7_hanging_69 ?_
          refine lv_aload_n hx hb dX7_hanging_72 rfl (lv_at hl 0 rfl) ?_
          refine gf_C_0_1 E I in_X7_hanging_X7 lk_X7_hanging_19 dX7_hanging_73 ?_
          refine gf_C_3_3 E I in_X7_hanging_X2 lk_X7_hanging_91 dX7_hanging_76 ?_
          replace hF := gw_bdE hF
          obtain ⟨r79, e79, hF⟩ := hF
          refine gw_calli I (gw_runV E I (ok_X0_exchangesFrom l hD t0 (rdI t0 3 3) _ e79) (cwV 2 E.1.2.2.2.2 gX7_hanging_X0_exchangesFrom rfl rfl rfl (by decide +kernel) ⟨Nat.le_of_ble_eq_true rfl, Nat.le_of_ble_eq_true rfl⟩) (by decide) rfl rfl rfl hl.1 rfl (Nat.le_of_ble_eq_true rfl) dX7_hanging_79) (fun H locs I => ?_)
          exact gw_iret E I hr hlocks rfl (Option.some.inj hF) rfl dX7_hanging_82
      · replace hF := gw_if1 c48 hF
        refine lv_aload_n hx hb dX7_hanging_51 rfl (lv_at hl 0 rfl) ?_
        refine gf_C_0_4 E I in_X7_hanging_X7 lk_X7_hanging_36 dX7_hanging_52 ?_
        refine gf_C_17_3 E I in_X7_hanging_X0 lk_X7_hanging_180 dX7_hanging_55 ?_
        exact gw_iret E I hr hlocks rfl (Option.some.inj hF) rfl dX7_hanging_58
    · replace hF := gw_if1 c41 hF
      refine lv_bipush (v := (-103)) hx hb dX7_hanging_44 (by decide) ?_
      exact gw_iret E I hr hlocks rfl (Option.some.inj hF) rfl dX7_hanging_46
  have hJ17 : ∀ (v1 : Int32) (x0 : Int32) (H : Heap) (locs : List Loc) (ls : Array Slot), lv_has ls 3 [(0, .ref (ad 0)), (1, .int v1)] → gw_I D (tC g ad) 83 ad A s.heap t0 H locs → fX7_hanging_J17 v1 x0 t0 = some r0 → W p l e rmX7_hanging s m args below meth c H locs 0 0 (MQ below (gw_Qi D (tC g ad) 83 ad A r0 t0) args s 0 0 A) (F0 m 17 ls [.int x0]) := by
    intro v1 x0 H locs ls hl I hF
    unfold fX7_hanging_J17 at hF
    refine lv_istore_n (lv' := [(2, .int x0), (0, .ref (ad 0)), (1, .int v1)]) hx hb dX7_hanging_17 rfl hl (by decide) rfl (fun ls hl => ?_)
    refine lv_iload_n hx hb dX7_hanging_18 rfl (lv_at hl 2 rfl) ?_
    refine lv_if_eq (tgt := 34) hx hb dX7_hanging_19 (by decide) (fun c19 => ?_) (fun c19 => ?_)
    · replace hF := gw_if1 c19 hF
      exact hJ34 v1 _ _ _ (lv_sub hl [1, 2] rfl) I hF
    · replace hF := gw_if0 c19 hF
      refine lv_iload_n hx hb dX7_hanging_22 rfl (lv_at hl 2 rfl) ?_
      refine lv_iconst (v := 1) hx hb dX7_hanging_23 (by decide) ?_
      refine lv_icmp_eq (tgt := 34) hx hb dX7_hanging_24 (by decide) (fun c24 => ?_) (fun c24 => ?_)
      · replace hF := gw_if1 c24 hF
        exact hJ34 v1 _ _ _ (lv_sub hl [1, 2] rfl) I hF
      · replace hF := gw_if0 c24 hF
        refine lv_iload_n hx hb dX7_hanging_27 rfl (lv_at hl 0 rfl) ?_
        refine lv_if_ne (tgt := 34) hx hb dX7_hanging_28 (by decide) (fun c28 => ?_) (fun c28 => ?_)
        · replace hF := gw_if0 c28 hF
          exact hJ34 v1 _ _ _ (lv_sub hl [1, 2] rfl) I hF
        · replace hF := gw_if1 c28 hF
          refine lv_bipush (v := (-102)) hx hb dX7_hanging_31 (by decide) ?_
          exact gw_iret E I hr hlocks rfl (Option.some.inj hF) rfl dX7_hanging_33
  have hJ16 : ∀ (v1 : Int32) (H : Heap) (locs : List Loc) (ls : Array Slot), lv_has ls 3 [(0, .ref (ad 0)), (1, .int v1)] → gw_I D (tC g ad) 83 ad A s.heap t0 H locs → fX7_hanging_J16 v1 t0 = some r0 → W p l e rmX7_hanging s m args below meth c H locs 0 0 (MQ below (gw_Qi D (tC g ad) 83 ad A r0 t0) args s 0 0 A) (F0 m 16 ls []) := by
    intro v1 H locs ls hl I hF
    unfold fX7_hanging_J16 at hF
    refine lv_iconst (v := 0) hx hb dX7_hanging_16 (by decide) ?_
    exact hJ17 v1 0 _ _ _ (lv_sub hl [0, 1] rfl) I hF
  refine lv_iload_n hx hb dX7_hanging_0 rfl (lv_at hl 1 rfl) ?_
  refine lv_bipush (v := 10) hx hb dX7_hanging_1 (by decide) ?_
  refine lv_icmp_lt (tgt := 16) hx hb dX7_hanging_3 (by decide) (fun c3 => ?_) (fun c3 => ?_)
  · replace hF := gw_if1 c3 hF
    exact hJ16 v1 _ _ _ (lv_sub hl [0, 1] rfl) I hF
  · replace hF := gw_if0 c3 hF
    refine lv_iload_n hx hb dX7_hanging_6 rfl (lv_at hl 1 rfl) ?_
    refine lv_bipush (v := 16) hx hb dX7_hanging_7 (by decide) ?_
    refine lv_icmp_ge (tgt := 16) hx hb dX7_hanging_9 (by decide) (fun c9 => ?_) (fun c9 => ?_)
    · replace hF := gw_if1 c9 hF
      exact hJ16 v1 _ _ _ (lv_sub hl [0, 1] rfl) I hF
    · replace hF := gw_if0 c9 hF
      refine lv_iconst (v := 1) hx hb dX7_hanging_12 (by decide) ?_
      refine lv_goto (tgt := 17) hx hb dX7_hanging_13 (by decide) ?_
      exact hJ17 v1 1 _ _ _ (lv_sub hl [0, 1] rfl) I hF
abbrev rmX4_addFound : Room := { frames := 0, cells := 0, slots := 0, locals := 0 }
theorem lk_X4_addFound_26 : Cond.fieldLink RX4 26 "ThrownSacks$Standing" "foundTowns" "[I" ∈ wsX4_addFound := by decide +kernel
theorem lk_X4_addFound_29 : Cond.fieldLink RX4 29 "ThrownSacks$Standing" "foundIn" "[I" ∈ wsX4_addFound := by decide +kernel
theorem lk_X4_addFound_36 : Cond.fieldLink RX4 36 "ThrownSacks$Standing" "found" "I" ∈ wsX4_addFound := by decide +kernel
theorem in_X4_addFound_X4 : ∀ w ∈ u_ws RX4 TX4 8, w ∈ wsX4_addFound := by decide +kernel
set_option maxHeartbeats 4000000 in
set_option maxRecDepth 100000 in
theorem ok_X4_addFound (l : Launch) {D : va_G} {g : gw_G} {tG : Nat} {ad : Nat → Nat} {A : Nat → Prop} (hD : gw_D A 83 ad) (t0 : gw_S) (v1 : Int32) (v2 : Int32) (tz : gw_S) (hF : fX4_addFound v1 v2 t0 = some tz) : Met l yX4_addFound wsX4_addFound rmX4_addFound (gw_Pc D g tG (tC g ad) 83 ad A [.ref (ad 7), .int v1, .int v2] t0) (gw_Qv D (tC g ad) 83 ad A tz) 0 0 A := by
  unfold fX4_addFound at hF
  refine gw_met (by decide) rfl hD (Nat.le_of_ble_eq_true rfl) (fun p e s m args below meth c E hr hlocks I ls hl => ?_)
  have hx := E.1.1
  have hb := E.1.2.1
  have hl : lv_has ls 3 [(0, .ref (ad 7)), (1, .int v1), (2, .int v2)] := hl
  refine lv_aload_n hx hb dX4_addFound_0 rfl (lv_at hl 0 rfl) ?_
  refine gf_C_7_5 E I in_X4_addFound_X4 lk_X4_addFound_36 dX4_addFound_1 ?_
  refine lv_if_lt (tgt := 46) hx hb dX4_addFound_4 (by decide) (fun c4 => ?_) (fun c4 => ?_)
  · replace hF := gw_if1 c4 hF
    exact gw_vret E I hr hlocks (Option.some.inj hF) dX4_addFound_46
  · replace hF := gw_if0 c4 hF
    refine lv_aload_n hx hb dX4_addFound_7 rfl (lv_at hl 0 rfl) ?_
    refine gf_C_7_5 E I in_X4_addFound_X4 lk_X4_addFound_36 dX4_addFound_8 ?_
    refine lv_bipush (v := 8) hx hb dX4_addFound_11 (by decide) ?_
    refine lv_icmp_ge (tgt := 46) hx hb dX4_addFound_13 (by decide) (fun c13 => ?_) (fun c13 => ?_)
    · replace hF := gw_if1 c13 hF
      exact gw_vret E I hr hlocks (Option.some.inj hF) dX4_addFound_46
    · replace hF := gw_if0 c13 hF
      refine lv_aload_n hx hb dX4_addFound_16 rfl (lv_at hl 0 rfl) ?_
      refine gf_C_7_3 E I in_X4_addFound_X4 lk_X4_addFound_26 dX4_addFound_17 ?_
      refine lv_aload_n hx hb dX4_addFound_20 rfl (lv_at hl 0 rfl) ?_
      refine gf_C_7_5 E I in_X4_addFound_X4 lk_X4_addFound_36 dX4_addFound_21 ?_
      refine lv_iload_n hx hb dX4_addFound_24 rfl (lv_at hl 1 rfl) ?_
      replace hF := gw_ifn hF
      obtain ⟨hz25, hF⟩ := hF
      replace hF := gw_nmE hF
      obtain ⟨t_25, et_25, hF⟩ := hF
      refine gw_iast E I 10 (by decide) (fun _ => rfl) hz25 et_25 dX4_addFound_25 (fun H locs I => ?_)
      refine lv_aload_n hx hb dX4_addFound_26 rfl (lv_at hl 0 rfl) ?_
      refine gf_C_7_4 E I in_X4_addFound_X4 lk_X4_addFound_29 dX4_addFound_27 ?_
      refine lv_aload_n hx hb dX4_addFound_30 rfl (lv_at hl 0 rfl) ?_
      refine gf_C_7_5 E I in_X4_addFound_X4 lk_X4_addFound_36 dX4_addFound_31 ?_
      refine lv_iload_n hx hb dX4_addFound_34 rfl (lv_at hl 2 rfl) ?_
      replace hF := gw_ifn hF
      obtain ⟨hz35, hF⟩ := hF
      replace hF := gw_nmE hF
      obtain ⟨t_35, et_35, hF⟩ := hF
      refine gw_iast E I 11 (by decide) (fun _ => rfl) hz35 et_35 dX4_addFound_35 (fun H locs I => ?_)
      refine lv_aload_n hx hb dX4_addFound_36 rfl (lv_at hl 0 rfl) ?_
      refine lv_dup hx hb dX4_addFound_37 rfl ?_
      refine gf_C_7_5 E I in_X4_addFound_X4 lk_X4_addFound_36 dX4_addFound_38 ?_
      refine lv_iconst (v := 1) hx hb dX4_addFound_41 (by decide) ?_
      refine lv_iadd hx hb dX4_addFound_42 ?_
      replace hF := gw_nmE hF
      obtain ⟨t_43, et_43, hF⟩ := hF
      refine gp_C_7_5 E I in_X4_addFound_X4 lk_X4_addFound_36 et_43 dX4_addFound_43 (fun H locs I => ?_)
      exact gw_vret E I hr hlocks (Option.some.inj hF) dX4_addFound_46
abbrev rmX7_found : Room := { frames := 2, cells := 0, slots := 0, locals := 42 }
theorem lk_X7_found_26 : Cond.fieldLink RX7 26 "ThrownSacks" "now" "LThrownSacks$Standing;" ∈ wsX7_found := by decide +kernel
theorem lk_X7_found_43 : Cond.fieldLink RX7 43 "ThrownSacks" "ways" "LThrownSacks$Ways;" ∈ wsX7_found := by decide +kernel
theorem lk_X7_found_81 : Cond.fieldLink RX7 81 "ThrownSacks$Ways" "counted" "Z" ∈ wsX7_found := by decide +kernel
theorem lk_X7_found_188 : Cond.fieldLink RX7 188 "ThrownSacks$Standing" "found" "I" ∈ wsX7_found := by decide +kernel
theorem in_X7_found_X4 : ∀ w ∈ u_ws RX4 TX4 8, w ∈ wsX7_found := by decide +kernel
theorem in_X7_found_X6 : ∀ w ∈ u_ws RX6 TX6 5, w ∈ wsX7_found := by decide +kernel
theorem in_X7_found_X7 : ∀ w ∈ u_ws RX7 TX7 9, w ∈ wsX7_found := by decide +kernel
set_option maxHeartbeats 4000000 in
set_option maxRecDepth 100000 in
theorem ok_X7_found (l : Launch) {D : va_G} {g : gw_G} {tG : Nat} {ad : Nat → Nat} {A : Nat → Prop} (hD : gw_D A 83 ad) (t0 : gw_S) (v1 : Int32) (v2 : Int32) (r0 : Int32) (tz : gw_S) (hF : fX7_found v1 v2 t0 = some (r0, tz)) : Met l yX7_found wsX7_found rmX7_found (gw_Pc D g tG (tC g ad) 83 ad A [.ref (ad 0), .int v1, .int v2] t0) (gw_Qi D (tC g ad) 83 ad A r0 tz) 0 0 A := by
  unfold fX7_found at hF
  refine gw_met (by decide) rfl hD (Nat.le_of_ble_eq_true rfl) (fun p e s m args below meth c E hr hlocks I ls hl => ?_)
  have hx := E.1.1
  have hb := E.1.2.1
  have hl : lv_has ls 3 [(0, .ref (ad 0)), (1, .int v1), (2, .int v2)] := hl
  refine lv_aload_n hx hb dX7_found_0 rfl (lv_at hl 0 rfl) ?_
  refine lv_iload_n hx hb dX7_found_1 rfl (lv_at hl 1 rfl) ?_
  refine gw_calli I (gw_runV E I (ok_X7_isKnown l hD t0 v1 _ rfl) (cwV 1 E.1.2.2.2.2 gX7_found_X7_isKnown rfl rfl rfl (by decide +kernel) ⟨Nat.le_of_ble_eq_true rfl, Nat.le_of_ble_eq_true rfl⟩) (by decide) rfl rfl rfl hl.1 rfl (Nat.le_of_ble_eq_true rfl) dX7_found_2) (fun H locs I => ?_)
  refine lv_if_eq (tgt := 21) hx hb dX7_found_5 (by decide) (fun c5 => ?_) (fun c5 => ?_)
  · replace hF := gw_if1 c5 hF
    refine lv_bipush (v := (-101)) hx hb dX7_found_21 (by decide) ?_
    exact gw_iret E I hr hlocks rfl (Prod.mk.inj (Option.some.inj hF)).1 (Prod.mk.inj (Option.some.inj hF)).2 dX7_found_23
  · replace hF := gw_if0 c5 hF
    refine lv_aload_n hx hb dX7_found_8 rfl (lv_at hl 0 rfl) ?_
    refine lv_iload_n hx hb dX7_found_9 rfl (lv_at hl 2 rfl) ?_
    refine gw_calli I (gw_runV E I (ok_X7_isKnown l hD t0 v2 _ rfl) (cwV 1 E.1.2.2.2.2 gX7_found_X7_isKnown rfl rfl rfl (by decide +kernel) ⟨Nat.le_of_ble_eq_true rfl, Nat.le_of_ble_eq_true rfl⟩) (by decide) rfl rfl rfl hl.1 rfl (Nat.le_of_ble_eq_true rfl) dX7_found_10) (fun H locs I => ?_)
    refine lv_if_eq (tgt := 21) hx hb dX7_found_13 (by decide) (fun c13 => ?_) (fun c13 => ?_)
    · replace hF := gw_if1 c13 hF
      refine lv_bipush (v := (-101)) hx hb dX7_found_21 (by decide) ?_
      exact gw_iret E I hr hlocks rfl (Prod.mk.inj (Option.some.inj hF)).1 (Prod.mk.inj (Option.some.inj hF)).2 dX7_found_23
    · replace hF := gw_if0 c13 hF
      refine lv_iload_n hx hb dX7_found_16 rfl (lv_at hl 1 rfl) ?_
      refine lv_iload_n hx hb dX7_found_17 rfl (lv_at hl 2 rfl) ?_
      refine lv_icmp_ne (tgt := 24) hx hb dX7_found_18 (by decide) (fun c18 => ?_) (fun c18 => ?_)
      · replace hF := gw_if0 c18 hF
        refine lv_aload_n hx hb dX7_found_24 rfl (lv_at hl 0 rfl) ?_
        refine gf_C_0_2 E I in_X7_found_X7 lk_X7_found_26 dX7_found_25 ?_
        refine gf_C_7_5 E I in_X7_found_X4 lk_X7_found_188 dX7_found_28 ?_
        refine lv_bipush (v := 8) hx hb dX7_found_31 (by decide) ?_
        refine lv_icmp_lt (tgt := 39) hx hb dX7_found_33 (by decide) (fun c33 => ?_) (fun c33 => ?_)
        · replace hF := gw_if1 c33 hF
          refine lv_aload_n hx hb dX7_found_39 rfl (lv_at hl 0 rfl) ?_
          refine gf_C_0_2 E I in_X7_found_X7 lk_X7_found_26 dX7_found_40 ?_
          refine lv_iload_n hx hb dX7_found_43 rfl (lv_at hl 1 rfl) ?_
          refine lv_iload_n hx hb dX7_found_44 rfl (lv_at hl 2 rfl) ?_
          replace hF := gw_bdE hF
          obtain ⟨t_45, e45, hF⟩ := hF
          refine gw_callv I (gw_runV E I (ok_X4_addFound l hD t0 v1 v2 _ e45) (cwV 2 E.1.2.2.2.2 gX7_found_X4_addFound rfl rfl rfl (by decide +kernel) ⟨Nat.le_of_ble_eq_true rfl, Nat.le_of_ble_eq_true rfl⟩) (by decide) rfl rfl rfl hl.1 rfl (Nat.le_of_ble_eq_true rfl) dX7_found_45) (fun H locs I => ?_)
          refine lv_aload_n hx hb dX7_found_48 rfl (lv_at hl 0 rfl) ?_
          refine gf_C_0_5 E I in_X7_found_X7 lk_X7_found_43 dX7_found_49 ?_
          refine lv_iconst (v := 0) hx hb dX7_found_52 (by decide) ?_
          replace hF := gw_nmE hF
          obtain ⟨t_53, et_53, hF⟩ := hF
          refine gp_C_21_3 E I in_X7_found_X6 lk_X7_found_81 (by decide) et_53 dX7_found_53 (fun H locs I => ?_)
          refine lv_aload_n hx hb dX7_found_56 rfl (lv_at hl 0 rfl) ?_
          refine gf_C_0_2 E I in_X7_found_X7 lk_X7_found_26 dX7_found_57 ?_
          refine gf_C_7_5 E I in_X7_found_X4 lk_X7_found_188 dX7_found_60 ?_
          exact gw_iret E I hr hlocks rfl (Prod.mk.inj (Option.some.inj hF)).1 (Prod.mk.inj (Option.some.inj hF)).2 dX7_found_63
        · replace hF := gw_if0 c33 hF
          refine lv_bipush (v := (-104)) hx hb dX7_found_36 (by decide) ?_
          exact gw_iret E I hr hlocks rfl (Prod.mk.inj (Option.some.inj hF)).1 (Prod.mk.inj (Option.some.inj hF)).2 dX7_found_38
      · replace hF := gw_if1 c18 hF
        refine lv_bipush (v := (-101)) hx hb dX7_found_21 (by decide) ?_
        exact gw_iret E I hr hlocks rfl (Prod.mk.inj (Option.some.inj hF)).1 (Prod.mk.inj (Option.some.inj hF)).2 dX7_found_23
abbrev rmX7_forget : Room := { frames := 0, cells := 0, slots := 0, locals := 0 }
theorem lk_X7_forget_26 : Cond.fieldLink RX7 26 "ThrownSacks" "now" "LThrownSacks$Standing;" ∈ wsX7_forget := by decide +kernel
theorem lk_X7_forget_43 : Cond.fieldLink RX7 43 "ThrownSacks" "ways" "LThrownSacks$Ways;" ∈ wsX7_forget := by decide +kernel
theorem lk_X7_forget_81 : Cond.fieldLink RX7 81 "ThrownSacks$Ways" "counted" "Z" ∈ wsX7_forget := by decide +kernel
theorem lk_X7_forget_188 : Cond.fieldLink RX7 188 "ThrownSacks$Standing" "found" "I" ∈ wsX7_forget := by decide +kernel
theorem in_X7_forget_X4 : ∀ w ∈ u_ws RX4 TX4 8, w ∈ wsX7_forget := by decide +kernel
theorem in_X7_forget_X6 : ∀ w ∈ u_ws RX6 TX6 5, w ∈ wsX7_forget := by decide +kernel
theorem in_X7_forget_X7 : ∀ w ∈ u_ws RX7 TX7 9, w ∈ wsX7_forget := by decide +kernel
set_option maxHeartbeats 4000000 in
set_option maxRecDepth 100000 in
theorem ok_X7_forget (l : Launch) {D : va_G} {g : gw_G} {tG : Nat} {ad : Nat → Nat} {A : Nat → Prop} (hD : gw_D A 83 ad) (t0 : gw_S) (r0 : Int32) (tz : gw_S) (hF : fX7_forget t0 = some (r0, tz)) : Met l yX7_forget wsX7_forget rmX7_forget (gw_Pc D g tG (tC g ad) 83 ad A [.ref (ad 0)] t0) (gw_Qi D (tC g ad) 83 ad A r0 tz) 0 0 A := by
  unfold fX7_forget at hF
  refine gw_met (by decide) rfl hD (Nat.le_of_ble_eq_true rfl) (fun p e s m args below meth c E hr hlocks I ls hl => ?_)
  have hx := E.1.1
  have hb := E.1.2.1
  have hl : lv_has ls 2 [(0, .ref (ad 0))] := hl
  refine lv_aload_n hx hb dX7_forget_0 rfl (lv_at hl 0 rfl) ?_
  refine gf_C_0_2 E I in_X7_forget_X7 lk_X7_forget_26 dX7_forget_1 ?_
  refine gf_C_7_5 E I in_X7_forget_X4 lk_X7_forget_188 dX7_forget_4 ?_
  replace hF := gw_nmE hF
  obtain ⟨v1_7, ev1_7, hF⟩ := hF
  refine gw_topi ev1_7 ?_
  refine lv_istore_n (lv' := [(1, .int v1_7), (0, .ref (ad 0))]) hx hb dX7_forget_7 rfl hl (by decide) rfl (fun ls hl => ?_)
  refine lv_aload_n hx hb dX7_forget_8 rfl (lv_at hl 1 rfl) ?_
  refine gf_C_0_2 E I in_X7_forget_X7 lk_X7_forget_26 dX7_forget_9 ?_
  refine lv_iconst (v := 0) hx hb dX7_forget_12 (by decide) ?_
  replace hF := gw_nmE hF
  obtain ⟨t_13, et_13, hF⟩ := hF
  refine gp_C_7_5 E I in_X7_forget_X4 lk_X7_forget_188 et_13 dX7_forget_13 (fun H locs I => ?_)
  refine lv_aload_n hx hb dX7_forget_16 rfl (lv_at hl 1 rfl) ?_
  refine gf_C_0_5 E I in_X7_forget_X7 lk_X7_forget_43 dX7_forget_17 ?_
  refine lv_iconst (v := 0) hx hb dX7_forget_20 (by decide) ?_
  replace hF := gw_nmE hF
  obtain ⟨t_21, et_21, hF⟩ := hF
  refine gp_C_21_3 E I in_X7_forget_X6 lk_X7_forget_81 (by decide) et_21 dX7_forget_21 (fun H locs I => ?_)
  refine lv_iload_n hx hb dX7_forget_24 rfl (lv_at hl 0 rfl) ?_
  exact gw_iret E I hr hlocks rfl (Prod.mk.inj (Option.some.inj hF)).1 (Prod.mk.inj (Option.some.inj hF)).2 dX7_forget_25
abbrev rmJ7_fill_53178_24 : Room := { frames := 0, cells := 0, slots := 0, locals := 0 }
set_option maxHeartbeats 4000000 in
set_option maxRecDepth 100000 in
theorem ok_J7_fill_53178_24 (l : Launch) {D : va_G} {g : gw_G} {tG : Nat} {ad : Nat → Nat} {A : Nat → Prop} (hD : gw_D A 83 ad) (t0 : gw_S) (v1 : Int32) (tz : gw_S) (hF : fJ7_fill_53178_24 v1 t0 = some tz) : Met l yJ7_fill_53178 wsJ7_fill_53178 rmJ7_fill_53178_24 (gw_Pc D g tG (tC g ad) 83 ad A [.ref (ad 24), .int v1] t0) (gw_Qv D (tC g ad) 83 ad A tz) 0 0 A := by
  unfold fJ7_fill_53178_24 at hF
  refine gw_met (by decide) rfl hD (Nat.le_of_ble_eq_true rfl) (fun p e s m args below meth c E hr hlocks I ls hl => ?_)
  have hx := E.1.1
  have hb := E.1.2.1
  have hl : lv_has ls 4 [(0, .ref (ad 24)), (1, .int v1)] := hl
  have hL5 : ∀ (Kx : Int32 → gw_S → Option (gw_S)) (v1 : Int32) (v3 : Int32), (∀ (v2 : Int32) (t : gw_S) (H : Heap) (locs : List Loc) (ls : Array Slot), lv_has ls 4 [] → gw_I D (tC g ad) 83 ad A s.heap t H locs → Kx v2 t = some tz → W p l e rmJ7_fill_53178_24 s m args below meth c H locs 0 0 (MQ below (gw_Qv D (tC g ad) 83 ad A tz) args s 0 0 A) (F0 m 20 ls [])) → ∀ (n : Nat) (v2 : Int32) (t : gw_S) (H : Heap) (locs : List Loc) (ls : Array Slot), lv_has ls 4 [(0, .ref (ad 24)), (1, .int v1), (2, .int v2), (3, .int v3)] → gw_I D (tC g ad) 83 ad A s.heap t H locs → fJ7_fill_53178_24_L5 Kx v1 v3 n v2 t = some tz → W p l e rmJ7_fill_53178_24 s m args below meth c H locs 0 0 (MQ below (gw_Qv D (tC g ad) 83 ad A tz) args s 0 0 A) (F0 m 5 ls []) := by
    intro Kx v1 v3 hKx n
    induction n with
    | zero =>
      intro v2 t H locs ls hl I hF
      rw [fJ7_fill_53178_24_L5] at hF
      cases hF
    | succ n ih =>
      intro v2 t H locs ls hl I hF
      rw [fJ7_fill_53178_24_L5] at hF
      refine lv_iload_n hx hb dJ7_fill_53178_5 rfl (lv_at hl 2 rfl) ?_
      refine lv_iload_n hx hb dJ7_fill_53178_6 rfl (lv_at hl 3 rfl) ?_
      refine lv_icmp_ge (tgt := 20) hx hb dJ7_fill_53178_7 (by decide) (fun c7 => ?_) (fun c7 => ?_)
      · replace hF := gw_if1 c7 hF
        exact hKx v2 t _ _ _ (lv_sub hl [] rfl) I hF
      · replace hF := gw_if0 c7 hF
        refine lv_aload_n hx hb dJ7_fill_53178_10 rfl (lv_at hl 0 rfl) ?_
        refine lv_iload_n hx hb dJ7_fill_53178_11 rfl (lv_at hl 2 rfl) ?_
        refine lv_iload_n hx hb dJ7_fill_53178_12 rfl (lv_at hl 1 rfl) ?_
        replace hF := gw_ifn hF
        obtain ⟨hz13, hF⟩ := hF
        replace hF := gw_nmE hF
        obtain ⟨t_13, et_13, hF⟩ := hF
        refine gw_iast E I 24 (by decide) (fun _ => rfl) hz13 et_13 dJ7_fill_53178_13 (fun H locs I => ?_)
        replace hF := gw_nmE hF
        obtain ⟨v2_14, ev2_14, hF⟩ := hF
        refine lv_iinc (v := v2_14) (lv' := [(2, .int v2_14), (0, .ref (ad 24)), (1, .int v1), (3, .int v3)]) hx hb dJ7_fill_53178_14 hl (k := 2) rfl (by subst ev2_14; rfl) (by decide) rfl (fun ls hl => ?_)
        refine lv_goto (tgt := 5) hx hb dJ7_fill_53178_17 (by decide) ?_
        exact ih v2_14 t_13 _ _ _ (lv_sub hl [1, 2, 0, 3] rfl) I hF
  refine lv_iconst (v := 0) hx hb dJ7_fill_53178_0 (by decide) ?_
  refine lv_istore_n (lv' := [(2, .int 0), (0, .ref (ad 24)), (1, .int v1)]) hx hb dJ7_fill_53178_1 rfl hl (by decide) rfl (fun ls hl => ?_)
  refine lv_aload_n hx hb dJ7_fill_53178_2 rfl (lv_at hl 1 rfl) ?_
  refine gw_alen E I 24 (by decide) rfl (v := 6) (by decide) dJ7_fill_53178_3 ?_
  refine lv_istore_n (lv' := [(3, .int 6), (2, .int 0), (0, .ref (ad 24)), (1, .int v1)]) hx hb dJ7_fill_53178_4 rfl hl (by decide) rfl (fun ls hl => ?_)
  refine hL5 _ v1 6 (fun v2_x5 t_x5 H locs ls hl I hF => ?_) 2000 0 t0 _ _ _ (lv_sub hl [2, 3, 1, 0] rfl) I hF
  exact gw_vret E I hr hlocks (Option.some.inj hF) dJ7_fill_53178_20
abbrev rmJ7_fill_53178_23 : Room := { frames := 0, cells := 0, slots := 0, locals := 0 }
set_option maxHeartbeats 4000000 in
set_option maxRecDepth 100000 in
theorem ok_J7_fill_53178_23 (l : Launch) {D : va_G} {g : gw_G} {tG : Nat} {ad : Nat → Nat} {A : Nat → Prop} (hD : gw_D A 83 ad) (t0 : gw_S) (v1 : Int32) (tz : gw_S) (hF : fJ7_fill_53178_23 v1 t0 = some tz) : Met l yJ7_fill_53178 wsJ7_fill_53178 rmJ7_fill_53178_23 (gw_Pc D g tG (tC g ad) 83 ad A [.ref (ad 23), .int v1] t0) (gw_Qv D (tC g ad) 83 ad A tz) 0 0 A := by
  unfold fJ7_fill_53178_23 at hF
  refine gw_met (by decide) rfl hD (Nat.le_of_ble_eq_true rfl) (fun p e s m args below meth c E hr hlocks I ls hl => ?_)
  have hx := E.1.1
  have hb := E.1.2.1
  have hl : lv_has ls 4 [(0, .ref (ad 23)), (1, .int v1)] := hl
  have hL5 : ∀ (Kx : Int32 → gw_S → Option (gw_S)) (v1 : Int32) (v3 : Int32), (∀ (v2 : Int32) (t : gw_S) (H : Heap) (locs : List Loc) (ls : Array Slot), lv_has ls 4 [] → gw_I D (tC g ad) 83 ad A s.heap t H locs → Kx v2 t = some tz → W p l e rmJ7_fill_53178_23 s m args below meth c H locs 0 0 (MQ below (gw_Qv D (tC g ad) 83 ad A tz) args s 0 0 A) (F0 m 20 ls [])) → ∀ (n : Nat) (v2 : Int32) (t : gw_S) (H : Heap) (locs : List Loc) (ls : Array Slot), lv_has ls 4 [(0, .ref (ad 23)), (1, .int v1), (2, .int v2), (3, .int v3)] → gw_I D (tC g ad) 83 ad A s.heap t H locs → fJ7_fill_53178_23_L5 Kx v1 v3 n v2 t = some tz → W p l e rmJ7_fill_53178_23 s m args below meth c H locs 0 0 (MQ below (gw_Qv D (tC g ad) 83 ad A tz) args s 0 0 A) (F0 m 5 ls []) := by
    intro Kx v1 v3 hKx n
    induction n with
    | zero =>
      intro v2 t H locs ls hl I hF
      rw [fJ7_fill_53178_23_L5] at hF
      cases hF
    | succ n ih =>
      intro v2 t H locs ls hl I hF
      rw [fJ7_fill_53178_23_L5] at hF
      refine lv_iload_n hx hb dJ7_fill_53178_5 rfl (lv_at hl 2 rfl) ?_
      refine lv_iload_n hx hb dJ7_fill_53178_6 rfl (lv_at hl 3 rfl) ?_
      refine lv_icmp_ge (tgt := 20) hx hb dJ7_fill_53178_7 (by decide) (fun c7 => ?_) (fun c7 => ?_)
      · replace hF := gw_if1 c7 hF
        exact hKx v2 t _ _ _ (lv_sub hl [] rfl) I hF
      · replace hF := gw_if0 c7 hF
        refine lv_aload_n hx hb dJ7_fill_53178_10 rfl (lv_at hl 0 rfl) ?_
        refine lv_iload_n hx hb dJ7_fill_53178_11 rfl (lv_at hl 2 rfl) ?_
        refine lv_iload_n hx hb dJ7_fill_53178_12 rfl (lv_at hl 1 rfl) ?_
        replace hF := gw_ifn hF
        obtain ⟨hz13, hF⟩ := hF
        replace hF := gw_nmE hF
        obtain ⟨t_13, et_13, hF⟩ := hF
        refine gw_iast E I 23 (by decide) (fun _ => rfl) hz13 et_13 dJ7_fill_53178_13 (fun H locs I => ?_)
        replace hF := gw_nmE hF
        obtain ⟨v2_14, ev2_14, hF⟩ := hF
        refine lv_iinc (v := v2_14) (lv' := [(2, .int v2_14), (0, .ref (ad 23)), (1, .int v1), (3, .int v3)]) hx hb dJ7_fill_53178_14 hl (k := 2) rfl (by subst ev2_14; rfl) (by decide) rfl (fun ls hl => ?_)
        refine lv_goto (tgt := 5) hx hb dJ7_fill_53178_17 (by decide) ?_
        exact ih v2_14 t_13 _ _ _ (lv_sub hl [1, 2, 0, 3] rfl) I hF
  refine lv_iconst (v := 0) hx hb dJ7_fill_53178_0 (by decide) ?_
  refine lv_istore_n (lv' := [(2, .int 0), (0, .ref (ad 23)), (1, .int v1)]) hx hb dJ7_fill_53178_1 rfl hl (by decide) rfl (fun ls hl => ?_)
  refine lv_aload_n hx hb dJ7_fill_53178_2 rfl (lv_at hl 1 rfl) ?_
  refine gw_alen E I 23 (by decide) rfl (v := 6) (by decide) dJ7_fill_53178_3 ?_
  refine lv_istore_n (lv' := [(3, .int 6), (2, .int 0), (0, .ref (ad 23)), (1, .int v1)]) hx hb dJ7_fill_53178_4 rfl hl (by decide) rfl (fun ls hl => ?_)
  refine hL5 _ v1 6 (fun v2_x5 t_x5 H locs ls hl I hF => ?_) 2000 0 t0 _ _ _ (lv_sub hl [2, 3, 1, 0] rfl) I hF
  exact gw_vret E I hr hlocks (Option.some.inj hF) dJ7_fill_53178_20
abbrev rmX6_beyondOf : Room := { frames := 0, cells := 0, slots := 0, locals := 0 }
theorem lk_X6_beyondOf_15 : Cond.fieldLink RX6 15 "ThrownSacks$Ways" "beyond" "[I" ∈ wsX6_beyondOf := by decide +kernel
theorem in_X6_beyondOf_X6 : ∀ w ∈ u_ws RX6 TX6 5, w ∈ wsX6_beyondOf := by decide +kernel
set_option maxHeartbeats 4000000 in
set_option maxRecDepth 100000 in
theorem ok_X6_beyondOf (l : Launch) {D : va_G} {g : gw_G} {tG : Nat} {ad : Nat → Nat} {A : Nat → Prop} (hD : gw_D A 83 ad) (t0 : gw_S) (v1 : Int32) (r0 : Int32) (hF : fX6_beyondOf v1 t0 = some r0) : Met l yX6_beyondOf wsX6_beyondOf rmX6_beyondOf (gw_Pc D g tG (tC g ad) 83 ad A [.ref (ad 21), .int v1] t0) (gw_Qi D (tC g ad) 83 ad A r0 t0) 0 0 A := by
  unfold fX6_beyondOf at hF
  refine gw_met (by decide) rfl hD (Nat.le_of_ble_eq_true rfl) (fun p e s m args below meth c E hr hlocks I ls hl => ?_)
  have hx := E.1.1
  have hb := E.1.2.1
  have hl : lv_has ls 2 [(0, .ref (ad 21)), (1, .int v1)] := hl
  refine lv_iload_n hx hb dX6_beyondOf_0 rfl (lv_at hl 1 rfl) ?_
  refine lv_if_lt (tgt := 22) hx hb dX6_beyondOf_1 (by decide) (fun c1 => ?_) (fun c1 => ?_)
  · replace hF := gw_if1 c1 hF
    refine lv_iconst (v := (-1)) hx hb dX6_beyondOf_22 (by decide) ?_
    exact gw_iret E I hr hlocks rfl (Option.some.inj hF) rfl dX6_beyondOf_23
  · replace hF := gw_if0 c1 hF
    refine lv_iload_n hx hb dX6_beyondOf_4 rfl (lv_at hl 1 rfl) ?_
    refine lv_aload_n hx hb dX6_beyondOf_5 rfl (lv_at hl 0 rfl) ?_
    refine gf_C_21_1 E I in_X6_beyondOf_X6 lk_X6_beyondOf_15 dX6_beyondOf_6 ?_
    refine gw_alen E I 23 (by decide) rfl (v := 6) (by decide) dX6_beyondOf_9 ?_
    refine lv_icmp_ge (tgt := 22) hx hb dX6_beyondOf_10 (by decide) (fun c10 => ?_) (fun c10 => ?_)
    · replace hF := gw_if1 c10 hF
      refine lv_iconst (v := (-1)) hx hb dX6_beyondOf_22 (by decide) ?_
      exact gw_iret E I hr hlocks rfl (Option.some.inj hF) rfl dX6_beyondOf_23
    · replace hF := gw_if0 c10 hF
      refine lv_aload_n hx hb dX6_beyondOf_13 rfl (lv_at hl 0 rfl) ?_
      refine gf_C_21_1 E I in_X6_beyondOf_X6 lk_X6_beyondOf_15 dX6_beyondOf_14 ?_
      refine lv_iload_n hx hb dX6_beyondOf_17 rfl (lv_at hl 1 rfl) ?_
      replace hF := gw_ifn hF
      obtain ⟨hz18, hF⟩ := hF
      refine gw_iald E I 23 (by decide) rfl hz18 dX6_beyondOf_18 ?_
      refine lv_goto (tgt := 23) hx hb dX6_beyondOf_19 (by decide) ?_
      exact gw_iret E I hr hlocks rfl (Option.some.inj hF) rfl dX6_beyondOf_23
abbrev rmX6_askAllFound : Room := { frames := 1, cells := 0, slots := 0, locals := 23 }
theorem lk_X6_askAllFound_15 : Cond.fieldLink RX6 15 "ThrownSacks$Ways" "beyond" "[I" ∈ wsX6_askAllFound := by decide +kernel
theorem lk_X6_askAllFound_49 : Cond.fieldLink RX6 49 "ThrownSacks$Standing" "found" "I" ∈ wsX6_askAllFound := by decide +kernel
theorem lk_X6_askAllFound_54 : Cond.fieldLink RX6 54 "ThrownSacks$Standing" "foundTowns" "[I" ∈ wsX6_askAllFound := by decide +kernel
theorem lk_X6_askAllFound_57 : Cond.fieldLink RX6 57 "ThrownSacks$Standing" "foundIn" "[I" ∈ wsX6_askAllFound := by decide +kernel
theorem in_X6_askAllFound_X4 : ∀ w ∈ u_ws RX4 TX4 8, w ∈ wsX6_askAllFound := by decide +kernel
theorem in_X6_askAllFound_X6 : ∀ w ∈ u_ws RX6 TX6 5, w ∈ wsX6_askAllFound := by decide +kernel
set_option maxHeartbeats 4000000 in
set_option maxRecDepth 100000 in
theorem ok_X6_askAllFound (l : Launch) {D : va_G} {g : gw_G} {tG : Nat} {ad : Nat → Nat} {A : Nat → Prop} (hD : gw_D A 83 ad) (t0 : gw_S) (r0 : Int32) (tz : gw_S) (hF : fX6_askAllFound t0 = some (r0, tz)) : Met l yX6_askAllFound wsX6_askAllFound rmX6_askAllFound (gw_Pc D g tG (tC g ad) 83 ad A [.ref (ad 21), .ref (ad 7)] t0) (gw_Qi D (tC g ad) 83 ad A r0 tz) 0 0 A := by
  unfold fX6_askAllFound at hF
  refine gw_met (by decide) rfl hD (Nat.le_of_ble_eq_true rfl) (fun p e s m args below meth c E hr hlocks I ls hl => ?_)
  have hx := E.1.1
  have hb := E.1.2.1
  have hl : lv_has ls 5 [(0, .ref (ad 21)), (1, .ref (ad 7))] := hl
  have hJ75 : ∀ (Kx : Int32 → gw_S → Option (Int32 × gw_S)) (Kh : Int32 → gw_S → Option (Int32 × gw_S)) (v2 : Int32) (hKx : ∀ (v2 : Int32) (t : gw_S) (H : Heap) (locs : List Loc) (ls : Array Slot), lv_has ls 5 [] → gw_I D (tC g ad) 83 ad A s.heap t H locs → Kx v2 t = some (r0, tz) → W p l e rmX6_askAllFound s m args below meth c H locs 0 0 (MQ below (gw_Qi D (tC g ad) 83 ad A r0 tz) args s 0 0 A) (F0 m 81 ls [])) (hKh : ∀ (v2 : Int32) (t : gw_S) (H : Heap) (locs : List Loc) (ls : Array Slot), lv_has ls 5 [(0, .ref (ad 21)), (1, .ref (ad 7)), (2, .int v2)] → gw_I D (tC g ad) 83 ad A s.heap t H locs → Kh v2 t = some (r0, tz) → W p l e rmX6_askAllFound s m args below meth c H locs 0 0 (MQ below (gw_Qi D (tC g ad) 83 ad A r0 tz) args s 0 0 A) (F0 m 10 ls [])) (t : gw_S) (H : Heap) (locs : List Loc) (ls : Array Slot), lv_has ls 5 [(0, .ref (ad 21)), (1, .ref (ad 7)), (2, .int v2)] → gw_I D (tC g ad) 83 ad A s.heap t H locs → fX6_askAllFound_J75 Kx Kh v2 t = some (r0, tz) → W p l e rmX6_askAllFound s m args below meth c H locs 0 0 (MQ below (gw_Qi D (tC g ad) 83 ad A r0 tz) args s 0 0 A) (F0 m 75 ls []) := by
    intro Kx Kh v2 hKx hKh t H locs ls hl I hF
    unfold fX6_askAllFound_J75 at hF
    replace hF := gw_nmE hF
    obtain ⟨v2_75, ev2_75, hF⟩ := hF
    refine lv_iinc (v := v2_75) (lv' := [(2, .int v2_75), (0, .ref (ad 21)), (1, .ref (ad 7))]) hx hb dX6_askAllFound_75 hl (k := 2) rfl (by subst ev2_75; rfl) (by decide) rfl (fun ls hl => ?_)
    refine lv_goto (tgt := 10) hx hb dX6_askAllFound_78 (by decide) ?_
    exact hKh v2_75 t _ _ _ (lv_sub hl [1, 2, 0] rfl) I hF
  have hJ54 : ∀ (Kx : Int32 → gw_S → Option (Int32 × gw_S)) (Kh : Int32 → gw_S → Option (Int32 × gw_S)) (v2 : Int32) (v3 : Int32) (v4 : Int32) (hKx : ∀ (v2 : Int32) (t : gw_S) (H : Heap) (locs : List Loc) (ls : Array Slot), lv_has ls 5 [] → gw_I D (tC g ad) 83 ad A s.heap t H locs → Kx v2 t = some (r0, tz) → W p l e rmX6_askAllFound s m args below meth c H locs 0 0 (MQ below (gw_Qi D (tC g ad) 83 ad A r0 tz) args s 0 0 A) (F0 m 81 ls [])) (hKh : ∀ (v2 : Int32) (t : gw_S) (H : Heap) (locs : List Loc) (ls : Array Slot), lv_has ls 5 [(0, .ref (ad 21)), (1, .ref (ad 7)), (2, .int v2)] → gw_I D (tC g ad) 83 ad A s.heap t H locs → Kh v2 t = some (r0, tz) → W p l e rmX6_askAllFound s m args below meth c H locs 0 0 (MQ below (gw_Qi D (tC g ad) 83 ad A r0 tz) args s 0 0 A) (F0 m 10 ls [])) (t : gw_S) (H : Heap) (locs : List Loc) (ls : Array Slot), lv_has ls 5 [(0, .ref (ad 21)), (1, .ref (ad 7)), (2, .int v2), (3, .int v3), (4, .int v4)] → gw_I D (tC g ad) 83 ad A s.heap t H locs → fX6_askAllFound_J54 Kx Kh v2 v3 v4 t = some (r0, tz) → W p l e rmX6_askAllFound s m args below meth c H locs 0 0 (MQ below (gw_Qi D (tC g ad) 83 ad A r0 tz) args s 0 0 A) (F0 m 54 ls []) := by
    intro Kx Kh v2 v3 v4 hKx hKh t H locs ls hl I hF
    unfold fX6_askAllFound_J54 at hF
    refine lv_iload_n hx hb dX6_askAllFound_54 rfl (lv_at hl 3 rfl) ?_
    refine lv_if_lt (tgt := 75) hx hb dX6_askAllFound_55 (by decide) (fun c55 => ?_) (fun c55 => ?_)
    · replace hF := gw_if1 c55 hF
      exact hJ75 Kx Kh v2 hKx hKh t _ _ _ (lv_sub hl [0, 1, 2] rfl) I hF
    · replace hF := gw_if0 c55 hF
      refine lv_iload_n hx hb dX6_askAllFound_58 rfl (lv_at hl 3 rfl) ?_
      refine lv_aload_n hx hb dX6_askAllFound_59 rfl (lv_at hl 0 rfl) ?_
      refine gf_C_21_1 E I in_X6_askAllFound_X6 lk_X6_askAllFound_15 dX6_askAllFound_60 ?_
      refine gw_alen E I 23 (by decide) rfl (v := 6) (by decide) dX6_askAllFound_63 ?_
      refine lv_icmp_ge (tgt := 75) hx hb dX6_askAllFound_64 (by decide) (fun c64 => ?_) (fun c64 => ?_)
      · replace hF := gw_if1 c64 hF
        exact hJ75 Kx Kh v2 hKx hKh t _ _ _ (lv_sub hl [0, 1, 2] rfl) I hF
      · replace hF := gw_if0 c64 hF
        refine lv_aload_n hx hb dX6_askAllFound_67 rfl (lv_at hl 0 rfl) ?_
        refine gf_C_21_1 E I in_X6_askAllFound_X6 lk_X6_askAllFound_15 dX6_askAllFound_68 ?_
        refine lv_iload_n hx hb dX6_askAllFound_71 rfl (lv_at hl 3 rfl) ?_
        refine lv_iload hx hb dX6_askAllFound_72 (lv_at hl 4 rfl) ?_
        replace hF := gw_ifn hF
        obtain ⟨hz74, hF⟩ := hF
        replace hF := gw_nmE hF
        obtain ⟨t_74, et_74, hF⟩ := hF
        refine gw_iast E I 23 (by decide) (fun _ => rfl) hz74 et_74 dX6_askAllFound_74 (fun H locs I => ?_)
        exact hJ75 Kx Kh v2 hKx hKh t_74 _ _ _ (lv_sub hl [0, 1, 2] rfl) I hF
  have hL10 : ∀ (Kx : Int32 → gw_S → Option (Int32 × gw_S)), (∀ (v2 : Int32) (t : gw_S) (H : Heap) (locs : List Loc) (ls : Array Slot), lv_has ls 5 [] → gw_I D (tC g ad) 83 ad A s.heap t H locs → Kx v2 t = some (r0, tz) → W p l e rmX6_askAllFound s m args below meth c H locs 0 0 (MQ below (gw_Qi D (tC g ad) 83 ad A r0 tz) args s 0 0 A) (F0 m 81 ls [])) → ∀ (n : Nat) (v2 : Int32) (t : gw_S) (H : Heap) (locs : List Loc) (ls : Array Slot), lv_has ls 5 [(0, .ref (ad 21)), (1, .ref (ad 7)), (2, .int v2)] → gw_I D (tC g ad) 83 ad A s.heap t H locs → fX6_askAllFound_L10 Kx n v2 t = some (r0, tz) → W p l e rmX6_askAllFound s m args below meth c H locs 0 0 (MQ below (gw_Qi D (tC g ad) 83 ad A r0 tz) args s 0 0 A) (F0 m 10 ls []) := by
    intro Kx hKx n
    induction n with
    | zero =>
      intro v2 t H locs ls hl I hF
      rw [fX6_askAllFound_L10] at hF
      cases hF
    | succ n ih =>
      intro v2 t H locs ls hl I hF
      rw [fX6_askAllFound_L10] at hF
      refine lv_iload_n hx hb dX6_askAllFound_10 rfl (lv_at hl 2 rfl) ?_
      refine lv_aload_n hx hb dX6_askAllFound_11 rfl (lv_at hl 1 rfl) ?_
      refine gf_C_7_5 E I in_X6_askAllFound_X4 lk_X6_askAllFound_49 dX6_askAllFound_12 ?_
      refine lv_icmp_ge (tgt := 81) hx hb dX6_askAllFound_15 (by decide) (fun c15 => ?_) (fun c15 => ?_)
      · replace hF := gw_if1 c15 hF
        exact hKx v2 t _ _ _ (lv_sub hl [] rfl) I hF
      · replace hF := gw_if0 c15 hF
        refine lv_aload_n hx hb dX6_askAllFound_18 rfl (lv_at hl 1 rfl) ?_
        refine gf_C_7_3 E I in_X6_askAllFound_X4 lk_X6_askAllFound_54 dX6_askAllFound_19 ?_
        refine lv_iload_n hx hb dX6_askAllFound_22 rfl (lv_at hl 2 rfl) ?_
        replace hF := gw_ifn hF
        obtain ⟨hz23, hF⟩ := hF
        refine gw_iald E I 10 (by decide) rfl hz23 dX6_askAllFound_23 ?_
        replace hF := gw_nmE hF
        obtain ⟨v3_24, ev3_24, hF⟩ := hF
        refine gw_topi ev3_24 ?_
        refine lv_istore_n (lv' := [(3, .int v3_24), (0, .ref (ad 21)), (1, .ref (ad 7)), (2, .int v2)]) hx hb dX6_askAllFound_24 rfl hl (by decide) rfl (fun ls hl => ?_)
        refine lv_aload_n hx hb dX6_askAllFound_25 rfl (lv_at hl 2 rfl) ?_
        refine gf_C_7_4 E I in_X6_askAllFound_X4 lk_X6_askAllFound_57 dX6_askAllFound_26 ?_
        refine lv_iload_n hx hb dX6_askAllFound_29 rfl (lv_at hl 3 rfl) ?_
        replace hF := gw_ifn hF
        obtain ⟨hz30, hF⟩ := hF
        refine gw_iald E I 11 (by decide) rfl hz30 dX6_askAllFound_30 ?_
        replace hF := gw_nmE hF
        obtain ⟨v4_31, ev4_31, hF⟩ := hF
        refine gw_topi ev4_31 ?_
        refine lv_istore (lv' := [(4, .int v4_31), (3, .int v3_24), (0, .ref (ad 21)), (1, .ref (ad 7)), (2, .int v2)]) hx hb dX6_askAllFound_31 hl (by decide) rfl (fun ls hl => ?_)
        refine lv_aload_n hx hb dX6_askAllFound_33 rfl (lv_at hl 2 rfl) ?_
        refine lv_iload_n hx hb dX6_askAllFound_34 rfl (lv_at hl 1 rfl) ?_
        replace hF := gw_bdE hF
        obtain ⟨r35, e35, hF⟩ := hF
        refine gw_calli I (gw_runV E I (ok_X6_beyondOf l hD t v3_24 _ e35) (cwV 1 E.1.2.2.2.2 gX6_askAllFound_X6_beyondOf rfl rfl rfl (by decide +kernel) ⟨Nat.le_of_ble_eq_true rfl, Nat.le_of_ble_eq_true rfl⟩) (by decide) rfl rfl rfl hl.1 rfl (Nat.le_of_ble_eq_true rfl) dX6_askAllFound_35) (fun H locs I => ?_)
        refine lv_iconst (v := (-1)) hx hb dX6_askAllFound_38 (by decide) ?_
        refine lv_icmp_eq (tgt := 54) hx hb dX6_askAllFound_39 (by decide) (fun c39 => ?_) (fun c39 => ?_)
        · replace hF := gw_if1 c39 hF
          exact hJ54 Kx (fX6_askAllFound_L10 Kx n) v2 v3_24 v4_31 hKx ih t _ _ _ (lv_sub hl [2, 3, 4, 1, 0] rfl) I hF
        · replace hF := gw_if0 c39 hF
          refine lv_aload_n hx hb dX6_askAllFound_42 rfl (lv_at hl 2 rfl) ?_
          refine lv_iload_n hx hb dX6_askAllFound_43 rfl (lv_at hl 1 rfl) ?_
          replace hF := gw_bdE hF
          obtain ⟨r44, e44, hF⟩ := hF
          refine gw_calli I (gw_runV E I (ok_X6_beyondOf l hD t v3_24 _ e44) (cwV 1 E.1.2.2.2.2 gX6_askAllFound_X6_beyondOf rfl rfl rfl (by decide +kernel) ⟨Nat.le_of_ble_eq_true rfl, Nat.le_of_ble_eq_true rfl⟩) (by decide) rfl rfl rfl hl.1 rfl (Nat.le_of_ble_eq_true rfl) dX6_askAllFound_44) (fun H locs I => ?_)
          refine lv_iload hx hb dX6_askAllFound_47 (lv_at hl 0 rfl) ?_
          refine lv_icmp_eq (tgt := 54) hx hb dX6_askAllFound_49 (by decide) (fun c49 => ?_) (fun c49 => ?_)
          · replace hF := gw_if1 c49 hF
            exact hJ54 Kx (fX6_askAllFound_L10 Kx n) v2 v3_24 v4_31 hKx ih t _ _ _ (lv_sub hl [2, 3, 4, 1, 0] rfl) I hF
          · replace hF := gw_if0 c49 hF
            refine lv_iconst (v := 0) hx hb dX6_askAllFound_52 (by decide) ?_
            exact gw_iret E I hr hlocks rfl (Prod.mk.inj (Option.some.inj hF)).1 (Prod.mk.inj (Option.some.inj hF)).2 dX6_askAllFound_53
  refine lv_aload_n hx hb dX6_askAllFound_0 rfl (lv_at hl 0 rfl) ?_
  refine gf_C_21_1 E I in_X6_askAllFound_X6 lk_X6_askAllFound_15 dX6_askAllFound_1 ?_
  refine lv_iconst (v := (-1)) hx hb dX6_askAllFound_4 (by decide) ?_
  replace hF := gw_bdE hF
  obtain ⟨t_5, e5, hF⟩ := hF
  refine gw_callv I (gw_runS E I (ok_J7_fill_53178_23 l hD t0 (-1) _ e5) (va_cwS 2 E.1.2.2.2.2 gX6_askAllFound_J7_fill_53178 rfl rfl rfl (by decide +kernel) ⟨Nat.le_of_ble_eq_true rfl, Nat.le_of_ble_eq_true rfl⟩) rfl hl.1 rfl (Nat.le_of_ble_eq_true rfl) dX6_askAllFound_5) (fun H locs I => ?_)
  refine lv_iconst (v := 0) hx hb dX6_askAllFound_8 (by decide) ?_
  refine lv_istore_n (lv' := [(2, .int 0), (0, .ref (ad 21)), (1, .ref (ad 7))]) hx hb dX6_askAllFound_9 rfl hl (by decide) rfl (fun ls hl => ?_)
  refine hL10 _  (fun v2_x10 t_x10 H locs ls hl I hF => ?_) 2000 0 t_5 _ _ _ (lv_sub hl [1, 2, 0] rfl) I hF
  refine lv_iconst (v := 1) hx hb dX6_askAllFound_81 (by decide) ?_
  exact gw_iret E I hr hlocks rfl (Prod.mk.inj (Option.some.inj hF)).1 (Prod.mk.inj (Option.some.inj hF)).2 dX6_askAllFound_82
abbrev rmX6_keep : Room := { frames := 0, cells := 0, slots := 0, locals := 0 }
theorem lk_X6_keep_9 : Cond.fieldLink RX6 9 "ThrownSacks$Ways" "towns" "[I" ∈ wsX6_keep := by decide +kernel
theorem lk_X6_keep_18 : Cond.fieldLink RX6 18 "ThrownSacks$Ways" "places" "[I" ∈ wsX6_keep := by decide +kernel
theorem lk_X6_keep_25 : Cond.fieldLink RX6 25 "ThrownSacks$Ways" "many" "I" ∈ wsX6_keep := by decide +kernel
theorem in_X6_keep_X6 : ∀ w ∈ u_ws RX6 TX6 5, w ∈ wsX6_keep := by decide +kernel
set_option maxHeartbeats 4000000 in
set_option maxRecDepth 100000 in
theorem ok_X6_keep (l : Launch) {D : va_G} {g : gw_G} {tG : Nat} {ad : Nat → Nat} {A : Nat → Prop} (hD : gw_D A 83 ad) (t0 : gw_S) (v1 : Int32) (tz : gw_S) (hF : fX6_keep v1 t0 = some tz) : Met l yX6_keep wsX6_keep rmX6_keep (gw_Pc D g tG (tC g ad) 83 ad A [.ref (ad 21), .int v1] t0) (gw_Qv D (tC g ad) 83 ad A tz) 0 0 A := by
  unfold fX6_keep at hF
  refine gw_met (by decide) rfl hD (Nat.le_of_ble_eq_true rfl) (fun p e s m args below meth c E hr hlocks I ls hl => ?_)
  have hx := E.1.1
  have hb := E.1.2.1
  have hl : lv_has ls 4 [(0, .ref (ad 21)), (1, .int v1)] := hl
  have hJ49 : ∀ (Kx : Int32 → gw_S → Option (gw_S)) (Kh : Int32 → gw_S → Option (gw_S)) (v1 : Int32) (v2 : Int32) (hKx : ∀ (v2 : Int32) (t : gw_S) (H : Heap) (locs : List Loc) (ls : Array Slot), lv_has ls 4 [] → gw_I D (tC g ad) 83 ad A s.heap t H locs → Kx v2 t = some tz → W p l e rmX6_keep s m args below meth c H locs 0 0 (MQ below (gw_Qv D (tC g ad) 83 ad A tz) args s 0 0 A) (F0 m 55 ls [])) (hKh : ∀ (v2 : Int32) (t : gw_S) (H : Heap) (locs : List Loc) (ls : Array Slot), lv_has ls 4 [(0, .ref (ad 21)), (1, .int v1), (2, .int v2)] → gw_I D (tC g ad) 83 ad A s.heap t H locs → Kh v2 t = some tz → W p l e rmX6_keep s m args below meth c H locs 0 0 (MQ below (gw_Qv D (tC g ad) 83 ad A tz) args s 0 0 A) (F0 m 12 ls [])) (t : gw_S) (H : Heap) (locs : List Loc) (ls : Array Slot), lv_has ls 4 [(0, .ref (ad 21)), (1, .int v1), (2, .int v2)] → gw_I D (tC g ad) 83 ad A s.heap t H locs → fX6_keep_J49 Kx Kh v1 v2 t = some tz → W p l e rmX6_keep s m args below meth c H locs 0 0 (MQ below (gw_Qv D (tC g ad) 83 ad A tz) args s 0 0 A) (F0 m 49 ls []) := by
    intro Kx Kh v1 v2 hKx hKh t H locs ls hl I hF
    unfold fX6_keep_J49 at hF
    replace hF := gw_nmE hF
    obtain ⟨v2_49, ev2_49, hF⟩ := hF
    refine lv_iinc (v := v2_49) (lv' := [(2, .int v2_49), (0, .ref (ad 21)), (1, .int v1)]) hx hb dX6_keep_49 hl (k := 2) rfl (by subst ev2_49; rfl) (by decide) rfl (fun ls hl => ?_)
    refine lv_goto (tgt := 12) hx hb dX6_keep_52 (by decide) ?_
    exact hKh v2_49 t _ _ _ (lv_sub hl [1, 2, 0] rfl) I hF
  have hL12 : ∀ (Kx : Int32 → gw_S → Option (gw_S)) (v1 : Int32), (∀ (v2 : Int32) (t : gw_S) (H : Heap) (locs : List Loc) (ls : Array Slot), lv_has ls 4 [] → gw_I D (tC g ad) 83 ad A s.heap t H locs → Kx v2 t = some tz → W p l e rmX6_keep s m args below meth c H locs 0 0 (MQ below (gw_Qv D (tC g ad) 83 ad A tz) args s 0 0 A) (F0 m 55 ls [])) → ∀ (n : Nat) (v2 : Int32) (t : gw_S) (H : Heap) (locs : List Loc) (ls : Array Slot), lv_has ls 4 [(0, .ref (ad 21)), (1, .int v1), (2, .int v2)] → gw_I D (tC g ad) 83 ad A s.heap t H locs → fX6_keep_L12 Kx v1 n v2 t = some tz → W p l e rmX6_keep s m args below meth c H locs 0 0 (MQ below (gw_Qv D (tC g ad) 83 ad A tz) args s 0 0 A) (F0 m 12 ls []) := by
    intro Kx v1 hKx n
    induction n with
    | zero =>
      intro v2 t H locs ls hl I hF
      rw [fX6_keep_L12] at hF
      cases hF
    | succ n ih =>
      intro v2 t H locs ls hl I hF
      rw [fX6_keep_L12] at hF
      refine lv_iload_n hx hb dX6_keep_12 rfl (lv_at hl 2 rfl) ?_
      refine lv_iload_n hx hb dX6_keep_13 rfl (lv_at hl 1 rfl) ?_
      refine lv_icmp_ge (tgt := 55) hx hb dX6_keep_14 (by decide) (fun c14 => ?_) (fun c14 => ?_)
      · replace hF := gw_if1 c14 hF
        exact hKx v2 t _ _ _ (lv_sub hl [] rfl) I hF
      · replace hF := gw_if0 c14 hF
        refine lv_aload_n hx hb dX6_keep_17 rfl (lv_at hl 0 rfl) ?_
        refine gf_C_21_0 E I in_X6_keep_X6 lk_X6_keep_9 dX6_keep_18 ?_
        refine lv_iload_n hx hb dX6_keep_21 rfl (lv_at hl 2 rfl) ?_
        replace hF := gw_ifn hF
        obtain ⟨hz22, hF⟩ := hF
        refine gw_iald E I 22 (by decide) rfl hz22 dX6_keep_22 ?_
        replace hF := gw_nmE hF
        obtain ⟨v3_23, ev3_23, hF⟩ := hF
        refine gw_topi ev3_23 ?_
        refine lv_istore_n (lv' := [(3, .int v3_23), (0, .ref (ad 21)), (1, .int v1), (2, .int v2)]) hx hb dX6_keep_23 rfl hl (by decide) rfl (fun ls hl => ?_)
        refine lv_iload_n hx hb dX6_keep_24 rfl (lv_at hl 0 rfl) ?_
        refine lv_if_lt (tgt := 49) hx hb dX6_keep_25 (by decide) (fun c25 => ?_) (fun c25 => ?_)
        · replace hF := gw_if1 c25 hF
          exact hJ49 Kx (fX6_keep_L12 Kx v1 n) v1 v2 hKx ih t _ _ _ (lv_sub hl [1, 2, 3] rfl) I hF
        · replace hF := gw_if0 c25 hF
          refine lv_iload_n hx hb dX6_keep_28 rfl (lv_at hl 0 rfl) ?_
          refine lv_aload_n hx hb dX6_keep_29 rfl (lv_at hl 1 rfl) ?_
          refine gf_C_21_2 E I in_X6_keep_X6 lk_X6_keep_18 dX6_keep_30 ?_
          refine gw_alen E I 24 (by decide) rfl (v := 6) (by decide) dX6_keep_33 ?_
          refine lv_icmp_ge (tgt := 49) hx hb dX6_keep_34 (by decide) (fun c34 => ?_) (fun c34 => ?_)
          · replace hF := gw_if1 c34 hF
            exact hJ49 Kx (fX6_keep_L12 Kx v1 n) v1 v2 hKx ih t _ _ _ (lv_sub hl [1, 2, 3] rfl) I hF
          · replace hF := gw_if0 c34 hF
            refine lv_aload_n hx hb dX6_keep_37 rfl (lv_at hl 1 rfl) ?_
            refine gf_C_21_2 E I in_X6_keep_X6 lk_X6_keep_18 dX6_keep_38 ?_
            refine lv_iload_n hx hb dX6_keep_41 rfl (lv_at hl 0 rfl) ?_
            refine lv_dup2_11 hx hb dX6_keep_42 rfl rfl ?_
            replace hF := gw_ifn hF
            obtain ⟨hz43, hF⟩ := hF
            refine gw_iald E I 24 (by decide) rfl hz43 dX6_keep_43 ?_
            refine lv_iconst (v := 1) hx hb dX6_keep_44 (by decide) ?_
            refine lv_iload_n hx hb dX6_keep_45 rfl (lv_at hl 3 rfl) ?_
            refine lv_ishl hx hb dX6_keep_46 ?_
            refine lv_ior hx hb dX6_keep_47 ?_
            replace hF := gw_ifn hF
            obtain ⟨hz48, hF⟩ := hF
            replace hF := gw_nmE hF
            obtain ⟨t_48, et_48, hF⟩ := hF
            refine gw_iast E I 24 (by decide) (fun _ => rfl) hz48 et_48 dX6_keep_48 (fun H locs I => ?_)
            exact hJ49 Kx (fX6_keep_L12 Kx v1 n) v1 v2 hKx ih t_48 _ _ _ (lv_sub hl [1, 2, 3] rfl) I hF
  refine lv_aload_n hx hb dX6_keep_0 rfl (lv_at hl 0 rfl) ?_
  refine lv_dup hx hb dX6_keep_1 rfl ?_
  refine gf_C_21_4 E I in_X6_keep_X6 lk_X6_keep_25 dX6_keep_2 ?_
  refine lv_iconst (v := 1) hx hb dX6_keep_5 (by decide) ?_
  refine lv_iadd hx hb dX6_keep_6 ?_
  replace hF := gw_nmE hF
  obtain ⟨t_7, et_7, hF⟩ := hF
  refine gp_C_21_4 E I in_X6_keep_X6 lk_X6_keep_25 et_7 dX6_keep_7 (fun H locs I => ?_)
  refine lv_iconst (v := 0) hx hb dX6_keep_10 (by decide) ?_
  refine lv_istore_n (lv' := [(2, .int 0), (0, .ref (ad 21)), (1, .int v1)]) hx hb dX6_keep_11 rfl hl (by decide) rfl (fun ls hl => ?_)
  refine hL12 _ v1 (fun v2_x12 t_x12 H locs ls hl I hF => ?_) 2000 0 t_7 _ _ _ (lv_sub hl [1, 2, 0] rfl) I hF
  exact gw_vret E I hr hlocks (Option.some.inj hF) dX6_keep_55
abbrev rmX6_canHang : Room := { frames := 1, cells := 0, slots := 0, locals := 21 }
theorem lk_X6_canHang_9 : Cond.fieldLink RX6 9 "ThrownSacks$Ways" "towns" "[I" ∈ wsX6_canHang := by decide +kernel
theorem in_X6_canHang_X6 : ∀ w ∈ u_ws RX6 TX6 5, w ∈ wsX6_canHang := by decide +kernel
set_option maxHeartbeats 4000000 in
set_option maxRecDepth 100000 in
theorem ok_X6_canHang (l : Launch) {D : va_G} {g : gw_G} {tG : Nat} {ad : Nat → Nat} {A : Nat → Prop} (hD : gw_D A 83 ad) (t0 : gw_S) (v1 : Int32) (v2 : Int32) (v3 : Int32) (r0 : Int32) (hF : fX6_canHang v1 v2 v3 t0 = some r0) : Met l yX6_canHang wsX6_canHang rmX6_canHang (gw_Pc D g tG (tC g ad) 83 ad A [.ref (ad 21), .int v1, .int v2, .int v3] t0) (gw_Qi D (tC g ad) 83 ad A r0 t0) 0 0 A := by
  unfold fX6_canHang at hF
  refine gw_met (by decide) rfl hD (Nat.le_of_ble_eq_true rfl) (fun p e s m args below meth c E hr hlocks I ls hl => ?_)
  have hx := E.1.1
  have hb := E.1.2.1
  have hl : lv_has ls 5 [(0, .ref (ad 21)), (1, .int v1), (2, .int v2), (3, .int v3)] := hl
  have hJ64 : ∀ (H : Heap) (locs : List Loc) (ls : Array Slot), lv_has ls 5 [] → gw_I D (tC g ad) 83 ad A s.heap t0 H locs → fX6_canHang_J64 t0 = some r0 → W p l e rmX6_canHang s m args below meth c H locs 0 0 (MQ below (gw_Qi D (tC g ad) 83 ad A r0 t0) args s 0 0 A) (F0 m 64 ls []) := by
    intro H locs ls hl I hF
    unfold fX6_canHang_J64 at hF
    refine lv_iconst (v := 1) hx hb dX6_canHang_64 (by decide) ?_
    refine lv_goto (tgt := 69) hx hb dX6_canHang_65 (by decide) ?_
    exact gw_iret E I hr hlocks rfl (Option.some.inj hF) rfl dX6_canHang_69
  have hJ38 : ∀ (v1 : Int32) (v2 : Int32) (v3 : Int32) (v4 : Int32) (H : Heap) (locs : List Loc) (ls : Array Slot), lv_has ls 5 [(0, .ref (ad 21)), (1, .int v1), (2, .int v2), (3, .int v3), (4, .int v4)] → gw_I D (tC g ad) 83 ad A s.heap t0 H locs → fX6_canHang_J38 v1 v2 v3 v4 t0 = some r0 → W p l e rmX6_canHang s m args below meth c H locs 0 0 (MQ below (gw_Qi D (tC g ad) 83 ad A r0 t0) args s 0 0 A) (F0 m 38 ls []) := by
    intro v1 v2 v3 v4 H locs ls hl I hF
    unfold fX6_canHang_J38 at hF
    refine lv_iload_n hx hb dX6_canHang_38 rfl (lv_at hl 2 rfl) ?_
    refine lv_iload_n hx hb dX6_canHang_39 rfl (lv_at hl 3 rfl) ?_
    refine lv_iconst (v := 1) hx hb dX6_canHang_40 (by decide) ?_
    refine lv_isub hx hb dX6_canHang_41 ?_
    refine lv_icmp_lt (tgt := 64) hx hb dX6_canHang_42 (by decide) (fun c42 => ?_) (fun c42 => ?_)
    · replace hF := gw_if1 c42 hF
      exact hJ64  _ _ _ (lv_sub hl [] rfl) I hF
    · replace hF := gw_if0 c42 hF
      refine lv_aload_n hx hb dX6_canHang_45 rfl (lv_at hl 0 rfl) ?_
      refine lv_iload_n hx hb dX6_canHang_46 rfl (lv_at hl 1 rfl) ?_
      replace hF := gw_bdE hF
      obtain ⟨r47, e47, hF⟩ := hF
      refine gw_calli I (gw_runV E I (ok_X6_beyondOf l hD t0 v1 _ e47) (cwV 1 E.1.2.2.2.2 gX6_canHang_X6_beyondOf rfl rfl rfl (by decide +kernel) ⟨Nat.le_of_ble_eq_true rfl, Nat.le_of_ble_eq_true rfl⟩) (by decide) rfl rfl rfl hl.1 rfl (Nat.le_of_ble_eq_true rfl) dX6_canHang_47) (fun H locs I => ?_)
      refine lv_iconst (v := (-1)) hx hb dX6_canHang_50 (by decide) ?_
      refine lv_icmp_eq (tgt := 64) hx hb dX6_canHang_51 (by decide) (fun c51 => ?_) (fun c51 => ?_)
      · replace hF := gw_if1 c51 hF
        exact hJ64  _ _ _ (lv_sub hl [] rfl) I hF
      · replace hF := gw_if0 c51 hF
        refine lv_aload_n hx hb dX6_canHang_54 rfl (lv_at hl 0 rfl) ?_
        refine lv_iload_n hx hb dX6_canHang_55 rfl (lv_at hl 1 rfl) ?_
        replace hF := gw_bdE hF
        obtain ⟨r56, e56, hF⟩ := hF
        refine gw_calli I (gw_runV E I (ok_X6_beyondOf l hD t0 v1 _ e56) (cwV 1 E.1.2.2.2.2 gX6_canHang_X6_beyondOf rfl rfl rfl (by decide +kernel) ⟨Nat.le_of_ble_eq_true rfl, Nat.le_of_ble_eq_true rfl⟩) (by decide) rfl rfl rfl hl.1 rfl (Nat.le_of_ble_eq_true rfl) dX6_canHang_56) (fun H locs I => ?_)
        refine lv_iload hx hb dX6_canHang_59 (lv_at hl 4 rfl) ?_
        refine lv_icmp_ne (tgt := 68) hx hb dX6_canHang_61 (by decide) (fun c61 => ?_) (fun c61 => ?_)
        · replace hF := gw_if0 c61 hF
          refine lv_iconst (v := 0) hx hb dX6_canHang_68 (by decide) ?_
          exact gw_iret E I hr hlocks rfl (Option.some.inj hF) rfl dX6_canHang_69
        · replace hF := gw_if1 c61 hF
          exact hJ64  _ _ _ (lv_sub hl [] rfl) I hF
  refine lv_iload_n hx hb dX6_canHang_0 rfl (lv_at hl 2 rfl) ?_
  refine lv_if_ne (tgt := 6) hx hb dX6_canHang_1 (by decide) (fun c1 => ?_) (fun c1 => ?_)
  · replace hF := gw_if0 c1 hF
    refine lv_aload_n hx hb dX6_canHang_6 rfl (lv_at hl 0 rfl) ?_
    refine gf_C_21_0 E I in_X6_canHang_X6 lk_X6_canHang_9 dX6_canHang_7 ?_
    refine lv_iload_n hx hb dX6_canHang_10 rfl (lv_at hl 2 rfl) ?_
    refine lv_iconst (v := 1) hx hb dX6_canHang_11 (by decide) ?_
    refine lv_isub hx hb dX6_canHang_12 ?_
    replace hF := gw_ifn hF
    obtain ⟨hz13, hF⟩ := hF
    refine gw_iald E I 22 (by decide) rfl hz13 dX6_canHang_13 ?_
    replace hF := gw_nmE hF
    obtain ⟨v4_14, ev4_14, hF⟩ := hF
    refine gw_topi ev4_14 ?_
    refine lv_istore (lv' := [(4, .int v4_14), (0, .ref (ad 21)), (1, .int v1), (2, .int v2), (3, .int v3)]) hx hb dX6_canHang_14 hl (by decide) rfl (fun ls hl => ?_)
    refine lv_aload_n hx hb dX6_canHang_16 rfl (lv_at hl 1 rfl) ?_
    refine lv_iload hx hb dX6_canHang_17 (lv_at hl 0 rfl) ?_
    replace hF := gw_bdE hF
    obtain ⟨r19, e19, hF⟩ := hF
    refine gw_calli I (gw_runV E I (ok_X6_beyondOf l hD t0 v4_14 _ e19) (cwV 1 E.1.2.2.2.2 gX6_canHang_X6_beyondOf rfl rfl rfl (by decide +kernel) ⟨Nat.le_of_ble_eq_true rfl, Nat.le_of_ble_eq_true rfl⟩) (by decide) rfl rfl rfl hl.1 rfl (Nat.le_of_ble_eq_true rfl) dX6_canHang_19) (fun H locs I => ?_)
    refine lv_iconst (v := (-1)) hx hb dX6_canHang_22 (by decide) ?_
    refine lv_icmp_eq (tgt := 38) hx hb dX6_canHang_23 (by decide) (fun c23 => ?_) (fun c23 => ?_)
    · replace hF := gw_if1 c23 hF
      exact hJ38 v1 v2 v3 v4_14 _ _ _ (lv_sub hl [1, 2, 3, 4, 0] rfl) I hF
    · replace hF := gw_if0 c23 hF
      refine lv_aload_n hx hb dX6_canHang_26 rfl (lv_at hl 1 rfl) ?_
      refine lv_iload hx hb dX6_canHang_27 (lv_at hl 0 rfl) ?_
      replace hF := gw_bdE hF
      obtain ⟨r29, e29, hF⟩ := hF
      refine gw_calli I (gw_runV E I (ok_X6_beyondOf l hD t0 v4_14 _ e29) (cwV 1 E.1.2.2.2.2 gX6_canHang_X6_beyondOf rfl rfl rfl (by decide +kernel) ⟨Nat.le_of_ble_eq_true rfl, Nat.le_of_ble_eq_true rfl⟩) (by decide) rfl rfl rfl hl.1 rfl (Nat.le_of_ble_eq_true rfl) dX6_canHang_29) (fun H locs I => ?_)
      refine lv_iload_n hx hb dX6_canHang_32 rfl (lv_at hl 2 rfl) ?_
      refine lv_icmp_eq (tgt := 38) hx hb dX6_canHang_33 (by decide) (fun c33 => ?_) (fun c33 => ?_)
      · replace hF := gw_if1 c33 hF
        exact hJ38 v1 v2 v3 v4_14 _ _ _ (lv_sub hl [1, 2, 3, 4, 0] rfl) I hF
      · replace hF := gw_if0 c33 hF
        refine lv_iconst (v := 0) hx hb dX6_canHang_36 (by decide) ?_
        exact gw_iret E I hr hlocks rfl (Option.some.inj hF) rfl dX6_canHang_37
  · replace hF := gw_if1 c1 hF
    refine lv_iconst (v := 1) hx hb dX6_canHang_4 (by decide) ?_
    exact gw_iret E I hr hlocks rfl (Option.some.inj hF) rfl dX6_canHang_5
abbrev rmX6_hangFrom (n : Nat) : Room := { frames := n + 2, cells := 0, slots := 0, locals := 100 * n + 100 }
theorem lk_X6_hangFrom_9 : Cond.fieldLink RX6 9 "ThrownSacks$Ways" "towns" "[I" ∈ wsX6_hangFrom := by decide +kernel
theorem in_X6_hangFrom_X6 : ∀ w ∈ u_ws RX6 TX6 5, w ∈ wsX6_hangFrom := by decide +kernel
set_option maxHeartbeats 4000000 in
set_option maxRecDepth 100000 in
theorem ok_X6_hangFrom (l : Launch) {D : va_G} {g : gw_G} {tG : Nat} {ad : Nat → Nat} {A : Nat → Prop} (hD : gw_D A 83 ad) : ∀ (rn : Nat) (t0 : gw_S) (v1 : Int32) (v2 : Int32) (v3 : Int32) (tz : gw_S) (hF : fX6_hangFrom rn v1 v2 v3 t0 = some tz), Met l yX6_hangFrom wsX6_hangFrom (rmX6_hangFrom rn) (gw_Pc D g tG (tC g ad) 83 ad A [.ref (ad 21), .int v1, .int v2, .int v3] t0) (gw_Qv D (tC g ad) 83 ad A tz) 0 0 A := by
  intro rn
  induction rn with
  | zero => intro t0 v1 v2 v3  tz hF; rw [fX6_hangFrom] at hF; cases hF
  | succ rn ihr =>
  intro t0 v1 v2 v3  tz hF
  rw [fX6_hangFrom] at hF
  obtain ⟨frec, efr⟩ : ∃ f, f = fX6_hangFrom rn := ⟨_, rfl⟩
  rw [← efr] at hF
  refine gw_met (by decide) rfl hD (Nat.le_of_ble_eq_true rfl) (fun p e s m args below meth c E hr hlocks I ls hl => ?_)
  have hx := E.1.1
  have hb := E.1.2.1
  have hl : lv_has ls 5 [(0, .ref (ad 21)), (1, .int v1), (2, .int v2), (3, .int v3)] := hl
  have hJ62 : ∀ (Kx : Int32 → gw_S → Option (gw_S)) (Kh : Int32 → gw_S → Option (gw_S)) (v1 : Int32) (v2 : Int32) (v3 : Int32) (v4 : Int32) (hKx : ∀ (v4 : Int32) (t : gw_S) (H : Heap) (locs : List Loc) (ls : Array Slot), lv_has ls 5 [] → gw_I D (tC g ad) 83 ad A s.heap t H locs → Kx v4 t = some tz → W p l e (rmX6_hangFrom (rn + 1)) s m args below meth c H locs 0 0 (MQ below (gw_Qv D (tC g ad) 83 ad A tz) args s 0 0 A) (F0 m 68 ls [])) (hKh : ∀ (v4 : Int32) (t : gw_S) (H : Heap) (locs : List Loc) (ls : Array Slot), lv_has ls 5 [(0, .ref (ad 21)), (1, .int v1), (2, .int v2), (3, .int v3), (4, .int v4)] → gw_I D (tC g ad) 83 ad A s.heap t H locs → Kh v4 t = some tz → W p l e (rmX6_hangFrom (rn + 1)) s m args below meth c H locs 0 0 (MQ below (gw_Qv D (tC g ad) 83 ad A tz) args s 0 0 A) (F0 m 14 ls [])) (t : gw_S) (H : Heap) (locs : List Loc) (ls : Array Slot), lv_has ls 5 [(0, .ref (ad 21)), (1, .int v1), (2, .int v2), (3, .int v3), (4, .int v4)] → gw_I D (tC g ad) 83 ad A s.heap t H locs → fX6_hangFrom_J62 frec Kx Kh v1 v2 v3 v4 t = some tz → W p l e (rmX6_hangFrom (rn + 1)) s m args below meth c H locs 0 0 (MQ below (gw_Qv D (tC g ad) 83 ad A tz) args s 0 0 A) (F0 m 62 ls []) := by
    intro Kx Kh v1 v2 v3 v4 hKx hKh t H locs ls hl I hF
    unfold fX6_hangFrom_J62 at hF
    replace hF := gw_nmE hF
    obtain ⟨v4_62, ev4_62, hF⟩ := hF
    refine lv_iinc (v := v4_62) (lv' := [(4, .int v4_62), (0, .ref (ad 21)), (1, .int v1), (2, .int v2), (3, .int v3)]) hx hb dX6_hangFrom_62 hl (k := 4) rfl (by subst ev4_62; rfl) (by decide) rfl (fun ls hl => ?_)
    refine lv_goto (tgt := 14) hx hb dX6_hangFrom_65 (by decide) ?_
    exact hKh v4_62 t _ _ _ (lv_sub hl [1, 2, 3, 4, 0] rfl) I hF
  have hL14 : ∀ (Kx : Int32 → gw_S → Option (gw_S)) (v1 : Int32) (v2 : Int32) (v3 : Int32), (∀ (v4 : Int32) (t : gw_S) (H : Heap) (locs : List Loc) (ls : Array Slot), lv_has ls 5 [] → gw_I D (tC g ad) 83 ad A s.heap t H locs → Kx v4 t = some tz → W p l e (rmX6_hangFrom (rn + 1)) s m args below meth c H locs 0 0 (MQ below (gw_Qv D (tC g ad) 83 ad A tz) args s 0 0 A) (F0 m 68 ls [])) → ∀ (n : Nat) (v4 : Int32) (t : gw_S) (H : Heap) (locs : List Loc) (ls : Array Slot), lv_has ls 5 [(0, .ref (ad 21)), (1, .int v1), (2, .int v2), (3, .int v3), (4, .int v4)] → gw_I D (tC g ad) 83 ad A s.heap t H locs → fX6_hangFrom_L14 frec Kx v1 v2 v3 n v4 t = some tz → W p l e (rmX6_hangFrom (rn + 1)) s m args below meth c H locs 0 0 (MQ below (gw_Qv D (tC g ad) 83 ad A tz) args s 0 0 A) (F0 m 14 ls []) := by
    intro Kx v1 v2 v3 hKx n
    induction n with
    | zero =>
      intro v4 t H locs ls hl I hF
      rw [fX6_hangFrom_L14] at hF
      cases hF
    | succ n ih =>
      intro v4 t H locs ls hl I hF
      rw [fX6_hangFrom_L14] at hF
      refine lv_iload hx hb dX6_hangFrom_14 (lv_at hl 4 rfl) ?_
      refine lv_iload_n hx hb dX6_hangFrom_16 rfl (lv_at hl 3 rfl) ?_
      refine lv_icmp_ge (tgt := 68) hx hb dX6_hangFrom_17 (by decide) (fun c17 => ?_) (fun c17 => ?_)
      · replace hF := gw_if1 c17 hF
        exact hKx v4 t _ _ _ (lv_sub hl [] rfl) I hF
      · replace hF := gw_if0 c17 hF
        refine lv_iload_n hx hb dX6_hangFrom_20 rfl (lv_at hl 2 rfl) ?_
        refine lv_iload hx hb dX6_hangFrom_21 (lv_at hl 4 rfl) ?_
        refine lv_ishr hx hb dX6_hangFrom_23 ?_
        refine lv_iconst (v := 1) hx hb dX6_hangFrom_24 (by decide) ?_
        refine lv_iand hx hb dX6_hangFrom_25 ?_
        refine lv_if_ne (tgt := 62) hx hb dX6_hangFrom_26 (by decide) (fun c26 => ?_) (fun c26 => ?_)
        · replace hF := gw_if0 c26 hF
          exact hJ62 Kx (fX6_hangFrom_L14 frec Kx v1 v2 v3 n) v1 v2 v3 v4 hKx ih t _ _ _ (lv_sub hl [0, 1, 2, 3, 4] rfl) I hF
        · replace hF := gw_if1 c26 hF
          refine lv_aload_n hx hb dX6_hangFrom_29 rfl (lv_at hl 0 rfl) ?_
          refine lv_iload hx hb dX6_hangFrom_30 (lv_at hl 4 rfl) ?_
          refine lv_iload_n hx hb dX6_hangFrom_32 rfl (lv_at hl 1 rfl) ?_
          refine lv_iload_n hx hb dX6_hangFrom_33 rfl (lv_at hl 3 rfl) ?_
          replace hF := gw_bdE hF
          obtain ⟨r34, e34, hF⟩ := hF
          refine gw_calli I (gw_runV E I (ok_X6_canHang l hD t v4 v1 v3 _ e34) (cwV 3 E.1.2.2.2.2 gX6_hangFrom_X6_canHang rfl rfl rfl (by decide +kernel) ⟨(show 1 + 1 ≤ rn + 1 + 2 by omega), (show 8 + (5 + 11) + (21) ≤ 100 * (rn + 1) + 100 by omega)⟩) (by decide) rfl rfl rfl hl.1 rfl (Nat.le_of_ble_eq_true rfl) dX6_hangFrom_34) (fun H locs I => ?_)
          refine lv_if_eq (tgt := 62) hx hb dX6_hangFrom_37 (by decide) (fun c37 => ?_) (fun c37 => ?_)
          · replace hF := gw_if1 c37 hF
            exact hJ62 Kx (fX6_hangFrom_L14 frec Kx v1 v2 v3 n) v1 v2 v3 v4 hKx ih t _ _ _ (lv_sub hl [0, 1, 2, 3, 4] rfl) I hF
          · replace hF := gw_if0 c37 hF
            refine lv_aload_n hx hb dX6_hangFrom_40 rfl (lv_at hl 0 rfl) ?_
            refine gf_C_21_0 E I in_X6_hangFrom_X6 lk_X6_hangFrom_9 dX6_hangFrom_41 ?_
            refine lv_iload_n hx hb dX6_hangFrom_44 rfl (lv_at hl 1 rfl) ?_
            refine lv_iload hx hb dX6_hangFrom_45 (lv_at hl 4 rfl) ?_
            replace hF := gw_ifn hF
            obtain ⟨hz47, hF⟩ := hF
            replace hF := gw_nmE hF
            obtain ⟨t_47, et_47, hF⟩ := hF
            refine gw_iast E I 22 (by decide) (fun _ => rfl) hz47 et_47 dX6_hangFrom_47 (fun H locs I => ?_)
            refine lv_aload_n hx hb dX6_hangFrom_48 rfl (lv_at hl 0 rfl) ?_
            refine lv_iload_n hx hb dX6_hangFrom_49 rfl (lv_at hl 1 rfl) ?_
            refine lv_iconst (v := 1) hx hb dX6_hangFrom_50 (by decide) ?_
            refine lv_iadd hx hb dX6_hangFrom_51 ?_
            refine lv_iload_n hx hb dX6_hangFrom_52 rfl (lv_at hl 2 rfl) ?_
            refine lv_iconst (v := 1) hx hb dX6_hangFrom_53 (by decide) ?_
            refine lv_iload hx hb dX6_hangFrom_54 (lv_at hl 4 rfl) ?_
            refine lv_ishl hx hb dX6_hangFrom_56 ?_
            refine lv_ior hx hb dX6_hangFrom_57 ?_
            refine lv_iload_n hx hb dX6_hangFrom_58 rfl (lv_at hl 3 rfl) ?_
            replace hF := gw_bdE hF
            obtain ⟨t_59, e59, hF⟩ := hF
            refine gw_callv I (gw_runS E I (ihr t_47 (v1 + 1) (v2 ||| (1 <<< (v4 &&& 31))) v3 t_59 (by rw [← efr]; exact e59)) (va_cwS 4 E.1.2.2.2.2 gX6_hangFrom_X6_hangFrom rfl rfl rfl (by decide +kernel) ⟨(show rn + 2 + 1 ≤ rn + 1 + 2 by omega), (show 8 + (5 + 11) + (100 * rn + 100) ≤ 100 * (rn + 1) + 100 by omega)⟩) rfl hl.1 rfl (Nat.le_of_ble_eq_true rfl) dX6_hangFrom_59) (fun H locs I => ?_)
            exact hJ62 Kx (fX6_hangFrom_L14 frec Kx v1 v2 v3 n) v1 v2 v3 v4 hKx ih t_59 _ _ _ (lv_sub hl [0, 1, 2, 3, 4] rfl) I hF
  refine lv_iload_n hx hb dX6_hangFrom_0 rfl (lv_at hl 1 rfl) ?_
  refine lv_iload_n hx hb dX6_hangFrom_1 rfl (lv_at hl 3 rfl) ?_
  refine lv_icmp_lt (tgt := 11) hx hb dX6_hangFrom_2 (by decide) (fun c2 => ?_) (fun c2 => ?_)
  · replace hF := gw_if1 c2 hF
    refine lv_iconst (v := 0) hx hb dX6_hangFrom_11 (by decide) ?_
    refine lv_istore (lv' := [(4, .int 0), (0, .ref (ad 21)), (1, .int v1), (2, .int v2), (3, .int v3)]) hx hb dX6_hangFrom_12 hl (by decide) rfl (fun ls hl => ?_)
    refine hL14 _ v1 v2 v3 (fun v4_x14 t_x14 H locs ls hl I hF => ?_) 2000 0 t0 _ _ _ (lv_sub hl [1, 2, 3, 4, 0] rfl) I hF
    exact gw_vret E I hr hlocks (Option.some.inj hF) dX6_hangFrom_68
  · replace hF := gw_if0 c2 hF
    refine lv_aload_n hx hb dX6_hangFrom_5 rfl (lv_at hl 0 rfl) ?_
    refine lv_iload_n hx hb dX6_hangFrom_6 rfl (lv_at hl 3 rfl) ?_
    replace hF := gw_bdE hF
    obtain ⟨t_7, e7, hF⟩ := hF
    refine gw_callv I (gw_runV E I (ok_X6_keep l hD t0 v3 _ e7) (cwV 1 E.1.2.2.2.2 gX6_hangFrom_X6_keep rfl rfl rfl (by decide +kernel) ⟨(show 0 + 1 ≤ rn + 1 + 2 by omega), (show 8 + (4 + 11) + (0) ≤ 100 * (rn + 1) + 100 by omega)⟩) (by decide) rfl rfl rfl hl.1 rfl (Nat.le_of_ble_eq_true rfl) dX6_hangFrom_7) (fun H locs I => ?_)
    exact gw_vret E I hr hlocks (Option.some.inj hF) dX6_hangFrom_10
abbrev rmX6_seek : Room := { frames := 11, cells := 0, slots := 0, locals := 924 }
theorem lk_X6_seek_18 : Cond.fieldLink RX6 18 "ThrownSacks$Ways" "places" "[I" ∈ wsX6_seek := by decide +kernel
theorem lk_X6_seek_21 : Cond.fieldLink RX6 21 "ThrownSacks$Ways" "counted" "Z" ∈ wsX6_seek := by decide +kernel
theorem lk_X6_seek_25 : Cond.fieldLink RX6 25 "ThrownSacks$Ways" "many" "I" ∈ wsX6_seek := by decide +kernel
theorem in_X6_seek_X6 : ∀ w ∈ u_ws RX6 TX6 5, w ∈ wsX6_seek := by decide +kernel
theorem mk_X6_seek_min_l : Cond.methodLink RX6 39 Lib.Math.min.name ∈ wsX6_seek := by decide +kernel
theorem mk_X6_seek_min_s : Cond.static Lib.Math.min.name ∈ wsX6_seek := by decide +kernel
theorem mk_X6_seek_min_c : Cond.code Lib.Math.min.name Lib.Math.min.code 2 (some .int) ∈ wsX6_seek := by decide +kernel
theorem mk_X6_seek_i : Cond.initialized "java/lang/Math" ∈ wsX6_seek := by decide +kernel
set_option maxHeartbeats 4000000 in
set_option maxRecDepth 100000 in
theorem ok_X6_seek (l : Launch) {D : va_G} {g : gw_G} {tG : Nat} {ad : Nat → Nat} {A : Nat → Prop} (hD : gw_D A 83 ad) (t0 : gw_S) (v2 : Int32) (tz : gw_S) (hF : fX6_seek v2 t0 = some tz) : Met l yX6_seek wsX6_seek rmX6_seek (gw_Pc D g tG (tC g ad) 83 ad A [.ref (ad 21), .ref (ad 7), .int v2] t0) (gw_Qv D (tC g ad) 83 ad A tz) 0 0 A := by
  unfold fX6_seek at hF
  refine gw_met (by decide) rfl hD (Nat.le_of_ble_eq_true rfl) (fun p e s m args below meth c E hr hlocks I ls hl => ?_)
  have hx := E.1.1
  have hb := E.1.2.1
  have hl : lv_has ls 3 [(0, .ref (ad 21)), (1, .ref (ad 7)), (2, .int v2)] := hl
  refine lv_aload_n hx hb dX6_seek_0 rfl (lv_at hl 0 rfl) ?_
  refine gf_C_21_3 E I in_X6_seek_X6 lk_X6_seek_21 dX6_seek_1 ?_
  refine lv_if_eq (tgt := 8) hx hb dX6_seek_4 (by decide) (fun c4 => ?_) (fun c4 => ?_)
  · replace hF := gw_if1 c4 hF
    refine lv_aload_n hx hb dX6_seek_8 rfl (lv_at hl 0 rfl) ?_
    refine lv_iconst (v := 1) hx hb dX6_seek_9 (by decide) ?_
    replace hF := gw_nmE hF
    obtain ⟨t_10, et_10, hF⟩ := hF
    refine gp_C_21_3 E I in_X6_seek_X6 lk_X6_seek_21 (by decide) et_10 dX6_seek_10 (fun H locs I => ?_)
    refine lv_aload_n hx hb dX6_seek_13 rfl (lv_at hl 0 rfl) ?_
    refine lv_iconst (v := 0) hx hb dX6_seek_14 (by decide) ?_
    replace hF := gw_nmE hF
    obtain ⟨t_15, et_15, hF⟩ := hF
    refine gp_C_21_4 E I in_X6_seek_X6 lk_X6_seek_25 et_15 dX6_seek_15 (fun H locs I => ?_)
    refine lv_aload_n hx hb dX6_seek_18 rfl (lv_at hl 0 rfl) ?_
    refine gf_C_21_2 E I in_X6_seek_X6 lk_X6_seek_18 dX6_seek_19 ?_
    refine lv_iconst (v := 0) hx hb dX6_seek_22 (by decide) ?_
    replace hF := gw_bdE hF
    obtain ⟨t_23, e23, hF⟩ := hF
    refine gw_callv I (gw_runS E I (ok_J7_fill_53178_24 l hD t_15 0 _ e23) (va_cwS 2 E.1.2.2.2.2 gX6_seek_J7_fill_53178 rfl rfl rfl (by decide +kernel) ⟨Nat.le_of_ble_eq_true rfl, Nat.le_of_ble_eq_true rfl⟩) rfl hl.1 rfl (Nat.le_of_ble_eq_true rfl) dX6_seek_23) (fun H locs I => ?_)
    refine lv_aload_n hx hb dX6_seek_26 rfl (lv_at hl 0 rfl) ?_
    refine lv_aload_n hx hb dX6_seek_27 rfl (lv_at hl 1 rfl) ?_
    replace hF := gw_b2E hF
    obtain ⟨r28, t_28, e28, hF⟩ := hF
    refine gw_calli I (gw_runV E I (ok_X6_askAllFound l hD t_23 _ _ e28) (cwV 1 E.1.2.2.2.2 gX6_seek_X6_askAllFound rfl rfl rfl (by decide +kernel) ⟨Nat.le_of_ble_eq_true rfl, Nat.le_of_ble_eq_true rfl⟩) (by decide) rfl rfl rfl hl.1 rfl (Nat.le_of_ble_eq_true rfl) dX6_seek_28) (fun H locs I => ?_)
    refine lv_if_eq (tgt := 46) hx hb dX6_seek_31 (by decide) (fun c31 => ?_) (fun c31 => ?_)
    · replace hF := gw_if1 c31 hF
      exact gw_vret E I hr hlocks (Option.some.inj hF) dX6_seek_46
    · replace hF := gw_if0 c31 hF
      refine lv_aload_n hx hb dX6_seek_34 rfl (lv_at hl 0 rfl) ?_
      refine lv_iconst (v := 0) hx hb dX6_seek_35 (by decide) ?_
      refine lv_iconst (v := 0) hx hb dX6_seek_36 (by decide) ?_
      refine lv_iload_n hx hb dX6_seek_37 rfl (lv_at hl 2 rfl) ?_
      refine lv_bipush (v := 6) hx hb dX6_seek_38 (by decide) ?_
      refine va_mmin hx hb (E.1.2.2.1.trans hl.1.symm) E.1.2.2.2.1 (E.1.2.2.2.2 _ mk_X6_seek_min_l) (E.1.2.2.2.2 _ mk_X6_seek_min_s) (E.1.2.2.2.2 _ mk_X6_seek_i) (E.1.2.2.2.2 _ mk_X6_seek_min_c) (Nat.le_of_ble_eq_true rfl) (Nat.le_of_ble_eq_true rfl) (Nat.zero_le _) (Nat.zero_le _) dX6_seek_40 ?_
      replace hF := gw_bdE hF
      obtain ⟨t_43, e43, hF⟩ := hF
      refine gw_callv I (gw_runS E I (ok_X6_hangFrom l hD 8 t_28 0 0 (if 6 < v2 then 6 else v2) _ e43) (va_cwS 4 E.1.2.2.2.2 gX6_seek_X6_hangFrom rfl rfl rfl (by decide +kernel) ⟨Nat.le_of_ble_eq_true rfl, Nat.le_of_ble_eq_true rfl⟩) rfl hl.1 rfl (Nat.le_of_ble_eq_true rfl) dX6_seek_43) (fun H locs I => ?_)
      exact gw_vret E I hr hlocks (Option.some.inj hF) dX6_seek_46
  · replace hF := gw_if0 c4 hF
    exact gw_vret E I hr hlocks (Option.some.inj hF) dX6_seek_7
abbrev rmX7_hung : Room := { frames := 12, cells := 0, slots := 0, locals := 946 }
theorem lk_X7_hung_19 : Cond.fieldLink RX7 19 "ThrownSacks" "plan" "LThrownSacks$Plan;" ∈ wsX7_hung := by decide +kernel
theorem lk_X7_hung_26 : Cond.fieldLink RX7 26 "ThrownSacks" "now" "LThrownSacks$Standing;" ∈ wsX7_hung := by decide +kernel
theorem lk_X7_hung_43 : Cond.fieldLink RX7 43 "ThrownSacks" "ways" "LThrownSacks$Ways;" ∈ wsX7_hung := by decide +kernel
theorem lk_X7_hung_91 : Cond.fieldLink RX7 91 "ThrownSacks$Plan" "hooks" "I" ∈ wsX7_hung := by decide +kernel
theorem lk_X7_hung_197 : Cond.fieldLink RX7 197 "ThrownSacks$Ways" "many" "I" ∈ wsX7_hung := by decide +kernel
theorem in_X7_hung_X2 : ∀ w ∈ u_ws RX2 TX2 4, w ∈ wsX7_hung := by decide +kernel
theorem in_X7_hung_X6 : ∀ w ∈ u_ws RX6 TX6 5, w ∈ wsX7_hung := by decide +kernel
theorem in_X7_hung_X7 : ∀ w ∈ u_ws RX7 TX7 9, w ∈ wsX7_hung := by decide +kernel
set_option maxHeartbeats 4000000 in
set_option maxRecDepth 100000 in
theorem ok_X7_hung (l : Launch) {D : va_G} {g : gw_G} {tG : Nat} {ad : Nat → Nat} {A : Nat → Prop} (hD : gw_D A 83 ad) (t0 : gw_S) (r0 : Int32) (tz : gw_S) (hF : fX7_hung t0 = some (r0, tz)) : Met l yX7_hung wsX7_hung rmX7_hung (gw_Pc D g tG (tC g ad) 83 ad A [.ref (ad 0)] t0) (gw_Qi D (tC g ad) 83 ad A r0 tz) 0 0 A := by
  unfold fX7_hung at hF
  refine gw_met (by decide) rfl hD (Nat.le_of_ble_eq_true rfl) (fun p e s m args below meth c E hr hlocks I ls hl => ?_)
  have hx := E.1.1
  have hb := E.1.2.1
  have hl : lv_has ls 1 [(0, .ref (ad 0))] := hl
  refine lv_aload_n hx hb dX7_hung_0 rfl (lv_at hl 0 rfl) ?_
  refine gf_C_0_1 E I in_X7_hung_X7 lk_X7_hung_19 dX7_hung_1 ?_
  refine gf_C_3_3 E I in_X7_hung_X2 lk_X7_hung_91 dX7_hung_4 ?_
  refine lv_if_ne (tgt := 13) hx hb dX7_hung_7 (by decide) (fun c7 => ?_) (fun c7 => ?_)
  · replace hF := gw_if0 c7 hF
    refine lv_aload_n hx hb dX7_hung_13 rfl (lv_at hl 0 rfl) ?_
    refine gf_C_0_5 E I in_X7_hung_X7 lk_X7_hung_43 dX7_hung_14 ?_
    refine lv_aload_n hx hb dX7_hung_17 rfl (lv_at hl 0 rfl) ?_
    refine gf_C_0_2 E I in_X7_hung_X7 lk_X7_hung_26 dX7_hung_18 ?_
    refine lv_aload_n hx hb dX7_hung_21 rfl (lv_at hl 0 rfl) ?_
    refine gf_C_0_1 E I in_X7_hung_X7 lk_X7_hung_19 dX7_hung_22 ?_
    refine gf_C_3_3 E I in_X7_hung_X2 lk_X7_hung_91 dX7_hung_25 ?_
    replace hF := gw_bdE hF
    obtain ⟨t_28, e28, hF⟩ := hF
    refine gw_callv I (gw_runV E I (ok_X6_seek l hD t0 (rdI t0 3 3) _ e28) (cwV 2 E.1.2.2.2.2 gX7_hung_X6_seek rfl rfl rfl (by decide +kernel) ⟨Nat.le_of_ble_eq_true rfl, Nat.le_of_ble_eq_true rfl⟩) (by decide) rfl rfl rfl hl.1 rfl (Nat.le_of_ble_eq_true rfl) dX7_hung_28) (fun H locs I => ?_)
    refine lv_aload_n hx hb dX7_hung_31 rfl (lv_at hl 0 rfl) ?_
    refine gf_C_0_5 E I in_X7_hung_X7 lk_X7_hung_43 dX7_hung_32 ?_
    refine gf_C_21_4 E I in_X7_hung_X6 lk_X7_hung_197 dX7_hung_35 ?_
    exact gw_iret E I hr hlocks rfl (Prod.mk.inj (Option.some.inj hF)).1 (Prod.mk.inj (Option.some.inj hF)).2 dX7_hung_38
  · replace hF := gw_if1 c7 hF
    refine lv_bipush (v := (-103)) hx hb dX7_hung_10 (by decide) ?_
    exact gw_iret E I hr hlocks rfl (Prod.mk.inj (Option.some.inj hF)).1 (Prod.mk.inj (Option.some.inj hF)).2 dX7_hung_12
