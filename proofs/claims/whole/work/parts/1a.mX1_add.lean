/-! The contracts: each method does what its function says: written by wip/whole/genall.py. -/
abbrev rmX1_add : Room := { frames := 0, cells := 0, slots := 0, locals := 0 }
theorem lk_X1_add_9 : Cond.fieldLink RX1 9 "ThrownSacks$Page" "codes" "[I" ∈ wsX1_add := by decide +kernel
theorem lk_X1_add_15 : Cond.fieldLink RX1 15 "ThrownSacks$Page" "size" "I" ∈ wsX1_add := by decide +kernel
theorem in_X1_add_X1 : ∀ w ∈ u_ws RX1 TX1 2, w ∈ wsX1_add := by decide +kernel
set_option maxHeartbeats 4000000 in
set_option maxRecDepth 100000 in
theorem ok_X1_add (l : Launch) {D : va_G} {g : gw_G} {tG : Nat} {ad : Nat → Nat} {A : Nat → Prop} (hD : gw_D A 83 ad) (t0 : gw_S) (v1 : Int32) (tz : gw_S) (hF : fX1_add v1 t0 = some tz) : Met l yX1_add wsX1_add rmX1_add (gw_Pc D g tG (tC g ad) 83 ad A [.ref (ad 1), .int v1] t0) (gw_Qv D (tC g ad) 83 ad A tz) 0 0 A := by
  unfold fX1_add at hF
  refine gw_met (by decide) rfl hD (Nat.le_of_ble_eq_true rfl) (fun p e s m args below meth c E hr hlocks I ls hl => ?_)
  have hx := E.1.1
  have hb := E.1.2.1
  have hl : lv_has ls 2 [(0, .ref (ad 1)), (1, .int v1)] := hl
  refine lv_aload_n hx hb dX1_add_0 rfl (lv_at hl 0 rfl) ?_
  refine gf_C_1_1 E I in_X1_add_X1 lk_X1_add_15 dX1_add_1 ?_
  refine lv_if_lt (tgt := 39) hx hb dX1_add_4 (by decide) (fun c4 => ?_) (fun c4 => ?_)
  · replace hF := gw_if1 c4 hF
    exact gw_vret E I hr hlocks (Option.some.inj hF) dX1_add_39
  · replace hF := gw_if0 c4 hF
    refine lv_aload_n hx hb dX1_add_7 rfl (lv_at hl 0 rfl) ?_
    refine gf_C_1_1 E I in_X1_add_X1 lk_X1_add_15 dX1_add_8 ?_
    refine lv_aload_n hx hb dX1_add_11 rfl (lv_at hl 0 rfl) ?_
    refine gf_C_1_0 E I in_X1_add_X1 lk_X1_add_9 dX1_add_12 ?_
    refine gw_alen E I 2 (by decide) rfl (v := 24) (by decide) dX1_add_15 ?_
    refine lv_icmp_ge (tgt := 39) hx hb dX1_add_16 (by decide) (fun c16 => ?_) (fun c16 => ?_)
    · replace hF := gw_if1 c16 hF
      exact gw_vret E I hr hlocks (Option.some.inj hF) dX1_add_39
    · replace hF := gw_if0 c16 hF
      refine lv_aload_n hx hb dX1_add_19 rfl (lv_at hl 0 rfl) ?_
      refine gf_C_1_0 E I in_X1_add_X1 lk_X1_add_9 dX1_add_20 ?_
      refine lv_aload_n hx hb dX1_add_23 rfl (lv_at hl 0 rfl) ?_
      refine gf_C_1_1 E I in_X1_add_X1 lk_X1_add_15 dX1_add_24 ?_
      refine lv_iload_n hx hb dX1_add_27 rfl (lv_at hl 1 rfl) ?_
      replace hF := gw_ifn hF
      obtain ⟨hz28, hF⟩ := hF
      replace hF := gw_nmE hF
      obtain ⟨t_28, et_28, hF⟩ := hF
      refine gw_iast E I 2 (by decide) (fun _ => rfl) hz28 et_28 dX1_add_28 (fun H locs I => ?_)
      refine lv_aload_n hx hb dX1_add_29 rfl (lv_at hl 0 rfl) ?_
      refine lv_dup hx hb dX1_add_30 rfl ?_
      refine gf_C_1_1 E I in_X1_add_X1 lk_X1_add_15 dX1_add_31 ?_
      refine lv_iconst (v := 1) hx hb dX1_add_34 (by decide) ?_
      refine lv_iadd hx hb dX1_add_35 ?_
      replace hF := gw_nmE hF
      obtain ⟨t_36, et_36, hF⟩ := hF
      refine gp_C_1_1 E I in_X1_add_X1 lk_X1_add_15 et_36 dX1_add_36 (fun H locs I => ?_)
      exact gw_vret E I hr hlocks (Option.some.inj hF) dX1_add_39
abbrev rmX7_letter : Room := { frames := 1, cells := 0, slots := 0, locals := 21 }
theorem lk_X7_letter_10 : Cond.fieldLink RX7 10 "ThrownSacks" "page" "LThrownSacks$Page;" ∈ wsX7_letter := by decide +kernel
theorem lk_X7_letter_54 : Cond.fieldLink RX7 54 "ThrownSacks$Page" "size" "I" ∈ wsX7_letter := by decide +kernel
theorem in_X7_letter_X1 : ∀ w ∈ u_ws RX1 TX1 2, w ∈ wsX7_letter := by decide +kernel
theorem in_X7_letter_X7 : ∀ w ∈ u_ws RX7 TX7 9, w ∈ wsX7_letter := by decide +kernel
set_option maxHeartbeats 4000000 in
set_option maxRecDepth 100000 in
theorem ok_X7_letter (l : Launch) {D : va_G} {g : gw_G} {tG : Nat} {ad : Nat → Nat} {A : Nat → Prop} (hD : gw_D A 83 ad) (t0 : gw_S) (v1 : Int32) (r0 : Int32) (tz : gw_S) (hF : fX7_letter v1 t0 = some (r0, tz)) : Met l yX7_letter wsX7_letter rmX7_letter (gw_Pc D g tG (tC g ad) 83 ad A [.ref (ad 0), .int v1] t0) (gw_Qi D (tC g ad) 83 ad A r0 tz) 0 0 A := by
  unfold fX7_letter at hF
  refine gw_met (by decide) rfl hD (Nat.le_of_ble_eq_true rfl) (fun p e s m args below meth c E hr hlocks I ls hl => ?_)
  have hx := E.1.1
  have hb := E.1.2.1
  have hl : lv_has ls 2 [(0, .ref (ad 0)), (1, .int v1)] := hl
  refine lv_iload_n hx hb dX7_letter_0 rfl (lv_at hl 1 rfl) ?_
  refine lv_bipush (v := 32) hx hb dX7_letter_1 (by decide) ?_
  refine lv_icmp_lt (tgt := 12) hx hb dX7_letter_3 (by decide) (fun c3 => ?_) (fun c3 => ?_)
  · replace hF := gw_if1 c3 hF
    refine lv_bipush (v := (-102)) hx hb dX7_letter_12 (by decide) ?_
    exact gw_iret E I hr hlocks rfl (Prod.mk.inj (Option.some.inj hF)).1 (Prod.mk.inj (Option.some.inj hF)).2 dX7_letter_14
  · replace hF := gw_if0 c3 hF
    refine lv_iload_n hx hb dX7_letter_6 rfl (lv_at hl 1 rfl) ?_
    refine lv_bipush (v := 126) hx hb dX7_letter_7 (by decide) ?_
    refine lv_icmp_le (tgt := 15) hx hb dX7_letter_9 (by decide) (fun c9 => ?_) (fun c9 => ?_)
    · replace hF := gw_if1 c9 hF
      refine lv_aload_n hx hb dX7_letter_15 rfl (lv_at hl 0 rfl) ?_
      refine gf_C_0_0 E I in_X7_letter_X7 lk_X7_letter_10 dX7_letter_16 ?_
      refine gf_C_1_1 E I in_X7_letter_X1 lk_X7_letter_54 dX7_letter_19 ?_
      refine lv_bipush (v := 24) hx hb dX7_letter_22 (by decide) ?_
      refine lv_icmp_lt (tgt := 30) hx hb dX7_letter_24 (by decide) (fun c24 => ?_) (fun c24 => ?_)
      · replace hF := gw_if1 c24 hF
        refine lv_aload_n hx hb dX7_letter_30 rfl (lv_at hl 0 rfl) ?_
        refine gf_C_0_0 E I in_X7_letter_X7 lk_X7_letter_10 dX7_letter_31 ?_
        refine lv_iload_n hx hb dX7_letter_34 rfl (lv_at hl 1 rfl) ?_
        replace hF := gw_bdE hF
        obtain ⟨t_35, e35, hF⟩ := hF
        refine gw_callv I (gw_runV E I (ok_X1_add l hD t0 v1 _ e35) (cwV 1 E.1.2.2.2.2 gX7_letter_X1_add rfl rfl rfl (by decide +kernel) ⟨Nat.le_of_ble_eq_true rfl, Nat.le_of_ble_eq_true rfl⟩) (by decide) rfl rfl rfl hl.1 rfl (Nat.le_of_ble_eq_true rfl) dX7_letter_35) (fun H locs I => ?_)
        refine lv_aload_n hx hb dX7_letter_38 rfl (lv_at hl 0 rfl) ?_
        refine gf_C_0_0 E I in_X7_letter_X7 lk_X7_letter_10 dX7_letter_39 ?_
        refine gf_C_1_1 E I in_X7_letter_X1 lk_X7_letter_54 dX7_letter_42 ?_
        exact gw_iret E I hr hlocks rfl (Prod.mk.inj (Option.some.inj hF)).1 (Prod.mk.inj (Option.some.inj hF)).2 dX7_letter_45
      · replace hF := gw_if0 c24 hF
        refine lv_bipush (v := (-104)) hx hb dX7_letter_27 (by decide) ?_
        exact gw_iret E I hr hlocks rfl (Prod.mk.inj (Option.some.inj hF)).1 (Prod.mk.inj (Option.some.inj hF)).2 dX7_letter_29
    · replace hF := gw_if0 c9 hF
      refine lv_bipush (v := (-102)) hx hb dX7_letter_12 (by decide) ?_
      exact gw_iret E I hr hlocks rfl (Prod.mk.inj (Option.some.inj hF)).1 (Prod.mk.inj (Option.some.inj hF)).2 dX7_letter_14
abbrev rmX7_blank : Room := { frames := 0, cells := 0, slots := 0, locals := 0 }
theorem lk_X7_blank_10 : Cond.fieldLink RX7 10 "ThrownSacks" "page" "LThrownSacks$Page;" ∈ wsX7_blank := by decide +kernel
theorem lk_X7_blank_54 : Cond.fieldLink RX7 54 "ThrownSacks$Page" "size" "I" ∈ wsX7_blank := by decide +kernel
theorem in_X7_blank_X1 : ∀ w ∈ u_ws RX1 TX1 2, w ∈ wsX7_blank := by decide +kernel
theorem in_X7_blank_X7 : ∀ w ∈ u_ws RX7 TX7 9, w ∈ wsX7_blank := by decide +kernel
set_option maxHeartbeats 4000000 in
set_option maxRecDepth 100000 in
theorem ok_X7_blank (l : Launch) {D : va_G} {g : gw_G} {tG : Nat} {ad : Nat → Nat} {A : Nat → Prop} (hD : gw_D A 83 ad) (t0 : gw_S) (r0 : Int32) (tz : gw_S) (hF : fX7_blank t0 = some (r0, tz)) : Met l yX7_blank wsX7_blank rmX7_blank (gw_Pc D g tG (tC g ad) 83 ad A [.ref (ad 0)] t0) (gw_Qi D (tC g ad) 83 ad A r0 tz) 0 0 A := by
  unfold fX7_blank at hF
  refine gw_met (by decide) rfl hD (Nat.le_of_ble_eq_true rfl) (fun p e s m args below meth c E hr hlocks I ls hl => ?_)
  have hx := E.1.1
  have hb := E.1.2.1
  have hl : lv_has ls 2 [(0, .ref (ad 0))] := hl
  refine lv_aload_n hx hb dX7_blank_0 rfl (lv_at hl 0 rfl) ?_
  refine gf_C_0_0 E I in_X7_blank_X7 lk_X7_blank_10 dX7_blank_1 ?_
  refine gf_C_1_1 E I in_X7_blank_X1 lk_X7_blank_54 dX7_blank_4 ?_
  replace hF := gw_nmE hF
  obtain ⟨v1_7, ev1_7, hF⟩ := hF
  refine gw_topi ev1_7 ?_
  refine lv_istore_n (lv' := [(1, .int v1_7), (0, .ref (ad 0))]) hx hb dX7_blank_7 rfl hl (by decide) rfl (fun ls hl => ?_)
  refine lv_aload_n hx hb dX7_blank_8 rfl (lv_at hl 1 rfl) ?_
  refine gf_C_0_0 E I in_X7_blank_X7 lk_X7_blank_10 dX7_blank_9 ?_
  refine lv_iconst (v := 0) hx hb dX7_blank_12 (by decide) ?_
  replace hF := gw_nmE hF
  obtain ⟨t_13, et_13, hF⟩ := hF
  refine gp_C_1_1 E I in_X7_blank_X1 lk_X7_blank_54 et_13 dX7_blank_13 (fun H locs I => ?_)
  refine lv_iload_n hx hb dX7_blank_16 rfl (lv_at hl 0 rfl) ?_
  exact gw_iret E I hr hlocks rfl (Prod.mk.inj (Option.some.inj hF)).1 (Prod.mk.inj (Option.some.inj hF)).2 dX7_blank_17
abbrev rmX1_codeAt : Room := { frames := 0, cells := 0, slots := 0, locals := 0 }
theorem lk_X1_codeAt_9 : Cond.fieldLink RX1 9 "ThrownSacks$Page" "codes" "[I" ∈ wsX1_codeAt := by decide +kernel
theorem lk_X1_codeAt_15 : Cond.fieldLink RX1 15 "ThrownSacks$Page" "size" "I" ∈ wsX1_codeAt := by decide +kernel
theorem in_X1_codeAt_X1 : ∀ w ∈ u_ws RX1 TX1 2, w ∈ wsX1_codeAt := by decide +kernel
set_option maxHeartbeats 4000000 in
set_option maxRecDepth 100000 in
theorem ok_X1_codeAt (l : Launch) {D : va_G} {g : gw_G} {tG : Nat} {ad : Nat → Nat} {A : Nat → Prop} (hD : gw_D A 83 ad) (t0 : gw_S) (v1 : Int32) (r0 : Int32) (hF : fX1_codeAt v1 t0 = some r0) : Met l yX1_codeAt wsX1_codeAt rmX1_codeAt (gw_Pc D g tG (tC g ad) 83 ad A [.ref (ad 1), .int v1] t0) (gw_Qi D (tC g ad) 83 ad A r0 t0) 0 0 A := by
  unfold fX1_codeAt at hF
  refine gw_met (by decide) rfl hD (Nat.le_of_ble_eq_true rfl) (fun p e s m args below meth c E hr hlocks I ls hl => ?_)
  have hx := E.1.1
  have hb := E.1.2.1
  have hl : lv_has ls 2 [(0, .ref (ad 1)), (1, .int v1)] := hl
  refine lv_iload_n hx hb dX1_codeAt_0 rfl (lv_at hl 1 rfl) ?_
  refine lv_if_lt (tgt := 21) hx hb dX1_codeAt_1 (by decide) (fun c1 => ?_) (fun c1 => ?_)
  · replace hF := gw_if1 c1 hF
    refine lv_iconst (v := 0) hx hb dX1_codeAt_21 (by decide) ?_
    exact gw_iret E I hr hlocks rfl (Option.some.inj hF) rfl dX1_codeAt_22
  · replace hF := gw_if0 c1 hF
    refine lv_iload_n hx hb dX1_codeAt_4 rfl (lv_at hl 1 rfl) ?_
    refine lv_aload_n hx hb dX1_codeAt_5 rfl (lv_at hl 0 rfl) ?_
    refine gf_C_1_1 E I in_X1_codeAt_X1 lk_X1_codeAt_15 dX1_codeAt_6 ?_
    refine lv_icmp_ge (tgt := 21) hx hb dX1_codeAt_9 (by decide) (fun c9 => ?_) (fun c9 => ?_)
    · replace hF := gw_if1 c9 hF
      refine lv_iconst (v := 0) hx hb dX1_codeAt_21 (by decide) ?_
      exact gw_iret E I hr hlocks rfl (Option.some.inj hF) rfl dX1_codeAt_22
    · replace hF := gw_if0 c9 hF
      refine lv_aload_n hx hb dX1_codeAt_12 rfl (lv_at hl 0 rfl) ?_
      refine gf_C_1_0 E I in_X1_codeAt_X1 lk_X1_codeAt_9 dX1_codeAt_13 ?_
      refine lv_iload_n hx hb dX1_codeAt_16 rfl (lv_at hl 1 rfl) ?_
      replace hF := gw_ifn hF
      obtain ⟨hz17, hF⟩ := hF
      refine gw_iald E I 2 (by decide) rfl hz17 dX1_codeAt_17 ?_
      refine lv_goto (tgt := 22) hx hb dX1_codeAt_18 (by decide) ?_
      exact gw_iret E I hr hlocks rfl (Option.some.inj hF) rfl dX1_codeAt_22
abbrev rmX1_canTellOfHooks : Room := { frames := 0, cells := 0, slots := 0, locals := 0 }
set_option maxHeartbeats 4000000 in
set_option maxRecDepth 100000 in
theorem ok_X1_canTellOfHooks (l : Launch) {D : va_G} {g : gw_G} {tG : Nat} {ad : Nat → Nat} {A : Nat → Prop} (hD : gw_D A 83 ad) (t0 : gw_S) (v0 : Int32) (v1 : Int32) (r0 : Int32) (hF : fX1_canTellOfHooks v0 v1 t0 = r0) : Met l yX1_canTellOfHooks wsX1_canTellOfHooks rmX1_canTellOfHooks (gw_Pc D g tG (tC g ad) 83 ad A [.int v0, .int v1] t0) (gw_Qi D (tC g ad) 83 ad A r0 t0) 0 0 A := by
  unfold fX1_canTellOfHooks at hF
  refine gw_met (by decide) rfl hD (Nat.le_of_ble_eq_true rfl) (fun p e s m args below meth c E hr hlocks I ls hl => ?_)
  have hx := E.1.1
  have hb := E.1.2.1
  have hl : lv_has ls 3 [(0, .int v0), (1, .int v1)] := hl
  refine lv_iload_n hx hb dX1_canTellOfHooks_0 rfl (lv_at hl 0 rfl) ?_
  refine lv_iconst (v := 3) hx hb dX1_canTellOfHooks_1 (by decide) ?_
  refine lv_irem hx hb dX1_canTellOfHooks_2 (by decide) ?_
  refine lv_if_ne (tgt := 24) hx hb dX1_canTellOfHooks_3 (by decide) (fun c3 => ?_) (fun c3 => ?_)
  · replace hF := gw_if0 c3 hF
    refine lv_iload_n hx hb dX1_canTellOfHooks_24 rfl (lv_at hl 0 rfl) ?_
    refine lv_iconst (v := 3) hx hb dX1_canTellOfHooks_25 (by decide) ?_
    refine lv_irem hx hb dX1_canTellOfHooks_26 (by decide) ?_
    refine lv_iconst (v := 1) hx hb dX1_canTellOfHooks_27 (by decide) ?_
    refine lv_icmp_ne (tgt := 49) hx hb dX1_canTellOfHooks_28 (by decide) (fun c28 => ?_) (fun c28 => ?_)
    · replace hF := gw_if0 c28 hF
      refine lv_iload_n hx hb dX1_canTellOfHooks_49 rfl (lv_at hl 0 rfl) ?_
      refine lv_iconst (v := 1) hx hb dX1_canTellOfHooks_50 (by decide) ?_
      refine lv_iadd hx hb dX1_canTellOfHooks_51 ?_
      refine lv_iconst (v := 3) hx hb dX1_canTellOfHooks_52 (by decide) ?_
      refine lv_idiv hx hb dX1_canTellOfHooks_53 (by decide) ?_
      replace hF := gw_nmE hF
      obtain ⟨v2_54, ev2_54, hF⟩ := hF
      refine gw_topi ev2_54 ?_
      refine lv_istore_n (lv' := [(2, .int v2_54), (0, .int v0), (1, .int v1)]) hx hb dX1_canTellOfHooks_54 rfl hl (by decide) rfl (fun ls hl => ?_)
      refine lv_iload_n hx hb dX1_canTellOfHooks_55 rfl (lv_at hl 2 rfl) ?_
      refine lv_bipush (v := 44) hx hb dX1_canTellOfHooks_56 (by decide) ?_
      refine lv_icmp_ne (tgt := 75) hx hb dX1_canTellOfHooks_58 (by decide) (fun c58 => ?_) (fun c58 => ?_)
      · replace hF := gw_if0 c58 hF
        refine lv_iload_n hx hb dX1_canTellOfHooks_75 rfl (lv_at hl 2 rfl) ?_
        refine lv_bipush (v := 59) hx hb dX1_canTellOfHooks_76 (by decide) ?_
        refine lv_icmp_ne (tgt := 90) hx hb dX1_canTellOfHooks_78 (by decide) (fun c78 => ?_) (fun c78 => ?_)
        · replace hF := gw_if0 c78 hF
          refine lv_iconst (v := 0) hx hb dX1_canTellOfHooks_90 (by decide) ?_
          exact gw_iret E I hr hlocks rfl hF rfl dX1_canTellOfHooks_91
        · replace hF := gw_if1 c78 hF
          refine lv_iload_n hx hb dX1_canTellOfHooks_81 rfl (lv_at hl 0 rfl) ?_
          refine lv_iconst (v := 3) hx hb dX1_canTellOfHooks_82 (by decide) ?_
          refine lv_icmp_lt (tgt := 90) hx hb dX1_canTellOfHooks_83 (by decide) (fun c83 => ?_) (fun c83 => ?_)
          · replace hF := gw_if1 c83 hF
            refine lv_iconst (v := 0) hx hb dX1_canTellOfHooks_90 (by decide) ?_
            exact gw_iret E I hr hlocks rfl hF rfl dX1_canTellOfHooks_91
          · replace hF := gw_if0 c83 hF
            refine lv_iconst (v := 1) hx hb dX1_canTellOfHooks_86 (by decide) ?_
            refine lv_goto (tgt := 91) hx hb dX1_canTellOfHooks_87 (by decide) ?_
            exact gw_iret E I hr hlocks rfl hF rfl dX1_canTellOfHooks_91
      · replace hF := gw_if1 c58 hF
        refine lv_iload_n hx hb dX1_canTellOfHooks_61 rfl (lv_at hl 0 rfl) ?_
        refine lv_bipush (v := 6) hx hb dX1_canTellOfHooks_62 (by decide) ?_
        refine lv_icmp_ge (tgt := 71) hx hb dX1_canTellOfHooks_64 (by decide) (fun c64 => ?_) (fun c64 => ?_)
        · replace hF := gw_if1 c64 hF
          refine lv_iconst (v := 0) hx hb dX1_canTellOfHooks_71 (by decide) ?_
          refine lv_goto (tgt := 91) hx hb dX1_canTellOfHooks_72 (by decide) ?_
          exact gw_iret E I hr hlocks rfl hF rfl dX1_canTellOfHooks_91
        · replace hF := gw_if0 c64 hF
          refine lv_iconst (v := 1) hx hb dX1_canTellOfHooks_67 (by decide) ?_
          refine lv_goto (tgt := 91) hx hb dX1_canTellOfHooks_68 (by decide) ?_
          exact gw_iret E I hr hlocks rfl hF rfl dX1_canTellOfHooks_91
    · replace hF := gw_if1 c28 hF
      refine lv_iload_n hx hb dX1_canTellOfHooks_31 rfl (lv_at hl 1 rfl) ?_
      refine lv_bipush (v := 49) hx hb dX1_canTellOfHooks_32 (by decide) ?_
      refine lv_icmp_lt (tgt := 47) hx hb dX1_canTellOfHooks_34 (by decide) (fun c34 => ?_) (fun c34 => ?_)
      · replace hF := gw_if1 c34 hF
        refine lv_iconst (v := 0) hx hb dX1_canTellOfHooks_47 (by decide) ?_
        exact gw_iret E I hr hlocks rfl hF rfl dX1_canTellOfHooks_48
      · replace hF := gw_if0 c34 hF
        refine lv_iload_n hx hb dX1_canTellOfHooks_37 rfl (lv_at hl 1 rfl) ?_
        refine lv_bipush (v := 57) hx hb dX1_canTellOfHooks_38 (by decide) ?_
        refine lv_icmp_gt (tgt := 47) hx hb dX1_canTellOfHooks_40 (by decide) (fun c40 => ?_) (fun c40 => ?_)
        · replace hF := gw_if1 c40 hF
          refine lv_iconst (v := 0) hx hb dX1_canTellOfHooks_47 (by decide) ?_
          exact gw_iret E I hr hlocks rfl hF rfl dX1_canTellOfHooks_48
        · replace hF := gw_if0 c40 hF
          refine lv_iconst (v := 1) hx hb dX1_canTellOfHooks_43 (by decide) ?_
          refine lv_goto (tgt := 48) hx hb dX1_canTellOfHooks_44 (by decide) ?_
          exact gw_iret E I hr hlocks rfl hF rfl dX1_canTellOfHooks_48
  · replace hF := gw_if1 c3 hF
    refine lv_iload_n hx hb dX1_canTellOfHooks_6 rfl (lv_at hl 1 rfl) ?_
    refine lv_bipush (v := 49) hx hb dX1_canTellOfHooks_7 (by decide) ?_
    refine lv_icmp_lt (tgt := 22) hx hb dX1_canTellOfHooks_9 (by decide) (fun c9 => ?_) (fun c9 => ?_)
    · replace hF := gw_if1 c9 hF
      refine lv_iconst (v := 0) hx hb dX1_canTellOfHooks_22 (by decide) ?_
      exact gw_iret E I hr hlocks rfl hF rfl dX1_canTellOfHooks_23
    · replace hF := gw_if0 c9 hF
      refine lv_iload_n hx hb dX1_canTellOfHooks_12 rfl (lv_at hl 1 rfl) ?_
      refine lv_bipush (v := 56) hx hb dX1_canTellOfHooks_13 (by decide) ?_
      refine lv_icmp_gt (tgt := 22) hx hb dX1_canTellOfHooks_15 (by decide) (fun c15 => ?_) (fun c15 => ?_)
      · replace hF := gw_if1 c15 hF
        refine lv_iconst (v := 0) hx hb dX1_canTellOfHooks_22 (by decide) ?_
        exact gw_iret E I hr hlocks rfl hF rfl dX1_canTellOfHooks_23
      · replace hF := gw_if0 c15 hF
        refine lv_iconst (v := 1) hx hb dX1_canTellOfHooks_18 (by decide) ?_
        refine lv_goto (tgt := 23) hx hb dX1_canTellOfHooks_19 (by decide) ?_
        exact gw_iret E I hr hlocks rfl hF rfl dX1_canTellOfHooks_23
abbrev rmX1_firstWrong : Room := { frames := 1, cells := 0, slots := 0, locals := 22 }
theorem lk_X1_firstWrong_15 : Cond.fieldLink RX1 15 "ThrownSacks$Page" "size" "I" ∈ wsX1_firstWrong := by decide +kernel
theorem in_X1_firstWrong_X1 : ∀ w ∈ u_ws RX1 TX1 2, w ∈ wsX1_firstWrong := by decide +kernel
set_option maxHeartbeats 4000000 in
set_option maxRecDepth 100000 in
theorem ok_X1_firstWrong (l : Launch) {D : va_G} {g : gw_G} {tG : Nat} {ad : Nat → Nat} {A : Nat → Prop} (hD : gw_D A 83 ad) (t0 : gw_S) (r0 : Int32) (hF : fX1_firstWrong t0 = some r0) : Met l yX1_firstWrong wsX1_firstWrong rmX1_firstWrong (gw_Pc D g tG (tC g ad) 83 ad A [.ref (ad 1)] t0) (gw_Qi D (tC g ad) 83 ad A r0 t0) 0 0 A := by
  unfold fX1_firstWrong at hF
  refine gw_met (by decide) rfl hD (Nat.le_of_ble_eq_true rfl) (fun p e s m args below meth c E hr hlocks I ls hl => ?_)
  have hx := E.1.1
  have hb := E.1.2.1
  have hl : lv_has ls 4 [(0, .ref (ad 1))] := hl
  have hJ65 : ∀ (Kx : Int32 → Int32 → Option (Int32)) (Kh : Int32 → Int32 → Option (Int32)) (v1 : Int32) (v2 : Int32) (hKx : ∀ (v1 : Int32) (v2 : Int32) (H : Heap) (locs : List Loc) (ls : Array Slot), lv_has ls 4 [(0, .ref (ad 1))] → gw_I D (tC g ad) 83 ad A s.heap t0 H locs → Kx v1 v2 = some r0 → W p l e rmX1_firstWrong s m args below meth c H locs 0 0 (MQ below (gw_Qi D (tC g ad) 83 ad A r0 t0) args s 0 0 A) (F0 m 71 ls [])) (hKh : ∀ (v1 : Int32) (v2 : Int32) (H : Heap) (locs : List Loc) (ls : Array Slot), lv_has ls 4 [(0, .ref (ad 1)), (1, .int v1), (2, .int v2)] → gw_I D (tC g ad) 83 ad A s.heap t0 H locs → Kh v1 v2 = some r0 → W p l e rmX1_firstWrong s m args below meth c H locs 0 0 (MQ below (gw_Qi D (tC g ad) 83 ad A r0 t0) args s 0 0 A) (F0 m 4 ls [])) (H : Heap) (locs : List Loc) (ls : Array Slot), lv_has ls 4 [(0, .ref (ad 1)), (1, .int v1), (2, .int v2)] → gw_I D (tC g ad) 83 ad A s.heap t0 H locs → fX1_firstWrong_J65 Kx Kh v1 v2 t0 = some r0 → W p l e rmX1_firstWrong s m args below meth c H locs 0 0 (MQ below (gw_Qi D (tC g ad) 83 ad A r0 t0) args s 0 0 A) (F0 m 65 ls []) := by
    intro Kx Kh v1 v2 hKx hKh H locs ls hl I hF
    unfold fX1_firstWrong_J65 at hF
    replace hF := gw_nmE hF
    obtain ⟨v2_65, ev2_65, hF⟩ := hF
    refine lv_iinc (v := v2_65) (lv' := [(2, .int v2_65), (0, .ref (ad 1)), (1, .int v1)]) hx hb dX1_firstWrong_65 hl (k := 2) rfl (by subst ev2_65; rfl) (by decide) rfl (fun ls hl => ?_)
    refine lv_goto (tgt := 4) hx hb dX1_firstWrong_68 (by decide) ?_
    exact hKh v1 v2_65 _ _ _ (lv_sub hl [1, 2, 0] rfl) I hF
  have hL4 : ∀ (Kx : Int32 → Int32 → Option (Int32)), (∀ (v1 : Int32) (v2 : Int32) (H : Heap) (locs : List Loc) (ls : Array Slot), lv_has ls 4 [(0, .ref (ad 1))] → gw_I D (tC g ad) 83 ad A s.heap t0 H locs → Kx v1 v2 = some r0 → W p l e rmX1_firstWrong s m args below meth c H locs 0 0 (MQ below (gw_Qi D (tC g ad) 83 ad A r0 t0) args s 0 0 A) (F0 m 71 ls [])) → ∀ (n : Nat) (v1 : Int32) (v2 : Int32) (H : Heap) (locs : List Loc) (ls : Array Slot), lv_has ls 4 [(0, .ref (ad 1)), (1, .int v1), (2, .int v2)] → gw_I D (tC g ad) 83 ad A s.heap t0 H locs → fX1_firstWrong_L4 Kx t0 n v1 v2 = some r0 → W p l e rmX1_firstWrong s m args below meth c H locs 0 0 (MQ below (gw_Qi D (tC g ad) 83 ad A r0 t0) args s 0 0 A) (F0 m 4 ls []) := by
    intro Kx hKx n
    induction n with
    | zero =>
      intro v1 v2 H locs ls hl I hF
      rw [fX1_firstWrong_L4] at hF
      cases hF
    | succ n ih =>
      intro v1 v2 H locs ls hl I hF
      rw [fX1_firstWrong_L4] at hF
      refine lv_iload_n hx hb dX1_firstWrong_4 rfl (lv_at hl 2 rfl) ?_
      refine lv_aload_n hx hb dX1_firstWrong_5 rfl (lv_at hl 0 rfl) ?_
      refine gf_C_1_1 E I in_X1_firstWrong_X1 lk_X1_firstWrong_15 dX1_firstWrong_6 ?_
      refine lv_icmp_ge (tgt := 71) hx hb dX1_firstWrong_9 (by decide) (fun c9 => ?_) (fun c9 => ?_)
      · replace hF := gw_if1 c9 hF
        exact hKx v1 v2 _ _ _ (lv_sub hl [0] rfl) I hF
      · replace hF := gw_if0 c9 hF
        refine lv_aload_n hx hb dX1_firstWrong_12 rfl (lv_at hl 0 rfl) ?_
        refine lv_iload_n hx hb dX1_firstWrong_13 rfl (lv_at hl 2 rfl) ?_
        replace hF := gw_bdE hF
        obtain ⟨r14, e14, hF⟩ := hF
        refine gw_calli I (gw_runV E I (ok_X1_codeAt l hD t0 v2 _ e14) (cwV 1 E.1.2.2.2.2 gX1_firstWrong_X1_codeAt rfl rfl rfl (by decide +kernel) ⟨Nat.le_of_ble_eq_true rfl, Nat.le_of_ble_eq_true rfl⟩) (by decide) rfl rfl rfl hl.1 rfl (Nat.le_of_ble_eq_true rfl) dX1_firstWrong_14) (fun H locs I => ?_)
        refine lv_istore_n (lv' := [(3, .int r14), (0, .ref (ad 1)), (1, .int v1), (2, .int v2)]) hx hb dX1_firstWrong_17 rfl hl (by decide) rfl (fun ls hl => ?_)
        refine lv_iload_n hx hb dX1_firstWrong_18 rfl (lv_at hl 2 rfl) ?_
        refine lv_if_le (tgt := 43) hx hb dX1_firstWrong_19 (by decide) (fun c19 => ?_) (fun c19 => ?_)
        · replace hF := gw_if1 c19 hF
          refine lv_iload_n hx hb dX1_firstWrong_43 rfl (lv_at hl 3 rfl) ?_
          refine lv_iload_n hx hb dX1_firstWrong_44 rfl (lv_at hl 0 rfl) ?_
          refine gw_calli I (gw_runS E I (ok_X1_canTellOfHooks l hD t0 v2 r14 _ rfl) (va_cwS 2 E.1.2.2.2.2 gX1_firstWrong_X1_canTellOfHooks rfl rfl rfl (by decide +kernel) ⟨Nat.le_of_ble_eq_true rfl, Nat.le_of_ble_eq_true rfl⟩) rfl hl.1 rfl (Nat.le_of_ble_eq_true rfl) dX1_firstWrong_45) (fun H locs I => ?_)
          refine lv_if_ne (tgt := 53) hx hb dX1_firstWrong_48 (by decide) (fun c48 => ?_) (fun c48 => ?_)
          · replace hF := gw_if0 c48 hF
            refine lv_iload_n hx hb dX1_firstWrong_53 rfl (lv_at hl 0 rfl) ?_
            refine lv_bipush (v := 59) hx hb dX1_firstWrong_54 (by decide) ?_
            refine lv_icmp_ne (tgt := 65) hx hb dX1_firstWrong_56 (by decide) (fun c56 => ?_) (fun c56 => ?_)
            · replace hF := gw_if0 c56 hF
              exact hJ65 Kx (fX1_firstWrong_L4 Kx t0 n) v1 v2 hKx ih _ _ _ (lv_sub hl [1, 2, 3] rfl) I hF
            · replace hF := gw_if1 c56 hF
              refine lv_iload_n hx hb dX1_firstWrong_59 rfl (lv_at hl 3 rfl) ?_
              refine lv_iconst (v := 1) hx hb dX1_firstWrong_60 (by decide) ?_
              refine lv_iadd hx hb dX1_firstWrong_61 ?_
              refine lv_iconst (v := 3) hx hb dX1_firstWrong_62 (by decide) ?_
              refine lv_idiv hx hb dX1_firstWrong_63 (by decide) ?_
              replace hF := gw_nmE hF
              obtain ⟨v1_64, ev1_64, hF⟩ := hF
              refine gw_topi ev1_64 ?_
              refine lv_istore_n (lv' := [(1, .int v1_64), (3, .int r14), (0, .ref (ad 1)), (2, .int v2)]) hx hb dX1_firstWrong_64 rfl hl (by decide) rfl (fun ls hl => ?_)
              exact hJ65 Kx (fX1_firstWrong_L4 Kx t0 n) v1_64 v2 hKx ih _ _ _ (lv_sub hl [2, 0, 3] rfl) I hF
          · replace hF := gw_if1 c48 hF
            refine lv_iload_n hx hb dX1_firstWrong_51 rfl (lv_at hl 3 rfl) ?_
            exact gw_iret E I hr hlocks rfl (Option.some.inj hF) rfl dX1_firstWrong_52
        · replace hF := gw_if0 c19 hF
          refine lv_iload_n hx hb dX1_firstWrong_22 rfl (lv_at hl 3 rfl) ?_
          refine lv_iconst (v := 4) hx hb dX1_firstWrong_23 (by decide) ?_
          refine lv_iload_n hx hb dX1_firstWrong_24 rfl (lv_at hl 2 rfl) ?_
          refine lv_imul hx hb dX1_firstWrong_25 ?_
          refine lv_icmp_ge (tgt := 41) hx hb dX1_firstWrong_26 (by decide) (fun c26 => ?_) (fun c26 => ?_)
          · replace hF := gw_if1 c26 hF
            refine lv_iload_n hx hb dX1_firstWrong_41 rfl (lv_at hl 3 rfl) ?_
            exact gw_iret E I hr hlocks rfl (Option.some.inj hF) rfl dX1_firstWrong_42
          · replace hF := gw_if0 c26 hF
            refine lv_iload_n hx hb dX1_firstWrong_29 rfl (lv_at hl 0 rfl) ?_
            refine lv_bipush (v := 48) hx hb dX1_firstWrong_30 (by decide) ?_
            refine lv_icmp_lt (tgt := 41) hx hb dX1_firstWrong_32 (by decide) (fun c32 => ?_) (fun c32 => ?_)
            · replace hF := gw_if1 c32 hF
              refine lv_iload_n hx hb dX1_firstWrong_41 rfl (lv_at hl 3 rfl) ?_
              exact gw_iret E I hr hlocks rfl (Option.some.inj hF) rfl dX1_firstWrong_42
            · replace hF := gw_if0 c32 hF
              refine lv_iload_n hx hb dX1_firstWrong_35 rfl (lv_at hl 0 rfl) ?_
              refine lv_bipush (v := 57) hx hb dX1_firstWrong_36 (by decide) ?_
              refine lv_icmp_le (tgt := 65) hx hb dX1_firstWrong_38 (by decide) (fun c38 => ?_) (fun c38 => ?_)
              · replace hF := gw_if1 c38 hF
                exact hJ65 Kx (fX1_firstWrong_L4 Kx t0 n) v1 v2 hKx ih _ _ _ (lv_sub hl [1, 2, 3] rfl) I hF
              · replace hF := gw_if0 c38 hF
                refine lv_iload_n hx hb dX1_firstWrong_41 rfl (lv_at hl 3 rfl) ?_
                exact gw_iret E I hr hlocks rfl (Option.some.inj hF) rfl dX1_firstWrong_42
  refine lv_iconst (v := 0) hx hb dX1_firstWrong_0 (by decide) ?_
  refine lv_istore_n (lv' := [(1, .int 0), (0, .ref (ad 1))]) hx hb dX1_firstWrong_1 rfl hl (by decide) rfl (fun ls hl => ?_)
  refine lv_iconst (v := 0) hx hb dX1_firstWrong_2 (by decide) ?_
  refine lv_istore_n (lv' := [(2, .int 0), (1, .int 0), (0, .ref (ad 1))]) hx hb dX1_firstWrong_3 rfl hl (by decide) rfl (fun ls hl => ?_)
  refine hL4 _  (fun v1_x4 v2_x4 H locs ls hl I hF => ?_) 2000 0 0 _ _ _ (lv_sub hl [2, 1, 0] rfl) I hF
  refine lv_aload_n hx hb dX1_firstWrong_71 rfl (lv_at hl 0 rfl) ?_
  refine gf_C_1_1 E I in_X1_firstWrong_X1 lk_X1_firstWrong_15 dX1_firstWrong_72 ?_
  exact gw_iret E I hr hlocks rfl (Option.some.inj hF) rfl dX1_firstWrong_75
abbrev rmX7_fault : Room := { frames := 2, cells := 0, slots := 0, locals := 45 }
theorem lk_X7_fault_10 : Cond.fieldLink RX7 10 "ThrownSacks" "page" "LThrownSacks$Page;" ∈ wsX7_fault := by decide +kernel
theorem in_X7_fault_X7 : ∀ w ∈ u_ws RX7 TX7 9, w ∈ wsX7_fault := by decide +kernel
set_option maxHeartbeats 4000000 in
set_option maxRecDepth 100000 in
theorem ok_X7_fault (l : Launch) {D : va_G} {g : gw_G} {tG : Nat} {ad : Nat → Nat} {A : Nat → Prop} (hD : gw_D A 83 ad) (t0 : gw_S) (r0 : Int32) (hF : fX7_fault t0 = some r0) : Met l yX7_fault wsX7_fault rmX7_fault (gw_Pc D g tG (tC g ad) 83 ad A [.ref (ad 0)] t0) (gw_Qi D (tC g ad) 83 ad A r0 t0) 0 0 A := by
  unfold fX7_fault at hF
  refine gw_met (by decide) rfl hD (Nat.le_of_ble_eq_true rfl) (fun p e s m args below meth c E hr hlocks I ls hl => ?_)
  have hx := E.1.1
  have hb := E.1.2.1
  have hl : lv_has ls 1 [(0, .ref (ad 0))] := hl
  refine lv_aload_n hx hb dX7_fault_0 rfl (lv_at hl 0 rfl) ?_
  refine gf_C_0_0 E I in_X7_fault_X7 lk_X7_fault_10 dX7_fault_1 ?_
  replace hF := gw_bdE hF
  obtain ⟨r4, e4, hF⟩ := hF
  refine gw_calli I (gw_runV E I (ok_X1_firstWrong l hD t0 _ e4) (cwV 0 E.1.2.2.2.2 gX7_fault_X1_firstWrong rfl rfl rfl (by decide +kernel) ⟨Nat.le_of_ble_eq_true rfl, Nat.le_of_ble_eq_true rfl⟩) (by decide) rfl rfl rfl hl.1 rfl (Nat.le_of_ble_eq_true rfl) dX7_fault_4) (fun H locs I => ?_)
  exact gw_iret E I hr hlocks rfl (Option.some.inj hF) rfl dX7_fault_7
abbrev rmX1_hooksTold : Room := { frames := 1, cells := 0, slots := 0, locals := 21 }
theorem lk_X1_hooksTold_15 : Cond.fieldLink RX1 15 "ThrownSacks$Page" "size" "I" ∈ wsX1_hooksTold := by decide +kernel
theorem in_X1_hooksTold_X1 : ∀ w ∈ u_ws RX1 TX1 2, w ∈ wsX1_hooksTold := by decide +kernel
set_option maxHeartbeats 4000000 in
set_option maxRecDepth 100000 in
theorem ok_X1_hooksTold (l : Launch) {D : va_G} {g : gw_G} {tG : Nat} {ad : Nat → Nat} {A : Nat → Prop} (hD : gw_D A 83 ad) (t0 : gw_S) (r0 : Int32) (hF : fX1_hooksTold t0 = some r0) : Met l yX1_hooksTold wsX1_hooksTold rmX1_hooksTold (gw_Pc D g tG (tC g ad) 83 ad A [.ref (ad 1)] t0) (gw_Qi D (tC g ad) 83 ad A r0 t0) 0 0 A := by
  unfold fX1_hooksTold at hF
  refine gw_met (by decide) rfl hD (Nat.le_of_ble_eq_true rfl) (fun p e s m args below meth c E hr hlocks I ls hl => ?_)
  have hx := E.1.1
  have hb := E.1.2.1
  have hl : lv_has ls 2 [(0, .ref (ad 1))] := hl
  have hL2 : ∀ (Kx : Int32 → Option (Int32)), (∀ (v1 : Int32) (H : Heap) (locs : List Loc) (ls : Array Slot), lv_has ls 2 [] → gw_I D (tC g ad) 83 ad A s.heap t0 H locs → Kx v1 = some r0 → W p l e rmX1_hooksTold s m args below meth c H locs 0 0 (MQ below (gw_Qi D (tC g ad) 83 ad A r0 t0) args s 0 0 A) (F0 m 32 ls [])) → ∀ (n : Nat) (v1 : Int32) (H : Heap) (locs : List Loc) (ls : Array Slot), lv_has ls 2 [(0, .ref (ad 1)), (1, .int v1)] → gw_I D (tC g ad) 83 ad A s.heap t0 H locs → fX1_hooksTold_L2 Kx t0 n v1 = some r0 → W p l e rmX1_hooksTold s m args below meth c H locs 0 0 (MQ below (gw_Qi D (tC g ad) 83 ad A r0 t0) args s 0 0 A) (F0 m 2 ls []) := by
    intro Kx hKx n
    induction n with
    | zero =>
      intro v1 H locs ls hl I hF
      rw [fX1_hooksTold_L2] at hF
      cases hF
    | succ n ih =>
      intro v1 H locs ls hl I hF
      rw [fX1_hooksTold_L2] at hF
      refine lv_iload_n hx hb dX1_hooksTold_2 rfl (lv_at hl 1 rfl) ?_
      refine lv_aload_n hx hb dX1_hooksTold_3 rfl (lv_at hl 0 rfl) ?_
      refine gf_C_1_1 E I in_X1_hooksTold_X1 lk_X1_hooksTold_15 dX1_hooksTold_4 ?_
      refine lv_icmp_ge (tgt := 32) hx hb dX1_hooksTold_7 (by decide) (fun c7 => ?_) (fun c7 => ?_)
      · replace hF := gw_if1 c7 hF
        exact hKx v1 _ _ _ (lv_sub hl [] rfl) I hF
      · replace hF := gw_if0 c7 hF
        refine lv_aload_n hx hb dX1_hooksTold_10 rfl (lv_at hl 0 rfl) ?_
        refine lv_iload_n hx hb dX1_hooksTold_11 rfl (lv_at hl 1 rfl) ?_
        replace hF := gw_bdE hF
        obtain ⟨r12, e12, hF⟩ := hF
        refine gw_calli I (gw_runV E I (ok_X1_codeAt l hD t0 v1 _ e12) (cwV 1 E.1.2.2.2.2 gX1_hooksTold_X1_codeAt rfl rfl rfl (by decide +kernel) ⟨Nat.le_of_ble_eq_true rfl, Nat.le_of_ble_eq_true rfl⟩) (by decide) rfl rfl rfl hl.1 rfl (Nat.le_of_ble_eq_true rfl) dX1_hooksTold_12) (fun H locs I => ?_)
        refine lv_bipush (v := 59) hx hb dX1_hooksTold_15 (by decide) ?_
        refine lv_icmp_ne (tgt := 26) hx hb dX1_hooksTold_17 (by decide) (fun c17 => ?_) (fun c17 => ?_)
        · replace hF := gw_if0 c17 hF
          replace hF := gw_nmE hF
          obtain ⟨v1_26, ev1_26, hF⟩ := hF
          refine lv_iinc (v := v1_26) (lv' := [(1, .int v1_26), (0, .ref (ad 1))]) hx hb dX1_hooksTold_26 hl (k := 1) rfl (by subst ev1_26; rfl) (by decide) rfl (fun ls hl => ?_)
          refine lv_goto (tgt := 2) hx hb dX1_hooksTold_29 (by decide) ?_
          exact ih v1_26 _ _ _ (lv_sub hl [1, 0] rfl) I hF
        · replace hF := gw_if1 c17 hF
          refine lv_iload_n hx hb dX1_hooksTold_20 rfl (lv_at hl 1 rfl) ?_
          refine lv_iconst (v := 1) hx hb dX1_hooksTold_21 (by decide) ?_
          refine lv_iadd hx hb dX1_hooksTold_22 ?_
          refine lv_iconst (v := 3) hx hb dX1_hooksTold_23 (by decide) ?_
          refine lv_idiv hx hb dX1_hooksTold_24 (by decide) ?_
          exact gw_iret E I hr hlocks rfl (Option.some.inj hF) rfl dX1_hooksTold_25
  refine lv_iconst (v := 0) hx hb dX1_hooksTold_0 (by decide) ?_
  refine lv_istore_n (lv' := [(1, .int 0), (0, .ref (ad 1))]) hx hb dX1_hooksTold_1 rfl hl (by decide) rfl (fun ls hl => ?_)
  refine hL2 _  (fun v1_x2 H locs ls hl I hF => ?_) 2000 0 _ _ _ (lv_sub hl [1, 0] rfl) I hF
  refine lv_iconst (v := 0) hx hb dX1_hooksTold_32 (by decide) ?_
  exact gw_iret E I hr hlocks rfl (Option.some.inj hF) rfl dX1_hooksTold_33
abbrev rmX1_isFloor : Room := { frames := 2, cells := 0, slots := 0, locals := 45 }
theorem lk_X1_isFloor_15 : Cond.fieldLink RX1 15 "ThrownSacks$Page" "size" "I" ∈ wsX1_isFloor := by decide +kernel
theorem in_X1_isFloor_X1 : ∀ w ∈ u_ws RX1 TX1 2, w ∈ wsX1_isFloor := by decide +kernel
set_option maxHeartbeats 4000000 in
set_option maxRecDepth 100000 in
theorem ok_X1_isFloor (l : Launch) {D : va_G} {g : gw_G} {tG : Nat} {ad : Nat → Nat} {A : Nat → Prop} (hD : gw_D A 83 ad) (t0 : gw_S) (r0 : Int32) (hF : fX1_isFloor t0 = some r0) : Met l yX1_isFloor wsX1_isFloor rmX1_isFloor (gw_Pc D g tG (tC g ad) 83 ad A [.ref (ad 1)] t0) (gw_Qi D (tC g ad) 83 ad A r0 t0) 0 0 A := by
  unfold fX1_isFloor at hF
  refine gw_met (by decide) rfl hD (Nat.le_of_ble_eq_true rfl) (fun p e s m args below meth c E hr hlocks I ls hl => ?_)
  have hx := E.1.1
  have hb := E.1.2.1
  have hl : lv_has ls 2 [(0, .ref (ad 1))] := hl
  refine lv_aload_n hx hb dX1_isFloor_0 rfl (lv_at hl 0 rfl) ?_
  replace hF := gw_bdE hF
  obtain ⟨r1, e1, hF⟩ := hF
  refine gw_calli I (gw_runV E I (ok_X1_hooksTold l hD t0 _ e1) (cwV 0 E.1.2.2.2.2 gX1_isFloor_X1_hooksTold rfl rfl rfl (by decide +kernel) ⟨Nat.le_of_ble_eq_true rfl, Nat.le_of_ble_eq_true rfl⟩) (by decide) rfl rfl rfl hl.1 rfl (Nat.le_of_ble_eq_true rfl) dX1_isFloor_1) (fun H locs I => ?_)
  refine lv_istore_n (lv' := [(1, .int r1), (0, .ref (ad 1))]) hx hb dX1_isFloor_4 rfl hl (by decide) rfl (fun ls hl => ?_)
  refine lv_iload_n hx hb dX1_isFloor_5 rfl (lv_at hl 0 rfl) ?_
  refine lv_if_le (tgt := 34) hx hb dX1_isFloor_6 (by decide) (fun c6 => ?_) (fun c6 => ?_)
  · replace hF := gw_if1 c6 hF
    refine lv_iconst (v := 0) hx hb dX1_isFloor_34 (by decide) ?_
    exact gw_iret E I hr hlocks rfl (Option.some.inj hF) rfl dX1_isFloor_35
  · replace hF := gw_if0 c6 hF
    refine lv_aload_n hx hb dX1_isFloor_9 rfl (lv_at hl 1 rfl) ?_
    refine gf_C_1_1 E I in_X1_isFloor_X1 lk_X1_isFloor_15 dX1_isFloor_10 ?_
    refine lv_iconst (v := 4) hx hb dX1_isFloor_13 (by decide) ?_
    refine lv_iload_n hx hb dX1_isFloor_14 rfl (lv_at hl 0 rfl) ?_
    refine lv_imul hx hb dX1_isFloor_15 ?_
    refine lv_icmp_ne (tgt := 34) hx hb dX1_isFloor_16 (by decide) (fun c16 => ?_) (fun c16 => ?_)
    · replace hF := gw_if0 c16 hF
      refine lv_iconst (v := 0) hx hb dX1_isFloor_34 (by decide) ?_
      exact gw_iret E I hr hlocks rfl (Option.some.inj hF) rfl dX1_isFloor_35
    · replace hF := gw_if1 c16 hF
      refine lv_aload_n hx hb dX1_isFloor_19 rfl (lv_at hl 1 rfl) ?_
      replace hF := gw_bdE hF
      obtain ⟨r20, e20, hF⟩ := hF
      refine gw_calli I (gw_runV E I (ok_X1_firstWrong l hD t0 _ e20) (cwV 0 E.1.2.2.2.2 gX1_isFloor_X1_firstWrong rfl rfl rfl (by decide +kernel) ⟨Nat.le_of_ble_eq_true rfl, Nat.le_of_ble_eq_true rfl⟩) (by decide) rfl rfl rfl hl.1 rfl (Nat.le_of_ble_eq_true rfl) dX1_isFloor_20) (fun H locs I => ?_)
      refine lv_aload_n hx hb dX1_isFloor_23 rfl (lv_at hl 1 rfl) ?_
      refine gf_C_1_1 E I in_X1_isFloor_X1 lk_X1_isFloor_15 dX1_isFloor_24 ?_
      refine lv_icmp_ne (tgt := 34) hx hb dX1_isFloor_27 (by decide) (fun c27 => ?_) (fun c27 => ?_)
      · replace hF := gw_if0 c27 hF
        refine lv_iconst (v := 0) hx hb dX1_isFloor_34 (by decide) ?_
        exact gw_iret E I hr hlocks rfl (Option.some.inj hF) rfl dX1_isFloor_35
      · replace hF := gw_if1 c27 hF
        refine lv_iconst (v := 1) hx hb dX1_isFloor_30 (by decide) ?_
        refine lv_goto (tgt := 35) hx hb dX1_isFloor_31 (by decide) ?_
        exact gw_iret E I hr hlocks rfl (Option.some.inj hF) rfl dX1_isFloor_35
abbrev rmX1_digitAt : Room := { frames := 1, cells := 0, slots := 0, locals := 21 }
set_option maxHeartbeats 4000000 in
set_option maxRecDepth 100000 in
theorem ok_X1_digitAt (l : Launch) {D : va_G} {g : gw_G} {tG : Nat} {ad : Nat → Nat} {A : Nat → Prop} (hD : gw_D A 83 ad) (t0 : gw_S) (v1 : Int32) (r0 : Int32) (hF : fX1_digitAt v1 t0 = some r0) : Met l yX1_digitAt wsX1_digitAt rmX1_digitAt (gw_Pc D g tG (tC g ad) 83 ad A [.ref (ad 1), .int v1] t0) (gw_Qi D (tC g ad) 83 ad A r0 t0) 0 0 A := by
  unfold fX1_digitAt at hF
  refine gw_met (by decide) rfl hD (Nat.le_of_ble_eq_true rfl) (fun p e s m args below meth c E hr hlocks I ls hl => ?_)
  have hx := E.1.1
  have hb := E.1.2.1
  have hl : lv_has ls 2 [(0, .ref (ad 1)), (1, .int v1)] := hl
  refine lv_aload_n hx hb dX1_digitAt_0 rfl (lv_at hl 0 rfl) ?_
  refine lv_iload_n hx hb dX1_digitAt_1 rfl (lv_at hl 1 rfl) ?_
  replace hF := gw_bdE hF
  obtain ⟨r2, e2, hF⟩ := hF
  refine gw_calli I (gw_runV E I (ok_X1_codeAt l hD t0 v1 _ e2) (cwV 1 E.1.2.2.2.2 gX1_digitAt_X1_codeAt rfl rfl rfl (by decide +kernel) ⟨Nat.le_of_ble_eq_true rfl, Nat.le_of_ble_eq_true rfl⟩) (by decide) rfl rfl rfl hl.1 rfl (Nat.le_of_ble_eq_true rfl) dX1_digitAt_2) (fun H locs I => ?_)
  refine lv_bipush (v := 48) hx hb dX1_digitAt_5 (by decide) ?_
  refine lv_isub hx hb dX1_digitAt_7 ?_
  exact gw_iret E I hr hlocks rfl (Option.some.inj hF) rfl dX1_digitAt_8
abbrev rmX2_read : Room := { frames := 2, cells := 0, slots := 0, locals := 42 }
theorem lk_X2_read_9 : Cond.fieldLink RX2 9 "ThrownSacks$Plan" "yards" "[I" ∈ wsX2_read := by decide +kernel
theorem lk_X2_read_15 : Cond.fieldLink RX2 15 "ThrownSacks$Plan" "room" "[I" ∈ wsX2_read := by decide +kernel
theorem lk_X2_read_18 : Cond.fieldLink RX2 18 "ThrownSacks$Plan" "often" "[I" ∈ wsX2_read := by decide +kernel
theorem lk_X2_read_33 : Cond.fieldLink RX2 33 "ThrownSacks$Plan" "hooks" "I" ∈ wsX2_read := by decide +kernel
theorem in_X2_read_X2 : ∀ w ∈ u_ws RX2 TX2 4, w ∈ wsX2_read := by decide +kernel
theorem mk_X2_read_min_l : Cond.methodLink RX2 27 Lib.Math.min.name ∈ wsX2_read := by decide +kernel
theorem mk_X2_read_min_s : Cond.static Lib.Math.min.name ∈ wsX2_read := by decide +kernel
theorem mk_X2_read_min_c : Cond.code Lib.Math.min.name Lib.Math.min.code 2 (some .int) ∈ wsX2_read := by decide +kernel
theorem mk_X2_read_i : Cond.initialized "java/lang/Math" ∈ wsX2_read := by decide +kernel
set_option maxHeartbeats 4000000 in
set_option maxRecDepth 100000 in
theorem ok_X2_read (l : Launch) {D : va_G} {g : gw_G} {tG : Nat} {ad : Nat → Nat} {A : Nat → Prop} (hD : gw_D A 83 ad) (t0 : gw_S) (tz : gw_S) (hF : fX2_read t0 = some tz) : Met l yX2_read wsX2_read rmX2_read (gw_Pc D g tG (tC g ad) 83 ad A [.ref (ad 3), .ref (ad 1)] t0) (gw_Qv D (tC g ad) 83 ad A tz) 0 0 A := by
  unfold fX2_read at hF
  refine gw_met (by decide) rfl hD (Nat.le_of_ble_eq_true rfl) (fun p e s m args below meth c E hr hlocks I ls hl => ?_)
  have hx := E.1.1
  have hb := E.1.2.1
  have hl : lv_has ls 3 [(0, .ref (ad 3)), (1, .ref (ad 1))] := hl
  have hL15 : ∀ (Kx : Int32 → gw_S → Option (gw_S)), (∀ (v2 : Int32) (t : gw_S) (H : Heap) (locs : List Loc) (ls : Array Slot), lv_has ls 3 [] → gw_I D (tC g ad) 83 ad A s.heap t H locs → Kx v2 t = some tz → W p l e rmX2_read s m args below meth c H locs 0 0 (MQ below (gw_Qv D (tC g ad) 83 ad A tz) args s 0 0 A) (F0 m 75 ls [])) → ∀ (n : Nat) (v2 : Int32) (t : gw_S) (H : Heap) (locs : List Loc) (ls : Array Slot), lv_has ls 3 [(0, .ref (ad 3)), (1, .ref (ad 1)), (2, .int v2)] → gw_I D (tC g ad) 83 ad A s.heap t H locs → fX2_read_L15 Kx n v2 t = some tz → W p l e rmX2_read s m args below meth c H locs 0 0 (MQ below (gw_Qv D (tC g ad) 83 ad A tz) args s 0 0 A) (F0 m 15 ls []) := by
    intro Kx hKx n
    induction n with
    | zero =>
      intro v2 t H locs ls hl I hF
      rw [fX2_read_L15] at hF
      cases hF
    | succ n ih =>
      intro v2 t H locs ls hl I hF
      rw [fX2_read_L15] at hF
      refine lv_iload_n hx hb dX2_read_15 rfl (lv_at hl 2 rfl) ?_
      refine lv_aload_n hx hb dX2_read_16 rfl (lv_at hl 0 rfl) ?_
      refine gf_C_3_3 E I in_X2_read_X2 lk_X2_read_33 dX2_read_17 ?_
      refine lv_icmp_ge (tgt := 75) hx hb dX2_read_20 (by decide) (fun c20 => ?_) (fun c20 => ?_)
      · replace hF := gw_if1 c20 hF
        exact hKx v2 t _ _ _ (lv_sub hl [] rfl) I hF
      · replace hF := gw_if0 c20 hF
        refine lv_aload_n hx hb dX2_read_23 rfl (lv_at hl 0 rfl) ?_
        refine gf_C_3_0 E I in_X2_read_X2 lk_X2_read_9 dX2_read_24 ?_
        refine lv_iload_n hx hb dX2_read_27 rfl (lv_at hl 2 rfl) ?_
        refine lv_aload_n hx hb dX2_read_28 rfl (lv_at hl 1 rfl) ?_
        refine lv_iconst (v := 3) hx hb dX2_read_29 (by decide) ?_
        refine lv_iload_n hx hb dX2_read_30 rfl (lv_at hl 2 rfl) ?_
        refine lv_imul hx hb dX2_read_31 ?_
        replace hF := gw_bdE hF
        obtain ⟨r32, e32, hF⟩ := hF
        refine gw_calli I (gw_runV E I (ok_X1_digitAt l hD t (3 * v2) _ e32) (cwV 1 E.1.2.2.2.2 gX2_read_X1_digitAt rfl rfl rfl (by decide +kernel) ⟨Nat.le_of_ble_eq_true rfl, Nat.le_of_ble_eq_true rfl⟩) (by decide) rfl rfl rfl hl.1 rfl (Nat.le_of_ble_eq_true rfl) dX2_read_32) (fun H locs I => ?_)
        replace hF := gw_ifn hF
        obtain ⟨hz35, hF⟩ := hF
        replace hF := gw_nmE hF
        obtain ⟨t_35, et_35, hF⟩ := hF
        refine gw_iast E I 4 (by decide) (fun _ => rfl) hz35 et_35 dX2_read_35 (fun H locs I => ?_)
        refine lv_aload_n hx hb dX2_read_36 rfl (lv_at hl 0 rfl) ?_
        refine gf_C_3_1 E I in_X2_read_X2 lk_X2_read_15 dX2_read_37 ?_
        refine lv_iload_n hx hb dX2_read_40 rfl (lv_at hl 2 rfl) ?_
        refine lv_aload_n hx hb dX2_read_41 rfl (lv_at hl 1 rfl) ?_
        refine lv_iconst (v := 3) hx hb dX2_read_42 (by decide) ?_
        refine lv_iload_n hx hb dX2_read_43 rfl (lv_at hl 2 rfl) ?_
        refine lv_imul hx hb dX2_read_44 ?_
        refine lv_iconst (v := 1) hx hb dX2_read_45 (by decide) ?_
        refine lv_iadd hx hb dX2_read_46 ?_
        replace hF := gw_bdE hF
        obtain ⟨r47, e47, hF⟩ := hF
        refine gw_calli I (gw_runV E I (ok_X1_digitAt l hD t_35 ((3 * v2) + 1) _ e47) (cwV 1 E.1.2.2.2.2 gX2_read_X1_digitAt rfl rfl rfl (by decide +kernel) ⟨Nat.le_of_ble_eq_true rfl, Nat.le_of_ble_eq_true rfl⟩) (by decide) rfl rfl rfl hl.1 rfl (Nat.le_of_ble_eq_true rfl) dX2_read_47) (fun H locs I => ?_)
        replace hF := gw_ifn hF
        obtain ⟨hz50, hF⟩ := hF
        replace hF := gw_nmE hF
        obtain ⟨t_50, et_50, hF⟩ := hF
        refine gw_iast E I 5 (by decide) (fun _ => rfl) hz50 et_50 dX2_read_50 (fun H locs I => ?_)
        refine lv_aload_n hx hb dX2_read_51 rfl (lv_at hl 0 rfl) ?_
        refine gf_C_3_2 E I in_X2_read_X2 lk_X2_read_18 dX2_read_52 ?_
        refine lv_iload_n hx hb dX2_read_55 rfl (lv_at hl 2 rfl) ?_
        refine lv_aload_n hx hb dX2_read_56 rfl (lv_at hl 1 rfl) ?_
        refine lv_iconst (v := 3) hx hb dX2_read_57 (by decide) ?_
        refine lv_aload_n hx hb dX2_read_58 rfl (lv_at hl 0 rfl) ?_
        refine gf_C_3_3 E I in_X2_read_X2 lk_X2_read_33 dX2_read_59 ?_
        refine lv_imul hx hb dX2_read_62 ?_
        refine lv_iload_n hx hb dX2_read_63 rfl (lv_at hl 2 rfl) ?_
        refine lv_iadd hx hb dX2_read_64 ?_
        replace hF := gw_bdE hF
        obtain ⟨r65, e65, hF⟩ := hF
        refine gw_calli I (gw_runV E I (ok_X1_digitAt l hD t_50 ((3 * (rdI t_50 3 3)) + v2) _ e65) (cwV 1 E.1.2.2.2.2 gX2_read_X1_digitAt rfl rfl rfl (by decide +kernel) ⟨Nat.le_of_ble_eq_true rfl, Nat.le_of_ble_eq_true rfl⟩) (by decide) rfl rfl rfl hl.1 rfl (Nat.le_of_ble_eq_true rfl) dX2_read_65) (fun H locs I => ?_)
        replace hF := gw_ifn hF
        obtain ⟨hz68, hF⟩ := hF
        replace hF := gw_nmE hF
        obtain ⟨t_68, et_68, hF⟩ := hF
        refine gw_iast E I 6 (by decide) (fun _ => rfl) hz68 et_68 dX2_read_68 (fun H locs I => ?_)
        replace hF := gw_nmE hF
        obtain ⟨v2_69, ev2_69, hF⟩ := hF
        refine lv_iinc (v := v2_69) (lv' := [(2, .int v2_69), (0, .ref (ad 3)), (1, .ref (ad 1))]) hx hb dX2_read_69 hl (k := 2) rfl (by subst ev2_69; rfl) (by decide) rfl (fun ls hl => ?_)
        refine lv_goto (tgt := 15) hx hb dX2_read_72 (by decide) ?_
        exact ih v2_69 t_68 _ _ _ (lv_sub hl [1, 2, 0] rfl) I hF
  refine lv_aload_n hx hb dX2_read_0 rfl (lv_at hl 0 rfl) ?_
  refine lv_aload_n hx hb dX2_read_1 rfl (lv_at hl 1 rfl) ?_
  replace hF := gw_bdE hF
  obtain ⟨r2, e2, hF⟩ := hF
  refine gw_calli I (gw_runV E I (ok_X1_hooksTold l hD t0 _ e2) (cwV 0 E.1.2.2.2.2 gX2_read_X1_hooksTold rfl rfl rfl (by decide +kernel) ⟨Nat.le_of_ble_eq_true rfl, Nat.le_of_ble_eq_true rfl⟩) (by decide) rfl rfl rfl hl.1 rfl (Nat.le_of_ble_eq_true rfl) dX2_read_2) (fun H locs I => ?_)
  refine lv_bipush (v := 6) hx hb dX2_read_5 (by decide) ?_
  refine va_mmin hx hb (E.1.2.2.1.trans hl.1.symm) E.1.2.2.2.1 (E.1.2.2.2.2 _ mk_X2_read_min_l) (E.1.2.2.2.2 _ mk_X2_read_min_s) (E.1.2.2.2.2 _ mk_X2_read_i) (E.1.2.2.2.2 _ mk_X2_read_min_c) (Nat.le_of_ble_eq_true rfl) (Nat.le_of_ble_eq_true rfl) (Nat.zero_le _) (Nat.zero_le _) dX2_read_7 ?_
  replace hF := gw_nmE hF
  obtain ⟨t_10, et_10, hF⟩ := hF
  refine gp_C_3_3 E I in_X2_read_X2 lk_X2_read_33 et_10 dX2_read_10 (fun H locs I => ?_)
  refine lv_iconst (v := 0) hx hb dX2_read_13 (by decide) ?_
  refine lv_istore_n (lv' := [(2, .int 0), (0, .ref (ad 3)), (1, .ref (ad 1))]) hx hb dX2_read_14 rfl hl (by decide) rfl (fun ls hl => ?_)
  refine hL15 _  (fun v2_x15 t_x15 H locs ls hl I hF => ?_) 2000 0 t_10 _ _ _ (lv_sub hl [1, 2, 0] rfl) I hF
  exact gw_vret E I hr hlocks (Option.some.inj hF) dX2_read_75
abbrev rmX4_start : Room := { frames := 0, cells := 0, slots := 0, locals := 0 }
theorem lk_X4_start_9 : Cond.fieldLink RX4 9 "ThrownSacks$Standing" "towns" "[I" ∈ wsX4_start := by decide +kernel
theorem lk_X4_start_17 : Cond.fieldLink RX4 17 "ThrownSacks$Standing" "sacks" "[LThrownSacks$Row;" ∈ wsX4_start := by decide +kernel
theorem lk_X4_start_22 : Cond.fieldLink RX4 22 "ThrownSacks$Standing" "belt" "LThrownSacks$Row;" ∈ wsX4_start := by decide +kernel
theorem lk_X4_start_32 : Cond.fieldLink RX4 32 "ThrownSacks$Row" "size" "I" ∈ wsX4_start := by decide +kernel
theorem lk_X4_start_36 : Cond.fieldLink RX4 36 "ThrownSacks$Standing" "found" "I" ∈ wsX4_start := by decide +kernel
theorem lk_X4_start_39 : Cond.fieldLink RX4 39 "ThrownSacks$Standing" "seconds" "I" ∈ wsX4_start := by decide +kernel
theorem lk_X4_start_42 : Cond.fieldLink RX4 42 "ThrownSacks$Standing" "harmed" "I" ∈ wsX4_start := by decide +kernel
theorem in_X4_start_X3 : ∀ w ∈ u_ws RX3 TX3 4, w ∈ wsX4_start := by decide +kernel
theorem in_X4_start_X4 : ∀ w ∈ u_ws RX4 TX4 8, w ∈ wsX4_start := by decide +kernel
set_option maxHeartbeats 4000000 in
set_option maxRecDepth 100000 in
theorem ok_X4_start (l : Launch) {D : va_G} {g : gw_G} {tG : Nat} {ad : Nat → Nat} {A : Nat → Prop} (hD : gw_D A 83 ad) (t0 : gw_S) (tz : gw_S) (hF : fX4_start t0 = some tz) : Met l yX4_start wsX4_start rmX4_start (gw_Pc D g tG (tC g ad) 83 ad A [.ref (ad 7)] t0) (gw_Qv D (tC g ad) 83 ad A tz) 0 0 A := by
  unfold fX4_start at hF
  refine gw_met (by decide) rfl hD (Nat.le_of_ble_eq_true rfl) (fun p e s m args below meth c E hr hlocks I ls hl => ?_)
  have hx := E.1.1
  have hb := E.1.2.1
  have hl : lv_has ls 2 [(0, .ref (ad 7))] := hl
  have hL2 : ∀ (Kx : Int32 → gw_S → Option (gw_S)), (∀ (v1 : Int32) (t : gw_S) (H : Heap) (locs : List Loc) (ls : Array Slot), lv_has ls 2 [(0, .ref (ad 7))] → gw_I D (tC g ad) 83 ad A s.heap t H locs → Kx v1 t = some tz → W p l e rmX4_start s m args below meth c H locs 0 0 (MQ below (gw_Qv D (tC g ad) 83 ad A tz) args s 0 0 A) (F0 m 31 ls [])) → ∀ (n : Nat) (v1 : Int32) (t : gw_S) (H : Heap) (locs : List Loc) (ls : Array Slot), lv_has ls 2 [(0, .ref (ad 7)), (1, .int v1)] → gw_I D (tC g ad) 83 ad A s.heap t H locs → fX4_start_L2 Kx n v1 t = some tz → W p l e rmX4_start s m args below meth c H locs 0 0 (MQ below (gw_Qv D (tC g ad) 83 ad A tz) args s 0 0 A) (F0 m 2 ls []) := by
    intro Kx hKx n
    induction n with
    | zero =>
      intro v1 t H locs ls hl I hF
      rw [fX4_start_L2] at hF
      cases hF
    | succ n ih =>
      intro v1 t H locs ls hl I hF
      rw [fX4_start_L2] at hF
      refine lv_iload_n hx hb dX4_start_2 rfl (lv_at hl 1 rfl) ?_
      refine lv_bipush (v := 6) hx hb dX4_start_3 (by decide) ?_
      refine lv_icmp_ge (tgt := 31) hx hb dX4_start_5 (by decide) (fun c5 => ?_) (fun c5 => ?_)
      · replace hF := gw_if1 c5 hF
        exact hKx v1 t _ _ _ (lv_sub hl [0] rfl) I hF
      · replace hF := gw_if0 c5 hF
        refine lv_aload_n hx hb dX4_start_8 rfl (lv_at hl 0 rfl) ?_
        refine gf_C_7_0 E I in_X4_start_X4 lk_X4_start_9 dX4_start_9 ?_
        refine lv_iload_n hx hb dX4_start_12 rfl (lv_at hl 1 rfl) ?_
        refine lv_iload_n hx hb dX4_start_13 rfl (lv_at hl 1 rfl) ?_
        replace hF := gw_ifn hF
        obtain ⟨hz14, hF⟩ := hF
        replace hF := gw_nmE hF
        obtain ⟨t_14, et_14, hF⟩ := hF
        refine gw_iast E I 8 (by decide) (fun _ => rfl) hz14 et_14 dX4_start_14 (fun H locs I => ?_)
        refine lv_aload_n hx hb dX4_start_15 rfl (lv_at hl 0 rfl) ?_
        refine gf_C_7_1 E I in_X4_start_X4 lk_X4_start_17 dX4_start_16 ?_
        refine lv_iload_n hx hb dX4_start_19 rfl (lv_at hl 1 rfl) ?_
        replace hF := gw_ifn hF
        obtain ⟨hz20, hF⟩ := hF
        refine gw_aald E I 9 (by decide) rfl hz20 dX4_start_20 ?_
        replace hF := gw_nmE hF
        obtain ⟨r20, er20, hF⟩ := hF
        replace hF := gw_ifn hF
        obtain ⟨hr20, hF⟩ := hF
        refine gw_topr er20 ?_
        refine lv_iconst (v := 0) hx hb dX4_start_21 (by decide) ?_
        replace hF := gw_nmE hF
        obtain ⟨t_22, et_22, hF⟩ := hF
        refine gp_row_3 hr20 E I in_X4_start_X3 lk_X4_start_32 et_22 dX4_start_22 (fun H locs I => ?_)
        replace hF := gw_nmE hF
        obtain ⟨v1_25, ev1_25, hF⟩ := hF
        refine lv_iinc (v := v1_25) (lv' := [(1, .int v1_25), (0, .ref (ad 7))]) hx hb dX4_start_25 hl (k := 1) rfl (by subst ev1_25; rfl) (by decide) rfl (fun ls hl => ?_)
        refine lv_goto (tgt := 2) hx hb dX4_start_28 (by decide) ?_
        exact ih v1_25 t_22 _ _ _ (lv_sub hl [1, 0] rfl) I hF
  refine lv_iconst (v := 0) hx hb dX4_start_0 (by decide) ?_
  refine lv_istore_n (lv' := [(1, .int 0), (0, .ref (ad 7))]) hx hb dX4_start_1 rfl hl (by decide) rfl (fun ls hl => ?_)
  refine hL2 _  (fun v1_x2 t_x2 H locs ls hl I hF => ?_) 2000 0 t0 _ _ _ (lv_sub hl [1, 0] rfl) I hF
  refine lv_aload_n hx hb dX4_start_31 rfl (lv_at hl 0 rfl) ?_
  refine gf_C_7_2 E I in_X4_start_X4 lk_X4_start_22 dX4_start_32 ?_
  refine lv_iconst (v := 0) hx hb dX4_start_35 (by decide) ?_
  replace hF := gw_nmE hF
  obtain ⟨t_36, et_36, hF⟩ := hF
  refine gp_row_3 (by decide) E I in_X4_start_X3 lk_X4_start_32 et_36 dX4_start_36 (fun H locs I => ?_)
  refine lv_aload_n hx hb dX4_start_39 rfl (lv_at hl 0 rfl) ?_
  refine lv_iconst (v := 0) hx hb dX4_start_40 (by decide) ?_
  replace hF := gw_nmE hF
  obtain ⟨t_41, et_41, hF⟩ := hF
  refine gp_C_7_5 E I in_X4_start_X4 lk_X4_start_36 et_41 dX4_start_41 (fun H locs I => ?_)
  refine lv_aload_n hx hb dX4_start_44 rfl (lv_at hl 0 rfl) ?_
  refine lv_iconst (v := 0) hx hb dX4_start_45 (by decide) ?_
  replace hF := gw_nmE hF
  obtain ⟨t_46, et_46, hF⟩ := hF
  refine gp_C_7_6 E I in_X4_start_X4 lk_X4_start_39 et_46 dX4_start_46 (fun H locs I => ?_)
  refine lv_aload_n hx hb dX4_start_49 rfl (lv_at hl 0 rfl) ?_
  refine lv_iconst (v := 0) hx hb dX4_start_50 (by decide) ?_
  replace hF := gw_nmE hF
  obtain ⟨t_51, et_51, hF⟩ := hF
  refine gp_C_7_7 E I in_X4_start_X4 lk_X4_start_42 et_51 dX4_start_51 (fun H locs I => ?_)
  exact gw_vret E I hr hlocks (Option.some.inj hF) dX4_start_54
abbrev rmX7_gripOf : Room := { frames := 0, cells := 0, slots := 0, locals := 0 }
theorem lk_X7_gripOf_271 : Cond.fieldLink RX7 271 "ThrownSacks" "GRIPS" "[I" ∈ wsX7_gripOf := by decide +kernel
set_option maxHeartbeats 4000000 in
set_option maxRecDepth 100000 in
theorem ok_X7_gripOf (l : Launch) {D : va_G} {g : gw_G} {tG : Nat} {ad : Nat → Nat} {A : Nat → Prop} (hD : gw_D A 83 ad) (t0 : gw_S) (v0 : Int32) (r0 : Int32) (hF : fX7_gripOf v0 t0 = some r0) : Met l yX7_gripOf wsX7_gripOf rmX7_gripOf (gw_Pc D g tG (tC g ad) 83 ad A [.int v0] t0) (gw_Qi D (tC g ad) 83 ad A r0 t0) 0 0 A := by
  unfold fX7_gripOf at hF
  refine gw_met (by decide) rfl hD (Nat.le_of_ble_eq_true rfl) (fun p e s m args below meth c E hr hlocks I ls hl => ?_)
  have hx := E.1.1
  have hb := E.1.2.1
  have hl : lv_has ls 1 [(0, .int v0)] := hl
  refine lv_iload_n hx hb dX7_gripOf_0 rfl (lv_at hl 0 rfl) ?_
  refine lv_if_lt (tgt := 20) hx hb dX7_gripOf_1 (by decide) (fun c1 => ?_) (fun c1 => ?_)
  · replace hF := gw_if1 c1 hF
    refine lv_iconst (v := 0) hx hb dX7_gripOf_20 (by decide) ?_
    exact gw_iret E I hr hlocks rfl (Option.some.inj hF) rfl dX7_gripOf_21
  · replace hF := gw_if0 c1 hF
    refine lv_iload_n hx hb dX7_gripOf_4 rfl (lv_at hl 0 rfl) ?_
    refine gw_grip E I.2 lk_X7_gripOf_271 dX7_gripOf_5 ?_
    refine gw_gripLen E I.2 dX7_gripOf_8 ?_
    refine lv_icmp_ge (tgt := 20) hx hb dX7_gripOf_9 (by decide) (fun c9 => ?_) (fun c9 => ?_)
    · replace hF := gw_if1 c9 hF
      refine lv_iconst (v := 0) hx hb dX7_gripOf_20 (by decide) ?_
      exact gw_iret E I hr hlocks rfl (Option.some.inj hF) rfl dX7_gripOf_21
    · replace hF := gw_if0 c9 hF
      refine gw_grip E I.2 lk_X7_gripOf_271 dX7_gripOf_12 ?_
      refine lv_iload_n hx hb dX7_gripOf_15 rfl (lv_at hl 0 rfl) ?_
      replace hF := gw_ifn hF
      obtain ⟨hz16, hF⟩ := hF
      refine gw_gripAt E I.2 hz16 dX7_gripOf_16 ?_
      refine lv_goto (tgt := 21) hx hb dX7_gripOf_17 (by decide) ?_
      exact gw_iret E I hr hlocks rfl (Option.some.inj hF) rfl dX7_gripOf_21
abbrev rmX7_tenthsOf : Room := { frames := 1, cells := 0, slots := 0, locals := 21 }
theorem mk_X7_tenthsOf_max_l : Cond.methodLink RX7 279 Lib.Math.max.name ∈ wsX7_tenthsOf := by decide +kernel
theorem mk_X7_tenthsOf_max_s : Cond.static Lib.Math.max.name ∈ wsX7_tenthsOf := by decide +kernel
theorem mk_X7_tenthsOf_max_c : Cond.code Lib.Math.max.name Lib.Math.max.code 2 (some .int) ∈ wsX7_tenthsOf := by decide +kernel
theorem mk_X7_tenthsOf_i : Cond.initialized "java/lang/Math" ∈ wsX7_tenthsOf := by decide +kernel
theorem mk_X7_tenthsOf_min_l : Cond.methodLink RX7 274 Lib.Math.min.name ∈ wsX7_tenthsOf := by decide +kernel
theorem mk_X7_tenthsOf_min_s : Cond.static Lib.Math.min.name ∈ wsX7_tenthsOf := by decide +kernel
theorem mk_X7_tenthsOf_min_c : Cond.code Lib.Math.min.name Lib.Math.min.code 2 (some .int) ∈ wsX7_tenthsOf := by decide +kernel
set_option maxHeartbeats 4000000 in
set_option maxRecDepth 100000 in
theorem ok_X7_tenthsOf (l : Launch) {D : va_G} {g : gw_G} {tG : Nat} {ad : Nat → Nat} {A : Nat → Prop} (hD : gw_D A 83 ad) (t0 : gw_S) (v0 : Int32) (v1 : Int32) (v2 : Int32) (v3 : Int32) (r0 : Int32) (hF : fX7_tenthsOf v0 v1 v2 v3 t0 = some r0) : Met l yX7_tenthsOf wsX7_tenthsOf rmX7_tenthsOf (gw_Pc D g tG (tC g ad) 83 ad A [.int v0, .int v1, .int v2, .int v3] t0) (gw_Qi D (tC g ad) 83 ad A r0 t0) 0 0 A := by
  unfold fX7_tenthsOf at hF
  refine gw_met (by decide) rfl hD (Nat.le_of_ble_eq_true rfl) (fun p e s m args below meth c E hr hlocks I ls hl => ?_)
  have hx := E.1.1
  have hb := E.1.2.1
  have hl : lv_has ls 6 [(0, .int v0), (1, .int v1), (2, .int v2), (3, .int v3)] := hl
  have hJ35 : ∀ (v3 : Int32) (v4 : Int32) (x0 : Int32) (H : Heap) (locs : List Loc) (ls : Array Slot), lv_has ls 6 [(3, .int v3), (4, .int v4)] → gw_I D (tC g ad) 83 ad A s.heap t0 H locs → fX7_tenthsOf_J35 v3 v4 x0 t0 = some r0 → W p l e rmX7_tenthsOf s m args below meth c H locs 0 0 (MQ below (gw_Qi D (tC g ad) 83 ad A r0 t0) args s 0 0 A) (F0 m 35 ls [.int x0]) := by
    intro v3 v4 x0 H locs ls hl I hF
    unfold fX7_tenthsOf_J35 at hF
    refine lv_istore (lv' := [(5, .int x0), (3, .int v3), (4, .int v4)]) hx hb dX7_tenthsOf_35 hl (by decide) rfl (fun ls hl => ?_)
    refine lv_iload_n hx hb dX7_tenthsOf_37 rfl (lv_at hl 1 rfl) ?_
    refine lv_if_ne (tgt := 44) hx hb dX7_tenthsOf_38 (by decide) (fun c38 => ?_) (fun c38 => ?_)
    · replace hF := gw_if0 c38 hF
      refine lv_iload_n hx hb dX7_tenthsOf_44 rfl (lv_at hl 1 rfl) ?_
      refine lv_iconst (v := 1) hx hb dX7_tenthsOf_45 (by decide) ?_
      refine lv_icmp_ne (tgt := 54) hx hb dX7_tenthsOf_46 (by decide) (fun c46 => ?_) (fun c46 => ?_)
      · replace hF := gw_if0 c46 hF
        refine lv_bipush (v := 10) hx hb dX7_tenthsOf_54 (by decide) ?_
        refine lv_iload hx hb dX7_tenthsOf_56 (lv_at hl 2 rfl) ?_
        refine lv_isub hx hb dX7_tenthsOf_58 ?_
        refine lv_iload hx hb dX7_tenthsOf_59 (lv_at hl 0 rfl) ?_
        refine lv_isub hx hb dX7_tenthsOf_61 ?_
        exact gw_iret E I hr hlocks rfl (Option.some.inj hF) rfl dX7_tenthsOf_62
      · replace hF := gw_if1 c46 hF
        refine lv_iload hx hb dX7_tenthsOf_49 (lv_at hl 0 rfl) ?_
        refine lv_goto (tgt := 62) hx hb dX7_tenthsOf_51 (by decide) ?_
        exact gw_iret E I hr hlocks rfl (Option.some.inj hF) rfl dX7_tenthsOf_62
    · replace hF := gw_if1 c38 hF
      refine lv_iload hx hb dX7_tenthsOf_41 (lv_at hl 2 rfl) ?_
      exact gw_iret E I hr hlocks rfl (Option.some.inj hF) rfl dX7_tenthsOf_43
  refine lv_iconst (v := 0) hx hb dX7_tenthsOf_0 (by decide) ?_
  refine lv_bipush (v := 10) hx hb dX7_tenthsOf_1 (by decide) ?_
  refine lv_bipush (v := 10) hx hb dX7_tenthsOf_3 (by decide) ?_
  refine lv_iload_n hx hb dX7_tenthsOf_5 rfl (lv_at hl 0 rfl) ?_
  replace hF := gw_bdE hF
  obtain ⟨r6, e6, hF⟩ := hF
  refine gw_calli I (gw_runS E I (ok_X7_gripOf l hD t0 v0 _ e6) (va_cwS 1 E.1.2.2.2.2 gX7_tenthsOf_X7_gripOf rfl rfl rfl (by decide +kernel) ⟨Nat.le_of_ble_eq_true rfl, Nat.le_of_ble_eq_true rfl⟩) rfl hl.1 rfl (Nat.le_of_ble_eq_true rfl) dX7_tenthsOf_6) (fun H locs I => ?_)
  refine lv_iadd hx hb dX7_tenthsOf_9 ?_
  refine lv_iload_n hx hb dX7_tenthsOf_10 rfl (lv_at hl 1 rfl) ?_
  refine lv_isub hx hb dX7_tenthsOf_11 ?_
  refine va_mmin hx hb (E.1.2.2.1.trans hl.1.symm) E.1.2.2.2.1 (E.1.2.2.2.2 _ mk_X7_tenthsOf_min_l) (E.1.2.2.2.2 _ mk_X7_tenthsOf_min_s) (E.1.2.2.2.2 _ mk_X7_tenthsOf_i) (E.1.2.2.2.2 _ mk_X7_tenthsOf_min_c) (Nat.le_of_ble_eq_true rfl) (Nat.le_of_ble_eq_true rfl) (Nat.zero_le _) (Nat.zero_le _) dX7_tenthsOf_12 ?_
  refine va_mmax hx hb (E.1.2.2.1.trans hl.1.symm) E.1.2.2.2.1 (E.1.2.2.2.2 _ mk_X7_tenthsOf_max_l) (E.1.2.2.2.2 _ mk_X7_tenthsOf_max_s) (E.1.2.2.2.2 _ mk_X7_tenthsOf_i) (E.1.2.2.2.2 _ mk_X7_tenthsOf_max_c) (Nat.le_of_ble_eq_true rfl) (Nat.le_of_ble_eq_true rfl) (Nat.zero_le _) (Nat.zero_le _) dX7_tenthsOf_15 ?_
  replace hF := gw_nmE hF
  obtain ⟨v4_18, ev4_18, hF⟩ := hF
  refine gw_topi ev4_18 ?_
  refine lv_istore (lv' := [(4, .int v4_18), (0, .int v0), (1, .int v1), (2, .int v2), (3, .int v3)]) hx hb dX7_tenthsOf_18 hl (by decide) rfl (fun ls hl => ?_)
  refine lv_iload_n hx hb dX7_tenthsOf_20 rfl (lv_at hl 3 rfl) ?_
  refine lv_if_eq (tgt := 28) hx hb dX7_tenthsOf_21 (by decide) (fun c21 => ?_) (fun c21 => ?_)
  · replace hF := gw_if1 c21 hF
    refine lv_bipush (v := 10) hx hb dX7_tenthsOf_28 (by decide) ?_
    refine lv_iload hx hb dX7_tenthsOf_30 (lv_at hl 0 rfl) ?_
    refine lv_isub hx hb dX7_tenthsOf_32 ?_
    refine lv_iconst (v := 3) hx hb dX7_tenthsOf_33 (by decide) ?_
    refine lv_idiv hx hb dX7_tenthsOf_34 (by decide) ?_
    exact hJ35 v3 v4_18 ((10 - v4_18) / 3) _ _ _ (lv_sub hl [4, 0] rfl) I hF
  · replace hF := gw_if0 c21 hF
    refine lv_iconst (v := 0) hx hb dX7_tenthsOf_24 (by decide) ?_
    refine lv_goto (tgt := 35) hx hb dX7_tenthsOf_25 (by decide) ?_
    exact hJ35 v3 v4_18 0 _ _ _ (lv_sub hl [4, 0] rfl) I hF
abbrev rmX7_carrySeconds : Room := { frames := 0, cells := 0, slots := 0, locals := 0 }
set_option maxHeartbeats 4000000 in
set_option maxRecDepth 100000 in
theorem ok_X7_carrySeconds (l : Launch) {D : va_G} {g : gw_G} {tG : Nat} {ad : Nat → Nat} {A : Nat → Prop} (hD : gw_D A 83 ad) (t0 : gw_S) (v0 : Int32) (r0 : Int32) (hF : fX7_carrySeconds v0 t0 = r0) : Met l yX7_carrySeconds wsX7_carrySeconds rmX7_carrySeconds (gw_Pc D g tG (tC g ad) 83 ad A [.int v0] t0) (gw_Qi D (tC g ad) 83 ad A r0 t0) 0 0 A := by
  unfold fX7_carrySeconds at hF
  refine gw_met (by decide) rfl hD (Nat.le_of_ble_eq_true rfl) (fun p e s m args below meth c E hr hlocks I ls hl => ?_)
  have hx := E.1.1
  have hb := E.1.2.1
  have hl : lv_has ls 1 [(0, .int v0)] := hl
  refine lv_iconst (v := 2) hx hb dX7_carrySeconds_0 (by decide) ?_
  refine lv_iload_n hx hb dX7_carrySeconds_1 rfl (lv_at hl 0 rfl) ?_
  refine lv_imul hx hb dX7_carrySeconds_2 ?_
  refine lv_iconst (v := 3) hx hb dX7_carrySeconds_3 (by decide) ?_
  refine lv_iadd hx hb dX7_carrySeconds_4 ?_
  exact gw_iret E I hr hlocks rfl hF rfl dX7_carrySeconds_5
abbrev rmX7_carryTenths : Room := { frames := 1, cells := 0, slots := 0, locals := 20 }
set_option maxHeartbeats 4000000 in
set_option maxRecDepth 100000 in
theorem ok_X7_carryTenths (l : Launch) {D : va_G} {g : gw_G} {tG : Nat} {ad : Nat → Nat} {A : Nat → Prop} (hD : gw_D A 83 ad) (t0 : gw_S) (v0 : Int32) (r0 : Int32) (hF : fX7_carryTenths v0 t0 = r0) : Met l yX7_carryTenths wsX7_carryTenths rmX7_carryTenths (gw_Pc D g tG (tC g ad) 83 ad A [.int v0] t0) (gw_Qi D (tC g ad) 83 ad A r0 t0) 0 0 A := by
  unfold fX7_carryTenths at hF
  refine gw_met (by decide) rfl hD (Nat.le_of_ble_eq_true rfl) (fun p e s m args below meth c E hr hlocks I ls hl => ?_)
  have hx := E.1.1
  have hb := E.1.2.1
  have hl : lv_has ls 1 [(0, .int v0)] := hl
  refine lv_bipush (v := 10) hx hb dX7_carryTenths_0 (by decide) ?_
  refine lv_iload_n hx hb dX7_carryTenths_2 rfl (lv_at hl 0 rfl) ?_
  refine gw_calli I (gw_runS E I (ok_X7_carrySeconds l hD t0 v0 _ rfl) (va_cwS 1 E.1.2.2.2.2 gX7_carryTenths_X7_carrySeconds rfl rfl rfl (by decide +kernel) ⟨Nat.le_of_ble_eq_true rfl, Nat.le_of_ble_eq_true rfl⟩) rfl hl.1 rfl (Nat.le_of_ble_eq_true rfl) dX7_carryTenths_3) (fun H locs I => ?_)
  refine lv_imul hx hb dX7_carryTenths_6 ?_
  exact gw_iret E I hr hlocks rfl hF rfl dX7_carryTenths_7
abbrev rmX7_costOf : Room := { frames := 2, cells := 0, slots := 0, locals := 46 }
set_option maxHeartbeats 4000000 in
set_option maxRecDepth 100000 in
theorem ok_X7_costOf (l : Launch) {D : va_G} {g : gw_G} {tG : Nat} {ad : Nat → Nat} {A : Nat → Prop} (hD : gw_D A 83 ad) (t0 : gw_S) (v0 : Int32) (v1 : Int32) (v2 : Int32) (r0 : Int32) (hF : fX7_costOf v0 v1 v2 t0 = some r0) : Met l yX7_costOf wsX7_costOf rmX7_costOf (gw_Pc D g tG (tC g ad) 83 ad A [.int v0, .int v1, .int v2] t0) (gw_Qi D (tC g ad) 83 ad A r0 t0) 0 0 A := by
  unfold fX7_costOf at hF
  refine gw_met (by decide) rfl hD (Nat.le_of_ble_eq_true rfl) (fun p e s m args below meth c E hr hlocks I ls hl => ?_)
  have hx := E.1.1
  have hb := E.1.2.1
  have hl : lv_has ls 7 [(0, .int v0), (1, .int v1), (2, .int v2)] := hl
  have hJ59 : ∀ (v6 : Int32) (H : Heap) (locs : List Loc) (ls : Array Slot), lv_has ls 7 [(6, .int v6)] → gw_I D (tC g ad) 83 ad A s.heap t0 H locs → fX7_costOf_J59 v6 t0 = some r0 → W p l e rmX7_costOf s m args below meth c H locs 0 0 (MQ below (gw_Qi D (tC g ad) 83 ad A r0 t0) args s 0 0 A) (F0 m 59 ls []) := by
    intro v6 H locs ls hl I hF
    unfold fX7_costOf_J59 at hF
    refine lv_bipush (v := 20) hx hb dX7_costOf_59 (by decide) ?_
    refine lv_iload hx hb dX7_costOf_61 (lv_at hl 0 rfl) ?_
    refine lv_bipush (v := 10) hx hb dX7_costOf_63 (by decide) ?_
    refine lv_idiv hx hb dX7_costOf_65 (by decide) ?_
    refine lv_iadd hx hb dX7_costOf_66 ?_
    exact gw_iret E I hr hlocks rfl (Option.some.inj hF) rfl dX7_costOf_67
  refine lv_iload_n hx hb dX7_costOf_0 rfl (lv_at hl 0 rfl) ?_
  refine lv_iload_n hx hb dX7_costOf_1 rfl (lv_at hl 1 rfl) ?_
  refine lv_iload_n hx hb dX7_costOf_2 rfl (lv_at hl 2 rfl) ?_
  refine lv_iconst (v := 0) hx hb dX7_costOf_3 (by decide) ?_
  replace hF := gw_bdE hF
  obtain ⟨r4, e4, hF⟩ := hF
  refine gw_calli I (gw_runS E I (ok_X7_tenthsOf l hD t0 v0 v1 v2 0 _ e4) (va_cwS 4 E.1.2.2.2.2 gX7_costOf_X7_tenthsOf rfl rfl rfl (by decide +kernel) ⟨Nat.le_of_ble_eq_true rfl, Nat.le_of_ble_eq_true rfl⟩) rfl hl.1 rfl (Nat.le_of_ble_eq_true rfl) dX7_costOf_4) (fun H locs I => ?_)
  refine lv_istore_n (lv' := [(3, .int r4), (0, .int v0), (1, .int v1), (2, .int v2)]) hx hb dX7_costOf_7 rfl hl (by decide) rfl (fun ls hl => ?_)
  refine lv_iload_n hx hb dX7_costOf_8 rfl (lv_at hl 1 rfl) ?_
  refine lv_iload_n hx hb dX7_costOf_9 rfl (lv_at hl 2 rfl) ?_
  refine lv_iload_n hx hb dX7_costOf_10 rfl (lv_at hl 3 rfl) ?_
  refine lv_iconst (v := 1) hx hb dX7_costOf_11 (by decide) ?_
  replace hF := gw_bdE hF
  obtain ⟨r12, e12, hF⟩ := hF
  refine gw_calli I (gw_runS E I (ok_X7_tenthsOf l hD t0 v0 v1 v2 1 _ e12) (va_cwS 4 E.1.2.2.2.2 gX7_costOf_X7_tenthsOf rfl rfl rfl (by decide +kernel) ⟨Nat.le_of_ble_eq_true rfl, Nat.le_of_ble_eq_true rfl⟩) rfl hl.1 rfl (Nat.le_of_ble_eq_true rfl) dX7_costOf_12) (fun H locs I => ?_)
  refine lv_istore (lv' := [(4, .int r12), (3, .int r4), (0, .int v0), (1, .int v1), (2, .int v2)]) hx hb dX7_costOf_15 hl (by decide) rfl (fun ls hl => ?_)
  refine lv_iload_n hx hb dX7_costOf_17 rfl (lv_at hl 2 rfl) ?_
  refine lv_iload_n hx hb dX7_costOf_18 rfl (lv_at hl 3 rfl) ?_
  refine lv_iload_n hx hb dX7_costOf_19 rfl (lv_at hl 4 rfl) ?_
  refine lv_iconst (v := 2) hx hb dX7_costOf_20 (by decide) ?_
  replace hF := gw_bdE hF
  obtain ⟨r21, e21, hF⟩ := hF
  refine gw_calli I (gw_runS E I (ok_X7_tenthsOf l hD t0 v0 v1 v2 2 _ e21) (va_cwS 4 E.1.2.2.2.2 gX7_costOf_X7_tenthsOf rfl rfl rfl (by decide +kernel) ⟨Nat.le_of_ble_eq_true rfl, Nat.le_of_ble_eq_true rfl⟩) rfl hl.1 rfl (Nat.le_of_ble_eq_true rfl) dX7_costOf_21) (fun H locs I => ?_)
  refine lv_istore (lv' := [(5, .int r21), (4, .int r12), (3, .int r4), (0, .int v0), (1, .int v1), (2, .int v2)]) hx hb dX7_costOf_24 hl (by decide) rfl (fun ls hl => ?_)
  refine lv_sipush (v := 600) hx hb dX7_costOf_26 (by decide) ?_
  refine lv_iload hx hb dX7_costOf_29 (lv_at hl 1 rfl) ?_
  refine lv_imul hx hb dX7_costOf_31 ?_
  refine lv_iload_n hx hb dX7_costOf_32 rfl (lv_at hl 4 rfl) ?_
  refine gw_calli I (gw_runS E I (ok_X7_carryTenths l hD t0 v1 _ rfl) (va_cwS 1 E.1.2.2.2.2 gX7_costOf_X7_carryTenths rfl rfl rfl (by decide +kernel) ⟨Nat.le_of_ble_eq_true rfl, Nat.le_of_ble_eq_true rfl⟩) rfl hl.1 rfl (Nat.le_of_ble_eq_true rfl) dX7_costOf_33) (fun H locs I => ?_)
  refine lv_iload hx hb dX7_costOf_36 (lv_at hl 0 rfl) ?_
  refine lv_imul hx hb dX7_costOf_38 ?_
  refine lv_iadd hx hb dX7_costOf_39 ?_
  replace hF := gw_nmE hF
  obtain ⟨v6_40, ev6_40, hF⟩ := hF
  refine gw_topi ev6_40 ?_
  refine lv_istore (lv' := [(6, .int v6_40), (5, .int r21), (4, .int r12), (3, .int r4), (0, .int v0), (1, .int v1), (2, .int v2)]) hx hb dX7_costOf_40 hl (by decide) rfl (fun ls hl => ?_)
  refine lv_iload_n hx hb dX7_costOf_42 rfl (lv_at hl 4 rfl) ?_
  refine lv_iconst (v := 3) hx hb dX7_costOf_43 (by decide) ?_
  refine lv_icmp_ne (tgt := 59) hx hb dX7_costOf_44 (by decide) (fun c44 => ?_) (fun c44 => ?_)
  · replace hF := gw_if0 c44 hF
    exact hJ59 v6_40 _ _ _ (lv_sub hl [0] rfl) I hF
  · replace hF := gw_if1 c44 hF
    refine lv_iload hx hb dX7_costOf_47 (lv_at hl 0 rfl) ?_
    refine lv_bipush (v := 90) hx hb dX7_costOf_49 (by decide) ?_
    refine lv_iload_n hx hb dX7_costOf_51 rfl (lv_at hl 3 rfl) ?_
    refine lv_iload hx hb dX7_costOf_52 (lv_at hl 2 rfl) ?_
    refine lv_iadd hx hb dX7_costOf_54 ?_
    refine lv_imul hx hb dX7_costOf_55 ?_
    refine lv_iadd hx hb dX7_costOf_56 ?_
    replace hF := gw_nmE hF
    obtain ⟨v6_57, ev6_57, hF⟩ := hF
    refine gw_topi ev6_57 ?_
    refine lv_istore (lv' := [(6, .int v6_57), (5, .int r21), (4, .int r12), (3, .int r4), (0, .int v0), (1, .int v1), (2, .int v2)]) hx hb dX7_costOf_57 hl (by decide) rfl (fun ls hl => ?_)
    exact hJ59 v6_57 _ _ _ (lv_sub hl [0] rfl) I hF
