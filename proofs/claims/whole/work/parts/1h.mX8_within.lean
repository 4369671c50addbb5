/-! The contracts: each method does what its function says: written by wip/whole/genall.py. -/
abbrev rmX8_within : Room := { frames := 0, cells := 0, slots := 0, locals := 0 }
set_option maxHeartbeats 4000000 in
set_option maxRecDepth 100000 in
theorem ok_X8_within (l : Launch) {D : va_G} {g : gw_G} {tG : Nat} {ad : Nat → Nat} {A : Nat → Prop} (hD : gw_D A 23 ad) (t0 : gw_S) (v0 : Int32) (v1 : Int32) (v2 : Int32) (r0 : Int32) (hF : fX8_within v0 v1 v2 t0 = r0) : Met l yX8_within wsX8_within rmX8_within (gw_Pc D g tG (tM g ad) 23 ad A [.int v0, .int v1, .int v2] t0) (gw_Qi D (tM g ad) 23 ad A r0 t0) 0 0 A := by
  unfold fX8_within at hF
  refine gw_met (by decide) rfl hD (Nat.le_of_ble_eq_true rfl) (fun p e s m args below meth c E hr hlocks I ls hl => ?_)
  have hx := E.1.1
  have hb := E.1.2.1
  have hl : lv_has ls 3 [(0, .int v0), (1, .int v1), (2, .int v2)] := hl
  refine lv_iload_n hx hb dX8_within_0 rfl (lv_at hl 0 rfl) ?_
  refine lv_iload_n hx hb dX8_within_1 rfl (lv_at hl 1 rfl) ?_
  refine lv_icmp_lt (tgt := 14) hx hb dX8_within_2 (by decide) (fun c2 => ?_) (fun c2 => ?_)
  · replace hF := gw_if1 c2 hF
    refine lv_iconst (v := 0) hx hb dX8_within_14 (by decide) ?_
    exact gw_iret E I hr hlocks rfl hF rfl dX8_within_15
  · replace hF := gw_if0 c2 hF
    refine lv_iload_n hx hb dX8_within_5 rfl (lv_at hl 0 rfl) ?_
    refine lv_iload_n hx hb dX8_within_6 rfl (lv_at hl 2 rfl) ?_
    refine lv_icmp_gt (tgt := 14) hx hb dX8_within_7 (by decide) (fun c7 => ?_) (fun c7 => ?_)
    · replace hF := gw_if1 c7 hF
      refine lv_iconst (v := 0) hx hb dX8_within_14 (by decide) ?_
      exact gw_iret E I hr hlocks rfl hF rfl dX8_within_15
    · replace hF := gw_if0 c7 hF
      refine lv_iconst (v := 1) hx hb dX8_within_10 (by decide) ?_
      refine lv_goto (tgt := 15) hx hb dX8_within_11 (by decide) ?_
      exact gw_iret E I hr hlocks rfl hF rfl dX8_within_15
abbrev rmX8_letter : Room := { frames := 1, cells := 0, slots := 0, locals := 22 }
theorem lk_X8_letter_46 : Cond.fieldLink RX8 46 "ThrownSacksModel" "page" "[B" ∈ wsX8_letter := by decide +kernel
theorem lk_X8_letter_81 : Cond.fieldLink RX8 81 "ThrownSacksModel" "pageLength" "I" ∈ wsX8_letter := by decide +kernel
theorem in_X8_letter_X8 : ∀ w ∈ u_ws RX8 TX8 42, w ∈ wsX8_letter := by decide +kernel
set_option maxHeartbeats 4000000 in
set_option maxRecDepth 100000 in
theorem ok_X8_letter (l : Launch) {D : va_G} {g : gw_G} {tG : Nat} {ad : Nat → Nat} {A : Nat → Prop} (hD : gw_D A 23 ad) (t0 : gw_S) (v1 : Int32) (r0 : Int32) (tz : gw_S) (hF : fX8_letter v1 t0 = some (r0, tz)) : Met l yX8_letter wsX8_letter rmX8_letter (gw_Pc D g tG (tM g ad) 23 ad A [.ref (ad 0), .int v1] t0) (gw_Qi D (tM g ad) 23 ad A r0 tz) 0 0 A := by
  unfold fX8_letter at hF
  refine gw_met (by decide) rfl hD (Nat.le_of_ble_eq_true rfl) (fun p e s m args below meth c E hr hlocks I ls hl => ?_)
  have hx := E.1.1
  have hb := E.1.2.1
  have hl : lv_has ls 2 [(0, .ref (ad 0)), (1, .int v1)] := hl
  refine lv_iload_n hx hb dX8_letter_0 rfl (lv_at hl 1 rfl) ?_
  refine lv_bipush (v := 32) hx hb dX8_letter_1 (by decide) ?_
  refine lv_bipush (v := 126) hx hb dX8_letter_3 (by decide) ?_
  refine gw_calli I (gw_runS E I (ok_X8_within l hD t0 v1 32 126 _ rfl) (va_cwS 3 E.1.2.2.2.2 gX8_letter_X8_within rfl rfl rfl (by decide +kernel) ⟨Nat.le_of_ble_eq_true rfl, Nat.le_of_ble_eq_true rfl⟩) rfl hl.1 rfl (Nat.le_of_ble_eq_true rfl) dX8_letter_5) (fun H locs I => ?_)
  refine lv_if_ne (tgt := 14) hx hb dX8_letter_8 (by decide) (fun c8 => ?_) (fun c8 => ?_)
  · replace hF := gw_if0 c8 hF
    refine lv_aload_n hx hb dX8_letter_14 rfl (lv_at hl 0 rfl) ?_
    refine gf_M_0_18 E I in_X8_letter_X8 lk_X8_letter_81 dX8_letter_15 ?_
    refine lv_bipush (v := 24) hx hb dX8_letter_18 (by decide) ?_
    refine lv_icmp_ne (tgt := 26) hx hb dX8_letter_20 (by decide) (fun c20 => ?_) (fun c20 => ?_)
    · replace hF := gw_if0 c20 hF
      refine lv_aload_n hx hb dX8_letter_26 rfl (lv_at hl 0 rfl) ?_
      refine gf_M_0_19 E I in_X8_letter_X8 lk_X8_letter_46 dX8_letter_27 ?_
      refine lv_aload_n hx hb dX8_letter_30 rfl (lv_at hl 0 rfl) ?_
      refine gf_M_0_18 E I in_X8_letter_X8 lk_X8_letter_81 dX8_letter_31 ?_
      refine lv_iload_n hx hb dX8_letter_34 rfl (lv_at hl 1 rfl) ?_
      refine lv_i2b hx hb dX8_letter_35 rfl ?_
      replace hF := gw_ifn hF
      obtain ⟨hz36, hF⟩ := hF
      replace hF := gw_nmE hF
      obtain ⟨t_36, et_36, hF⟩ := hF
      refine gw_bast E I 13 (by decide) (fun _ => rfl) hz36 et_36 dX8_letter_36 (fun H locs I => ?_)
      refine lv_aload_n hx hb dX8_letter_37 rfl (lv_at hl 0 rfl) ?_
      refine lv_dup hx hb dX8_letter_38 rfl ?_
      refine gf_M_0_18 E I in_X8_letter_X8 lk_X8_letter_81 dX8_letter_39 ?_
      refine lv_iconst (v := 1) hx hb dX8_letter_42 (by decide) ?_
      refine lv_iadd hx hb dX8_letter_43 ?_
      replace hF := gw_nmE hF
      obtain ⟨t_44, et_44, hF⟩ := hF
      refine gp_M_0_18 E I in_X8_letter_X8 lk_X8_letter_81 et_44 dX8_letter_44 (fun H locs I => ?_)
      refine lv_aload_n hx hb dX8_letter_47 rfl (lv_at hl 0 rfl) ?_
      refine gf_M_0_18 E I in_X8_letter_X8 lk_X8_letter_81 dX8_letter_48 ?_
      exact gw_iret E I hr hlocks rfl (Prod.mk.inj (Option.some.inj hF)).1 (Prod.mk.inj (Option.some.inj hF)).2 dX8_letter_51
    · replace hF := gw_if1 c20 hF
      refine lv_bipush (v := (-104)) hx hb dX8_letter_23 (by decide) ?_
      exact gw_iret E I hr hlocks rfl (Prod.mk.inj (Option.some.inj hF)).1 (Prod.mk.inj (Option.some.inj hF)).2 dX8_letter_25
  · replace hF := gw_if1 c8 hF
    refine lv_bipush (v := (-102)) hx hb dX8_letter_11 (by decide) ?_
    exact gw_iret E I hr hlocks rfl (Prod.mk.inj (Option.some.inj hF)).1 (Prod.mk.inj (Option.some.inj hF)).2 dX8_letter_13
abbrev rmX8_blank : Room := { frames := 0, cells := 0, slots := 0, locals := 0 }
theorem lk_X8_blank_81 : Cond.fieldLink RX8 81 "ThrownSacksModel" "pageLength" "I" ∈ wsX8_blank := by decide +kernel
theorem in_X8_blank_X8 : ∀ w ∈ u_ws RX8 TX8 42, w ∈ wsX8_blank := by decide +kernel
set_option maxHeartbeats 4000000 in
set_option maxRecDepth 100000 in
theorem ok_X8_blank (l : Launch) {D : va_G} {g : gw_G} {tG : Nat} {ad : Nat → Nat} {A : Nat → Prop} (hD : gw_D A 23 ad) (t0 : gw_S) (r0 : Int32) (tz : gw_S) (hF : fX8_blank t0 = some (r0, tz)) : Met l yX8_blank wsX8_blank rmX8_blank (gw_Pc D g tG (tM g ad) 23 ad A [.ref (ad 0)] t0) (gw_Qi D (tM g ad) 23 ad A r0 tz) 0 0 A := by
  unfold fX8_blank at hF
  refine gw_met (by decide) rfl hD (Nat.le_of_ble_eq_true rfl) (fun p e s m args below meth c E hr hlocks I ls hl => ?_)
  have hx := E.1.1
  have hb := E.1.2.1
  have hl : lv_has ls 2 [(0, .ref (ad 0))] := hl
  refine lv_aload_n hx hb dX8_blank_0 rfl (lv_at hl 0 rfl) ?_
  refine gf_M_0_18 E I in_X8_blank_X8 lk_X8_blank_81 dX8_blank_1 ?_
  replace hF := gw_nmE hF
  obtain ⟨v1_4, ev1_4, hF⟩ := hF
  refine gw_topi ev1_4 ?_
  refine lv_istore_n (lv' := [(1, .int v1_4), (0, .ref (ad 0))]) hx hb dX8_blank_4 rfl hl (by decide) rfl (fun ls hl => ?_)
  refine lv_aload_n hx hb dX8_blank_5 rfl (lv_at hl 1 rfl) ?_
  refine lv_iconst (v := 0) hx hb dX8_blank_6 (by decide) ?_
  replace hF := gw_nmE hF
  obtain ⟨t_7, et_7, hF⟩ := hF
  refine gp_M_0_18 E I in_X8_blank_X8 lk_X8_blank_81 et_7 dX8_blank_7 (fun H locs I => ?_)
  refine lv_iload_n hx hb dX8_blank_10 rfl (lv_at hl 0 rfl) ?_
  exact gw_iret E I hr hlocks rfl (Prod.mk.inj (Option.some.inj hF)).1 (Prod.mk.inj (Option.some.inj hF)).2 dX8_blank_11
abbrev rmX8_isFigure : Room := { frames := 1, cells := 0, slots := 0, locals := 22 }
theorem lk_X8_isFigure_46 : Cond.fieldLink RX8 46 "ThrownSacksModel" "page" "[B" ∈ wsX8_isFigure := by decide +kernel
theorem lk_X8_isFigure_81 : Cond.fieldLink RX8 81 "ThrownSacksModel" "pageLength" "I" ∈ wsX8_isFigure := by decide +kernel
theorem in_X8_isFigure_X8 : ∀ w ∈ u_ws RX8 TX8 42, w ∈ wsX8_isFigure := by decide +kernel
set_option maxHeartbeats 4000000 in
set_option maxRecDepth 100000 in
theorem ok_X8_isFigure (l : Launch) {D : va_G} {g : gw_G} {tG : Nat} {ad : Nat → Nat} {A : Nat → Prop} (hD : gw_D A 23 ad) (t0 : gw_S) (v1 : Int32) (v2 : Int32) (v3 : Int32) (r0 : Int32) (hF : fX8_isFigure v1 v2 v3 t0 = some r0) : Met l yX8_isFigure wsX8_isFigure rmX8_isFigure (gw_Pc D g tG (tM g ad) 23 ad A [.ref (ad 0), .int v1, .int v2, .int v3] t0) (gw_Qi D (tM g ad) 23 ad A r0 t0) 0 0 A := by
  unfold fX8_isFigure at hF
  refine gw_met (by decide) rfl hD (Nat.le_of_ble_eq_true rfl) (fun p e s m args below meth c E hr hlocks I ls hl => ?_)
  have hx := E.1.1
  have hb := E.1.2.1
  have hl : lv_has ls 4 [(0, .ref (ad 0)), (1, .int v1), (2, .int v2), (3, .int v3)] := hl
  refine lv_iload_n hx hb dX8_isFigure_0 rfl (lv_at hl 1 rfl) ?_
  refine lv_aload_n hx hb dX8_isFigure_1 rfl (lv_at hl 0 rfl) ?_
  refine gf_M_0_18 E I in_X8_isFigure_X8 lk_X8_isFigure_81 dX8_isFigure_2 ?_
  refine lv_icmp_ge (tgt := 29) hx hb dX8_isFigure_5 (by decide) (fun c5 => ?_) (fun c5 => ?_)
  · replace hF := gw_if1 c5 hF
    refine lv_iconst (v := 0) hx hb dX8_isFigure_29 (by decide) ?_
    exact gw_iret E I hr hlocks rfl (Option.some.inj hF) rfl dX8_isFigure_30
  · replace hF := gw_if0 c5 hF
    refine lv_aload_n hx hb dX8_isFigure_8 rfl (lv_at hl 0 rfl) ?_
    refine gf_M_0_19 E I in_X8_isFigure_X8 lk_X8_isFigure_46 dX8_isFigure_9 ?_
    refine lv_iload_n hx hb dX8_isFigure_12 rfl (lv_at hl 1 rfl) ?_
    replace hF := gw_ifn hF
    obtain ⟨hz13, hF⟩ := hF
    refine gw_bald E I 13 (by decide) rfl hz13 dX8_isFigure_13 ?_
    refine lv_bipush (v := 48) hx hb dX8_isFigure_14 (by decide) ?_
    refine lv_isub hx hb dX8_isFigure_16 ?_
    refine lv_iload_n hx hb dX8_isFigure_17 rfl (lv_at hl 2 rfl) ?_
    refine lv_iload_n hx hb dX8_isFigure_18 rfl (lv_at hl 3 rfl) ?_
    refine gw_calli I (gw_runS E I (ok_X8_within l hD t0 ((rdI t0 13 (Int32.toNatClampNeg v1)) - 48) v2 v3 _ rfl) (va_cwS 3 E.1.2.2.2.2 gX8_isFigure_X8_within rfl rfl rfl (by decide +kernel) ⟨Nat.le_of_ble_eq_true rfl, Nat.le_of_ble_eq_true rfl⟩) rfl hl.1 rfl (Nat.le_of_ble_eq_true rfl) dX8_isFigure_19) (fun H locs I => ?_)
    refine lv_if_eq (tgt := 29) hx hb dX8_isFigure_22 (by decide) (fun c22 => ?_) (fun c22 => ?_)
    · replace hF := gw_if1 c22 hF
      refine lv_iconst (v := 0) hx hb dX8_isFigure_29 (by decide) ?_
      exact gw_iret E I hr hlocks rfl (Option.some.inj hF) rfl dX8_isFigure_30
    · replace hF := gw_if0 c22 hF
      refine lv_iconst (v := 1) hx hb dX8_isFigure_25 (by decide) ?_
      refine lv_goto (tgt := 30) hx hb dX8_isFigure_26 (by decide) ?_
      exact gw_iret E I hr hlocks rfl (Option.some.inj hF) rfl dX8_isFigure_30
abbrev rmX8_isSign : Room := { frames := 0, cells := 0, slots := 0, locals := 0 }
theorem lk_X8_isSign_46 : Cond.fieldLink RX8 46 "ThrownSacksModel" "page" "[B" ∈ wsX8_isSign := by decide +kernel
theorem lk_X8_isSign_81 : Cond.fieldLink RX8 81 "ThrownSacksModel" "pageLength" "I" ∈ wsX8_isSign := by decide +kernel
theorem in_X8_isSign_X8 : ∀ w ∈ u_ws RX8 TX8 42, w ∈ wsX8_isSign := by decide +kernel
set_option maxHeartbeats 4000000 in
set_option maxRecDepth 100000 in
theorem ok_X8_isSign (l : Launch) {D : va_G} {g : gw_G} {tG : Nat} {ad : Nat → Nat} {A : Nat → Prop} (hD : gw_D A 23 ad) (t0 : gw_S) (v1 : Int32) (v2 : Int32) (r0 : Int32) (hF : fX8_isSign v1 v2 t0 = some r0) : Met l yX8_isSign wsX8_isSign rmX8_isSign (gw_Pc D g tG (tM g ad) 23 ad A [.ref (ad 0), .int v1, .int v2] t0) (gw_Qi D (tM g ad) 23 ad A r0 t0) 0 0 A := by
  unfold fX8_isSign at hF
  refine gw_met (by decide) rfl hD (Nat.le_of_ble_eq_true rfl) (fun p e s m args below meth c E hr hlocks I ls hl => ?_)
  have hx := E.1.1
  have hb := E.1.2.1
  have hl : lv_has ls 3 [(0, .ref (ad 0)), (1, .int v1), (2, .int v2)] := hl
  refine lv_iload_n hx hb dX8_isSign_0 rfl (lv_at hl 1 rfl) ?_
  refine lv_aload_n hx hb dX8_isSign_1 rfl (lv_at hl 0 rfl) ?_
  refine gf_M_0_18 E I in_X8_isSign_X8 lk_X8_isSign_81 dX8_isSign_2 ?_
  refine lv_icmp_ge (tgt := 22) hx hb dX8_isSign_5 (by decide) (fun c5 => ?_) (fun c5 => ?_)
  · replace hF := gw_if1 c5 hF
    refine lv_iconst (v := 0) hx hb dX8_isSign_22 (by decide) ?_
    exact gw_iret E I hr hlocks rfl (Option.some.inj hF) rfl dX8_isSign_23
  · replace hF := gw_if0 c5 hF
    refine lv_aload_n hx hb dX8_isSign_8 rfl (lv_at hl 0 rfl) ?_
    refine gf_M_0_19 E I in_X8_isSign_X8 lk_X8_isSign_46 dX8_isSign_9 ?_
    refine lv_iload_n hx hb dX8_isSign_12 rfl (lv_at hl 1 rfl) ?_
    replace hF := gw_ifn hF
    obtain ⟨hz13, hF⟩ := hF
    refine gw_bald E I 13 (by decide) rfl hz13 dX8_isSign_13 ?_
    refine lv_iload_n hx hb dX8_isSign_14 rfl (lv_at hl 2 rfl) ?_
    refine lv_icmp_ne (tgt := 22) hx hb dX8_isSign_15 (by decide) (fun c15 => ?_) (fun c15 => ?_)
    · replace hF := gw_if0 c15 hF
      refine lv_iconst (v := 0) hx hb dX8_isSign_22 (by decide) ?_
      exact gw_iret E I hr hlocks rfl (Option.some.inj hF) rfl dX8_isSign_23
    · replace hF := gw_if1 c15 hF
      refine lv_iconst (v := 1) hx hb dX8_isSign_18 (by decide) ?_
      refine lv_goto (tgt := 23) hx hb dX8_isSign_19 (by decide) ?_
      exact gw_iret E I hr hlocks rfl (Option.some.inj hF) rfl dX8_isSign_23
abbrev rmX8_readOften : Room := { frames := 2, cells := 0, slots := 0, locals := 45 }
theorem lk_X8_readOften_81 : Cond.fieldLink RX8 81 "ThrownSacksModel" "pageLength" "I" ∈ wsX8_readOften := by decide +kernel
theorem lk_X8_readOften_85 : Cond.fieldLink RX8 85 "ThrownSacksModel" "newMany" "I" ∈ wsX8_readOften := by decide +kernel
theorem lk_X8_readOften_88 : Cond.fieldLink RX8 88 "ThrownSacksModel" "isWhole" "Z" ∈ wsX8_readOften := by decide +kernel
theorem lk_X8_readOften_92 : Cond.fieldLink RX8 92 "ThrownSacksModel" "faultAt" "I" ∈ wsX8_readOften := by decide +kernel
theorem in_X8_readOften_X8 : ∀ w ∈ u_ws RX8 TX8 42, w ∈ wsX8_readOften := by decide +kernel
set_option maxHeartbeats 4000000 in
set_option maxRecDepth 100000 in
theorem ok_X8_readOften (l : Launch) {D : va_G} {g : gw_G} {tG : Nat} {ad : Nat → Nat} {A : Nat → Prop} (hD : gw_D A 23 ad) (t0 : gw_S) (v1 : Int32) (tz : gw_S) (hF : fX8_readOften v1 t0 = some tz) : Met l yX8_readOften wsX8_readOften rmX8_readOften (gw_Pc D g tG (tM g ad) 23 ad A [.ref (ad 0), .int v1] t0) (gw_Qv D (tM g ad) 23 ad A tz) 0 0 A := by
  unfold fX8_readOften at hF
  refine gw_met (by decide) rfl hD (Nat.le_of_ble_eq_true rfl) (fun p e s m args below meth c E hr hlocks I ls hl => ?_)
  have hx := E.1.1
  have hb := E.1.2.1
  have hl : lv_has ls 3 [(0, .ref (ad 0)), (1, .int v1)] := hl
  have hJ58 : ∀ (x1 : Int32) (t : gw_S) (H : Heap) (locs : List Loc) (ls : Array Slot), lv_has ls 3 [] → gw_I D (tM g ad) 23 ad A s.heap t H locs → fX8_readOften_J58 x1 t = some tz → W p l e rmX8_readOften s m args below meth c H locs 0 0 (MQ below (gw_Qv D (tM g ad) 23 ad A tz) args s 0 0 A) (F0 m 58 ls [.int x1, .ref (ad 0)]) := by
    intro x1 t H locs ls hl I hF
    unfold fX8_readOften_J58 at hF
    replace hF := gw_ifn hF
    obtain ⟨hz58, hF⟩ := hF
    replace hF := gw_nmE hF
    obtain ⟨t_58, et_58, hF⟩ := hF
    refine gp_M_0_21 E I in_X8_readOften_X8 lk_X8_readOften_88 hz58 et_58 dX8_readOften_58 (fun H locs I => ?_)
    exact gw_vret E I hr hlocks (Option.some.inj hF) dX8_readOften_61
  have hJ57 : ∀ (t : gw_S) (H : Heap) (locs : List Loc) (ls : Array Slot), lv_has ls 3 [] → gw_I D (tM g ad) 23 ad A s.heap t H locs → fX8_readOften_J57 t = some tz → W p l e rmX8_readOften s m args below meth c H locs 0 0 (MQ below (gw_Qv D (tM g ad) 23 ad A tz) args s 0 0 A) (F0 m 57 ls [.ref (ad 0)]) := by
    intro t H locs ls hl I hF
    unfold fX8_readOften_J57 at hF
    refine lv_iconst (v := 0) hx hb dX8_readOften_57 (by decide) ?_
    exact hJ58 0 t _ _ _ (lv_sub hl [] rfl) I hF
  have hL2 : ∀ (Kx : Int32 → gw_S → Option (gw_S)) (v1 : Int32), (∀ (v2 : Int32) (t : gw_S) (H : Heap) (locs : List Loc) (ls : Array Slot), lv_has ls 3 [(0, .ref (ad 0)), (1, .int v1), (2, .int v2)] → gw_I D (tM g ad) 23 ad A s.heap t H locs → Kx v2 t = some tz → W p l e rmX8_readOften s m args below meth c H locs 0 0 (MQ below (gw_Qv D (tM g ad) 23 ad A tz) args s 0 0 A) (F0 m 29 ls [])) → ∀ (n : Nat) (v2 : Int32) (t : gw_S) (H : Heap) (locs : List Loc) (ls : Array Slot), lv_has ls 3 [(0, .ref (ad 0)), (1, .int v1), (2, .int v2)] → gw_I D (tM g ad) 23 ad A s.heap t H locs → fX8_readOften_L2 Kx v1 n v2 t = some tz → W p l e rmX8_readOften s m args below meth c H locs 0 0 (MQ below (gw_Qv D (tM g ad) 23 ad A tz) args s 0 0 A) (F0 m 2 ls []) := by
    intro Kx v1 hKx n
    induction n with
    | zero =>
      intro v2 t H locs ls hl I hF
      rw [fX8_readOften_L2] at hF
      cases hF
    | succ n ih =>
      intro v2 t H locs ls hl I hF
      rw [fX8_readOften_L2] at hF
      refine lv_iload_n hx hb dX8_readOften_2 rfl (lv_at hl 2 rfl) ?_
      refine lv_iload_n hx hb dX8_readOften_3 rfl (lv_at hl 1 rfl) ?_
      refine lv_aload_n hx hb dX8_readOften_4 rfl (lv_at hl 0 rfl) ?_
      refine gf_M_0_22 E I in_X8_readOften_X8 lk_X8_readOften_85 dX8_readOften_5 ?_
      refine lv_iadd hx hb dX8_readOften_8 ?_
      refine lv_icmp_ge (tgt := 29) hx hb dX8_readOften_9 (by decide) (fun c9 => ?_) (fun c9 => ?_)
      · replace hF := gw_if1 c9 hF
        exact hKx v2 t _ _ _ (lv_sub hl [0, 1, 2] rfl) I hF
      · replace hF := gw_if0 c9 hF
        refine lv_aload_n hx hb dX8_readOften_12 rfl (lv_at hl 0 rfl) ?_
        refine lv_iload_n hx hb dX8_readOften_13 rfl (lv_at hl 2 rfl) ?_
        refine lv_iconst (v := 0) hx hb dX8_readOften_14 (by decide) ?_
        refine lv_bipush (v := 9) hx hb dX8_readOften_15 (by decide) ?_
        replace hF := gw_bdE hF
        obtain ⟨r17, e17, hF⟩ := hF
        refine gw_calli I (gw_runV E I (ok_X8_isFigure l hD t v2 0 9 _ e17) (cwV 3 E.1.2.2.2.2 gX8_readOften_X8_isFigure rfl rfl rfl (by decide +kernel) ⟨Nat.le_of_ble_eq_true rfl, Nat.le_of_ble_eq_true rfl⟩) (by decide) rfl rfl rfl hl.1 rfl (Nat.le_of_ble_eq_true rfl) dX8_readOften_17) (fun H locs I => ?_)
        refine lv_if_eq (tgt := 29) hx hb dX8_readOften_20 (by decide) (fun c20 => ?_) (fun c20 => ?_)
        · replace hF := gw_if1 c20 hF
          exact hKx v2 t _ _ _ (lv_sub hl [0, 1, 2] rfl) I hF
        · replace hF := gw_if0 c20 hF
          replace hF := gw_nmE hF
          obtain ⟨v2_23, ev2_23, hF⟩ := hF
          refine lv_iinc (v := v2_23) (lv' := [(2, .int v2_23), (0, .ref (ad 0)), (1, .int v1)]) hx hb dX8_readOften_23 hl (k := 2) rfl (by subst ev2_23; rfl) (by decide) rfl (fun ls hl => ?_)
          refine lv_goto (tgt := 2) hx hb dX8_readOften_26 (by decide) ?_
          exact ih v2_23 t _ _ _ (lv_sub hl [1, 2, 0] rfl) I hF
  refine lv_iload_n hx hb dX8_readOften_0 rfl (lv_at hl 1 rfl) ?_
  refine lv_istore_n (lv' := [(2, .int v1), (0, .ref (ad 0)), (1, .int v1)]) hx hb dX8_readOften_1 rfl hl (by decide) rfl (fun ls hl => ?_)
  refine hL2 _ v1 (fun v2_x2 t_x2 H locs ls hl I hF => ?_) 2000 v1 t0 _ _ _ (lv_sub hl [1, 2, 0] rfl) I hF
  refine lv_aload_n hx hb dX8_readOften_29 rfl (lv_at hl 0 rfl) ?_
  refine lv_iload_n hx hb dX8_readOften_30 rfl (lv_at hl 2 rfl) ?_
  replace hF := gw_nmE hF
  obtain ⟨t_31, et_31, hF⟩ := hF
  refine gp_M_0_20 E I in_X8_readOften_X8 lk_X8_readOften_92 et_31 dX8_readOften_31 (fun H locs I => ?_)
  refine lv_aload_n hx hb dX8_readOften_34 rfl (lv_at hl 0 rfl) ?_
  refine lv_iload_n hx hb dX8_readOften_35 rfl (lv_at hl 2 rfl) ?_
  refine lv_iload_n hx hb dX8_readOften_36 rfl (lv_at hl 1 rfl) ?_
  refine lv_aload_n hx hb dX8_readOften_37 rfl (lv_at hl 0 rfl) ?_
  refine gf_M_0_22 E I in_X8_readOften_X8 lk_X8_readOften_85 dX8_readOften_38 ?_
  refine lv_iadd hx hb dX8_readOften_41 ?_
  refine lv_icmp_ne (tgt := 57) hx hb dX8_readOften_42 (by decide) (fun c42 => ?_) (fun c42 => ?_)
  · replace hF := gw_if0 c42 hF
    exact hJ57 t_31 _ _ _ (lv_sub hl [] rfl) I hF
  · replace hF := gw_if1 c42 hF
    refine lv_iload_n hx hb dX8_readOften_45 rfl (lv_at hl 2 rfl) ?_
    refine lv_aload_n hx hb dX8_readOften_46 rfl (lv_at hl 0 rfl) ?_
    refine gf_M_0_18 E I in_X8_readOften_X8 lk_X8_readOften_81 dX8_readOften_47 ?_
    refine lv_icmp_ne (tgt := 57) hx hb dX8_readOften_50 (by decide) (fun c50 => ?_) (fun c50 => ?_)
    · replace hF := gw_if0 c50 hF
      exact hJ57 t_31 _ _ _ (lv_sub hl [] rfl) I hF
    · replace hF := gw_if1 c50 hF
      refine lv_iconst (v := 1) hx hb dX8_readOften_53 (by decide) ?_
      refine lv_goto (tgt := 58) hx hb dX8_readOften_54 (by decide) ?_
      exact hJ58 1 t_31 _ _ _ (lv_sub hl [] rfl) I hF
abbrev rmX8_read : Room := { frames := 3, cells := 0, slots := 0, locals := 67 }
theorem lk_X8_read_85 : Cond.fieldLink RX8 85 "ThrownSacksModel" "newMany" "I" ∈ wsX8_read := by decide +kernel
theorem lk_X8_read_88 : Cond.fieldLink RX8 88 "ThrownSacksModel" "isWhole" "Z" ∈ wsX8_read := by decide +kernel
theorem lk_X8_read_92 : Cond.fieldLink RX8 92 "ThrownSacksModel" "faultAt" "I" ∈ wsX8_read := by decide +kernel
theorem in_X8_read_X8 : ∀ w ∈ u_ws RX8 TX8 42, w ∈ wsX8_read := by decide +kernel
set_option maxHeartbeats 4000000 in
set_option maxRecDepth 100000 in
theorem ok_X8_read (l : Launch) {D : va_G} {g : gw_G} {tG : Nat} {ad : Nat → Nat} {A : Nat → Prop} (hD : gw_D A 23 ad) (t0 : gw_S) (tz : gw_S) (hF : fX8_read t0 = some tz) : Met l yX8_read wsX8_read rmX8_read (gw_Pc D g tG (tM g ad) 23 ad A [.ref (ad 0)] t0) (gw_Qv D (tM g ad) 23 ad A tz) 0 0 A := by
  unfold fX8_read at hF
  refine gw_met (by decide) rfl hD (Nat.le_of_ble_eq_true rfl) (fun p e s m args below meth c E hr hlocks I ls hl => ?_)
  have hx := E.1.1
  have hb := E.1.2.1
  have hl : lv_has ls 3 [(0, .ref (ad 0))] := hl
  have hJ130 : ∀ (Kx : Int32 → Int32 → gw_S → Option (gw_S)) (Kh : Int32 → Int32 → gw_S → Option (gw_S)) (v1 : Int32) (x0 : Int32) (hKx : ∀ (v1 : Int32) (v2 : Int32) (t : gw_S) (H : Heap) (locs : List Loc) (ls : Array Slot), lv_has ls 3 [] → gw_I D (tM g ad) 23 ad A s.heap t H locs → Kx v1 v2 t = some tz → W p l e rmX8_read s m args below meth c H locs 0 0 (MQ below (gw_Qv D (tM g ad) 23 ad A tz) args s 0 0 A) (F0 m 137 ls [])) (hKh : ∀ (v1 : Int32) (v2 : Int32) (t : gw_S) (H : Heap) (locs : List Loc) (ls : Array Slot), lv_has ls 3 [(0, .ref (ad 0)), (1, .int v1), (2, .int v2)] → gw_I D (tM g ad) 23 ad A s.heap t H locs → Kh v1 v2 t = some tz → W p l e rmX8_read s m args below meth c H locs 0 0 (MQ below (gw_Qv D (tM g ad) 23 ad A tz) args s 0 0 A) (F0 m 14 ls [])) (t : gw_S) (H : Heap) (locs : List Loc) (ls : Array Slot), lv_has ls 3 [(0, .ref (ad 0)), (1, .int v1)] → gw_I D (tM g ad) 23 ad A s.heap t H locs → fX8_read_J130 Kx Kh v1 x0 t = some tz → W p l e rmX8_read s m args below meth c H locs 0 0 (MQ below (gw_Qv D (tM g ad) 23 ad A tz) args s 0 0 A) (F0 m 130 ls [.int x0]) := by
    intro Kx Kh v1 x0 hKx hKh t H locs ls hl I hF
    unfold fX8_read_J130 at hF
    refine lv_istore_n (lv' := [(2, .int x0), (0, .ref (ad 0)), (1, .int v1)]) hx hb dX8_read_130 rfl hl (by decide) rfl (fun ls hl => ?_)
    replace hF := gw_nmE hF
    obtain ⟨v1_131, ev1_131, hF⟩ := hF
    refine lv_iinc (v := v1_131) (lv' := [(1, .int v1_131), (2, .int x0), (0, .ref (ad 0))]) hx hb dX8_read_131 hl (k := 2) rfl (by subst ev1_131; rfl) (by decide) rfl (fun ls hl => ?_)
    refine lv_goto (tgt := 14) hx hb dX8_read_134 (by decide) ?_
    exact hKh v1_131 x0 t _ _ _ (lv_sub hl [2, 0, 1] rfl) I hF
  have hJ129 : ∀ (Kx : Int32 → Int32 → gw_S → Option (gw_S)) (Kh : Int32 → Int32 → gw_S → Option (gw_S)) (v1 : Int32) (hKx : ∀ (v1 : Int32) (v2 : Int32) (t : gw_S) (H : Heap) (locs : List Loc) (ls : Array Slot), lv_has ls 3 [] → gw_I D (tM g ad) 23 ad A s.heap t H locs → Kx v1 v2 t = some tz → W p l e rmX8_read s m args below meth c H locs 0 0 (MQ below (gw_Qv D (tM g ad) 23 ad A tz) args s 0 0 A) (F0 m 137 ls [])) (hKh : ∀ (v1 : Int32) (v2 : Int32) (t : gw_S) (H : Heap) (locs : List Loc) (ls : Array Slot), lv_has ls 3 [(0, .ref (ad 0)), (1, .int v1), (2, .int v2)] → gw_I D (tM g ad) 23 ad A s.heap t H locs → Kh v1 v2 t = some tz → W p l e rmX8_read s m args below meth c H locs 0 0 (MQ below (gw_Qv D (tM g ad) 23 ad A tz) args s 0 0 A) (F0 m 14 ls [])) (t : gw_S) (H : Heap) (locs : List Loc) (ls : Array Slot), lv_has ls 3 [(0, .ref (ad 0)), (1, .int v1)] → gw_I D (tM g ad) 23 ad A s.heap t H locs → fX8_read_J129 Kx Kh v1 t = some tz → W p l e rmX8_read s m args below meth c H locs 0 0 (MQ below (gw_Qv D (tM g ad) 23 ad A tz) args s 0 0 A) (F0 m 129 ls []) := by
    intro Kx Kh v1 hKx hKh t H locs ls hl I hF
    unfold fX8_read_J129 at hF
    refine lv_iconst (v := 0) hx hb dX8_read_129 (by decide) ?_
    exact hJ130 Kx Kh v1 0 hKx hKh t _ _ _ (lv_sub hl [0, 1] rfl) I hF
  have hJ106 : ∀ (Kx : Int32 → Int32 → gw_S → Option (gw_S)) (Kh : Int32 → Int32 → gw_S → Option (gw_S)) (v1 : Int32) (hKx : ∀ (v1 : Int32) (v2 : Int32) (t : gw_S) (H : Heap) (locs : List Loc) (ls : Array Slot), lv_has ls 3 [] → gw_I D (tM g ad) 23 ad A s.heap t H locs → Kx v1 v2 t = some tz → W p l e rmX8_read s m args below meth c H locs 0 0 (MQ below (gw_Qv D (tM g ad) 23 ad A tz) args s 0 0 A) (F0 m 137 ls [])) (hKh : ∀ (v1 : Int32) (v2 : Int32) (t : gw_S) (H : Heap) (locs : List Loc) (ls : Array Slot), lv_has ls 3 [(0, .ref (ad 0)), (1, .int v1), (2, .int v2)] → gw_I D (tM g ad) 23 ad A s.heap t H locs → Kh v1 v2 t = some tz → W p l e rmX8_read s m args below meth c H locs 0 0 (MQ below (gw_Qv D (tM g ad) 23 ad A tz) args s 0 0 A) (F0 m 14 ls [])) (t : gw_S) (H : Heap) (locs : List Loc) (ls : Array Slot), lv_has ls 3 [(0, .ref (ad 0)), (1, .int v1)] → gw_I D (tM g ad) 23 ad A s.heap t H locs → fX8_read_J106 Kx Kh v1 t = some tz → W p l e rmX8_read s m args below meth c H locs 0 0 (MQ below (gw_Qv D (tM g ad) 23 ad A tz) args s 0 0 A) (F0 m 106 ls []) := by
    intro Kx Kh v1 hKx hKh t H locs ls hl I hF
    unfold fX8_read_J106 at hF
    refine lv_aload_n hx hb dX8_read_106 rfl (lv_at hl 0 rfl) ?_
    refine gf_M_0_22 E I in_X8_read_X8 lk_X8_read_85 dX8_read_107 ?_
    refine lv_bipush (v := 6) hx hb dX8_read_110 (by decide) ?_
    refine lv_icmp_ge (tgt := 129) hx hb dX8_read_112 (by decide) (fun c112 => ?_) (fun c112 => ?_)
    · replace hF := gw_if1 c112 hF
      exact hJ129 Kx Kh v1 hKx hKh t _ _ _ (lv_sub hl [0, 1] rfl) I hF
    · replace hF := gw_if0 c112 hF
      refine lv_aload_n hx hb dX8_read_115 rfl (lv_at hl 0 rfl) ?_
      refine lv_iload_n hx hb dX8_read_116 rfl (lv_at hl 1 rfl) ?_
      refine lv_bipush (v := 44) hx hb dX8_read_117 (by decide) ?_
      replace hF := gw_bdE hF
      obtain ⟨r119, e119, hF⟩ := hF
      refine gw_calli I (gw_runV E I (ok_X8_isSign l hD t v1 44 _ e119) (cwV 2 E.1.2.2.2.2 gX8_read_X8_isSign rfl rfl rfl (by decide +kernel) ⟨Nat.le_of_ble_eq_true rfl, Nat.le_of_ble_eq_true rfl⟩) (by decide) rfl rfl rfl hl.1 rfl (Nat.le_of_ble_eq_true rfl) dX8_read_119) (fun H locs I => ?_)
      refine lv_if_eq (tgt := 129) hx hb dX8_read_122 (by decide) (fun c122 => ?_) (fun c122 => ?_)
      · replace hF := gw_if1 c122 hF
        exact hJ129 Kx Kh v1 hKx hKh t _ _ _ (lv_sub hl [0, 1] rfl) I hF
      · replace hF := gw_if0 c122 hF
        refine lv_iconst (v := 1) hx hb dX8_read_125 (by decide) ?_
        refine lv_goto (tgt := 130) hx hb dX8_read_126 (by decide) ?_
        exact hJ130 Kx Kh v1 1 hKx hKh t _ _ _ (lv_sub hl [0, 1] rfl) I hF
  have hJ54 : ∀ (Kx : Int32 → Int32 → gw_S → Option (gw_S)) (Kh : Int32 → Int32 → gw_S → Option (gw_S)) (v1 : Int32) (v2 : Int32) (hKx : ∀ (v1 : Int32) (v2 : Int32) (t : gw_S) (H : Heap) (locs : List Loc) (ls : Array Slot), lv_has ls 3 [] → gw_I D (tM g ad) 23 ad A s.heap t H locs → Kx v1 v2 t = some tz → W p l e rmX8_read s m args below meth c H locs 0 0 (MQ below (gw_Qv D (tM g ad) 23 ad A tz) args s 0 0 A) (F0 m 137 ls [])) (hKh : ∀ (v1 : Int32) (v2 : Int32) (t : gw_S) (H : Heap) (locs : List Loc) (ls : Array Slot), lv_has ls 3 [(0, .ref (ad 0)), (1, .int v1), (2, .int v2)] → gw_I D (tM g ad) 23 ad A s.heap t H locs → Kh v1 v2 t = some tz → W p l e rmX8_read s m args below meth c H locs 0 0 (MQ below (gw_Qv D (tM g ad) 23 ad A tz) args s 0 0 A) (F0 m 14 ls [])) (t : gw_S) (H : Heap) (locs : List Loc) (ls : Array Slot), lv_has ls 3 [(0, .ref (ad 0)), (1, .int v1), (2, .int v2)] → gw_I D (tM g ad) 23 ad A s.heap t H locs → fX8_read_J54 Kx Kh v1 v2 t = some tz → W p l e rmX8_read s m args below meth c H locs 0 0 (MQ below (gw_Qv D (tM g ad) 23 ad A tz) args s 0 0 A) (F0 m 54 ls []) := by
    intro Kx Kh v1 v2 hKx hKh t H locs ls hl I hF
    unfold fX8_read_J54 at hF
    refine lv_iload_n hx hb dX8_read_54 rfl (lv_at hl 2 rfl) ?_
    refine lv_if_eq (tgt := 14) hx hb dX8_read_55 (by decide) (fun c55 => ?_) (fun c55 => ?_)
    · replace hF := gw_if1 c55 hF
      exact hKh v1 v2 t _ _ _ (lv_sub hl [0, 1, 2] rfl) I hF
    · replace hF := gw_if0 c55 hF
      replace hF := gw_nmE hF
      obtain ⟨v1_58, ev1_58, hF⟩ := hF
      refine lv_iinc (v := v1_58) (lv' := [(1, .int v1_58), (0, .ref (ad 0)), (2, .int v2)]) hx hb dX8_read_58 hl (k := 1) rfl (by subst ev1_58; rfl) (by decide) rfl (fun ls hl => ?_)
      refine lv_aload_n hx hb dX8_read_61 rfl (lv_at hl 1 rfl) ?_
      refine lv_dup hx hb dX8_read_62 rfl ?_
      refine gf_M_0_22 E I in_X8_read_X8 lk_X8_read_85 dX8_read_63 ?_
      refine lv_iconst (v := 1) hx hb dX8_read_66 (by decide) ?_
      refine lv_iadd hx hb dX8_read_67 ?_
      replace hF := gw_nmE hF
      obtain ⟨t_68, et_68, hF⟩ := hF
      refine gp_M_0_22 E I in_X8_read_X8 lk_X8_read_85 et_68 dX8_read_68 (fun H locs I => ?_)
      refine lv_aload_n hx hb dX8_read_71 rfl (lv_at hl 1 rfl) ?_
      refine lv_iload_n hx hb dX8_read_72 rfl (lv_at hl 0 rfl) ?_
      replace hF := gw_nmE hF
      obtain ⟨t_73, et_73, hF⟩ := hF
      refine gp_M_0_20 E I in_X8_read_X8 lk_X8_read_92 et_73 dX8_read_73 (fun H locs I => ?_)
      refine lv_aload_n hx hb dX8_read_76 rfl (lv_at hl 1 rfl) ?_
      refine gf_M_0_22 E I in_X8_read_X8 lk_X8_read_85 dX8_read_77 ?_
      refine lv_iconst (v := 2) hx hb dX8_read_80 (by decide) ?_
      refine lv_icmp_le (tgt := 106) hx hb dX8_read_81 (by decide) (fun c81 => ?_) (fun c81 => ?_)
      · replace hF := gw_if1 c81 hF
        exact hJ106 Kx Kh v1_58 hKx hKh t_73 _ _ _ (lv_sub hl [1, 0] rfl) I hF
      · replace hF := gw_if0 c81 hF
        refine lv_aload_n hx hb dX8_read_84 rfl (lv_at hl 1 rfl) ?_
        refine lv_iload_n hx hb dX8_read_85 rfl (lv_at hl 0 rfl) ?_
        refine lv_bipush (v := 59) hx hb dX8_read_86 (by decide) ?_
        replace hF := gw_bdE hF
        obtain ⟨r88, e88, hF⟩ := hF
        refine gw_calli I (gw_runV E I (ok_X8_isSign l hD t_73 v1_58 59 _ e88) (cwV 2 E.1.2.2.2.2 gX8_read_X8_isSign rfl rfl rfl (by decide +kernel) ⟨Nat.le_of_ble_eq_true rfl, Nat.le_of_ble_eq_true rfl⟩) (by decide) rfl rfl rfl hl.1 rfl (Nat.le_of_ble_eq_true rfl) dX8_read_88) (fun H locs I => ?_)
        refine lv_if_eq (tgt := 106) hx hb dX8_read_91 (by decide) (fun c91 => ?_) (fun c91 => ?_)
        · replace hF := gw_if1 c91 hF
          exact hJ106 Kx Kh v1_58 hKx hKh t_73 _ _ _ (lv_sub hl [1, 0] rfl) I hF
        · replace hF := gw_if0 c91 hF
          refine lv_aload_n hx hb dX8_read_94 rfl (lv_at hl 1 rfl) ?_
          refine lv_iload_n hx hb dX8_read_95 rfl (lv_at hl 0 rfl) ?_
          refine lv_iconst (v := 1) hx hb dX8_read_96 (by decide) ?_
          refine lv_iadd hx hb dX8_read_97 ?_
          replace hF := gw_bdE hF
          obtain ⟨t_98, e98, hF⟩ := hF
          refine gw_callv I (gw_runV E I (ok_X8_readOften l hD t_73 (v1_58 + 1) _ e98) (cwV 1 E.1.2.2.2.2 gX8_read_X8_readOften rfl rfl rfl (by decide +kernel) ⟨Nat.le_of_ble_eq_true rfl, Nat.le_of_ble_eq_true rfl⟩) (by decide) rfl rfl rfl hl.1 rfl (Nat.le_of_ble_eq_true rfl) dX8_read_98) (fun H locs I => ?_)
          refine lv_iconst (v := 0) hx hb dX8_read_101 (by decide) ?_
          refine lv_istore_n (lv' := [(2, .int 0), (1, .int v1_58), (0, .ref (ad 0))]) hx hb dX8_read_102 rfl hl (by decide) rfl (fun ls hl => ?_)
          refine lv_goto (tgt := 14) hx hb dX8_read_103 (by decide) ?_
          exact hKh v1_58 0 t_98 _ _ _ (lv_sub hl [2, 1, 0] rfl) I hF
  have hL14 : ∀ (Kx : Int32 → Int32 → gw_S → Option (gw_S)), (∀ (v1 : Int32) (v2 : Int32) (t : gw_S) (H : Heap) (locs : List Loc) (ls : Array Slot), lv_has ls 3 [] → gw_I D (tM g ad) 23 ad A s.heap t H locs → Kx v1 v2 t = some tz → W p l e rmX8_read s m args below meth c H locs 0 0 (MQ below (gw_Qv D (tM g ad) 23 ad A tz) args s 0 0 A) (F0 m 137 ls [])) → ∀ (n : Nat) (v1 : Int32) (v2 : Int32) (t : gw_S) (H : Heap) (locs : List Loc) (ls : Array Slot), lv_has ls 3 [(0, .ref (ad 0)), (1, .int v1), (2, .int v2)] → gw_I D (tM g ad) 23 ad A s.heap t H locs → fX8_read_L14 Kx n v1 v2 t = some tz → W p l e rmX8_read s m args below meth c H locs 0 0 (MQ below (gw_Qv D (tM g ad) 23 ad A tz) args s 0 0 A) (F0 m 14 ls []) := by
    intro Kx hKx n
    induction n with
    | zero =>
      intro v1 v2 t H locs ls hl I hF
      rw [fX8_read_L14] at hF
      cases hF
    | succ n ih =>
      intro v1 v2 t H locs ls hl I hF
      rw [fX8_read_L14] at hF
      refine lv_iload_n hx hb dX8_read_14 rfl (lv_at hl 2 rfl) ?_
      refine lv_if_eq (tgt := 137) hx hb dX8_read_15 (by decide) (fun c15 => ?_) (fun c15 => ?_)
      · replace hF := gw_if1 c15 hF
        exact hKx v1 v2 t _ _ _ (lv_sub hl [] rfl) I hF
      · replace hF := gw_if0 c15 hF
        refine lv_aload_n hx hb dX8_read_18 rfl (lv_at hl 0 rfl) ?_
        refine lv_iload_n hx hb dX8_read_19 rfl (lv_at hl 1 rfl) ?_
        replace hF := gw_nmE hF
        obtain ⟨t_20, et_20, hF⟩ := hF
        refine gp_M_0_20 E I in_X8_read_X8 lk_X8_read_92 et_20 dX8_read_20 (fun H locs I => ?_)
        refine lv_aload_n hx hb dX8_read_23 rfl (lv_at hl 0 rfl) ?_
        refine lv_iload_n hx hb dX8_read_24 rfl (lv_at hl 1 rfl) ?_
        refine lv_iconst (v := 1) hx hb dX8_read_25 (by decide) ?_
        refine lv_bipush (v := 8) hx hb dX8_read_26 (by decide) ?_
        replace hF := gw_bdE hF
        obtain ⟨r28, e28, hF⟩ := hF
        refine gw_calli I (gw_runV E I (ok_X8_isFigure l hD t_20 v1 1 8 _ e28) (cwV 3 E.1.2.2.2.2 gX8_read_X8_isFigure rfl rfl rfl (by decide +kernel) ⟨Nat.le_of_ble_eq_true rfl, Nat.le_of_ble_eq_true rfl⟩) (by decide) rfl rfl rfl hl.1 rfl (Nat.le_of_ble_eq_true rfl) dX8_read_28) (fun H locs I => ?_)
        refine lv_istore_n (lv' := [(2, .int r28), (0, .ref (ad 0)), (1, .int v1)]) hx hb dX8_read_31 rfl hl (by decide) rfl (fun ls hl => ?_)
        refine lv_iload_n hx hb dX8_read_32 rfl (lv_at hl 0 rfl) ?_
        refine lv_if_eq (tgt := 54) hx hb dX8_read_33 (by decide) (fun c33 => ?_) (fun c33 => ?_)
        · replace hF := gw_if1 c33 hF
          exact hJ54 Kx (fX8_read_L14 Kx n) v1 r28 hKx ih t_20 _ _ _ (lv_sub hl [1, 2, 0] rfl) I hF
        · replace hF := gw_if0 c33 hF
          refine lv_aload_n hx hb dX8_read_36 rfl (lv_at hl 1 rfl) ?_
          refine lv_iload_n hx hb dX8_read_37 rfl (lv_at hl 2 rfl) ?_
          refine lv_iconst (v := 1) hx hb dX8_read_38 (by decide) ?_
          refine lv_iadd hx hb dX8_read_39 ?_
          replace hF := gw_nmE hF
          obtain ⟨t_40, et_40, hF⟩ := hF
          refine gp_M_0_20 E I in_X8_read_X8 lk_X8_read_92 et_40 dX8_read_40 (fun H locs I => ?_)
          refine lv_aload_n hx hb dX8_read_43 rfl (lv_at hl 1 rfl) ?_
          refine lv_iload_n hx hb dX8_read_44 rfl (lv_at hl 2 rfl) ?_
          refine lv_iconst (v := 1) hx hb dX8_read_45 (by decide) ?_
          refine lv_iadd hx hb dX8_read_46 ?_
          refine lv_iconst (v := 1) hx hb dX8_read_47 (by decide) ?_
          refine lv_bipush (v := 9) hx hb dX8_read_48 (by decide) ?_
          replace hF := gw_bdE hF
          obtain ⟨r50, e50, hF⟩ := hF
          refine gw_calli I (gw_runV E I (ok_X8_isFigure l hD t_40 (v1 + 1) 1 9 _ e50) (cwV 3 E.1.2.2.2.2 gX8_read_X8_isFigure rfl rfl rfl (by decide +kernel) ⟨Nat.le_of_ble_eq_true rfl, Nat.le_of_ble_eq_true rfl⟩) (by decide) rfl rfl rfl hl.1 rfl (Nat.le_of_ble_eq_true rfl) dX8_read_50) (fun H locs I => ?_)
          refine lv_istore_n (lv' := [(2, .int r50), (0, .ref (ad 0)), (1, .int v1)]) hx hb dX8_read_53 rfl hl (by decide) rfl (fun ls hl => ?_)
          exact hJ54 Kx (fX8_read_L14 Kx n) v1 r50 hKx ih t_40 _ _ _ (lv_sub hl [1, 2, 0] rfl) I hF
  refine lv_iconst (v := 0) hx hb dX8_read_0 (by decide) ?_
  refine lv_istore_n (lv' := [(1, .int 0), (0, .ref (ad 0))]) hx hb dX8_read_1 rfl hl (by decide) rfl (fun ls hl => ?_)
  refine lv_aload_n hx hb dX8_read_2 rfl (lv_at hl 1 rfl) ?_
  refine lv_iconst (v := 0) hx hb dX8_read_3 (by decide) ?_
  replace hF := gw_nmE hF
  obtain ⟨t_4, et_4, hF⟩ := hF
  refine gp_M_0_22 E I in_X8_read_X8 lk_X8_read_85 et_4 dX8_read_4 (fun H locs I => ?_)
  refine lv_aload_n hx hb dX8_read_7 rfl (lv_at hl 1 rfl) ?_
  refine lv_iconst (v := 0) hx hb dX8_read_8 (by decide) ?_
  replace hF := gw_nmE hF
  obtain ⟨t_9, et_9, hF⟩ := hF
  refine gp_M_0_21 E I in_X8_read_X8 lk_X8_read_88 (by decide) et_9 dX8_read_9 (fun H locs I => ?_)
  refine lv_iconst (v := 1) hx hb dX8_read_12 (by decide) ?_
  refine lv_istore_n (lv' := [(2, .int 1), (1, .int 0), (0, .ref (ad 0))]) hx hb dX8_read_13 rfl hl (by decide) rfl (fun ls hl => ?_)
  refine hL14 _  (fun v1_x14 v2_x14 t_x14 H locs ls hl I hF => ?_) 2000 0 1 t_9 _ _ _ (lv_sub hl [2, 1, 0] rfl) I hF
  exact gw_vret E I hr hlocks (Option.some.inj hF) dX8_read_137
abbrev rmX8_fault : Room := { frames := 4, cells := 0, slots := 0, locals := 89 }
theorem lk_X8_fault_92 : Cond.fieldLink RX8 92 "ThrownSacksModel" "faultAt" "I" ∈ wsX8_fault := by decide +kernel
theorem in_X8_fault_X8 : ∀ w ∈ u_ws RX8 TX8 42, w ∈ wsX8_fault := by decide +kernel
set_option maxHeartbeats 4000000 in
set_option maxRecDepth 100000 in
theorem ok_X8_fault (l : Launch) {D : va_G} {g : gw_G} {tG : Nat} {ad : Nat → Nat} {A : Nat → Prop} (hD : gw_D A 23 ad) (t0 : gw_S) (r0 : Int32) (tz : gw_S) (hF : fX8_fault t0 = some (r0, tz)) : Met l yX8_fault wsX8_fault rmX8_fault (gw_Pc D g tG (tM g ad) 23 ad A [.ref (ad 0)] t0) (gw_Qi D (tM g ad) 23 ad A r0 tz) 0 0 A := by
  unfold fX8_fault at hF
  refine gw_met (by decide) rfl hD (Nat.le_of_ble_eq_true rfl) (fun p e s m args below meth c E hr hlocks I ls hl => ?_)
  have hx := E.1.1
  have hb := E.1.2.1
  have hl : lv_has ls 1 [(0, .ref (ad 0))] := hl
  refine lv_aload_n hx hb dX8_fault_0 rfl (lv_at hl 0 rfl) ?_
  replace hF := gw_bdE hF
  obtain ⟨t_1, e1, hF⟩ := hF
  refine gw_callv I (gw_runV E I (ok_X8_read l hD t0 _ e1) (cwV 0 E.1.2.2.2.2 gX8_fault_X8_read rfl rfl rfl (by decide +kernel) ⟨Nat.le_of_ble_eq_true rfl, Nat.le_of_ble_eq_true rfl⟩) (by decide) rfl rfl rfl hl.1 rfl (Nat.le_of_ble_eq_true rfl) dX8_fault_1) (fun H locs I => ?_)
  refine lv_aload_n hx hb dX8_fault_4 rfl (lv_at hl 0 rfl) ?_
  refine gf_M_0_20 E I in_X8_fault_X8 lk_X8_fault_92 dX8_fault_5 ?_
  exact gw_iret E I hr hlocks rfl (Prod.mk.inj (Option.some.inj hF)).1 (Prod.mk.inj (Option.some.inj hF)).2 dX8_fault_8
abbrev rmX8_empty : Room := { frames := 0, cells := 0, slots := 0, locals := 0 }
theorem lk_X8_empty_22 : Cond.fieldLink RX8 22 "ThrownSacksModel" "manyIn" "[I" ∈ wsX8_empty := by decide +kernel
theorem lk_X8_empty_25 : Cond.fieldLink RX8 25 "ThrownSacksModel" "wrongIn" "[I" ∈ wsX8_empty := by decide +kernel
theorem lk_X8_empty_28 : Cond.fieldLink RX8 28 "ThrownSacksModel" "glassIn" "[I" ∈ wsX8_empty := by decide +kernel
theorem lk_X8_empty_31 : Cond.fieldLink RX8 31 "ThrownSacksModel" "wholeIn" "[I" ∈ wsX8_empty := by decide +kernel
theorem in_X8_empty_X8 : ∀ w ∈ u_ws RX8 TX8 42, w ∈ wsX8_empty := by decide +kernel
set_option maxHeartbeats 4000000 in
set_option maxRecDepth 100000 in
theorem ok_X8_empty (l : Launch) {D : va_G} {g : gw_G} {tG : Nat} {ad : Nat → Nat} {A : Nat → Prop} (hD : gw_D A 23 ad) (t0 : gw_S) (v1 : Int32) (tz : gw_S) (hF : fX8_empty v1 t0 = some tz) : Met l yX8_empty wsX8_empty rmX8_empty (gw_Pc D g tG (tM g ad) 23 ad A [.ref (ad 0), .int v1] t0) (gw_Qv D (tM g ad) 23 ad A tz) 0 0 A := by
  unfold fX8_empty at hF
  refine gw_met (by decide) rfl hD (Nat.le_of_ble_eq_true rfl) (fun p e s m args below meth c E hr hlocks I ls hl => ?_)
  have hx := E.1.1
  have hb := E.1.2.1
  have hl : lv_has ls 2 [(0, .ref (ad 0)), (1, .int v1)] := hl
  refine lv_aload_n hx hb dX8_empty_0 rfl (lv_at hl 0 rfl) ?_
  refine gf_M_0_6 E I in_X8_empty_X8 lk_X8_empty_22 dX8_empty_1 ?_
  refine lv_iload_n hx hb dX8_empty_4 rfl (lv_at hl 1 rfl) ?_
  refine lv_iconst (v := 0) hx hb dX8_empty_5 (by decide) ?_
  replace hF := gw_ifn hF
  obtain ⟨hz6, hF⟩ := hF
  replace hF := gw_nmE hF
  obtain ⟨t_6, et_6, hF⟩ := hF
  refine gw_iast E I 5 (by decide) (fun _ => rfl) hz6 et_6 dX8_empty_6 (fun H locs I => ?_)
  refine lv_aload_n hx hb dX8_empty_7 rfl (lv_at hl 0 rfl) ?_
  refine gf_M_0_7 E I in_X8_empty_X8 lk_X8_empty_25 dX8_empty_8 ?_
  refine lv_iload_n hx hb dX8_empty_11 rfl (lv_at hl 1 rfl) ?_
  refine lv_iconst (v := 0) hx hb dX8_empty_12 (by decide) ?_
  replace hF := gw_ifn hF
  obtain ⟨hz13, hF⟩ := hF
  replace hF := gw_nmE hF
  obtain ⟨t_13, et_13, hF⟩ := hF
  refine gw_iast E I 6 (by decide) (fun _ => rfl) hz13 et_13 dX8_empty_13 (fun H locs I => ?_)
  refine lv_aload_n hx hb dX8_empty_14 rfl (lv_at hl 0 rfl) ?_
  refine gf_M_0_8 E I in_X8_empty_X8 lk_X8_empty_28 dX8_empty_15 ?_
  refine lv_iload_n hx hb dX8_empty_18 rfl (lv_at hl 1 rfl) ?_
  refine lv_iconst (v := 0) hx hb dX8_empty_19 (by decide) ?_
  replace hF := gw_ifn hF
  obtain ⟨hz20, hF⟩ := hF
  replace hF := gw_nmE hF
  obtain ⟨t_20, et_20, hF⟩ := hF
  refine gw_iast E I 7 (by decide) (fun _ => rfl) hz20 et_20 dX8_empty_20 (fun H locs I => ?_)
  refine lv_aload_n hx hb dX8_empty_21 rfl (lv_at hl 0 rfl) ?_
  refine gf_M_0_9 E I in_X8_empty_X8 lk_X8_empty_31 dX8_empty_22 ?_
  refine lv_iload_n hx hb dX8_empty_25 rfl (lv_at hl 1 rfl) ?_
  refine lv_iconst (v := 0) hx hb dX8_empty_26 (by decide) ?_
  replace hF := gw_ifn hF
  obtain ⟨hz27, hF⟩ := hF
  replace hF := gw_nmE hF
  obtain ⟨t_27, et_27, hF⟩ := hF
  refine gw_iast E I 8 (by decide) (fun _ => rfl) hz27 et_27 dX8_empty_27 (fun H locs I => ?_)
  exact gw_vret E I hr hlocks (Option.some.inj hF) dX8_empty_28
abbrev rmX8_floor : Room := { frames := 4, cells := 0, slots := 0, locals := 89 }
theorem lk_X8_floor_7 : Cond.fieldLink RX8 7 "ThrownSacksModel" "yardsOf" "[I" ∈ wsX8_floor := by decide +kernel
theorem lk_X8_floor_13 : Cond.fieldLink RX8 13 "ThrownSacksModel" "roomOf" "[I" ∈ wsX8_floor := by decide +kernel
theorem lk_X8_floor_16 : Cond.fieldLink RX8 16 "ThrownSacksModel" "oftenOf" "[I" ∈ wsX8_floor := by decide +kernel
theorem lk_X8_floor_19 : Cond.fieldLink RX8 19 "ThrownSacksModel" "hangsOn" "[I" ∈ wsX8_floor := by decide +kernel
theorem lk_X8_floor_46 : Cond.fieldLink RX8 46 "ThrownSacksModel" "page" "[B" ∈ wsX8_floor := by decide +kernel
theorem lk_X8_floor_81 : Cond.fieldLink RX8 81 "ThrownSacksModel" "pageLength" "I" ∈ wsX8_floor := by decide +kernel
theorem lk_X8_floor_85 : Cond.fieldLink RX8 85 "ThrownSacksModel" "newMany" "I" ∈ wsX8_floor := by decide +kernel
theorem lk_X8_floor_88 : Cond.fieldLink RX8 88 "ThrownSacksModel" "isWhole" "Z" ∈ wsX8_floor := by decide +kernel
theorem lk_X8_floor_109 : Cond.fieldLink RX8 109 "ThrownSacksModel" "hooks" "I" ∈ wsX8_floor := by decide +kernel
theorem lk_X8_floor_115 : Cond.fieldLink RX8 115 "ThrownSacksModel" "floors" "I" ∈ wsX8_floor := by decide +kernel
theorem lk_X8_floor_118 : Cond.fieldLink RX8 118 "ThrownSacksModel" "onBelt" "I" ∈ wsX8_floor := by decide +kernel
theorem lk_X8_floor_121 : Cond.fieldLink RX8 121 "ThrownSacksModel" "seconds" "I" ∈ wsX8_floor := by decide +kernel
theorem lk_X8_floor_124 : Cond.fieldLink RX8 124 "ThrownSacksModel" "harmed" "I" ∈ wsX8_floor := by decide +kernel
theorem lk_X8_floor_127 : Cond.fieldLink RX8 127 "ThrownSacksModel" "found" "I" ∈ wsX8_floor := by decide +kernel
theorem in_X8_floor_X8 : ∀ w ∈ u_ws RX8 TX8 42, w ∈ wsX8_floor := by decide +kernel
set_option maxHeartbeats 4000000 in
set_option maxRecDepth 100000 in
theorem ok_X8_floor (l : Launch) {D : va_G} {g : gw_G} {tG : Nat} {ad : Nat → Nat} {A : Nat → Prop} (hD : gw_D A 23 ad) (t0 : gw_S) (r0 : Int32) (tz : gw_S) (hF : fX8_floor t0 = some (r0, tz)) : Met l yX8_floor wsX8_floor rmX8_floor (gw_Pc D g tG (tM g ad) 23 ad A [.ref (ad 0)] t0) (gw_Qi D (tM g ad) 23 ad A r0 tz) 0 0 A := by
  unfold fX8_floor at hF
  refine gw_met (by decide) rfl hD (Nat.le_of_ble_eq_true rfl) (fun p e s m args below meth c E hr hlocks I ls hl => ?_)
  have hx := E.1.1
  have hb := E.1.2.1
  have hl : lv_has ls 2 [(0, .ref (ad 0))] := hl
  have hL24 : ∀ (Kx : Int32 → gw_S → Option (Int32 × gw_S)), (∀ (v1 : Int32) (t : gw_S) (H : Heap) (locs : List Loc) (ls : Array Slot), lv_has ls 2 [(0, .ref (ad 0))] → gw_I D (tM g ad) 23 ad A s.heap t H locs → Kx v1 t = some (r0, tz) → W p l e rmX8_floor s m args below meth c H locs 0 0 (MQ below (gw_Qi D (tM g ad) 23 ad A r0 tz) args s 0 0 A) (F0 m 108 ls [])) → ∀ (n : Nat) (v1 : Int32) (t : gw_S) (H : Heap) (locs : List Loc) (ls : Array Slot), lv_has ls 2 [(0, .ref (ad 0)), (1, .int v1)] → gw_I D (tM g ad) 23 ad A s.heap t H locs → fX8_floor_L24 Kx n v1 t = some (r0, tz) → W p l e rmX8_floor s m args below meth c H locs 0 0 (MQ below (gw_Qi D (tM g ad) 23 ad A r0 tz) args s 0 0 A) (F0 m 24 ls []) := by
    intro Kx hKx n
    induction n with
    | zero =>
      intro v1 t H locs ls hl I hF
      rw [fX8_floor_L24] at hF
      cases hF
    | succ n ih =>
      intro v1 t H locs ls hl I hF
      rw [fX8_floor_L24] at hF
      refine lv_iload_n hx hb dX8_floor_24 rfl (lv_at hl 1 rfl) ?_
      refine lv_aload_n hx hb dX8_floor_25 rfl (lv_at hl 0 rfl) ?_
      refine gf_M_0_1 E I in_X8_floor_X8 lk_X8_floor_109 dX8_floor_26 ?_
      refine lv_icmp_ge (tgt := 108) hx hb dX8_floor_29 (by decide) (fun c29 => ?_) (fun c29 => ?_)
      · replace hF := gw_if1 c29 hF
        exact hKx v1 t _ _ _ (lv_sub hl [0] rfl) I hF
      · replace hF := gw_if0 c29 hF
        refine lv_aload_n hx hb dX8_floor_32 rfl (lv_at hl 0 rfl) ?_
        refine gf_M_0_2 E I in_X8_floor_X8 lk_X8_floor_7 dX8_floor_33 ?_
        refine lv_iload_n hx hb dX8_floor_36 rfl (lv_at hl 1 rfl) ?_
        refine lv_aload_n hx hb dX8_floor_37 rfl (lv_at hl 0 rfl) ?_
        refine gf_M_0_19 E I in_X8_floor_X8 lk_X8_floor_46 dX8_floor_38 ?_
        refine lv_iconst (v := 3) hx hb dX8_floor_41 (by decide) ?_
        refine lv_iload_n hx hb dX8_floor_42 rfl (lv_at hl 1 rfl) ?_
        refine lv_imul hx hb dX8_floor_43 ?_
        replace hF := gw_ifn hF
        obtain ⟨hz44, hF⟩ := hF
        refine gw_bald E I 13 (by decide) rfl hz44 dX8_floor_44 ?_
        refine lv_bipush (v := 48) hx hb dX8_floor_45 (by decide) ?_
        refine lv_isub hx hb dX8_floor_47 ?_
        replace hF := gw_ifn hF
        obtain ⟨hz48, hF⟩ := hF
        replace hF := gw_nmE hF
        obtain ⟨t_48, et_48, hF⟩ := hF
        refine gw_iast E I 1 (by decide) (fun _ => rfl) hz48 et_48 dX8_floor_48 (fun H locs I => ?_)
        refine lv_aload_n hx hb dX8_floor_49 rfl (lv_at hl 0 rfl) ?_
        refine gf_M_0_3 E I in_X8_floor_X8 lk_X8_floor_13 dX8_floor_50 ?_
        refine lv_iload_n hx hb dX8_floor_53 rfl (lv_at hl 1 rfl) ?_
        refine lv_aload_n hx hb dX8_floor_54 rfl (lv_at hl 0 rfl) ?_
        refine gf_M_0_19 E I in_X8_floor_X8 lk_X8_floor_46 dX8_floor_55 ?_
        refine lv_iconst (v := 3) hx hb dX8_floor_58 (by decide) ?_
        refine lv_iload_n hx hb dX8_floor_59 rfl (lv_at hl 1 rfl) ?_
        refine lv_imul hx hb dX8_floor_60 ?_
        refine lv_iconst (v := 1) hx hb dX8_floor_61 (by decide) ?_
        refine lv_iadd hx hb dX8_floor_62 ?_
        replace hF := gw_ifn hF
        obtain ⟨hz63, hF⟩ := hF
        refine gw_bald E I 13 (by decide) rfl hz63 dX8_floor_63 ?_
        refine lv_bipush (v := 48) hx hb dX8_floor_64 (by decide) ?_
        refine lv_isub hx hb dX8_floor_66 ?_
        replace hF := gw_ifn hF
        obtain ⟨hz67, hF⟩ := hF
        replace hF := gw_nmE hF
        obtain ⟨t_67, et_67, hF⟩ := hF
        refine gw_iast E I 2 (by decide) (fun _ => rfl) hz67 et_67 dX8_floor_67 (fun H locs I => ?_)
        refine lv_aload_n hx hb dX8_floor_68 rfl (lv_at hl 0 rfl) ?_
        refine gf_M_0_4 E I in_X8_floor_X8 lk_X8_floor_16 dX8_floor_69 ?_
        refine lv_iload_n hx hb dX8_floor_72 rfl (lv_at hl 1 rfl) ?_
        refine lv_aload_n hx hb dX8_floor_73 rfl (lv_at hl 0 rfl) ?_
        refine gf_M_0_19 E I in_X8_floor_X8 lk_X8_floor_46 dX8_floor_74 ?_
        refine lv_iconst (v := 3) hx hb dX8_floor_77 (by decide) ?_
        refine lv_aload_n hx hb dX8_floor_78 rfl (lv_at hl 0 rfl) ?_
        refine gf_M_0_1 E I in_X8_floor_X8 lk_X8_floor_109 dX8_floor_79 ?_
        refine lv_imul hx hb dX8_floor_82 ?_
        refine lv_iload_n hx hb dX8_floor_83 rfl (lv_at hl 1 rfl) ?_
        refine lv_iadd hx hb dX8_floor_84 ?_
        replace hF := gw_ifn hF
        obtain ⟨hz85, hF⟩ := hF
        refine gw_bald E I 13 (by decide) rfl hz85 dX8_floor_85 ?_
        refine lv_bipush (v := 48) hx hb dX8_floor_86 (by decide) ?_
        refine lv_isub hx hb dX8_floor_88 ?_
        replace hF := gw_ifn hF
        obtain ⟨hz89, hF⟩ := hF
        replace hF := gw_nmE hF
        obtain ⟨t_89, et_89, hF⟩ := hF
        refine gw_iast E I 3 (by decide) (fun _ => rfl) hz89 et_89 dX8_floor_89 (fun H locs I => ?_)
        refine lv_aload_n hx hb dX8_floor_90 rfl (lv_at hl 0 rfl) ?_
        refine gf_M_0_5 E I in_X8_floor_X8 lk_X8_floor_19 dX8_floor_91 ?_
        refine lv_iload_n hx hb dX8_floor_94 rfl (lv_at hl 1 rfl) ?_
        refine lv_iload_n hx hb dX8_floor_95 rfl (lv_at hl 1 rfl) ?_
        replace hF := gw_ifn hF
        obtain ⟨hz96, hF⟩ := hF
        replace hF := gw_nmE hF
        obtain ⟨t_96, et_96, hF⟩ := hF
        refine gw_iast E I 4 (by decide) (fun _ => rfl) hz96 et_96 dX8_floor_96 (fun H locs I => ?_)
        refine lv_aload_n hx hb dX8_floor_97 rfl (lv_at hl 0 rfl) ?_
        refine lv_iload_n hx hb dX8_floor_98 rfl (lv_at hl 1 rfl) ?_
        replace hF := gw_bdE hF
        obtain ⟨t_99, e99, hF⟩ := hF
        refine gw_callv I (gw_runV E I (ok_X8_empty l hD t_96 v1 _ e99) (cwV 1 E.1.2.2.2.2 gX8_floor_X8_empty rfl rfl rfl (by decide +kernel) ⟨Nat.le_of_ble_eq_true rfl, Nat.le_of_ble_eq_true rfl⟩) (by decide) rfl rfl rfl hl.1 rfl (Nat.le_of_ble_eq_true rfl) dX8_floor_99) (fun H locs I => ?_)
        replace hF := gw_nmE hF
        obtain ⟨v1_102, ev1_102, hF⟩ := hF
        refine lv_iinc (v := v1_102) (lv' := [(1, .int v1_102), (0, .ref (ad 0))]) hx hb dX8_floor_102 hl (k := 1) rfl (by subst ev1_102; rfl) (by decide) rfl (fun ls hl => ?_)
        refine lv_goto (tgt := 24) hx hb dX8_floor_105 (by decide) ?_
        exact ih v1_102 t_99 _ _ _ (lv_sub hl [1, 0] rfl) I hF
  refine lv_aload_n hx hb dX8_floor_0 rfl (lv_at hl 0 rfl) ?_
  replace hF := gw_bdE hF
  obtain ⟨t_1, e1, hF⟩ := hF
  refine gw_callv I (gw_runV E I (ok_X8_read l hD t0 _ e1) (cwV 0 E.1.2.2.2.2 gX8_floor_X8_read rfl rfl rfl (by decide +kernel) ⟨Nat.le_of_ble_eq_true rfl, Nat.le_of_ble_eq_true rfl⟩) (by decide) rfl rfl rfl hl.1 rfl (Nat.le_of_ble_eq_true rfl) dX8_floor_1) (fun H locs I => ?_)
  refine lv_aload_n hx hb dX8_floor_4 rfl (lv_at hl 0 rfl) ?_
  refine gf_M_0_21 E I in_X8_floor_X8 lk_X8_floor_88 dX8_floor_5 ?_
  refine lv_if_ne (tgt := 14) hx hb dX8_floor_8 (by decide) (fun c8 => ?_) (fun c8 => ?_)
  · replace hF := gw_if0 c8 hF
    refine lv_aload_n hx hb dX8_floor_14 rfl (lv_at hl 0 rfl) ?_
    refine lv_aload_n hx hb dX8_floor_15 rfl (lv_at hl 0 rfl) ?_
    refine gf_M_0_22 E I in_X8_floor_X8 lk_X8_floor_85 dX8_floor_16 ?_
    replace hF := gw_nmE hF
    obtain ⟨t_19, et_19, hF⟩ := hF
    refine gp_M_0_1 E I in_X8_floor_X8 lk_X8_floor_109 et_19 dX8_floor_19 (fun H locs I => ?_)
    refine lv_iconst (v := 0) hx hb dX8_floor_22 (by decide) ?_
    refine lv_istore_n (lv' := [(1, .int 0), (0, .ref (ad 0))]) hx hb dX8_floor_23 rfl hl (by decide) rfl (fun ls hl => ?_)
    refine hL24 _  (fun v1_x24 t_x24 H locs ls hl I hF => ?_) 2000 0 t_19 _ _ _ (lv_sub hl [1, 0] rfl) I hF
    refine lv_aload_n hx hb dX8_floor_108 rfl (lv_at hl 0 rfl) ?_
    refine lv_dup hx hb dX8_floor_109 rfl ?_
    refine gf_M_0_0 E I in_X8_floor_X8 lk_X8_floor_115 dX8_floor_110 ?_
    refine lv_iconst (v := 1) hx hb dX8_floor_113 (by decide) ?_
    refine lv_iadd hx hb dX8_floor_114 ?_
    replace hF := gw_nmE hF
    obtain ⟨t_115, et_115, hF⟩ := hF
    refine gp_M_0_0 E I in_X8_floor_X8 lk_X8_floor_115 et_115 dX8_floor_115 (fun H locs I => ?_)
    refine lv_aload_n hx hb dX8_floor_118 rfl (lv_at hl 0 rfl) ?_
    refine lv_iconst (v := 0) hx hb dX8_floor_119 (by decide) ?_
    replace hF := gw_nmE hF
    obtain ⟨t_120, et_120, hF⟩ := hF
    refine gp_M_0_10 E I in_X8_floor_X8 lk_X8_floor_118 et_120 dX8_floor_120 (fun H locs I => ?_)
    refine lv_aload_n hx hb dX8_floor_123 rfl (lv_at hl 0 rfl) ?_
    refine lv_iconst (v := 0) hx hb dX8_floor_124 (by decide) ?_
    replace hF := gw_nmE hF
    obtain ⟨t_125, et_125, hF⟩ := hF
    refine gp_M_0_13 E I in_X8_floor_X8 lk_X8_floor_121 et_125 dX8_floor_125 (fun H locs I => ?_)
    refine lv_aload_n hx hb dX8_floor_128 rfl (lv_at hl 0 rfl) ?_
    refine lv_iconst (v := 0) hx hb dX8_floor_129 (by decide) ?_
    replace hF := gw_nmE hF
    obtain ⟨t_130, et_130, hF⟩ := hF
    refine gp_M_0_14 E I in_X8_floor_X8 lk_X8_floor_124 et_130 dX8_floor_130 (fun H locs I => ?_)
    refine lv_aload_n hx hb dX8_floor_133 rfl (lv_at hl 0 rfl) ?_
    refine lv_iconst (v := 0) hx hb dX8_floor_134 (by decide) ?_
    replace hF := gw_nmE hF
    obtain ⟨t_135, et_135, hF⟩ := hF
    refine gp_M_0_15 E I in_X8_floor_X8 lk_X8_floor_127 et_135 dX8_floor_135 (fun H locs I => ?_)
    refine lv_aload_n hx hb dX8_floor_138 rfl (lv_at hl 0 rfl) ?_
    refine lv_iconst (v := 0) hx hb dX8_floor_139 (by decide) ?_
    replace hF := gw_nmE hF
    obtain ⟨t_140, et_140, hF⟩ := hF
    refine gp_M_0_18 E I in_X8_floor_X8 lk_X8_floor_81 et_140 dX8_floor_140 (fun H locs I => ?_)
    refine lv_aload_n hx hb dX8_floor_143 rfl (lv_at hl 0 rfl) ?_
    refine gf_M_0_1 E I in_X8_floor_X8 lk_X8_floor_109 dX8_floor_144 ?_
    exact gw_iret E I hr hlocks rfl (Prod.mk.inj (Option.some.inj hF)).1 (Prod.mk.inj (Option.some.inj hF)).2 dX8_floor_147
  · replace hF := gw_if1 c8 hF
    refine lv_bipush (v := (-103)) hx hb dX8_floor_11 (by decide) ?_
    exact gw_iret E I hr hlocks rfl (Prod.mk.inj (Option.some.inj hF)).1 (Prod.mk.inj (Option.some.inj hF)).2 dX8_floor_13
abbrev rmX8_isHook : Room := { frames := 1, cells := 0, slots := 0, locals := 22 }
theorem lk_X8_isHook_109 : Cond.fieldLink RX8 109 "ThrownSacksModel" "hooks" "I" ∈ wsX8_isHook := by decide +kernel
theorem in_X8_isHook_X8 : ∀ w ∈ u_ws RX8 TX8 42, w ∈ wsX8_isHook := by decide +kernel
set_option maxHeartbeats 4000000 in
set_option maxRecDepth 100000 in
theorem ok_X8_isHook (l : Launch) {D : va_G} {g : gw_G} {tG : Nat} {ad : Nat → Nat} {A : Nat → Prop} (hD : gw_D A 23 ad) (t0 : gw_S) (v1 : Int32) (r0 : Int32) (hF : fX8_isHook v1 t0 = some r0) : Met l yX8_isHook wsX8_isHook rmX8_isHook (gw_Pc D g tG (tM g ad) 23 ad A [.ref (ad 0), .int v1] t0) (gw_Qi D (tM g ad) 23 ad A r0 t0) 0 0 A := by
  unfold fX8_isHook at hF
  refine gw_met (by decide) rfl hD (Nat.le_of_ble_eq_true rfl) (fun p e s m args below meth c E hr hlocks I ls hl => ?_)
  have hx := E.1.1
  have hb := E.1.2.1
  have hl : lv_has ls 2 [(0, .ref (ad 0)), (1, .int v1)] := hl
  refine lv_iload_n hx hb dX8_isHook_0 rfl (lv_at hl 1 rfl) ?_
  refine lv_iconst (v := 0) hx hb dX8_isHook_1 (by decide) ?_
  refine lv_aload_n hx hb dX8_isHook_2 rfl (lv_at hl 0 rfl) ?_
  refine gf_M_0_1 E I in_X8_isHook_X8 lk_X8_isHook_109 dX8_isHook_3 ?_
  refine lv_iconst (v := 1) hx hb dX8_isHook_6 (by decide) ?_
  refine lv_isub hx hb dX8_isHook_7 ?_
  refine gw_calli I (gw_runS E I (ok_X8_within l hD t0 v1 0 ((rdI t0 0 1) - 1) _ rfl) (va_cwS 3 E.1.2.2.2.2 gX8_isHook_X8_within rfl rfl rfl (by decide +kernel) ⟨Nat.le_of_ble_eq_true rfl, Nat.le_of_ble_eq_true rfl⟩) rfl hl.1 rfl (Nat.le_of_ble_eq_true rfl) dX8_isHook_8) (fun H locs I => ?_)
  replace hF := gw_ifn hF
  obtain ⟨hz11, hF⟩ := hF
  exact gw_iret E I hr hlocks (gw_nar hz11) (Option.some.inj hF) rfl dX8_isHook_11
abbrev rmX8_hookNow : Room := { frames := 0, cells := 0, slots := 0, locals := 0 }
theorem lk_X8_hookNow_7 : Cond.fieldLink RX8 7 "ThrownSacksModel" "yardsOf" "[I" ∈ wsX8_hookNow := by decide +kernel
theorem lk_X8_hookNow_13 : Cond.fieldLink RX8 13 "ThrownSacksModel" "roomOf" "[I" ∈ wsX8_hookNow := by decide +kernel
theorem lk_X8_hookNow_16 : Cond.fieldLink RX8 16 "ThrownSacksModel" "oftenOf" "[I" ∈ wsX8_hookNow := by decide +kernel
theorem lk_X8_hookNow_19 : Cond.fieldLink RX8 19 "ThrownSacksModel" "hangsOn" "[I" ∈ wsX8_hookNow := by decide +kernel
theorem lk_X8_hookNow_22 : Cond.fieldLink RX8 22 "ThrownSacksModel" "manyIn" "[I" ∈ wsX8_hookNow := by decide +kernel
theorem lk_X8_hookNow_25 : Cond.fieldLink RX8 25 "ThrownSacksModel" "wrongIn" "[I" ∈ wsX8_hookNow := by decide +kernel
theorem lk_X8_hookNow_28 : Cond.fieldLink RX8 28 "ThrownSacksModel" "glassIn" "[I" ∈ wsX8_hookNow := by decide +kernel
theorem in_X8_hookNow_X8 : ∀ w ∈ u_ws RX8 TX8 42, w ∈ wsX8_hookNow := by decide +kernel
set_option maxHeartbeats 4000000 in
set_option maxRecDepth 100000 in
theorem ok_X8_hookNow (l : Launch) {D : va_G} {g : gw_G} {tG : Nat} {ad : Nat → Nat} {A : Nat → Prop} (hD : gw_D A 23 ad) (t0 : gw_S) (v1 : Int32) (v2 : Int32) (r0 : Int32) (hF : fX8_hookNow v1 v2 t0 = some r0) : Met l yX8_hookNow wsX8_hookNow rmX8_hookNow (gw_Pc D g tG (tM g ad) 23 ad A [.ref (ad 0), .int v1, .int v2] t0) (gw_Qi D (tM g ad) 23 ad A r0 t0) 0 0 A := by
  unfold fX8_hookNow at hF
  refine gw_met (by decide) rfl hD (Nat.le_of_ble_eq_true rfl) (fun p e s m args below meth c E hr hlocks I ls hl => ?_)
  have hx := E.1.1
  have hb := E.1.2.1
  have hl : lv_has ls 4 [(0, .ref (ad 0)), (1, .int v1), (2, .int v2)] := hl
  refine lv_aload_n hx hb dX8_hookNow_0 rfl (lv_at hl 0 rfl) ?_
  refine gf_M_0_5 E I in_X8_hookNow_X8 lk_X8_hookNow_19 dX8_hookNow_1 ?_
  refine lv_iload_n hx hb dX8_hookNow_4 rfl (lv_at hl 1 rfl) ?_
  replace hF := gw_ifn hF
  obtain ⟨hz5, hF⟩ := hF
  refine gw_iald E I 4 (by decide) rfl hz5 dX8_hookNow_5 ?_
  replace hF := gw_nmE hF
  obtain ⟨v3_6, ev3_6, hF⟩ := hF
  refine gw_topi ev3_6 ?_
  refine lv_istore_n (lv' := [(3, .int v3_6), (0, .ref (ad 0)), (1, .int v1), (2, .int v2)]) hx hb dX8_hookNow_6 rfl hl (by decide) rfl (fun ls hl => ?_)
  refine lv_iload_n hx hb dX8_hookNow_7 rfl (lv_at hl 3 rfl) ?_
  by_cases c8_0 : v2 = 0
  · replace hF := gw_if1 c8_0 hF
    refine lv_tableIn (off := 40) (tgt := 48) hx hb dX8_hookNow_8 (by rw [gw_sw c8_0 (a := 0) (by decide)]; decide) (by rw [gw_sw c8_0 (a := 0) (by decide)]; decide) (by rw [gw_sw c8_0 (a := 0) (by decide)]; rfl) (by decide) ?_
    refine lv_aload_n hx hb dX8_hookNow_48 rfl (lv_at hl 1 rfl) ?_
    refine gf_M_0_2 E I in_X8_hookNow_X8 lk_X8_hookNow_7 dX8_hookNow_49 ?_
    refine lv_iload_n hx hb dX8_hookNow_52 rfl (lv_at hl 2 rfl) ?_
    replace hF := gw_ifn hF
    obtain ⟨hz53, hF⟩ := hF
    refine gw_iald E I 1 (by decide) rfl hz53 dX8_hookNow_53 ?_
    exact gw_iret E I hr hlocks rfl (Option.some.inj hF) rfl dX8_hookNow_54
  · replace hF := gw_if0 c8_0 hF
    by_cases c8_1 : v2 = 1
    · replace hF := gw_if1 c8_1 hF
      refine lv_tableIn (off := 47) (tgt := 55) hx hb dX8_hookNow_8 (by rw [gw_sw c8_1 (a := 1) (by decide)]; decide) (by rw [gw_sw c8_1 (a := 1) (by decide)]; decide) (by rw [gw_sw c8_1 (a := 1) (by decide)]; rfl) (by decide) ?_
      refine lv_aload_n hx hb dX8_hookNow_55 rfl (lv_at hl 1 rfl) ?_
      refine gf_M_0_3 E I in_X8_hookNow_X8 lk_X8_hookNow_13 dX8_hookNow_56 ?_
      refine lv_iload_n hx hb dX8_hookNow_59 rfl (lv_at hl 2 rfl) ?_
      replace hF := gw_ifn hF
      obtain ⟨hz60, hF⟩ := hF
      refine gw_iald E I 2 (by decide) rfl hz60 dX8_hookNow_60 ?_
      exact gw_iret E I hr hlocks rfl (Option.some.inj hF) rfl dX8_hookNow_61
    · replace hF := gw_if0 c8_1 hF
      by_cases c8_2 : v2 = 2
      · replace hF := gw_if1 c8_2 hF
        refine lv_tableIn (off := 54) (tgt := 62) hx hb dX8_hookNow_8 (by rw [gw_sw c8_2 (a := 2) (by decide)]; decide) (by rw [gw_sw c8_2 (a := 2) (by decide)]; decide) (by rw [gw_sw c8_2 (a := 2) (by decide)]; rfl) (by decide) ?_
        refine lv_iload_n hx hb dX8_hookNow_62 rfl (lv_at hl 0 rfl) ?_
        exact gw_iret E I hr hlocks rfl (Option.some.inj hF) rfl dX8_hookNow_63
      · replace hF := gw_if0 c8_2 hF
        by_cases c8_3 : v2 = 3
        · replace hF := gw_if1 c8_3 hF
          refine lv_tableIn (off := 56) (tgt := 64) hx hb dX8_hookNow_8 (by rw [gw_sw c8_3 (a := 3) (by decide)]; decide) (by rw [gw_sw c8_3 (a := 3) (by decide)]; decide) (by rw [gw_sw c8_3 (a := 3) (by decide)]; rfl) (by decide) ?_
          refine lv_aload_n hx hb dX8_hookNow_64 rfl (lv_at hl 1 rfl) ?_
          refine gf_M_0_6 E I in_X8_hookNow_X8 lk_X8_hookNow_22 dX8_hookNow_65 ?_
          refine lv_iload_n hx hb dX8_hookNow_68 rfl (lv_at hl 0 rfl) ?_
          replace hF := gw_ifn hF
          obtain ⟨hz69, hF⟩ := hF
          refine gw_iald E I 5 (by decide) rfl hz69 dX8_hookNow_69 ?_
          exact gw_iret E I hr hlocks rfl (Option.some.inj hF) rfl dX8_hookNow_70
        · replace hF := gw_if0 c8_3 hF
          by_cases c8_4 : v2 = 4
          · replace hF := gw_if1 c8_4 hF
            refine lv_tableIn (off := 63) (tgt := 71) hx hb dX8_hookNow_8 (by rw [gw_sw c8_4 (a := 4) (by decide)]; decide) (by rw [gw_sw c8_4 (a := 4) (by decide)]; decide) (by rw [gw_sw c8_4 (a := 4) (by decide)]; rfl) (by decide) ?_
            refine lv_aload_n hx hb dX8_hookNow_71 rfl (lv_at hl 1 rfl) ?_
            refine gf_M_0_7 E I in_X8_hookNow_X8 lk_X8_hookNow_25 dX8_hookNow_72 ?_
            refine lv_iload_n hx hb dX8_hookNow_75 rfl (lv_at hl 0 rfl) ?_
            replace hF := gw_ifn hF
            obtain ⟨hz76, hF⟩ := hF
            refine gw_iald E I 6 (by decide) rfl hz76 dX8_hookNow_76 ?_
            exact gw_iret E I hr hlocks rfl (Option.some.inj hF) rfl dX8_hookNow_77
          · replace hF := gw_if0 c8_4 hF
            by_cases c8_5 : v2 = 5
            · replace hF := gw_if1 c8_5 hF
              refine lv_tableIn (off := 70) (tgt := 78) hx hb dX8_hookNow_8 (by rw [gw_sw c8_5 (a := 5) (by decide)]; decide) (by rw [gw_sw c8_5 (a := 5) (by decide)]; decide) (by rw [gw_sw c8_5 (a := 5) (by decide)]; rfl) (by decide) ?_
              refine lv_aload_n hx hb dX8_hookNow_78 rfl (lv_at hl 1 rfl) ?_
              refine gf_M_0_8 E I in_X8_hookNow_X8 lk_X8_hookNow_28 dX8_hookNow_79 ?_
              refine lv_iload_n hx hb dX8_hookNow_82 rfl (lv_at hl 0 rfl) ?_
              replace hF := gw_ifn hF
              obtain ⟨hz83, hF⟩ := hF
              refine gw_iald E I 7 (by decide) rfl hz83 dX8_hookNow_83 ?_
              exact gw_iret E I hr hlocks rfl (Option.some.inj hF) rfl dX8_hookNow_84
            · replace hF := gw_if0 c8_5 hF
              refine lv_tableOut (tgt := 85) hx hb dX8_hookNow_8 (by have q0 := lv_neT c8_0 (a := 0) (by decide); have q1 := lv_neT c8_1 (a := 1) (by decide); have q2 := lv_neT c8_2 (a := 2) (by decide); have q3 := lv_neT c8_3 (a := 3) (by decide); have q4 := lv_neT c8_4 (a := 4) (by decide); have q5 := lv_neT c8_5 (a := 5) (by decide); omega) (by decide) ?_
              refine lv_aload_n hx hb dX8_hookNow_85 rfl (lv_at hl 1 rfl) ?_
              refine gf_M_0_4 E I in_X8_hookNow_X8 lk_X8_hookNow_16 dX8_hookNow_86 ?_
              refine lv_iload_n hx hb dX8_hookNow_89 rfl (lv_at hl 0 rfl) ?_
              replace hF := gw_ifn hF
              obtain ⟨hz90, hF⟩ := hF
              refine gw_iald E I 3 (by decide) rfl hz90 dX8_hookNow_90 ?_
              exact gw_iret E I hr hlocks rfl (Option.some.inj hF) rfl dX8_hookNow_91
abbrev rmX8_hook : Room := { frames := 2, cells := 0, slots := 0, locals := 43 }
set_option maxHeartbeats 4000000 in
set_option maxRecDepth 100000 in
theorem ok_X8_hook (l : Launch) {D : va_G} {g : gw_G} {tG : Nat} {ad : Nat → Nat} {A : Nat → Prop} (hD : gw_D A 23 ad) (t0 : gw_S) (v1 : Int32) (v2 : Int32) (r0 : Int32) (hF : fX8_hook v1 v2 t0 = some r0) : Met l yX8_hook wsX8_hook rmX8_hook (gw_Pc D g tG (tM g ad) 23 ad A [.ref (ad 0), .int v1, .int v2] t0) (gw_Qi D (tM g ad) 23 ad A r0 t0) 0 0 A := by
  unfold fX8_hook at hF
  refine gw_met (by decide) rfl hD (Nat.le_of_ble_eq_true rfl) (fun p e s m args below meth c E hr hlocks I ls hl => ?_)
  have hx := E.1.1
  have hb := E.1.2.1
  have hl : lv_has ls 3 [(0, .ref (ad 0)), (1, .int v1), (2, .int v2)] := hl
  refine lv_aload_n hx hb dX8_hook_0 rfl (lv_at hl 0 rfl) ?_
  refine lv_iload_n hx hb dX8_hook_1 rfl (lv_at hl 1 rfl) ?_
  replace hF := gw_bdE hF
  obtain ⟨r2, e2, hF⟩ := hF
  refine gw_calli I (gw_runV E I (ok_X8_isHook l hD t0 v1 _ e2) (cwV 1 E.1.2.2.2.2 gX8_hook_X8_isHook rfl rfl rfl (by decide +kernel) ⟨Nat.le_of_ble_eq_true rfl, Nat.le_of_ble_eq_true rfl⟩) (by decide) rfl rfl rfl hl.1 rfl (Nat.le_of_ble_eq_true rfl) dX8_hook_2) (fun H locs I => ?_)
  refine lv_if_ne (tgt := 13) hx hb dX8_hook_5 (by decide) (fun c5 => ?_) (fun c5 => ?_)
  · replace hF := gw_if0 c5 hF
    refine lv_iload_n hx hb dX8_hook_13 rfl (lv_at hl 2 rfl) ?_
    refine lv_iconst (v := 0) hx hb dX8_hook_14 (by decide) ?_
    refine lv_bipush (v := 6) hx hb dX8_hook_15 (by decide) ?_
    refine gw_calli I (gw_runS E I (ok_X8_within l hD t0 v2 0 6 _ rfl) (va_cwS 3 E.1.2.2.2.2 gX8_hook_X8_within rfl rfl rfl (by decide +kernel) ⟨Nat.le_of_ble_eq_true rfl, Nat.le_of_ble_eq_true rfl⟩) rfl hl.1 rfl (Nat.le_of_ble_eq_true rfl) dX8_hook_17) (fun H locs I => ?_)
    refine lv_if_eq (tgt := 32) hx hb dX8_hook_20 (by decide) (fun c20 => ?_) (fun c20 => ?_)
    · replace hF := gw_if1 c20 hF
      refine lv_bipush (v := (-102)) hx hb dX8_hook_32 (by decide) ?_
      exact gw_iret E I hr hlocks rfl (Option.some.inj hF) rfl dX8_hook_34
    · replace hF := gw_if0 c20 hF
      refine lv_aload_n hx hb dX8_hook_23 rfl (lv_at hl 0 rfl) ?_
      refine lv_iload_n hx hb dX8_hook_24 rfl (lv_at hl 1 rfl) ?_
      refine lv_iload_n hx hb dX8_hook_25 rfl (lv_at hl 2 rfl) ?_
      replace hF := gw_bdE hF
      obtain ⟨r26, e26, hF⟩ := hF
      refine gw_calli I (gw_runV E I (ok_X8_hookNow l hD t0 v1 v2 _ e26) (cwV 2 E.1.2.2.2.2 gX8_hook_X8_hookNow rfl rfl rfl (by decide +kernel) ⟨Nat.le_of_ble_eq_true rfl, Nat.le_of_ble_eq_true rfl⟩) (by decide) rfl rfl rfl hl.1 rfl (Nat.le_of_ble_eq_true rfl) dX8_hook_26) (fun H locs I => ?_)
      refine lv_goto (tgt := 34) hx hb dX8_hook_29 (by decide) ?_
      exact gw_iret E I hr hlocks rfl (Option.some.inj hF) rfl dX8_hook_34
  · replace hF := gw_if1 c5 hF
    refine lv_bipush (v := (-101)) hx hb dX8_hook_8 (by decide) ?_
    refine lv_goto (tgt := 34) hx hb dX8_hook_10 (by decide) ?_
    exact gw_iret E I hr hlocks rfl (Option.some.inj hF) rfl dX8_hook_34
