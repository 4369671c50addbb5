/-! The contracts: each method does what its function says: written by wip/whole/genall.py. -/
abbrev rmX7_toss : Room := { frames := 4, cells := 0, slots := 0, locals := 86 }
theorem lk_X7_toss_19 : Cond.fieldLink RX7 19 "ThrownSacks" "plan" "LThrownSacks$Plan;" ∈ wsX7_toss := by decide +kernel
theorem lk_X7_toss_26 : Cond.fieldLink RX7 26 "ThrownSacks" "now" "LThrownSacks$Standing;" ∈ wsX7_toss := by decide +kernel
theorem lk_X7_toss_91 : Cond.fieldLink RX7 91 "ThrownSacks$Plan" "hooks" "I" ∈ wsX7_toss := by decide +kernel
theorem lk_X7_toss_106 : Cond.fieldLink RX7 106 "ThrownSacks$Plan" "yards" "[I" ∈ wsX7_toss := by decide +kernel
theorem lk_X7_toss_112 : Cond.fieldLink RX7 112 "ThrownSacks$Row" "size" "I" ∈ wsX7_toss := by decide +kernel
theorem lk_X7_toss_128 : Cond.fieldLink RX7 128 "ThrownSacks$Standing" "belt" "LThrownSacks$Row;" ∈ wsX7_toss := by decide +kernel
theorem lk_X7_toss_159 : Cond.fieldLink RX7 159 "ThrownSacks$Standing" "seconds" "I" ∈ wsX7_toss := by decide +kernel
theorem in_X7_toss_X2 : ∀ w ∈ u_ws RX2 TX2 4, w ∈ wsX7_toss := by decide +kernel
theorem in_X7_toss_X3 : ∀ w ∈ u_ws RX3 TX3 4, w ∈ wsX7_toss := by decide +kernel
theorem in_X7_toss_X4 : ∀ w ∈ u_ws RX4 TX4 8, w ∈ wsX7_toss := by decide +kernel
theorem in_X7_toss_X7 : ∀ w ∈ u_ws RX7 TX7 9, w ∈ wsX7_toss := by decide +kernel
set_option maxHeartbeats 4000000 in
set_option maxRecDepth 100000 in
theorem ok_X7_toss (l : Launch) {D : va_G} {g : gw_G} {tG : Nat} {ad : Nat → Nat} {A : Nat → Prop} (hD : gw_D A 83 ad) (t0 : gw_S) (v1 : Int32) (v2 : Int32) (r0 : Int32) (tz : gw_S) (hF : fX7_toss v1 v2 t0 = some (r0, tz)) : Met l yX7_toss wsX7_toss rmX7_toss (gw_Pc D g tG (tC g ad) 83 ad A [.ref (ad 0), .int v1, .int v2] t0) (gw_Qi D (tC g ad) 83 ad A r0 tz) 0 0 A := by
  unfold fX7_toss at hF
  refine gw_met (by decide) rfl hD (Nat.le_of_ble_eq_true rfl) (fun p e s m args below meth c E hr hlocks I ls hl => ?_)
  have hx := E.1.1
  have hb := E.1.2.1
  have hl : lv_has ls 4 [(0, .ref (ad 0)), (1, .int v1), (2, .int v2)] := hl
  have hJ145 : ∀ (v3 : Int32) (x1 : Int32) (x2 : Int32) (t : gw_S) (H : Heap) (locs : List Loc) (ls : Array Slot), lv_has ls 4 [(3, .int v3)] → gw_I D (tC g ad) 83 ad A s.heap t H locs → fX7_toss_J145 v3 x1 x2 t = some (r0, tz) → W p l e rmX7_toss s m args below meth c H locs 0 0 (MQ below (gw_Qi D (tC g ad) 83 ad A r0 tz) args s 0 0 A) (F0 m 145 ls [.int x2, .int x1, .ref (ad 7)]) := by
    intro v3 x1 x2 t H locs ls hl I hF
    unfold fX7_toss_J145 at hF
    replace hF := gw_bdE hF
    obtain ⟨t_145, e145, hF⟩ := hF
    refine gw_callv I (gw_runV E I (ok_X4_putFirst l hD t x1 x2 _ e145) (cwV 2 E.1.2.2.2.2 gX7_toss_X4_putFirst rfl rfl rfl (by decide +kernel) ⟨Nat.le_of_ble_eq_true rfl, Nat.le_of_ble_eq_true rfl⟩) (by decide) rfl rfl rfl hl.1 rfl (Nat.le_of_ble_eq_true rfl) dX7_toss_145) (fun H locs I => ?_)
    refine lv_iload_n hx hb dX7_toss_148 rfl (lv_at hl 0 rfl) ?_
    exact gw_iret E I hr hlocks rfl (Prod.mk.inj (Option.some.inj hF)).1 (Prod.mk.inj (Option.some.inj hF)).2 dX7_toss_149
  have hJ130 : ∀ (v2 : Int32) (v3 : Int32) (t : gw_S) (H : Heap) (locs : List Loc) (ls : Array Slot), lv_has ls 4 [(0, .ref (ad 0)), (2, .int v2), (3, .int v3)] → gw_I D (tC g ad) 83 ad A s.heap t H locs → fX7_toss_J130 v2 v3 t = some (r0, tz) → W p l e rmX7_toss s m args below meth c H locs 0 0 (MQ below (gw_Qi D (tC g ad) 83 ad A r0 tz) args s 0 0 A) (F0 m 130 ls []) := by
    intro v2 v3 t H locs ls hl I hF
    unfold fX7_toss_J130 at hF
    refine lv_aload_n hx hb dX7_toss_130 rfl (lv_at hl 0 rfl) ?_
    refine gf_C_0_2 E I in_X7_toss_X7 lk_X7_toss_26 dX7_toss_131 ?_
    refine lv_iload_n hx hb dX7_toss_134 rfl (lv_at hl 2 rfl) ?_
    refine lv_iload_n hx hb dX7_toss_135 rfl (lv_at hl 1 rfl) ?_
    refine lv_iconst (v := 2) hx hb dX7_toss_136 (by decide) ?_
    refine lv_icmp_eq (tgt := 144) hx hb dX7_toss_137 (by decide) (fun c137 => ?_) (fun c137 => ?_)
    · replace hF := gw_if1 c137 hF
      refine lv_iconst (v := 0) hx hb dX7_toss_144 (by decide) ?_
      exact hJ145 v3 v3 0 t _ _ _ (lv_sub hl [2] rfl) I hF
    · replace hF := gw_if0 c137 hF
      refine lv_iconst (v := 1) hx hb dX7_toss_140 (by decide) ?_
      refine lv_goto (tgt := 145) hx hb dX7_toss_141 (by decide) ?_
      exact hJ145 v3 v3 1 t _ _ _ (lv_sub hl [2] rfl) I hF
  have hJ87 : ∀ (v1 : Int32) (v2 : Int32) (x0 : Int32) (t : gw_S) (H : Heap) (locs : List Loc) (ls : Array Slot), lv_has ls 4 [(0, .ref (ad 0)), (1, .int v1), (2, .int v2)] → gw_I D (tC g ad) 83 ad A s.heap t H locs → fX7_toss_J87 v1 v2 x0 t = some (r0, tz) → W p l e rmX7_toss s m args below meth c H locs 0 0 (MQ below (gw_Qi D (tC g ad) 83 ad A r0 tz) args s 0 0 A) (F0 m 87 ls [.int x0]) := by
    intro v1 v2 x0 t H locs ls hl I hF
    unfold fX7_toss_J87 at hF
    refine lv_istore_n (lv' := [(3, .int x0), (0, .ref (ad 0)), (1, .int v1), (2, .int v2)]) hx hb dX7_toss_87 rfl hl (by decide) rfl (fun ls hl => ?_)
    refine lv_aload_n hx hb dX7_toss_88 rfl (lv_at hl 1 rfl) ?_
    refine gf_C_0_2 E I in_X7_toss_X7 lk_X7_toss_26 dX7_toss_89 ?_
    refine lv_dup hx hb dX7_toss_92 rfl ?_
    refine gf_C_7_6 E I in_X7_toss_X4 lk_X7_toss_159 dX7_toss_93 ?_
    refine lv_iconst (v := 2) hx hb dX7_toss_96 (by decide) ?_
    refine lv_iadd hx hb dX7_toss_97 ?_
    replace hF := gw_nmE hF
    obtain ⟨t_98, et_98, hF⟩ := hF
    refine gp_C_7_6 E I in_X7_toss_X4 lk_X7_toss_159 et_98 dX7_toss_98 (fun H locs I => ?_)
    refine lv_iload_n hx hb dX7_toss_101 rfl (lv_at hl 3 rfl) ?_
    refine lv_iconst (v := 2) hx hb dX7_toss_102 (by decide) ?_
    refine lv_icmp_ne (tgt := 130) hx hb dX7_toss_103 (by decide) (fun c103 => ?_) (fun c103 => ?_)
    · replace hF := gw_if0 c103 hF
      exact hJ130 v2 x0 t_98 _ _ _ (lv_sub hl [1, 3, 0] rfl) I hF
    · replace hF := gw_if1 c103 hF
      refine lv_aload_n hx hb dX7_toss_106 rfl (lv_at hl 1 rfl) ?_
      refine gf_C_0_2 E I in_X7_toss_X7 lk_X7_toss_26 dX7_toss_107 ?_
      refine lv_dup hx hb dX7_toss_110 rfl ?_
      refine gf_C_7_6 E I in_X7_toss_X4 lk_X7_toss_159 dX7_toss_111 ?_
      refine lv_aload_n hx hb dX7_toss_114 rfl (lv_at hl 1 rfl) ?_
      refine gf_C_0_1 E I in_X7_toss_X7 lk_X7_toss_19 dX7_toss_115 ?_
      refine gf_C_3_0 E I in_X7_toss_X2 lk_X7_toss_106 dX7_toss_118 ?_
      refine lv_iload_n hx hb dX7_toss_121 rfl (lv_at hl 2 rfl) ?_
      replace hF := gw_ifn hF
      obtain ⟨hz122, hF⟩ := hF
      refine gw_iald E I 4 (by decide) rfl hz122 dX7_toss_122 ?_
      refine gw_calli I (gw_runS E I (ok_X7_carrySeconds l hD t_98 (rdI t_98 4 (Int32.toNatClampNeg v1)) _ rfl) (va_cwS 1 E.1.2.2.2.2 gX7_toss_X7_carrySeconds rfl rfl rfl (by decide +kernel) ⟨Nat.le_of_ble_eq_true rfl, Nat.le_of_ble_eq_true rfl⟩) rfl hl.1 rfl (Nat.le_of_ble_eq_true rfl) dX7_toss_123) (fun H locs I => ?_)
      refine lv_iadd hx hb dX7_toss_126 ?_
      replace hF := gw_nmE hF
      obtain ⟨t_127, et_127, hF⟩ := hF
      refine gp_C_7_6 E I in_X7_toss_X4 lk_X7_toss_159 et_127 dX7_toss_127 (fun H locs I => ?_)
      exact hJ130 v2 x0 t_127 _ _ _ (lv_sub hl [1, 3, 0] rfl) I hF
  refine lv_aload_n hx hb dX7_toss_0 rfl (lv_at hl 0 rfl) ?_
  refine lv_iload_n hx hb dX7_toss_1 rfl (lv_at hl 1 rfl) ?_
  refine gw_calli I (gw_runV E I (ok_X7_isKnown l hD t0 v1 _ rfl) (cwV 1 E.1.2.2.2.2 gX7_toss_X7_isKnown rfl rfl rfl (by decide +kernel) ⟨Nat.le_of_ble_eq_true rfl, Nat.le_of_ble_eq_true rfl⟩) (by decide) rfl rfl rfl hl.1 rfl (Nat.le_of_ble_eq_true rfl) dX7_toss_2) (fun H locs I => ?_)
  refine lv_if_ne (tgt := 11) hx hb dX7_toss_5 (by decide) (fun c5 => ?_) (fun c5 => ?_)
  · replace hF := gw_if0 c5 hF
    refine lv_iload_n hx hb dX7_toss_11 rfl (lv_at hl 2 rfl) ?_
    refine lv_if_lt (tgt := 20) hx hb dX7_toss_12 (by decide) (fun c12 => ?_) (fun c12 => ?_)
    · replace hF := gw_if1 c12 hF
      refine lv_bipush (v := (-102)) hx hb dX7_toss_20 (by decide) ?_
      exact gw_iret E I hr hlocks rfl (Prod.mk.inj (Option.some.inj hF)).1 (Prod.mk.inj (Option.some.inj hF)).2 dX7_toss_22
    · replace hF := gw_if0 c12 hF
      refine lv_iload_n hx hb dX7_toss_15 rfl (lv_at hl 2 rfl) ?_
      refine lv_iconst (v := 2) hx hb dX7_toss_16 (by decide) ?_
      refine lv_icmp_le (tgt := 23) hx hb dX7_toss_17 (by decide) (fun c17 => ?_) (fun c17 => ?_)
      · replace hF := gw_if1 c17 hF
        refine lv_aload_n hx hb dX7_toss_23 rfl (lv_at hl 0 rfl) ?_
        refine gf_C_0_2 E I in_X7_toss_X7 lk_X7_toss_26 dX7_toss_24 ?_
        refine gf_C_7_2 E I in_X7_toss_X4 lk_X7_toss_128 dX7_toss_27 ?_
        refine gf_row_3 (by decide) E I in_X7_toss_X3 lk_X7_toss_112 dX7_toss_30 ?_
        refine lv_if_eq (tgt := 64) hx hb dX7_toss_33 (by decide) (fun c33 => ?_) (fun c33 => ?_)
        · replace hF := gw_if1 c33 hF
          refine lv_bipush (v := (-103)) hx hb dX7_toss_64 (by decide) ?_
          exact gw_iret E I hr hlocks rfl (Prod.mk.inj (Option.some.inj hF)).1 (Prod.mk.inj (Option.some.inj hF)).2 dX7_toss_66
        · replace hF := gw_if0 c33 hF
          refine lv_aload_n hx hb dX7_toss_36 rfl (lv_at hl 0 rfl) ?_
          refine lv_iload_n hx hb dX7_toss_37 rfl (lv_at hl 1 rfl) ?_
          replace hF := gw_bdE hF
          obtain ⟨r38, e38, hF⟩ := hF
          refine gw_calli I (gw_runV E I (ok_X7_isFull l hD t0 v1 _ e38) (cwV 1 E.1.2.2.2.2 gX7_toss_X7_isFull rfl rfl rfl (by decide +kernel) ⟨Nat.le_of_ble_eq_true rfl, Nat.le_of_ble_eq_true rfl⟩) (by decide) rfl rfl rfl hl.1 rfl (Nat.le_of_ble_eq_true rfl) dX7_toss_38) (fun H locs I => ?_)
          refine lv_if_ne (tgt := 64) hx hb dX7_toss_41 (by decide) (fun c41 => ?_) (fun c41 => ?_)
          · replace hF := gw_if0 c41 hF
            refine lv_bipush (v := (-103)) hx hb dX7_toss_64 (by decide) ?_
            exact gw_iret E I hr hlocks rfl (Prod.mk.inj (Option.some.inj hF)).1 (Prod.mk.inj (Option.some.inj hF)).2 dX7_toss_66
          · replace hF := gw_if1 c41 hF
            refine lv_aload_n hx hb dX7_toss_44 rfl (lv_at hl 0 rfl) ?_
            refine lv_aload_n hx hb dX7_toss_45 rfl (lv_at hl 0 rfl) ?_
            refine gf_C_0_2 E I in_X7_toss_X7 lk_X7_toss_26 dX7_toss_46 ?_
            refine gf_C_7_2 E I in_X7_toss_X4 lk_X7_toss_128 dX7_toss_49 ?_
            refine lv_iconst (v := 0) hx hb dX7_toss_52 (by decide) ?_
            replace hF := gw_bdE hF
            obtain ⟨r53, e53, hF⟩ := hF
            refine gw_calli I (gw_runV E I (ok_X3_kindAt l hD t0 27 0 (by decide) _ e53) (cwV 1 E.1.2.2.2.2 gX7_toss_X3_kindAt rfl rfl rfl (by decide +kernel) ⟨Nat.le_of_ble_eq_true rfl, Nat.le_of_ble_eq_true rfl⟩) (tC_lt0 (by decide)) (tC_row (by decide)) rfl rfl hl.1 rfl (Nat.le_of_ble_eq_true rfl) dX7_toss_53) (fun H locs I => ?_)
            refine lv_iload_n hx hb dX7_toss_56 rfl (lv_at hl 1 rfl) ?_
            refine lv_iload_n hx hb dX7_toss_57 rfl (lv_at hl 2 rfl) ?_
            replace hF := gw_bdE hF
            obtain ⟨r58, e58, hF⟩ := hF
            refine gw_calli I (gw_runV E I (ok_X7_tenthsAt l hD t0 r53 v1 v2 _ e58) (cwV 3 E.1.2.2.2.2 gX7_toss_X7_tenthsAt rfl rfl rfl (by decide +kernel) ⟨Nat.le_of_ble_eq_true rfl, Nat.le_of_ble_eq_true rfl⟩) (by decide) rfl rfl rfl hl.1 rfl (Nat.le_of_ble_eq_true rfl) dX7_toss_58) (fun H locs I => ?_)
            refine lv_if_ne (tgt := 67) hx hb dX7_toss_61 (by decide) (fun c61 => ?_) (fun c61 => ?_)
            · replace hF := gw_if0 c61 hF
              refine lv_iload_n hx hb dX7_toss_67 rfl (lv_at hl 2 rfl) ?_
              refine lv_iconst (v := 1) hx hb dX7_toss_68 (by decide) ?_
              refine lv_icmp_ne (tgt := 86) hx hb dX7_toss_69 (by decide) (fun c69 => ?_) (fun c69 => ?_)
              · replace hF := gw_if0 c69 hF
                refine lv_iload_n hx hb dX7_toss_86 rfl (lv_at hl 1 rfl) ?_
                exact hJ87 v1 v2 v1 t0 _ _ _ (lv_sub hl [0, 1, 2] rfl) I hF
              · replace hF := gw_if1 c69 hF
                refine lv_iload_n hx hb dX7_toss_72 rfl (lv_at hl 1 rfl) ?_
                refine lv_aload_n hx hb dX7_toss_73 rfl (lv_at hl 0 rfl) ?_
                refine gf_C_0_1 E I in_X7_toss_X7 lk_X7_toss_19 dX7_toss_74 ?_
                refine gf_C_3_3 E I in_X7_toss_X2 lk_X7_toss_91 dX7_toss_77 ?_
                refine gw_calli I (gw_runS E I (ok_X7_nextTo l hD t0 v1 (rdI t0 3 3) _ rfl) (va_cwS 2 E.1.2.2.2.2 gX7_toss_X7_nextTo rfl rfl rfl (by decide +kernel) ⟨Nat.le_of_ble_eq_true rfl, Nat.le_of_ble_eq_true rfl⟩) rfl hl.1 rfl (Nat.le_of_ble_eq_true rfl) dX7_toss_80) (fun H locs I => ?_)
                refine lv_goto (tgt := 87) hx hb dX7_toss_83 (by decide) ?_
                exact hJ87 v1 v2 (fX7_nextTo v1 (rdI t0 3 3) t0) t0 _ _ _ (lv_sub hl [0, 1, 2] rfl) I hF
            · replace hF := gw_if1 c61 hF
              refine lv_bipush (v := (-103)) hx hb dX7_toss_64 (by decide) ?_
              exact gw_iret E I hr hlocks rfl (Prod.mk.inj (Option.some.inj hF)).1 (Prod.mk.inj (Option.some.inj hF)).2 dX7_toss_66
      · replace hF := gw_if0 c17 hF
        refine lv_bipush (v := (-102)) hx hb dX7_toss_20 (by decide) ?_
        exact gw_iret E I hr hlocks rfl (Prod.mk.inj (Option.some.inj hF)).1 (Prod.mk.inj (Option.some.inj hF)).2 dX7_toss_22
  · replace hF := gw_if1 c5 hF
    refine lv_bipush (v := (-101)) hx hb dX7_toss_8 (by decide) ?_
    exact gw_iret E I hr hlocks rfl (Prod.mk.inj (Option.some.inj hF)).1 (Prod.mk.inj (Option.some.inj hF)).2 dX7_toss_10
abbrev rmX7_carry : Room := { frames := 3, cells := 0, slots := 0, locals := 66 }
theorem lk_X7_carry_19 : Cond.fieldLink RX7 19 "ThrownSacks" "plan" "LThrownSacks$Plan;" ∈ wsX7_carry := by decide +kernel
theorem lk_X7_carry_26 : Cond.fieldLink RX7 26 "ThrownSacks" "now" "LThrownSacks$Standing;" ∈ wsX7_carry := by decide +kernel
theorem lk_X7_carry_106 : Cond.fieldLink RX7 106 "ThrownSacks$Plan" "yards" "[I" ∈ wsX7_carry := by decide +kernel
theorem lk_X7_carry_112 : Cond.fieldLink RX7 112 "ThrownSacks$Row" "size" "I" ∈ wsX7_carry := by decide +kernel
theorem lk_X7_carry_128 : Cond.fieldLink RX7 128 "ThrownSacks$Standing" "belt" "LThrownSacks$Row;" ∈ wsX7_carry := by decide +kernel
theorem lk_X7_carry_159 : Cond.fieldLink RX7 159 "ThrownSacks$Standing" "seconds" "I" ∈ wsX7_carry := by decide +kernel
theorem in_X7_carry_X2 : ∀ w ∈ u_ws RX2 TX2 4, w ∈ wsX7_carry := by decide +kernel
theorem in_X7_carry_X3 : ∀ w ∈ u_ws RX3 TX3 4, w ∈ wsX7_carry := by decide +kernel
theorem in_X7_carry_X4 : ∀ w ∈ u_ws RX4 TX4 8, w ∈ wsX7_carry := by decide +kernel
theorem in_X7_carry_X7 : ∀ w ∈ u_ws RX7 TX7 9, w ∈ wsX7_carry := by decide +kernel
set_option maxHeartbeats 4000000 in
set_option maxRecDepth 100000 in
theorem ok_X7_carry (l : Launch) {D : va_G} {g : gw_G} {tG : Nat} {ad : Nat → Nat} {A : Nat → Prop} (hD : gw_D A 83 ad) (t0 : gw_S) (v1 : Int32) (r0 : Int32) (tz : gw_S) (hF : fX7_carry v1 t0 = some (r0, tz)) : Met l yX7_carry wsX7_carry rmX7_carry (gw_Pc D g tG (tC g ad) 83 ad A [.ref (ad 0), .int v1] t0) (gw_Qi D (tC g ad) 83 ad A r0 tz) 0 0 A := by
  unfold fX7_carry at hF
  refine gw_met (by decide) rfl hD (Nat.le_of_ble_eq_true rfl) (fun p e s m args below meth c E hr hlocks I ls hl => ?_)
  have hx := E.1.1
  have hb := E.1.2.1
  have hl : lv_has ls 2 [(0, .ref (ad 0)), (1, .int v1)] := hl
  refine lv_aload_n hx hb dX7_carry_0 rfl (lv_at hl 0 rfl) ?_
  refine lv_iload_n hx hb dX7_carry_1 rfl (lv_at hl 1 rfl) ?_
  refine gw_calli I (gw_runV E I (ok_X7_isKnown l hD t0 v1 _ rfl) (cwV 1 E.1.2.2.2.2 gX7_carry_X7_isKnown rfl rfl rfl (by decide +kernel) ⟨Nat.le_of_ble_eq_true rfl, Nat.le_of_ble_eq_true rfl⟩) (by decide) rfl rfl rfl hl.1 rfl (Nat.le_of_ble_eq_true rfl) dX7_carry_2) (fun H locs I => ?_)
  refine lv_if_ne (tgt := 11) hx hb dX7_carry_5 (by decide) (fun c5 => ?_) (fun c5 => ?_)
  · replace hF := gw_if0 c5 hF
    refine lv_aload_n hx hb dX7_carry_11 rfl (lv_at hl 0 rfl) ?_
    refine gf_C_0_2 E I in_X7_carry_X7 lk_X7_carry_26 dX7_carry_12 ?_
    refine gf_C_7_2 E I in_X7_carry_X4 lk_X7_carry_128 dX7_carry_15 ?_
    refine gf_row_3 (by decide) E I in_X7_carry_X3 lk_X7_carry_112 dX7_carry_18 ?_
    refine lv_if_eq (tgt := 32) hx hb dX7_carry_21 (by decide) (fun c21 => ?_) (fun c21 => ?_)
    · replace hF := gw_if1 c21 hF
      refine lv_bipush (v := (-103)) hx hb dX7_carry_32 (by decide) ?_
      exact gw_iret E I hr hlocks rfl (Prod.mk.inj (Option.some.inj hF)).1 (Prod.mk.inj (Option.some.inj hF)).2 dX7_carry_34
    · replace hF := gw_if0 c21 hF
      refine lv_aload_n hx hb dX7_carry_24 rfl (lv_at hl 0 rfl) ?_
      refine lv_iload_n hx hb dX7_carry_25 rfl (lv_at hl 1 rfl) ?_
      replace hF := gw_bdE hF
      obtain ⟨r26, e26, hF⟩ := hF
      refine gw_calli I (gw_runV E I (ok_X7_isFull l hD t0 v1 _ e26) (cwV 1 E.1.2.2.2.2 gX7_carry_X7_isFull rfl rfl rfl (by decide +kernel) ⟨Nat.le_of_ble_eq_true rfl, Nat.le_of_ble_eq_true rfl⟩) (by decide) rfl rfl rfl hl.1 rfl (Nat.le_of_ble_eq_true rfl) dX7_carry_26) (fun H locs I => ?_)
      refine lv_if_eq (tgt := 35) hx hb dX7_carry_29 (by decide) (fun c29 => ?_) (fun c29 => ?_)
      · replace hF := gw_if1 c29 hF
        refine lv_aload_n hx hb dX7_carry_35 rfl (lv_at hl 0 rfl) ?_
        refine gf_C_0_2 E I in_X7_carry_X7 lk_X7_carry_26 dX7_carry_36 ?_
        refine lv_dup hx hb dX7_carry_39 rfl ?_
        refine gf_C_7_6 E I in_X7_carry_X4 lk_X7_carry_159 dX7_carry_40 ?_
        refine lv_aload_n hx hb dX7_carry_43 rfl (lv_at hl 0 rfl) ?_
        refine gf_C_0_1 E I in_X7_carry_X7 lk_X7_carry_19 dX7_carry_44 ?_
        refine gf_C_3_0 E I in_X7_carry_X2 lk_X7_carry_106 dX7_carry_47 ?_
        refine lv_iload_n hx hb dX7_carry_50 rfl (lv_at hl 1 rfl) ?_
        replace hF := gw_ifn hF
        obtain ⟨hz51, hF⟩ := hF
        refine gw_iald E I 4 (by decide) rfl hz51 dX7_carry_51 ?_
        refine gw_calli I (gw_runS E I (ok_X7_carrySeconds l hD t0 (rdI t0 4 (Int32.toNatClampNeg v1)) _ rfl) (va_cwS 1 E.1.2.2.2.2 gX7_carry_X7_carrySeconds rfl rfl rfl (by decide +kernel) ⟨Nat.le_of_ble_eq_true rfl, Nat.le_of_ble_eq_true rfl⟩) rfl hl.1 rfl (Nat.le_of_ble_eq_true rfl) dX7_carry_52) (fun H locs I => ?_)
        refine lv_iadd hx hb dX7_carry_55 ?_
        replace hF := gw_nmE hF
        obtain ⟨t_56, et_56, hF⟩ := hF
        refine gp_C_7_6 E I in_X7_carry_X4 lk_X7_carry_159 et_56 dX7_carry_56 (fun H locs I => ?_)
        refine lv_aload_n hx hb dX7_carry_59 rfl (lv_at hl 0 rfl) ?_
        refine gf_C_0_2 E I in_X7_carry_X7 lk_X7_carry_26 dX7_carry_60 ?_
        refine lv_iload_n hx hb dX7_carry_63 rfl (lv_at hl 1 rfl) ?_
        refine lv_iconst (v := 0) hx hb dX7_carry_64 (by decide) ?_
        replace hF := gw_bdE hF
        obtain ⟨t_65, e65, hF⟩ := hF
        refine gw_callv I (gw_runV E I (ok_X4_putFirst l hD t_56 v1 0 _ e65) (cwV 2 E.1.2.2.2.2 gX7_carry_X4_putFirst rfl rfl rfl (by decide +kernel) ⟨Nat.le_of_ble_eq_true rfl, Nat.le_of_ble_eq_true rfl⟩) (by decide) rfl rfl rfl hl.1 rfl (Nat.le_of_ble_eq_true rfl) dX7_carry_65) (fun H locs I => ?_)
        refine lv_aload_n hx hb dX7_carry_68 rfl (lv_at hl 0 rfl) ?_
        refine gf_C_0_2 E I in_X7_carry_X7 lk_X7_carry_26 dX7_carry_69 ?_
        refine gf_C_7_6 E I in_X7_carry_X4 lk_X7_carry_159 dX7_carry_72 ?_
        exact gw_iret E I hr hlocks rfl (Prod.mk.inj (Option.some.inj hF)).1 (Prod.mk.inj (Option.some.inj hF)).2 dX7_carry_75
      · replace hF := gw_if0 c29 hF
        refine lv_bipush (v := (-103)) hx hb dX7_carry_32 (by decide) ?_
        exact gw_iret E I hr hlocks rfl (Prod.mk.inj (Option.some.inj hF)).1 (Prod.mk.inj (Option.some.inj hF)).2 dX7_carry_34
  · replace hF := gw_if1 c5 hF
    refine lv_bipush (v := (-101)) hx hb dX7_carry_8 (by decide) ?_
    exact gw_iret E I hr hlocks rfl (Prod.mk.inj (Option.some.inj hF)).1 (Prod.mk.inj (Option.some.inj hF)).2 dX7_carry_10
abbrev rmX7_change : Room := { frames := 2, cells := 0, slots := 0, locals := 42 }
theorem lk_X7_change_26 : Cond.fieldLink RX7 26 "ThrownSacks" "now" "LThrownSacks$Standing;" ∈ wsX7_change := by decide +kernel
theorem lk_X7_change_98 : Cond.fieldLink RX7 98 "ThrownSacks$Standing" "sacks" "[LThrownSacks$Row;" ∈ wsX7_change := by decide +kernel
theorem lk_X7_change_112 : Cond.fieldLink RX7 112 "ThrownSacks$Row" "size" "I" ∈ wsX7_change := by decide +kernel
theorem lk_X7_change_159 : Cond.fieldLink RX7 159 "ThrownSacks$Standing" "seconds" "I" ∈ wsX7_change := by decide +kernel
theorem in_X7_change_X3 : ∀ w ∈ u_ws RX3 TX3 4, w ∈ wsX7_change := by decide +kernel
theorem in_X7_change_X4 : ∀ w ∈ u_ws RX4 TX4 8, w ∈ wsX7_change := by decide +kernel
theorem in_X7_change_X7 : ∀ w ∈ u_ws RX7 TX7 9, w ∈ wsX7_change := by decide +kernel
set_option maxHeartbeats 4000000 in
set_option maxRecDepth 100000 in
theorem ok_X7_change (l : Launch) {D : va_G} {g : gw_G} {tG : Nat} {ad : Nat → Nat} {A : Nat → Prop} (hD : gw_D A 83 ad) (t0 : gw_S) (v1 : Int32) (r0 : Int32) (tz : gw_S) (hF : fX7_change v1 t0 = some (r0, tz)) : Met l yX7_change wsX7_change rmX7_change (gw_Pc D g tG (tC g ad) 83 ad A [.ref (ad 0), .int v1] t0) (gw_Qi D (tC g ad) 83 ad A r0 tz) 0 0 A := by
  unfold fX7_change at hF
  refine gw_met (by decide) rfl hD (Nat.le_of_ble_eq_true rfl) (fun p e s m args below meth c E hr hlocks I ls hl => ?_)
  have hx := E.1.1
  have hb := E.1.2.1
  have hl : lv_has ls 3 [(0, .ref (ad 0)), (1, .int v1)] := hl
  refine lv_aload_n hx hb dX7_change_0 rfl (lv_at hl 0 rfl) ?_
  refine lv_iload_n hx hb dX7_change_1 rfl (lv_at hl 1 rfl) ?_
  refine gw_calli I (gw_runV E I (ok_X7_isKnown l hD t0 v1 _ rfl) (cwV 1 E.1.2.2.2.2 gX7_change_X7_isKnown rfl rfl rfl (by decide +kernel) ⟨Nat.le_of_ble_eq_true rfl, Nat.le_of_ble_eq_true rfl⟩) (by decide) rfl rfl rfl hl.1 rfl (Nat.le_of_ble_eq_true rfl) dX7_change_2) (fun H locs I => ?_)
  refine lv_if_ne (tgt := 11) hx hb dX7_change_5 (by decide) (fun c5 => ?_) (fun c5 => ?_)
  · replace hF := gw_if0 c5 hF
    refine lv_aload_n hx hb dX7_change_11 rfl (lv_at hl 0 rfl) ?_
    refine gf_C_0_2 E I in_X7_change_X7 lk_X7_change_26 dX7_change_12 ?_
    refine gf_C_7_1 E I in_X7_change_X4 lk_X7_change_98 dX7_change_15 ?_
    refine lv_iload_n hx hb dX7_change_18 rfl (lv_at hl 1 rfl) ?_
    replace hF := gw_ifn hF
    obtain ⟨hz19, hF⟩ := hF
    refine gw_aald E I 9 (by decide) rfl hz19 dX7_change_19 ?_
    replace hF := gw_nmE hF
    obtain ⟨r19, er19, hF⟩ := hF
    replace hF := gw_ifn hF
    obtain ⟨hr19, hF⟩ := hF
    refine gw_topr er19 ?_
    refine gf_row_3 hr19 E I in_X7_change_X3 lk_X7_change_112 dX7_change_20 ?_
    replace hF := gw_nmE hF
    obtain ⟨v2_23, ev2_23, hF⟩ := hF
    refine gw_topi ev2_23 ?_
    refine lv_istore_n (lv' := [(2, .int v2_23), (0, .ref (ad 0)), (1, .int v1)]) hx hb dX7_change_23 rfl hl (by decide) rfl (fun ls hl => ?_)
    refine lv_aload_n hx hb dX7_change_24 rfl (lv_at hl 1 rfl) ?_
    refine gf_C_0_2 E I in_X7_change_X7 lk_X7_change_26 dX7_change_25 ?_
    refine gf_C_7_1 E I in_X7_change_X4 lk_X7_change_98 dX7_change_28 ?_
    refine lv_iload_n hx hb dX7_change_31 rfl (lv_at hl 2 rfl) ?_
    replace hF := gw_ifn hF
    obtain ⟨hz32, hF⟩ := hF
    refine gw_aald E I 9 (by decide) rfl hz32 dX7_change_32 ?_
    replace hF := gw_nmE hF
    obtain ⟨r32, er32, hF⟩ := hF
    replace hF := gw_ifn hF
    obtain ⟨hr32, hF⟩ := hF
    refine gw_topr er32 ?_
    refine lv_iconst (v := 0) hx hb dX7_change_33 (by decide) ?_
    replace hF := gw_nmE hF
    obtain ⟨t_34, et_34, hF⟩ := hF
    refine gp_row_3 hr32 E I in_X7_change_X3 lk_X7_change_112 et_34 dX7_change_34 (fun H locs I => ?_)
    refine lv_aload_n hx hb dX7_change_37 rfl (lv_at hl 1 rfl) ?_
    refine gf_C_0_2 E I in_X7_change_X7 lk_X7_change_26 dX7_change_38 ?_
    refine lv_dup hx hb dX7_change_41 rfl ?_
    refine gf_C_7_6 E I in_X7_change_X4 lk_X7_change_159 dX7_change_42 ?_
    refine lv_bipush (v := 40) hx hb dX7_change_45 (by decide) ?_
    refine lv_iadd hx hb dX7_change_47 ?_
    replace hF := gw_nmE hF
    obtain ⟨t_48, et_48, hF⟩ := hF
    refine gp_C_7_6 E I in_X7_change_X4 lk_X7_change_159 et_48 dX7_change_48 (fun H locs I => ?_)
    refine lv_iload_n hx hb dX7_change_51 rfl (lv_at hl 0 rfl) ?_
    exact gw_iret E I hr hlocks rfl (Prod.mk.inj (Option.some.inj hF)).1 (Prod.mk.inj (Option.some.inj hF)).2 dX7_change_52
  · replace hF := gw_if1 c5 hF
    refine lv_bipush (v := (-101)) hx hb dX7_change_8 (by decide) ?_
    exact gw_iret E I hr hlocks rfl (Prod.mk.inj (Option.some.inj hF)).1 (Prod.mk.inj (Option.some.inj hF)).2 dX7_change_10
abbrev rmX4_swap : Room := { frames := 0, cells := 0, slots := 0, locals := 0 }
theorem lk_X4_swap_9 : Cond.fieldLink RX4 9 "ThrownSacks$Standing" "towns" "[I" ∈ wsX4_swap := by decide +kernel
theorem lk_X4_swap_17 : Cond.fieldLink RX4 17 "ThrownSacks$Standing" "sacks" "[LThrownSacks$Row;" ∈ wsX4_swap := by decide +kernel
theorem in_X4_swap_X4 : ∀ w ∈ u_ws RX4 TX4 8, w ∈ wsX4_swap := by decide +kernel
set_option maxHeartbeats 4000000 in
set_option maxRecDepth 100000 in
theorem ok_X4_swap (l : Launch) {D : va_G} {g : gw_G} {tG : Nat} {ad : Nat → Nat} {A : Nat → Prop} (hD : gw_D A 83 ad) (t0 : gw_S) (v1 : Int32) (v2 : Int32) (tz : gw_S) (hF : fX4_swap v1 v2 t0 = some tz) : Met l yX4_swap wsX4_swap rmX4_swap (gw_Pc D g tG (tC g ad) 83 ad A [.ref (ad 7), .int v1, .int v2] t0) (gw_Qv D (tC g ad) 83 ad A tz) 0 0 A := by
  unfold fX4_swap at hF
  refine gw_met (by decide) rfl hD (Nat.le_of_ble_eq_true rfl) (fun p e s m args below meth c E hr hlocks I ls hl => ?_)
  have hx := E.1.1
  have hb := E.1.2.1
  have hl : lv_has ls 5 [(0, .ref (ad 7)), (1, .int v1), (2, .int v2)] := hl
  refine lv_aload_n hx hb dX4_swap_0 rfl (lv_at hl 0 rfl) ?_
  refine gf_C_7_1 E I in_X4_swap_X4 lk_X4_swap_17 dX4_swap_1 ?_
  refine lv_iload_n hx hb dX4_swap_4 rfl (lv_at hl 1 rfl) ?_
  replace hF := gw_ifn hF
  obtain ⟨hz5, hF⟩ := hF
  refine gw_aald E I 9 (by decide) rfl hz5 dX4_swap_5 ?_
  replace hF := gw_nmE hF
  obtain ⟨r5, er5, hF⟩ := hF
  replace hF := gw_ifn hF
  obtain ⟨hr5, hF⟩ := hF
  refine gw_topr er5 ?_
  refine lv_astore_n (lv' := [(3, .ref (ad r5)), (0, .ref (ad 7)), (1, .int v1), (2, .int v2)]) hx hb dX4_swap_6 rfl hl (by decide) rfl (fun ls hl => ?_)
  refine lv_aload_n hx hb dX4_swap_7 rfl (lv_at hl 1 rfl) ?_
  refine gf_C_7_1 E I in_X4_swap_X4 lk_X4_swap_17 dX4_swap_8 ?_
  refine lv_iload_n hx hb dX4_swap_11 rfl (lv_at hl 2 rfl) ?_
  refine lv_aload_n hx hb dX4_swap_12 rfl (lv_at hl 1 rfl) ?_
  refine gf_C_7_1 E I in_X4_swap_X4 lk_X4_swap_17 dX4_swap_13 ?_
  refine lv_iload_n hx hb dX4_swap_16 rfl (lv_at hl 3 rfl) ?_
  replace hF := gw_ifn hF
  obtain ⟨hz17, hF⟩ := hF
  refine gw_aald E I 9 (by decide) rfl hz17 dX4_swap_17 ?_
  replace hF := gw_nmE hF
  obtain ⟨r17, er17, hF⟩ := hF
  replace hF := gw_ifn hF
  obtain ⟨hr17, hF⟩ := hF
  refine gw_topr er17 ?_
  replace hF := gw_ifn hF
  obtain ⟨hz18, hF⟩ := hF
  replace hF := gw_nmE hF
  obtain ⟨t_18, et_18, hF⟩ := hF
  refine gw_aast E I 9 r17 (by decide) (tC_lt0 hr17) (fun _ => rfl) (tC_row hr17) hz18 et_18 dX4_swap_18 (fun H locs I => ?_)
  refine lv_aload_n hx hb dX4_swap_19 rfl (lv_at hl 1 rfl) ?_
  refine gf_C_7_1 E I in_X4_swap_X4 lk_X4_swap_17 dX4_swap_20 ?_
  refine lv_iload_n hx hb dX4_swap_23 rfl (lv_at hl 3 rfl) ?_
  refine lv_aload_n hx hb dX4_swap_24 rfl (lv_at hl 0 rfl) ?_
  replace hF := gw_ifn hF
  obtain ⟨hz25, hF⟩ := hF
  replace hF := gw_nmE hF
  obtain ⟨t_25, et_25, hF⟩ := hF
  refine gw_aast E I 9 r5 (by decide) (tC_lt0 hr5) (fun _ => rfl) (tC_row hr5) hz25 et_25 dX4_swap_25 (fun H locs I => ?_)
  refine lv_aload_n hx hb dX4_swap_26 rfl (lv_at hl 1 rfl) ?_
  refine gf_C_7_0 E I in_X4_swap_X4 lk_X4_swap_9 dX4_swap_27 ?_
  refine lv_iload_n hx hb dX4_swap_30 rfl (lv_at hl 2 rfl) ?_
  replace hF := gw_ifn hF
  obtain ⟨hz31, hF⟩ := hF
  refine gw_iald E I 8 (by decide) rfl hz31 dX4_swap_31 ?_
  replace hF := gw_nmE hF
  obtain ⟨v4_32, ev4_32, hF⟩ := hF
  refine gw_topi ev4_32 ?_
  refine lv_istore (lv' := [(4, .int v4_32), (3, .ref (ad r5)), (0, .ref (ad 7)), (1, .int v1), (2, .int v2)]) hx hb dX4_swap_32 hl (by decide) rfl (fun ls hl => ?_)
  refine lv_aload_n hx hb dX4_swap_34 rfl (lv_at hl 2 rfl) ?_
  refine gf_C_7_0 E I in_X4_swap_X4 lk_X4_swap_9 dX4_swap_35 ?_
  refine lv_iload_n hx hb dX4_swap_38 rfl (lv_at hl 3 rfl) ?_
  refine lv_aload_n hx hb dX4_swap_39 rfl (lv_at hl 2 rfl) ?_
  refine gf_C_7_0 E I in_X4_swap_X4 lk_X4_swap_9 dX4_swap_40 ?_
  refine lv_iload_n hx hb dX4_swap_43 rfl (lv_at hl 4 rfl) ?_
  replace hF := gw_ifn hF
  obtain ⟨hz44, hF⟩ := hF
  refine gw_iald E I 8 (by decide) rfl hz44 dX4_swap_44 ?_
  replace hF := gw_ifn hF
  obtain ⟨hz45, hF⟩ := hF
  replace hF := gw_nmE hF
  obtain ⟨t_45, et_45, hF⟩ := hF
  refine gw_iast E I 8 (by decide) (fun _ => rfl) hz45 et_45 dX4_swap_45 (fun H locs I => ?_)
  refine lv_aload_n hx hb dX4_swap_46 rfl (lv_at hl 2 rfl) ?_
  refine gf_C_7_0 E I in_X4_swap_X4 lk_X4_swap_9 dX4_swap_47 ?_
  refine lv_iload_n hx hb dX4_swap_50 rfl (lv_at hl 4 rfl) ?_
  refine lv_iload hx hb dX4_swap_51 (lv_at hl 0 rfl) ?_
  replace hF := gw_ifn hF
  obtain ⟨hz53, hF⟩ := hF
  replace hF := gw_nmE hF
  obtain ⟨t_53, et_53, hF⟩ := hF
  refine gw_iast E I 8 (by decide) (fun _ => rfl) hz53 et_53 dX4_swap_53 (fun H locs I => ?_)
  exact gw_vret E I hr hlocks (Option.some.inj hF) dX4_swap_54
abbrev rmX7_exchange : Room := { frames := 2, cells := 0, slots := 0, locals := 42 }
theorem lk_X7_exchange_19 : Cond.fieldLink RX7 19 "ThrownSacks" "plan" "LThrownSacks$Plan;" ∈ wsX7_exchange := by decide +kernel
theorem lk_X7_exchange_26 : Cond.fieldLink RX7 26 "ThrownSacks" "now" "LThrownSacks$Standing;" ∈ wsX7_exchange := by decide +kernel
theorem lk_X7_exchange_98 : Cond.fieldLink RX7 98 "ThrownSacks$Standing" "sacks" "[LThrownSacks$Row;" ∈ wsX7_exchange := by decide +kernel
theorem lk_X7_exchange_109 : Cond.fieldLink RX7 109 "ThrownSacks$Plan" "room" "[I" ∈ wsX7_exchange := by decide +kernel
theorem lk_X7_exchange_112 : Cond.fieldLink RX7 112 "ThrownSacks$Row" "size" "I" ∈ wsX7_exchange := by decide +kernel
theorem lk_X7_exchange_159 : Cond.fieldLink RX7 159 "ThrownSacks$Standing" "seconds" "I" ∈ wsX7_exchange := by decide +kernel
theorem in_X7_exchange_X2 : ∀ w ∈ u_ws RX2 TX2 4, w ∈ wsX7_exchange := by decide +kernel
theorem in_X7_exchange_X3 : ∀ w ∈ u_ws RX3 TX3 4, w ∈ wsX7_exchange := by decide +kernel
theorem in_X7_exchange_X4 : ∀ w ∈ u_ws RX4 TX4 8, w ∈ wsX7_exchange := by decide +kernel
theorem in_X7_exchange_X7 : ∀ w ∈ u_ws RX7 TX7 9, w ∈ wsX7_exchange := by decide +kernel
set_option maxHeartbeats 4000000 in
set_option maxRecDepth 100000 in
theorem ok_X7_exchange (l : Launch) {D : va_G} {g : gw_G} {tG : Nat} {ad : Nat → Nat} {A : Nat → Prop} (hD : gw_D A 83 ad) (t0 : gw_S) (v1 : Int32) (v2 : Int32) (r0 : Int32) (tz : gw_S) (hF : fX7_exchange v1 v2 t0 = some (r0, tz)) : Met l yX7_exchange wsX7_exchange rmX7_exchange (gw_Pc D g tG (tC g ad) 83 ad A [.ref (ad 0), .int v1, .int v2] t0) (gw_Qi D (tC g ad) 83 ad A r0 tz) 0 0 A := by
  unfold fX7_exchange at hF
  refine gw_met (by decide) rfl hD (Nat.le_of_ble_eq_true rfl) (fun p e s m args below meth c E hr hlocks I ls hl => ?_)
  have hx := E.1.1
  have hb := E.1.2.1
  have hl : lv_has ls 3 [(0, .ref (ad 0)), (1, .int v1), (2, .int v2)] := hl
  refine lv_aload_n hx hb dX7_exchange_0 rfl (lv_at hl 0 rfl) ?_
  refine lv_iload_n hx hb dX7_exchange_1 rfl (lv_at hl 1 rfl) ?_
  refine gw_calli I (gw_runV E I (ok_X7_isKnown l hD t0 v1 _ rfl) (cwV 1 E.1.2.2.2.2 gX7_exchange_X7_isKnown rfl rfl rfl (by decide +kernel) ⟨Nat.le_of_ble_eq_true rfl, Nat.le_of_ble_eq_true rfl⟩) (by decide) rfl rfl rfl hl.1 rfl (Nat.le_of_ble_eq_true rfl) dX7_exchange_2) (fun H locs I => ?_)
  refine lv_if_eq (tgt := 21) hx hb dX7_exchange_5 (by decide) (fun c5 => ?_) (fun c5 => ?_)
  · replace hF := gw_if1 c5 hF
    refine lv_bipush (v := (-101)) hx hb dX7_exchange_21 (by decide) ?_
    exact gw_iret E I hr hlocks rfl (Prod.mk.inj (Option.some.inj hF)).1 (Prod.mk.inj (Option.some.inj hF)).2 dX7_exchange_23
  · replace hF := gw_if0 c5 hF
    refine lv_aload_n hx hb dX7_exchange_8 rfl (lv_at hl 0 rfl) ?_
    refine lv_iload_n hx hb dX7_exchange_9 rfl (lv_at hl 2 rfl) ?_
    refine gw_calli I (gw_runV E I (ok_X7_isKnown l hD t0 v2 _ rfl) (cwV 1 E.1.2.2.2.2 gX7_exchange_X7_isKnown rfl rfl rfl (by decide +kernel) ⟨Nat.le_of_ble_eq_true rfl, Nat.le_of_ble_eq_true rfl⟩) (by decide) rfl rfl rfl hl.1 rfl (Nat.le_of_ble_eq_true rfl) dX7_exchange_10) (fun H locs I => ?_)
    refine lv_if_eq (tgt := 21) hx hb dX7_exchange_13 (by decide) (fun c13 => ?_) (fun c13 => ?_)
    · replace hF := gw_if1 c13 hF
      refine lv_bipush (v := (-101)) hx hb dX7_exchange_21 (by decide) ?_
      exact gw_iret E I hr hlocks rfl (Prod.mk.inj (Option.some.inj hF)).1 (Prod.mk.inj (Option.some.inj hF)).2 dX7_exchange_23
    · replace hF := gw_if0 c13 hF
      refine lv_iload_n hx hb dX7_exchange_16 rfl (lv_at hl 1 rfl) ?_
      refine lv_iload_n hx hb dX7_exchange_17 rfl (lv_at hl 2 rfl) ?_
      refine lv_icmp_ne (tgt := 24) hx hb dX7_exchange_18 (by decide) (fun c18 => ?_) (fun c18 => ?_)
      · replace hF := gw_if0 c18 hF
        refine lv_aload_n hx hb dX7_exchange_24 rfl (lv_at hl 0 rfl) ?_
        refine gf_C_0_2 E I in_X7_exchange_X7 lk_X7_exchange_26 dX7_exchange_25 ?_
        refine gf_C_7_1 E I in_X7_exchange_X4 lk_X7_exchange_98 dX7_exchange_28 ?_
        refine lv_iload_n hx hb dX7_exchange_31 rfl (lv_at hl 1 rfl) ?_
        replace hF := gw_ifn hF
        obtain ⟨hz32, hF⟩ := hF
        refine gw_aald E I 9 (by decide) rfl hz32 dX7_exchange_32 ?_
        replace hF := gw_nmE hF
        obtain ⟨r32, er32, hF⟩ := hF
        replace hF := gw_ifn hF
        obtain ⟨hr32, hF⟩ := hF
        refine gw_topr er32 ?_
        refine gf_row_3 hr32 E I in_X7_exchange_X3 lk_X7_exchange_112 dX7_exchange_33 ?_
        refine lv_aload_n hx hb dX7_exchange_36 rfl (lv_at hl 0 rfl) ?_
        refine gf_C_0_1 E I in_X7_exchange_X7 lk_X7_exchange_19 dX7_exchange_37 ?_
        refine gf_C_3_1 E I in_X7_exchange_X2 lk_X7_exchange_109 dX7_exchange_40 ?_
        refine lv_iload_n hx hb dX7_exchange_43 rfl (lv_at hl 2 rfl) ?_
        replace hF := gw_ifn hF
        obtain ⟨hz44, hF⟩ := hF
        refine gw_iald E I 5 (by decide) rfl hz44 dX7_exchange_44 ?_
        refine lv_icmp_gt (tgt := 72) hx hb dX7_exchange_45 (by decide) (fun c45 => ?_) (fun c45 => ?_)
        · replace hF := gw_if1 c45 hF
          refine lv_bipush (v := (-103)) hx hb dX7_exchange_72 (by decide) ?_
          exact gw_iret E I hr hlocks rfl (Prod.mk.inj (Option.some.inj hF)).1 (Prod.mk.inj (Option.some.inj hF)).2 dX7_exchange_74
        · replace hF := gw_if0 c45 hF
          refine lv_aload_n hx hb dX7_exchange_48 rfl (lv_at hl 0 rfl) ?_
          refine gf_C_0_2 E I in_X7_exchange_X7 lk_X7_exchange_26 dX7_exchange_49 ?_
          refine gf_C_7_1 E I in_X7_exchange_X4 lk_X7_exchange_98 dX7_exchange_52 ?_
          refine lv_iload_n hx hb dX7_exchange_55 rfl (lv_at hl 2 rfl) ?_
          replace hF := gw_ifn hF
          obtain ⟨hz56, hF⟩ := hF
          refine gw_aald E I 9 (by decide) rfl hz56 dX7_exchange_56 ?_
          replace hF := gw_nmE hF
          obtain ⟨r56, er56, hF⟩ := hF
          replace hF := gw_ifn hF
          obtain ⟨hr56, hF⟩ := hF
          refine gw_topr er56 ?_
          refine gf_row_3 hr56 E I in_X7_exchange_X3 lk_X7_exchange_112 dX7_exchange_57 ?_
          refine lv_aload_n hx hb dX7_exchange_60 rfl (lv_at hl 0 rfl) ?_
          refine gf_C_0_1 E I in_X7_exchange_X7 lk_X7_exchange_19 dX7_exchange_61 ?_
          refine gf_C_3_1 E I in_X7_exchange_X2 lk_X7_exchange_109 dX7_exchange_64 ?_
          refine lv_iload_n hx hb dX7_exchange_67 rfl (lv_at hl 1 rfl) ?_
          replace hF := gw_ifn hF
          obtain ⟨hz68, hF⟩ := hF
          refine gw_iald E I 5 (by decide) rfl hz68 dX7_exchange_68 ?_
          refine lv_icmp_le (tgt := 75) hx hb dX7_exchange_69 (by decide) (fun c69 => ?_) (fun c69 => ?_)
          · replace hF := gw_if1 c69 hF
            refine lv_aload_n hx hb dX7_exchange_75 rfl (lv_at hl 0 rfl) ?_
            refine gf_C_0_2 E I in_X7_exchange_X7 lk_X7_exchange_26 dX7_exchange_76 ?_
            refine lv_iload_n hx hb dX7_exchange_79 rfl (lv_at hl 1 rfl) ?_
            refine lv_iload_n hx hb dX7_exchange_80 rfl (lv_at hl 2 rfl) ?_
            replace hF := gw_bdE hF
            obtain ⟨t_81, e81, hF⟩ := hF
            refine gw_callv I (gw_runV E I (ok_X4_swap l hD t0 v1 v2 _ e81) (cwV 2 E.1.2.2.2.2 gX7_exchange_X4_swap rfl rfl rfl (by decide +kernel) ⟨Nat.le_of_ble_eq_true rfl, Nat.le_of_ble_eq_true rfl⟩) (by decide) rfl rfl rfl hl.1 rfl (Nat.le_of_ble_eq_true rfl) dX7_exchange_81) (fun H locs I => ?_)
            refine lv_aload_n hx hb dX7_exchange_84 rfl (lv_at hl 0 rfl) ?_
            refine gf_C_0_2 E I in_X7_exchange_X7 lk_X7_exchange_26 dX7_exchange_85 ?_
            refine lv_dup hx hb dX7_exchange_88 rfl ?_
            refine gf_C_7_6 E I in_X7_exchange_X4 lk_X7_exchange_159 dX7_exchange_89 ?_
            refine lv_bipush (v := 10) hx hb dX7_exchange_92 (by decide) ?_
            refine lv_iadd hx hb dX7_exchange_94 ?_
            replace hF := gw_nmE hF
            obtain ⟨t_95, et_95, hF⟩ := hF
            refine gp_C_7_6 E I in_X7_exchange_X4 lk_X7_exchange_159 et_95 dX7_exchange_95 (fun H locs I => ?_)
            refine lv_aload_n hx hb dX7_exchange_98 rfl (lv_at hl 0 rfl) ?_
            refine gf_C_0_2 E I in_X7_exchange_X7 lk_X7_exchange_26 dX7_exchange_99 ?_
            refine gf_C_7_6 E I in_X7_exchange_X4 lk_X7_exchange_159 dX7_exchange_102 ?_
            exact gw_iret E I hr hlocks rfl (Prod.mk.inj (Option.some.inj hF)).1 (Prod.mk.inj (Option.some.inj hF)).2 dX7_exchange_105
          · replace hF := gw_if0 c69 hF
            refine lv_bipush (v := (-103)) hx hb dX7_exchange_72 (by decide) ?_
            exact gw_iret E I hr hlocks rfl (Prod.mk.inj (Option.some.inj hF)).1 (Prod.mk.inj (Option.some.inj hF)).2 dX7_exchange_74
      · replace hF := gw_if1 c18 hF
        refine lv_bipush (v := (-101)) hx hb dX7_exchange_21 (by decide) ?_
        exact gw_iret E I hr hlocks rfl (Prod.mk.inj (Option.some.inj hF)).1 (Prod.mk.inj (Option.some.inj hF)).2 dX7_exchange_23
abbrev rmX7_odds : Room := { frames := 4, cells := 0, slots := 0, locals := 86 }
theorem lk_X7_odds_19 : Cond.fieldLink RX7 19 "ThrownSacks" "plan" "LThrownSacks$Plan;" ∈ wsX7_odds := by decide +kernel
theorem lk_X7_odds_91 : Cond.fieldLink RX7 91 "ThrownSacks$Plan" "hooks" "I" ∈ wsX7_odds := by decide +kernel
theorem lk_X7_odds_106 : Cond.fieldLink RX7 106 "ThrownSacks$Plan" "yards" "[I" ∈ wsX7_odds := by decide +kernel
theorem in_X7_odds_X2 : ∀ w ∈ u_ws RX2 TX2 4, w ∈ wsX7_odds := by decide +kernel
theorem in_X7_odds_X7 : ∀ w ∈ u_ws RX7 TX7 9, w ∈ wsX7_odds := by decide +kernel
set_option maxHeartbeats 4000000 in
set_option maxRecDepth 100000 in
theorem ok_X7_odds (l : Launch) {D : va_G} {g : gw_G} {tG : Nat} {ad : Nat → Nat} {A : Nat → Prop} (hD : gw_D A 83 ad) (t0 : gw_S) (v1 : Int32) (v2 : Int32) (v3 : Int32) (r0 : Int32) (hF : fX7_odds v1 v2 v3 t0 = some r0) : Met l yX7_odds wsX7_odds rmX7_odds (gw_Pc D g tG (tC g ad) 83 ad A [.ref (ad 0), .int v1, .int v2, .int v3] t0) (gw_Qi D (tC g ad) 83 ad A r0 t0) 0 0 A := by
  unfold fX7_odds at hF
  refine gw_met (by decide) rfl hD (Nat.le_of_ble_eq_true rfl) (fun p e s m args below meth c E hr hlocks I ls hl => ?_)
  have hx := E.1.1
  have hb := E.1.2.1
  have hl : lv_has ls 6 [(0, .ref (ad 0)), (1, .int v1), (2, .int v2), (3, .int v3)] := hl
  refine lv_iload_n hx hb dX7_odds_0 rfl (lv_at hl 1 rfl) ?_
  refine gw_calli I (gw_runS E I (ok_X7_isKind l hD t0 v1 _ rfl) (va_cwS 1 E.1.2.2.2.2 gX7_odds_X7_isKind rfl rfl rfl (by decide +kernel) ⟨Nat.le_of_ble_eq_true rfl, Nat.le_of_ble_eq_true rfl⟩) rfl hl.1 rfl (Nat.le_of_ble_eq_true rfl) dX7_odds_1) (fun H locs I => ?_)
  refine lv_if_ne (tgt := 10) hx hb dX7_odds_4 (by decide) (fun c4 => ?_) (fun c4 => ?_)
  · replace hF := gw_if0 c4 hF
    refine lv_aload_n hx hb dX7_odds_10 rfl (lv_at hl 0 rfl) ?_
    refine lv_iload_n hx hb dX7_odds_11 rfl (lv_at hl 2 rfl) ?_
    refine gw_calli I (gw_runV E I (ok_X7_isKnown l hD t0 v2 _ rfl) (cwV 1 E.1.2.2.2.2 gX7_odds_X7_isKnown rfl rfl rfl (by decide +kernel) ⟨Nat.le_of_ble_eq_true rfl, Nat.le_of_ble_eq_true rfl⟩) (by decide) rfl rfl rfl hl.1 rfl (Nat.le_of_ble_eq_true rfl) dX7_odds_12) (fun H locs I => ?_)
    refine lv_if_ne (tgt := 21) hx hb dX7_odds_15 (by decide) (fun c15 => ?_) (fun c15 => ?_)
    · replace hF := gw_if0 c15 hF
      refine lv_aload_n hx hb dX7_odds_21 rfl (lv_at hl 0 rfl) ?_
      refine gf_C_0_1 E I in_X7_odds_X7 lk_X7_odds_19 dX7_odds_22 ?_
      refine gf_C_3_0 E I in_X7_odds_X2 lk_X7_odds_106 dX7_odds_25 ?_
      refine lv_iload_n hx hb dX7_odds_28 rfl (lv_at hl 2 rfl) ?_
      replace hF := gw_ifn hF
      obtain ⟨hz29, hF⟩ := hF
      refine gw_iald E I 4 (by decide) rfl hz29 dX7_odds_29 ?_
      refine gw_calli I (gw_runS E I (ok_X7_carryTenths l hD t0 (rdI t0 4 (Int32.toNatClampNeg v2)) _ rfl) (va_cwS 1 E.1.2.2.2.2 gX7_odds_X7_carryTenths rfl rfl rfl (by decide +kernel) ⟨Nat.le_of_ble_eq_true rfl, Nat.le_of_ble_eq_true rfl⟩) rfl hl.1 rfl (Nat.le_of_ble_eq_true rfl) dX7_odds_30) (fun H locs I => ?_)
      replace hF := gw_nmE hF
      obtain ⟨v4_33, ev4_33, hF⟩ := hF
      refine gw_topi ev4_33 ?_
      refine lv_istore (lv' := [(4, .int v4_33), (0, .ref (ad 0)), (1, .int v1), (2, .int v2), (3, .int v3)]) hx hb dX7_odds_33 hl (by decide) rfl (fun ls hl => ?_)
      refine lv_iload_n hx hb dX7_odds_35 rfl (lv_at hl 2 rfl) ?_
      refine lv_aload_n hx hb dX7_odds_36 rfl (lv_at hl 1 rfl) ?_
      refine gf_C_0_1 E I in_X7_odds_X7 lk_X7_odds_19 dX7_odds_37 ?_
      refine gf_C_3_0 E I in_X7_odds_X2 lk_X7_odds_106 dX7_odds_40 ?_
      refine lv_iload_n hx hb dX7_odds_43 rfl (lv_at hl 3 rfl) ?_
      replace hF := gw_ifn hF
      obtain ⟨hz44, hF⟩ := hF
      refine gw_iald E I 4 (by decide) rfl hz44 dX7_odds_44 ?_
      refine lv_aload_n hx hb dX7_odds_45 rfl (lv_at hl 1 rfl) ?_
      refine lv_iload_n hx hb dX7_odds_46 rfl (lv_at hl 3 rfl) ?_
      refine lv_aload_n hx hb dX7_odds_47 rfl (lv_at hl 1 rfl) ?_
      refine gf_C_0_1 E I in_X7_odds_X7 lk_X7_odds_19 dX7_odds_48 ?_
      refine gf_C_3_3 E I in_X7_odds_X2 lk_X7_odds_91 dX7_odds_51 ?_
      refine gw_calli I (gw_runS E I (ok_X7_nextTo l hD t0 v2 (rdI t0 3 3) _ rfl) (va_cwS 2 E.1.2.2.2.2 gX7_odds_X7_nextTo rfl rfl rfl (by decide +kernel) ⟨Nat.le_of_ble_eq_true rfl, Nat.le_of_ble_eq_true rfl⟩) rfl hl.1 rfl (Nat.le_of_ble_eq_true rfl) dX7_odds_54) (fun H locs I => ?_)
      replace hF := gw_bdE hF
      obtain ⟨r57, e57, hF⟩ := hF
      refine gw_calli I (gw_runV E I (ok_X7_isFull l hD t0 (fX7_nextTo v2 (rdI t0 3 3) t0) _ e57) (cwV 1 E.1.2.2.2.2 gX7_odds_X7_isFull rfl rfl rfl (by decide +kernel) ⟨Nat.le_of_ble_eq_true rfl, Nat.le_of_ble_eq_true rfl⟩) (by decide) rfl rfl rfl hl.1 rfl (Nat.le_of_ble_eq_true rfl) dX7_odds_57) (fun H locs I => ?_)
      replace hF := gw_bdE hF
      obtain ⟨r60, e60, hF⟩ := hF
      refine gw_calli I (gw_runS E I (ok_X7_costOf l hD t0 v1 (rdI t0 4 (Int32.toNatClampNeg v2)) r57 _ e60) (va_cwS 3 E.1.2.2.2.2 gX7_odds_X7_costOf rfl rfl rfl (by decide +kernel) ⟨Nat.le_of_ble_eq_true rfl, Nat.le_of_ble_eq_true rfl⟩) rfl hl.1 rfl (Nat.le_of_ble_eq_true rfl) dX7_odds_60) (fun H locs I => ?_)
      refine lv_istore (lv' := [(5, .int r60), (4, .int v4_33), (0, .ref (ad 0)), (1, .int v1), (2, .int v2), (3, .int v3)]) hx hb dX7_odds_63 hl (by decide) rfl (fun ls hl => ?_)
      refine lv_iload_n hx hb dX7_odds_65 rfl (lv_at hl 5 rfl) ?_
      by_cases c66_0 : v3 = 0
      · replace hF := gw_if1 c66_0 hF
        refine lv_tableIn (off := 38) (tgt := 104) hx hb dX7_odds_66 (by rw [gw_sw c66_0 (a := 0) (by decide)]; decide) (by rw [gw_sw c66_0 (a := 0) (by decide)]; decide) (by rw [gw_sw c66_0 (a := 0) (by decide)]; rfl) (by decide) ?_
        refine lv_aload_n hx hb dX7_odds_104 rfl (lv_at hl 2 rfl) ?_
        refine lv_iload_n hx hb dX7_odds_105 rfl (lv_at hl 3 rfl) ?_
        refine lv_iload_n hx hb dX7_odds_106 rfl (lv_at hl 4 rfl) ?_
        refine lv_iconst (v := 0) hx hb dX7_odds_107 (by decide) ?_
        replace hF := gw_bdE hF
        obtain ⟨r108, e108, hF⟩ := hF
        refine gw_calli I (gw_runV E I (ok_X7_tenthsAt l hD t0 v1 v2 0 _ e108) (cwV 3 E.1.2.2.2.2 gX7_odds_X7_tenthsAt rfl rfl rfl (by decide +kernel) ⟨Nat.le_of_ble_eq_true rfl, Nat.le_of_ble_eq_true rfl⟩) (by decide) rfl rfl rfl hl.1 rfl (Nat.le_of_ble_eq_true rfl) dX7_odds_108) (fun H locs I => ?_)
        exact gw_iret E I hr hlocks rfl (Option.some.inj hF) rfl dX7_odds_111
      · replace hF := gw_if0 c66_0 hF
        by_cases c66_1 : v3 = 1
        · replace hF := gw_if1 c66_1 hF
          refine lv_tableIn (off := 46) (tgt := 112) hx hb dX7_odds_66 (by rw [gw_sw c66_1 (a := 1) (by decide)]; decide) (by rw [gw_sw c66_1 (a := 1) (by decide)]; decide) (by rw [gw_sw c66_1 (a := 1) (by decide)]; rfl) (by decide) ?_
          refine lv_aload_n hx hb dX7_odds_112 rfl (lv_at hl 2 rfl) ?_
          refine lv_iload_n hx hb dX7_odds_113 rfl (lv_at hl 3 rfl) ?_
          refine lv_iload_n hx hb dX7_odds_114 rfl (lv_at hl 4 rfl) ?_
          refine lv_iconst (v := 1) hx hb dX7_odds_115 (by decide) ?_
          replace hF := gw_bdE hF
          obtain ⟨r116, e116, hF⟩ := hF
          refine gw_calli I (gw_runV E I (ok_X7_tenthsAt l hD t0 v1 v2 1 _ e116) (cwV 3 E.1.2.2.2.2 gX7_odds_X7_tenthsAt rfl rfl rfl (by decide +kernel) ⟨Nat.le_of_ble_eq_true rfl, Nat.le_of_ble_eq_true rfl⟩) (by decide) rfl rfl rfl hl.1 rfl (Nat.le_of_ble_eq_true rfl) dX7_odds_116) (fun H locs I => ?_)
          exact gw_iret E I hr hlocks rfl (Option.some.inj hF) rfl dX7_odds_119
        · replace hF := gw_if0 c66_1 hF
          by_cases c66_2 : v3 = 2
          · replace hF := gw_if1 c66_2 hF
            refine lv_tableIn (off := 54) (tgt := 120) hx hb dX7_odds_66 (by rw [gw_sw c66_2 (a := 2) (by decide)]; decide) (by rw [gw_sw c66_2 (a := 2) (by decide)]; decide) (by rw [gw_sw c66_2 (a := 2) (by decide)]; rfl) (by decide) ?_
            refine lv_aload_n hx hb dX7_odds_120 rfl (lv_at hl 2 rfl) ?_
            refine lv_iload_n hx hb dX7_odds_121 rfl (lv_at hl 3 rfl) ?_
            refine lv_iload_n hx hb dX7_odds_122 rfl (lv_at hl 4 rfl) ?_
            refine lv_iconst (v := 2) hx hb dX7_odds_123 (by decide) ?_
            replace hF := gw_bdE hF
            obtain ⟨r124, e124, hF⟩ := hF
            refine gw_calli I (gw_runV E I (ok_X7_tenthsAt l hD t0 v1 v2 2 _ e124) (cwV 3 E.1.2.2.2.2 gX7_odds_X7_tenthsAt rfl rfl rfl (by decide +kernel) ⟨Nat.le_of_ble_eq_true rfl, Nat.le_of_ble_eq_true rfl⟩) (by decide) rfl rfl rfl hl.1 rfl (Nat.le_of_ble_eq_true rfl) dX7_odds_124) (fun H locs I => ?_)
            exact gw_iret E I hr hlocks rfl (Option.some.inj hF) rfl dX7_odds_127
          · replace hF := gw_if0 c66_2 hF
            by_cases c66_3 : v3 = 3
            · replace hF := gw_if1 c66_3 hF
              refine lv_tableIn (off := 62) (tgt := 128) hx hb dX7_odds_66 (by rw [gw_sw c66_3 (a := 3) (by decide)]; decide) (by rw [gw_sw c66_3 (a := 3) (by decide)]; decide) (by rw [gw_sw c66_3 (a := 3) (by decide)]; rfl) (by decide) ?_
              refine lv_iload hx hb dX7_odds_128 (lv_at hl 0 rfl) ?_
              exact gw_iret E I hr hlocks rfl (Option.some.inj hF) rfl dX7_odds_130
            · replace hF := gw_if0 c66_3 hF
              by_cases c66_4 : v3 = 4
              · replace hF := gw_if1 c66_4 hF
                refine lv_tableIn (off := 65) (tgt := 131) hx hb dX7_odds_66 (by rw [gw_sw c66_4 (a := 4) (by decide)]; decide) (by rw [gw_sw c66_4 (a := 4) (by decide)]; decide) (by rw [gw_sw c66_4 (a := 4) (by decide)]; rfl) (by decide) ?_
                refine lv_iload hx hb dX7_odds_131 (lv_at hl 1 rfl) ?_
                exact gw_iret E I hr hlocks rfl (Option.some.inj hF) rfl dX7_odds_133
              · replace hF := gw_if0 c66_4 hF
                by_cases c66_5 : v3 = 5
                · replace hF := gw_if1 c66_5 hF
                  refine lv_tableIn (off := 68) (tgt := 134) hx hb dX7_odds_66 (by rw [gw_sw c66_5 (a := 5) (by decide)]; decide) (by rw [gw_sw c66_5 (a := 5) (by decide)]; decide) (by rw [gw_sw c66_5 (a := 5) (by decide)]; rfl) (by decide) ?_
                  refine lv_iload hx hb dX7_odds_134 (lv_at hl 0 rfl) ?_
                  refine lv_iload hx hb dX7_odds_136 (lv_at hl 1 rfl) ?_
                  refine lv_icmp_ge (tgt := 145) hx hb dX7_odds_138 (by decide) (fun c138 => ?_) (fun c138 => ?_)
                  · replace hF := gw_if1 c138 hF
                    refine lv_iconst (v := 0) hx hb dX7_odds_145 (by decide) ?_
                    exact gw_iret E I hr hlocks rfl (Option.some.inj hF) rfl dX7_odds_146
                  · replace hF := gw_if0 c138 hF
                    refine lv_iconst (v := 1) hx hb dX7_odds_141 (by decide) ?_
                    refine lv_goto (tgt := 146) hx hb dX7_odds_142 (by decide) ?_
                    exact gw_iret E I hr hlocks rfl (Option.some.inj hF) rfl dX7_odds_146
                · replace hF := gw_if0 c66_5 hF
                  refine lv_tableOut (tgt := 147) hx hb dX7_odds_66 (by have q0 := lv_neT c66_0 (a := 0) (by decide); have q1 := lv_neT c66_1 (a := 1) (by decide); have q2 := lv_neT c66_2 (a := 2) (by decide); have q3 := lv_neT c66_3 (a := 3) (by decide); have q4 := lv_neT c66_4 (a := 4) (by decide); have q5 := lv_neT c66_5 (a := 5) (by decide); omega) (by decide) ?_
                  refine lv_bipush (v := (-102)) hx hb dX7_odds_147 (by decide) ?_
                  exact gw_iret E I hr hlocks rfl (Option.some.inj hF) rfl dX7_odds_149
    · replace hF := gw_if1 c15 hF
      refine lv_bipush (v := (-101)) hx hb dX7_odds_18 (by decide) ?_
      exact gw_iret E I hr hlocks rfl (Option.some.inj hF) rfl dX7_odds_20
  · replace hF := gw_if1 c4 hF
    refine lv_bipush (v := (-102)) hx hb dX7_odds_7 (by decide) ?_
    exact gw_iret E I hr hlocks rfl (Option.some.inj hF) rfl dX7_odds_9
abbrev rmX4_hookOf : Room := { frames := 0, cells := 0, slots := 0, locals := 0 }
theorem lk_X4_hookOf_9 : Cond.fieldLink RX4 9 "ThrownSacks$Standing" "towns" "[I" ∈ wsX4_hookOf := by decide +kernel
theorem in_X4_hookOf_X4 : ∀ w ∈ u_ws RX4 TX4 8, w ∈ wsX4_hookOf := by decide +kernel
set_option maxHeartbeats 4000000 in
set_option maxRecDepth 100000 in
theorem ok_X4_hookOf (l : Launch) {D : va_G} {g : gw_G} {tG : Nat} {ad : Nat → Nat} {A : Nat → Prop} (hD : gw_D A 83 ad) (t0 : gw_S) (v1 : Int32) (r0 : Int32) (hF : fX4_hookOf v1 t0 = some r0) : Met l yX4_hookOf wsX4_hookOf rmX4_hookOf (gw_Pc D g tG (tC g ad) 83 ad A [.ref (ad 7), .int v1] t0) (gw_Qi D (tC g ad) 83 ad A r0 t0) 0 0 A := by
  unfold fX4_hookOf at hF
  refine gw_met (by decide) rfl hD (Nat.le_of_ble_eq_true rfl) (fun p e s m args below meth c E hr hlocks I ls hl => ?_)
  have hx := E.1.1
  have hb := E.1.2.1
  have hl : lv_has ls 3 [(0, .ref (ad 7)), (1, .int v1)] := hl
  have hL2 : ∀ (Kx : Int32 → Option (Int32)) (v1 : Int32), (∀ (v2 : Int32) (H : Heap) (locs : List Loc) (ls : Array Slot), lv_has ls 3 [] → gw_I D (tC g ad) 83 ad A s.heap t0 H locs → Kx v2 = some r0 → W p l e rmX4_hookOf s m args below meth c H locs 0 0 (MQ below (gw_Qi D (tC g ad) 83 ad A r0 t0) args s 0 0 A) (F0 m 26 ls [])) → ∀ (n : Nat) (v2 : Int32) (H : Heap) (locs : List Loc) (ls : Array Slot), lv_has ls 3 [(0, .ref (ad 7)), (1, .int v1), (2, .int v2)] → gw_I D (tC g ad) 83 ad A s.heap t0 H locs → fX4_hookOf_L2 Kx v1 t0 n v2 = some r0 → W p l e rmX4_hookOf s m args below meth c H locs 0 0 (MQ below (gw_Qi D (tC g ad) 83 ad A r0 t0) args s 0 0 A) (F0 m 2 ls []) := by
    intro Kx v1 hKx n
    induction n with
    | zero =>
      intro v2 H locs ls hl I hF
      rw [fX4_hookOf_L2] at hF
      cases hF
    | succ n ih =>
      intro v2 H locs ls hl I hF
      rw [fX4_hookOf_L2] at hF
      refine lv_iload_n hx hb dX4_hookOf_2 rfl (lv_at hl 2 rfl) ?_
      refine lv_bipush (v := 6) hx hb dX4_hookOf_3 (by decide) ?_
      refine lv_icmp_ge (tgt := 26) hx hb dX4_hookOf_5 (by decide) (fun c5 => ?_) (fun c5 => ?_)
      · replace hF := gw_if1 c5 hF
        exact hKx v2 _ _ _ (lv_sub hl [] rfl) I hF
      · replace hF := gw_if0 c5 hF
        refine lv_aload_n hx hb dX4_hookOf_8 rfl (lv_at hl 0 rfl) ?_
        refine gf_C_7_0 E I in_X4_hookOf_X4 lk_X4_hookOf_9 dX4_hookOf_9 ?_
        refine lv_iload_n hx hb dX4_hookOf_12 rfl (lv_at hl 2 rfl) ?_
        replace hF := gw_ifn hF
        obtain ⟨hz13, hF⟩ := hF
        refine gw_iald E I 8 (by decide) rfl hz13 dX4_hookOf_13 ?_
        refine lv_iload_n hx hb dX4_hookOf_14 rfl (lv_at hl 1 rfl) ?_
        refine lv_icmp_ne (tgt := 20) hx hb dX4_hookOf_15 (by decide) (fun c15 => ?_) (fun c15 => ?_)
        · replace hF := gw_if0 c15 hF
          replace hF := gw_nmE hF
          obtain ⟨v2_20, ev2_20, hF⟩ := hF
          refine lv_iinc (v := v2_20) (lv' := [(2, .int v2_20), (0, .ref (ad 7)), (1, .int v1)]) hx hb dX4_hookOf_20 hl (k := 2) rfl (by subst ev2_20; rfl) (by decide) rfl (fun ls hl => ?_)
          refine lv_goto (tgt := 2) hx hb dX4_hookOf_23 (by decide) ?_
          exact ih v2_20 _ _ _ (lv_sub hl [1, 2, 0] rfl) I hF
        · replace hF := gw_if1 c15 hF
          refine lv_iload_n hx hb dX4_hookOf_18 rfl (lv_at hl 2 rfl) ?_
          exact gw_iret E I hr hlocks rfl (Option.some.inj hF) rfl dX4_hookOf_19
  refine lv_iconst (v := 0) hx hb dX4_hookOf_0 (by decide) ?_
  refine lv_istore_n (lv' := [(2, .int 0), (0, .ref (ad 7)), (1, .int v1)]) hx hb dX4_hookOf_1 rfl hl (by decide) rfl (fun ls hl => ?_)
  refine hL2 _ v1 (fun v2_x2 H locs ls hl I hF => ?_) 2000 0 _ _ _ (lv_sub hl [1, 2, 0] rfl) I hF
  refine lv_iconst (v := (-1)) hx hb dX4_hookOf_26 (by decide) ?_
  exact gw_iret E I hr hlocks rfl (Option.some.inj hF) rfl dX4_hookOf_27
abbrev rmX0_exchangesFrom : Room := { frames := 1, cells := 0, slots := 0, locals := 22 }
theorem lk_X0_exchangesFrom_9 : Cond.fieldLink RX0 9 "ThrownSacks$Best" "towns" "[I" ∈ wsX0_exchangesFrom := by decide +kernel
theorem in_X0_exchangesFrom_X0 : ∀ w ∈ u_ws RX0 TX0 4, w ∈ wsX0_exchangesFrom := by decide +kernel
set_option maxHeartbeats 4000000 in
set_option maxRecDepth 100000 in
theorem ok_X0_exchangesFrom (l : Launch) {D : va_G} {g : gw_G} {tG : Nat} {ad : Nat → Nat} {A : Nat → Prop} (hD : gw_D A 83 ad) (t0 : gw_S) (v2 : Int32) (r0 : Int32) (hF : fX0_exchangesFrom v2 t0 = some r0) : Met l yX0_exchangesFrom wsX0_exchangesFrom rmX0_exchangesFrom (gw_Pc D g tG (tC g ad) 83 ad A [.ref (ad 17), .ref (ad 7), .int v2] t0) (gw_Qi D (tC g ad) 83 ad A r0 t0) 0 0 A := by
  unfold fX0_exchangesFrom at hF
  refine gw_met (by decide) rfl hD (Nat.le_of_ble_eq_true rfl) (fun p e s m args below meth c E hr hlocks I ls hl => ?_)
  have hx := E.1.1
  have hb := E.1.2.1
  have hl : lv_has ls 8 [(0, .ref (ad 17)), (1, .ref (ad 7)), (2, .int v2)] := hl
  have hL34 : ∀ (Kx : Int32 → Int32 → Int32 → Option (Int32)) (v2 : Int32) (v3 : Int32) (v5 : Int32), (∀ (v4 : Int32) (v6 : Int32) (v7 : Int32) (H : Heap) (locs : List Loc) (ls : Array Slot), lv_has ls 8 [(0, .ref (ad 17)), (1, .ref (ad 7)), (2, .int v2), (3, .int v3), (4, .int v4), (5, .int v5)] → gw_I D (tC g ad) 83 ad A s.heap t0 H locs → Kx v4 v6 v7 = some r0 → W p l e rmX0_exchangesFrom s m args below meth c H locs 0 0 (MQ below (gw_Qi D (tC g ad) 83 ad A r0 t0) args s 0 0 A) (F0 m 84 ls [])) → ∀ (n : Nat) (v4 : Int32) (v6 : Int32) (v7 : Int32) (H : Heap) (locs : List Loc) (ls : Array Slot), lv_has ls 8 [(0, .ref (ad 17)), (1, .ref (ad 7)), (2, .int v2), (3, .int v3), (4, .int v4), (5, .int v5), (6, .int v6), (7, .int v7)] → gw_I D (tC g ad) 83 ad A s.heap t0 H locs → fX0_exchangesFrom_L34 Kx v2 v3 v5 t0 n v4 v6 v7 = some r0 → W p l e rmX0_exchangesFrom s m args below meth c H locs 0 0 (MQ below (gw_Qi D (tC g ad) 83 ad A r0 t0) args s 0 0 A) (F0 m 34 ls []) := by
    intro Kx v2 v3 v5 hKx n
    induction n with
    | zero =>
      intro v4 v6 v7 H locs ls hl I hF
      rw [fX0_exchangesFrom_L34] at hF
      cases hF
    | succ n ih =>
      intro v4 v6 v7 H locs ls hl I hF
      rw [fX0_exchangesFrom_L34] at hF
      refine lv_iload hx hb dX0_exchangesFrom_34 (lv_at hl 7 rfl) ?_
      refine lv_iload_n hx hb dX0_exchangesFrom_36 rfl (lv_at hl 2 rfl) ?_
      refine lv_icmp_ge (tgt := 84) hx hb dX0_exchangesFrom_37 (by decide) (fun c37 => ?_) (fun c37 => ?_)
      · replace hF := gw_if1 c37 hF
        exact hKx v4 v6 v7 _ _ _ (lv_sub hl [0, 1, 2, 3, 4, 5] rfl) I hF
      · replace hF := gw_if0 c37 hF
        refine lv_iload hx hb dX0_exchangesFrom_40 (lv_at hl 6 rfl) ?_
        refine lv_iconst (v := (-1)) hx hb dX0_exchangesFrom_42 (by decide) ?_
        refine lv_icmp_eq (tgt := 84) hx hb dX0_exchangesFrom_43 (by decide) (fun c43 => ?_) (fun c43 => ?_)
        · replace hF := gw_if1 c43 hF
          exact hKx v4 v6 v7 _ _ _ (lv_sub hl [0, 1, 2, 3, 4, 5] rfl) I hF
        · replace hF := gw_if0 c43 hF
          refine lv_iload hx hb dX0_exchangesFrom_46 (lv_at hl 4 rfl) ?_
          refine lv_iload hx hb dX0_exchangesFrom_48 (lv_at hl 6 rfl) ?_
          refine lv_ishr hx hb dX0_exchangesFrom_50 ?_
          refine lv_iconst (v := 1) hx hb dX0_exchangesFrom_51 (by decide) ?_
          refine lv_iand hx hb dX0_exchangesFrom_52 ?_
          refine lv_if_ne (tgt := 84) hx hb dX0_exchangesFrom_53 (by decide) (fun c53 => ?_) (fun c53 => ?_)
          · replace hF := gw_if0 c53 hF
            exact hKx v4 v6 v7 _ _ _ (lv_sub hl [0, 1, 2, 3, 4, 5] rfl) I hF
          · replace hF := gw_if1 c53 hF
            refine lv_iload hx hb dX0_exchangesFrom_56 (lv_at hl 4 rfl) ?_
            refine lv_iconst (v := 1) hx hb dX0_exchangesFrom_58 (by decide) ?_
            refine lv_iload hx hb dX0_exchangesFrom_59 (lv_at hl 6 rfl) ?_
            refine lv_ishl hx hb dX0_exchangesFrom_61 ?_
            refine lv_ior hx hb dX0_exchangesFrom_62 ?_
            replace hF := gw_nmE hF
            obtain ⟨v4_63, ev4_63, hF⟩ := hF
            refine gw_topi ev4_63 ?_
            refine lv_istore (lv' := [(4, .int v4_63), (0, .ref (ad 17)), (1, .ref (ad 7)), (2, .int v2), (3, .int v3), (5, .int v5), (6, .int v6), (7, .int v7)]) hx hb dX0_exchangesFrom_63 hl (by decide) rfl (fun ls hl => ?_)
            refine lv_aload_n hx hb dX0_exchangesFrom_65 rfl (lv_at hl 2 rfl) ?_
            refine lv_aload_n hx hb dX0_exchangesFrom_66 rfl (lv_at hl 1 rfl) ?_
            refine gf_C_17_0 E I in_X0_exchangesFrom_X0 lk_X0_exchangesFrom_9 dX0_exchangesFrom_67 ?_
            refine lv_iload hx hb dX0_exchangesFrom_70 (lv_at hl 6 rfl) ?_
            replace hF := gw_ifn hF
            obtain ⟨hz72, hF⟩ := hF
            refine gw_iald E I 18 (by decide) rfl hz72 dX0_exchangesFrom_72 ?_
            replace hF := gw_bdE hF
            obtain ⟨r73, e73, hF⟩ := hF
            refine gw_calli I (gw_runV E I (ok_X4_hookOf l hD t0 (rdI t0 18 (Int32.toNatClampNeg v6)) _ e73) (cwV 1 E.1.2.2.2.2 gX0_exchangesFrom_X4_hookOf rfl rfl rfl (by decide +kernel) ⟨Nat.le_of_ble_eq_true rfl, Nat.le_of_ble_eq_true rfl⟩) (by decide) rfl rfl rfl hl.1 rfl (Nat.le_of_ble_eq_true rfl) dX0_exchangesFrom_73) (fun H locs I => ?_)
            refine lv_istore (lv' := [(6, .int r73), (4, .int v4_63), (0, .ref (ad 17)), (1, .ref (ad 7)), (2, .int v2), (3, .int v3), (5, .int v5), (7, .int v7)]) hx hb dX0_exchangesFrom_76 hl (by decide) rfl (fun ls hl => ?_)
            replace hF := gw_nmE hF
            obtain ⟨v7_78, ev7_78, hF⟩ := hF
            refine lv_iinc (v := v7_78) (lv' := [(7, .int v7_78), (6, .int r73), (4, .int v4_63), (0, .ref (ad 17)), (1, .ref (ad 7)), (2, .int v2), (3, .int v3), (5, .int v5)]) hx hb dX0_exchangesFrom_78 hl (k := 7) rfl (by subst ev7_78; rfl) (by decide) rfl (fun ls hl => ?_)
            refine lv_goto (tgt := 34) hx hb dX0_exchangesFrom_81 (by decide) ?_
            exact ih v4_63 r73 v7_78 _ _ _ (lv_sub hl [3, 4, 5, 6, 2, 7, 1, 0] rfl) I hF
  have hJ27 : ∀ (Kx : Int32 → Int32 → Int32 → Option (Int32)) (Kh : Int32 → Int32 → Int32 → Option (Int32)) (v2 : Int32) (v3 : Int32) (v4 : Int32) (v5 : Int32) (hKx : ∀ (v3 : Int32) (v4 : Int32) (v5 : Int32) (H : Heap) (locs : List Loc) (ls : Array Slot), lv_has ls 8 [(2, .int v2), (3, .int v3)] → gw_I D (tC g ad) 83 ad A s.heap t0 H locs → Kx v3 v4 v5 = some r0 → W p l e rmX0_exchangesFrom s m args below meth c H locs 0 0 (MQ below (gw_Qi D (tC g ad) 83 ad A r0 t0) args s 0 0 A) (F0 m 90 ls [])) (hKh : ∀ (v3 : Int32) (v4 : Int32) (v5 : Int32) (H : Heap) (locs : List Loc) (ls : Array Slot), lv_has ls 8 [(0, .ref (ad 17)), (1, .ref (ad 7)), (2, .int v2), (3, .int v3), (4, .int v4), (5, .int v5)] → gw_I D (tC g ad) 83 ad A s.heap t0 H locs → Kh v3 v4 v5 = some r0 → W p l e rmX0_exchangesFrom s m args below meth c H locs 0 0 (MQ below (gw_Qi D (tC g ad) 83 ad A r0 t0) args s 0 0 A) (F0 m 8 ls [])) (H : Heap) (locs : List Loc) (ls : Array Slot), lv_has ls 8 [(0, .ref (ad 17)), (1, .ref (ad 7)), (2, .int v2), (3, .int v3), (4, .int v4), (5, .int v5)] → gw_I D (tC g ad) 83 ad A s.heap t0 H locs → fX0_exchangesFrom_J27 Kx Kh v2 v3 v4 v5 t0 = some r0 → W p l e rmX0_exchangesFrom s m args below meth c H locs 0 0 (MQ below (gw_Qi D (tC g ad) 83 ad A r0 t0) args s 0 0 A) (F0 m 27 ls []) := by
    intro Kx Kh v2 v3 v4 v5 hKx hKh H locs ls hl I hF
    unfold fX0_exchangesFrom_J27 at hF
    refine lv_iload hx hb dX0_exchangesFrom_27 (lv_at hl 5 rfl) ?_
    refine lv_istore (lv' := [(6, .int v5), (0, .ref (ad 17)), (1, .ref (ad 7)), (2, .int v2), (3, .int v3), (4, .int v4), (5, .int v5)]) hx hb dX0_exchangesFrom_29 hl (by decide) rfl (fun ls hl => ?_)
    refine lv_iconst (v := 0) hx hb dX0_exchangesFrom_31 (by decide) ?_
    refine lv_istore (lv' := [(7, .int 0), (6, .int v5), (0, .ref (ad 17)), (1, .ref (ad 7)), (2, .int v2), (3, .int v3), (4, .int v4), (5, .int v5)]) hx hb dX0_exchangesFrom_32 hl (by decide) rfl (fun ls hl => ?_)
    refine hL34 _ v2 v3 v5 (fun v4_x34 v6_x34 v7_x34 H locs ls hl I hF => ?_) 2000 v4 v5 0 _ _ _ (lv_sub hl [2, 3, 4, 5, 6, 7, 1, 0] rfl) I hF
    replace hF := gw_nmE hF
    obtain ⟨v5_84, ev5_84, hF⟩ := hF
    refine lv_iinc (v := v5_84) (lv' := [(5, .int v5_84), (0, .ref (ad 17)), (1, .ref (ad 7)), (2, .int v2), (3, .int v3), (4, .int v4_x34)]) hx hb dX0_exchangesFrom_84 hl (k := 5) rfl (by subst ev5_84; rfl) (by decide) rfl (fun ls hl => ?_)
    refine lv_goto (tgt := 8) hx hb dX0_exchangesFrom_87 (by decide) ?_
    exact hKh v3 v4_x34 v5_84 _ _ _ (lv_sub hl [1, 2, 3, 4, 5, 0] rfl) I hF
  have hL8 : ∀ (Kx : Int32 → Int32 → Int32 → Option (Int32)) (v2 : Int32), (∀ (v3 : Int32) (v4 : Int32) (v5 : Int32) (H : Heap) (locs : List Loc) (ls : Array Slot), lv_has ls 8 [(2, .int v2), (3, .int v3)] → gw_I D (tC g ad) 83 ad A s.heap t0 H locs → Kx v3 v4 v5 = some r0 → W p l e rmX0_exchangesFrom s m args below meth c H locs 0 0 (MQ below (gw_Qi D (tC g ad) 83 ad A r0 t0) args s 0 0 A) (F0 m 90 ls [])) → ∀ (n : Nat) (v3 : Int32) (v4 : Int32) (v5 : Int32) (H : Heap) (locs : List Loc) (ls : Array Slot), lv_has ls 8 [(0, .ref (ad 17)), (1, .ref (ad 7)), (2, .int v2), (3, .int v3), (4, .int v4), (5, .int v5)] → gw_I D (tC g ad) 83 ad A s.heap t0 H locs → fX0_exchangesFrom_L8 Kx v2 t0 n v3 v4 v5 = some r0 → W p l e rmX0_exchangesFrom s m args below meth c H locs 0 0 (MQ below (gw_Qi D (tC g ad) 83 ad A r0 t0) args s 0 0 A) (F0 m 8 ls []) := by
    intro Kx v2 hKx n
    induction n with
    | zero =>
      intro v3 v4 v5 H locs ls hl I hF
      rw [fX0_exchangesFrom_L8] at hF
      cases hF
    | succ n ih =>
      intro v3 v4 v5 H locs ls hl I hF
      rw [fX0_exchangesFrom_L8] at hF
      refine lv_iload hx hb dX0_exchangesFrom_8 (lv_at hl 5 rfl) ?_
      refine lv_iload_n hx hb dX0_exchangesFrom_10 rfl (lv_at hl 2 rfl) ?_
      refine lv_icmp_ge (tgt := 90) hx hb dX0_exchangesFrom_11 (by decide) (fun c11 => ?_) (fun c11 => ?_)
      · replace hF := gw_if1 c11 hF
        exact hKx v3 v4 v5 _ _ _ (lv_sub hl [2, 3] rfl) I hF
      · replace hF := gw_if0 c11 hF
        refine lv_iload hx hb dX0_exchangesFrom_14 (lv_at hl 4 rfl) ?_
        refine lv_iload hx hb dX0_exchangesFrom_16 (lv_at hl 5 rfl) ?_
        refine lv_ishr hx hb dX0_exchangesFrom_18 ?_
        refine lv_iconst (v := 1) hx hb dX0_exchangesFrom_19 (by decide) ?_
        refine lv_iand hx hb dX0_exchangesFrom_20 ?_
        refine lv_if_ne (tgt := 27) hx hb dX0_exchangesFrom_21 (by decide) (fun c21 => ?_) (fun c21 => ?_)
        · replace hF := gw_if0 c21 hF
          exact hJ27 Kx (fX0_exchangesFrom_L8 Kx v2 t0 n) v2 v3 v4 v5 hKx ih _ _ _ (lv_sub hl [0, 1, 2, 3, 4, 5] rfl) I hF
        · replace hF := gw_if1 c21 hF
          replace hF := gw_nmE hF
          obtain ⟨v3_24, ev3_24, hF⟩ := hF
          refine lv_iinc (v := v3_24) (lv' := [(3, .int v3_24), (0, .ref (ad 17)), (1, .ref (ad 7)), (2, .int v2), (4, .int v4), (5, .int v5)]) hx hb dX0_exchangesFrom_24 hl (k := 3) rfl (by subst ev3_24; rfl) (by decide) rfl (fun ls hl => ?_)
          exact hJ27 Kx (fX0_exchangesFrom_L8 Kx v2 t0 n) v2 v3_24 v4 v5 hKx ih _ _ _ (lv_sub hl [1, 2, 3, 0, 4, 5] rfl) I hF
  refine lv_iconst (v := 0) hx hb dX0_exchangesFrom_0 (by decide) ?_
  refine lv_istore_n (lv' := [(3, .int 0), (0, .ref (ad 17)), (1, .ref (ad 7)), (2, .int v2)]) hx hb dX0_exchangesFrom_1 rfl hl (by decide) rfl (fun ls hl => ?_)
  refine lv_iconst (v := 0) hx hb dX0_exchangesFrom_2 (by decide) ?_
  refine lv_istore (lv' := [(4, .int 0), (3, .int 0), (0, .ref (ad 17)), (1, .ref (ad 7)), (2, .int v2)]) hx hb dX0_exchangesFrom_3 hl (by decide) rfl (fun ls hl => ?_)
  refine lv_iconst (v := 0) hx hb dX0_exchangesFrom_5 (by decide) ?_
  refine lv_istore (lv' := [(5, .int 0), (4, .int 0), (3, .int 0), (0, .ref (ad 17)), (1, .ref (ad 7)), (2, .int v2)]) hx hb dX0_exchangesFrom_6 hl (by decide) rfl (fun ls hl => ?_)
  refine hL8 _ v2 (fun v3_x8 v4_x8 v5_x8 H locs ls hl I hF => ?_) 2000 0 0 0 _ _ _ (lv_sub hl [3, 4, 5, 2, 1, 0] rfl) I hF
  refine lv_iload_n hx hb dX0_exchangesFrom_90 rfl (lv_at hl 0 rfl) ?_
  refine lv_iload_n hx hb dX0_exchangesFrom_91 rfl (lv_at hl 1 rfl) ?_
  refine lv_isub hx hb dX0_exchangesFrom_92 ?_
  exact gw_iret E I hr hlocks rfl (Option.some.inj hF) rfl dX0_exchangesFrom_93
