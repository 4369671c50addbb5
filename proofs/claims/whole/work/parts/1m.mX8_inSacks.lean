/-! The contracts: each method does what its function says: written by wip/whole/genall.py. -/
abbrev rmX8_inSacks : Room := { frames := 0, cells := 0, slots := 0, locals := 0 }
theorem lk_X8_inSacks_22 : Cond.fieldLink RX8 22 "ThrownSacksModel" "manyIn" "[I" ∈ wsX8_inSacks := by decide +kernel
theorem lk_X8_inSacks_25 : Cond.fieldLink RX8 25 "ThrownSacksModel" "wrongIn" "[I" ∈ wsX8_inSacks := by decide +kernel
theorem lk_X8_inSacks_109 : Cond.fieldLink RX8 109 "ThrownSacksModel" "hooks" "I" ∈ wsX8_inSacks := by decide +kernel
theorem in_X8_inSacks_X8 : ∀ w ∈ u_ws RX8 TX8 42, w ∈ wsX8_inSacks := by decide +kernel
set_option maxHeartbeats 4000000 in
set_option maxRecDepth 100000 in
theorem ok_X8_inSacks (l : Launch) {D : va_G} {g : gw_G} {tG : Nat} {ad : Nat → Nat} {A : Nat → Prop} (hD : gw_D A 23 ad) (t0 : gw_S) (v1 : Int32) (r0 : Int32) (hF : fX8_inSacks v1 t0 = some r0) : Met l yX8_inSacks wsX8_inSacks rmX8_inSacks (gw_Pc D g tG (tM g ad) 23 ad A [.ref (ad 0), .int v1] t0) (gw_Qi D (tM g ad) 23 ad A r0 t0) 0 0 A := by
  unfold fX8_inSacks at hF
  refine gw_met (by decide) rfl hD (Nat.le_of_ble_eq_true rfl) (fun p e s m args below meth c E hr hlocks I ls hl => ?_)
  have hx := E.1.1
  have hb := E.1.2.1
  have hl : lv_has ls 4 [(0, .ref (ad 0)), (1, .int v1)] := hl
  have hJ32 : ∀ (Kx : Int32 → Int32 → Option (Int32)) (Kh : Int32 → Int32 → Option (Int32)) (v1 : Int32) (v3 : Int32) (x0 : Int32) (x1 : Int32) (hKx : ∀ (v2 : Int32) (v3 : Int32) (H : Heap) (locs : List Loc) (ls : Array Slot), lv_has ls 4 [(2, .int v2)] → gw_I D (tM g ad) 23 ad A s.heap t0 H locs → Kx v2 v3 = some r0 → W p l e rmX8_inSacks s m args below meth c H locs 0 0 (MQ below (gw_Qi D (tM g ad) 23 ad A r0 t0) args s 0 0 A) (F0 m 40 ls [])) (hKh : ∀ (v2 : Int32) (v3 : Int32) (H : Heap) (locs : List Loc) (ls : Array Slot), lv_has ls 4 [(0, .ref (ad 0)), (1, .int v1), (2, .int v2), (3, .int v3)] → gw_I D (tM g ad) 23 ad A s.heap t0 H locs → Kh v2 v3 = some r0 → W p l e rmX8_inSacks s m args below meth c H locs 0 0 (MQ below (gw_Qi D (tM g ad) 23 ad A r0 t0) args s 0 0 A) (F0 m 4 ls [])) (H : Heap) (locs : List Loc) (ls : Array Slot), lv_has ls 4 [(0, .ref (ad 0)), (1, .int v1), (3, .int v3)] → gw_I D (tM g ad) 23 ad A s.heap t0 H locs → fX8_inSacks_J32 Kx Kh v1 v3 x0 x1 t0 = some r0 → W p l e rmX8_inSacks s m args below meth c H locs 0 0 (MQ below (gw_Qi D (tM g ad) 23 ad A r0 t0) args s 0 0 A) (F0 m 32 ls [.int x1, .int x0]) := by
    intro Kx Kh v1 v3 x0 x1 hKx hKh H locs ls hl I hF
    unfold fX8_inSacks_J32 at hF
    refine lv_iadd hx hb dX8_inSacks_32 ?_
    replace hF := gw_nmE hF
    obtain ⟨v2_33, ev2_33, hF⟩ := hF
    refine gw_topi ev2_33 ?_
    refine lv_istore_n (lv' := [(2, .int v2_33), (0, .ref (ad 0)), (1, .int v1), (3, .int v3)]) hx hb dX8_inSacks_33 rfl hl (by decide) rfl (fun ls hl => ?_)
    replace hF := gw_nmE hF
    obtain ⟨v3_34, ev3_34, hF⟩ := hF
    refine lv_iinc (v := v3_34) (lv' := [(3, .int v3_34), (2, .int v2_33), (0, .ref (ad 0)), (1, .int v1)]) hx hb dX8_inSacks_34 hl (k := 3) rfl (by subst ev3_34; rfl) (by decide) rfl (fun ls hl => ?_)
    refine lv_goto (tgt := 4) hx hb dX8_inSacks_37 (by decide) ?_
    exact hKh v2_33 v3_34 _ _ _ (lv_sub hl [2, 3, 1, 0] rfl) I hF
  have hL4 : ∀ (Kx : Int32 → Int32 → Option (Int32)) (v1 : Int32), (∀ (v2 : Int32) (v3 : Int32) (H : Heap) (locs : List Loc) (ls : Array Slot), lv_has ls 4 [(2, .int v2)] → gw_I D (tM g ad) 23 ad A s.heap t0 H locs → Kx v2 v3 = some r0 → W p l e rmX8_inSacks s m args below meth c H locs 0 0 (MQ below (gw_Qi D (tM g ad) 23 ad A r0 t0) args s 0 0 A) (F0 m 40 ls [])) → ∀ (n : Nat) (v2 : Int32) (v3 : Int32) (H : Heap) (locs : List Loc) (ls : Array Slot), lv_has ls 4 [(0, .ref (ad 0)), (1, .int v1), (2, .int v2), (3, .int v3)] → gw_I D (tM g ad) 23 ad A s.heap t0 H locs → fX8_inSacks_L4 Kx v1 t0 n v2 v3 = some r0 → W p l e rmX8_inSacks s m args below meth c H locs 0 0 (MQ below (gw_Qi D (tM g ad) 23 ad A r0 t0) args s 0 0 A) (F0 m 4 ls []) := by
    intro Kx v1 hKx n
    induction n with
    | zero =>
      intro v2 v3 H locs ls hl I hF
      rw [fX8_inSacks_L4] at hF
      cases hF
    | succ n ih =>
      intro v2 v3 H locs ls hl I hF
      rw [fX8_inSacks_L4] at hF
      refine lv_iload_n hx hb dX8_inSacks_4 rfl (lv_at hl 3 rfl) ?_
      refine lv_aload_n hx hb dX8_inSacks_5 rfl (lv_at hl 0 rfl) ?_
      refine gf_M_0_1 E I in_X8_inSacks_X8 lk_X8_inSacks_109 dX8_inSacks_6 ?_
      refine lv_icmp_ge (tgt := 40) hx hb dX8_inSacks_9 (by decide) (fun c9 => ?_) (fun c9 => ?_)
      · replace hF := gw_if1 c9 hF
        exact hKx v2 v3 _ _ _ (lv_sub hl [2] rfl) I hF
      · replace hF := gw_if0 c9 hF
        refine lv_iload_n hx hb dX8_inSacks_12 rfl (lv_at hl 2 rfl) ?_
        refine lv_iload_n hx hb dX8_inSacks_13 rfl (lv_at hl 1 rfl) ?_
        refine lv_if_eq (tgt := 26) hx hb dX8_inSacks_14 (by decide) (fun c14 => ?_) (fun c14 => ?_)
        · replace hF := gw_if1 c14 hF
          refine lv_aload_n hx hb dX8_inSacks_26 rfl (lv_at hl 0 rfl) ?_
          refine gf_M_0_6 E I in_X8_inSacks_X8 lk_X8_inSacks_22 dX8_inSacks_27 ?_
          refine lv_iload_n hx hb dX8_inSacks_30 rfl (lv_at hl 3 rfl) ?_
          replace hF := gw_ifn hF
          obtain ⟨hz31, hF⟩ := hF
          refine gw_iald E I 5 (by decide) rfl hz31 dX8_inSacks_31 ?_
          exact hJ32 Kx (fX8_inSacks_L4 Kx v1 t0 n) v1 v3 v2 (rdI t0 5 (Int32.toNatClampNeg v3)) hKx ih _ _ _ (lv_sub hl [0, 1, 3] rfl) I hF
        · replace hF := gw_if0 c14 hF
          refine lv_aload_n hx hb dX8_inSacks_17 rfl (lv_at hl 0 rfl) ?_
          refine gf_M_0_7 E I in_X8_inSacks_X8 lk_X8_inSacks_25 dX8_inSacks_18 ?_
          refine lv_iload_n hx hb dX8_inSacks_21 rfl (lv_at hl 3 rfl) ?_
          replace hF := gw_ifn hF
          obtain ⟨hz22, hF⟩ := hF
          refine gw_iald E I 6 (by decide) rfl hz22 dX8_inSacks_22 ?_
          refine lv_goto (tgt := 32) hx hb dX8_inSacks_23 (by decide) ?_
          exact hJ32 Kx (fX8_inSacks_L4 Kx v1 t0 n) v1 v3 v2 (rdI t0 6 (Int32.toNatClampNeg v3)) hKx ih _ _ _ (lv_sub hl [0, 1, 3] rfl) I hF
  refine lv_iconst (v := 0) hx hb dX8_inSacks_0 (by decide) ?_
  refine lv_istore_n (lv' := [(2, .int 0), (0, .ref (ad 0)), (1, .int v1)]) hx hb dX8_inSacks_1 rfl hl (by decide) rfl (fun ls hl => ?_)
  refine lv_iconst (v := 0) hx hb dX8_inSacks_2 (by decide) ?_
  refine lv_istore_n (lv' := [(3, .int 0), (2, .int 0), (0, .ref (ad 0)), (1, .int v1)]) hx hb dX8_inSacks_3 rfl hl (by decide) rfl (fun ls hl => ?_)
  refine hL4 _ v1 (fun v2_x4 v3_x4 H locs ls hl I hF => ?_) 2000 0 0 _ _ _ (lv_sub hl [2, 3, 1, 0] rfl) I hF
  refine lv_iload_n hx hb dX8_inSacks_40 rfl (lv_at hl 0 rfl) ?_
  exact gw_iret E I hr hlocks rfl (Option.some.inj hF) rfl dX8_inSacks_41
abbrev rmX8_howMany : Room := { frames := 1, cells := 0, slots := 0, locals := 23 }
theorem lk_X8_howMany_81 : Cond.fieldLink RX8 81 "ThrownSacksModel" "pageLength" "I" ∈ wsX8_howMany := by decide +kernel
theorem lk_X8_howMany_109 : Cond.fieldLink RX8 109 "ThrownSacksModel" "hooks" "I" ∈ wsX8_howMany := by decide +kernel
theorem lk_X8_howMany_115 : Cond.fieldLink RX8 115 "ThrownSacksModel" "floors" "I" ∈ wsX8_howMany := by decide +kernel
theorem lk_X8_howMany_118 : Cond.fieldLink RX8 118 "ThrownSacksModel" "onBelt" "I" ∈ wsX8_howMany := by decide +kernel
theorem lk_X8_howMany_121 : Cond.fieldLink RX8 121 "ThrownSacksModel" "seconds" "I" ∈ wsX8_howMany := by decide +kernel
theorem lk_X8_howMany_124 : Cond.fieldLink RX8 124 "ThrownSacksModel" "harmed" "I" ∈ wsX8_howMany := by decide +kernel
theorem lk_X8_howMany_127 : Cond.fieldLink RX8 127 "ThrownSacksModel" "found" "I" ∈ wsX8_howMany := by decide +kernel
theorem in_X8_howMany_X8 : ∀ w ∈ u_ws RX8 TX8 42, w ∈ wsX8_howMany := by decide +kernel
set_option maxHeartbeats 4000000 in
set_option maxRecDepth 100000 in
theorem ok_X8_howMany (l : Launch) {D : va_G} {g : gw_G} {tG : Nat} {ad : Nat → Nat} {A : Nat → Prop} (hD : gw_D A 23 ad) (t0 : gw_S) (v1 : Int32) (r0 : Int32) (hF : fX8_howMany v1 t0 = some r0) : Met l yX8_howMany wsX8_howMany rmX8_howMany (gw_Pc D g tG (tM g ad) 23 ad A [.ref (ad 0), .int v1] t0) (gw_Qi D (tM g ad) 23 ad A r0 t0) 0 0 A := by
  unfold fX8_howMany at hF
  refine gw_met (by decide) rfl hD (Nat.le_of_ble_eq_true rfl) (fun p e s m args below meth c E hr hlocks I ls hl => ?_)
  have hx := E.1.1
  have hb := E.1.2.1
  have hl : lv_has ls 2 [(0, .ref (ad 0)), (1, .int v1)] := hl
  refine lv_iload_n hx hb dX8_howMany_0 rfl (lv_at hl 1 rfl) ?_
  by_cases c1_0 : v1 = 0
  · replace hF := gw_if1 c1_0 hF
    refine lv_tableIn (off := 51) (tgt := 52) hx hb dX8_howMany_1 (by rw [gw_sw c1_0 (a := 0) (by decide)]; decide) (by rw [gw_sw c1_0 (a := 0) (by decide)]; decide) (by rw [gw_sw c1_0 (a := 0) (by decide)]; rfl) (by decide) ?_
    refine lv_aload_n hx hb dX8_howMany_52 rfl (lv_at hl 0 rfl) ?_
    refine gf_M_0_1 E I in_X8_howMany_X8 lk_X8_howMany_109 dX8_howMany_53 ?_
    exact gw_iret E I hr hlocks rfl (Option.some.inj hF) rfl dX8_howMany_56
  · replace hF := gw_if0 c1_0 hF
    by_cases c1_1 : v1 = 1
    · replace hF := gw_if1 c1_1 hF
      refine lv_tableIn (off := 56) (tgt := 57) hx hb dX8_howMany_1 (by rw [gw_sw c1_1 (a := 1) (by decide)]; decide) (by rw [gw_sw c1_1 (a := 1) (by decide)]; decide) (by rw [gw_sw c1_1 (a := 1) (by decide)]; rfl) (by decide) ?_
      refine lv_aload_n hx hb dX8_howMany_57 rfl (lv_at hl 0 rfl) ?_
      refine gf_M_0_10 E I in_X8_howMany_X8 lk_X8_howMany_118 dX8_howMany_58 ?_
      exact gw_iret E I hr hlocks rfl (Option.some.inj hF) rfl dX8_howMany_61
    · replace hF := gw_if0 c1_1 hF
      by_cases c1_2 : v1 = 2
      · replace hF := gw_if1 c1_2 hF
        refine lv_tableIn (off := 61) (tgt := 62) hx hb dX8_howMany_1 (by rw [gw_sw c1_2 (a := 2) (by decide)]; decide) (by rw [gw_sw c1_2 (a := 2) (by decide)]; decide) (by rw [gw_sw c1_2 (a := 2) (by decide)]; rfl) (by decide) ?_
        refine lv_aload_n hx hb dX8_howMany_62 rfl (lv_at hl 0 rfl) ?_
        refine lv_iconst (v := 0) hx hb dX8_howMany_63 (by decide) ?_
        replace hF := gw_bdE hF
        obtain ⟨r64, e64, hF⟩ := hF
        refine gw_calli I (gw_runV E I (ok_X8_inSacks l hD t0 0 _ e64) (cwV 1 E.1.2.2.2.2 gX8_howMany_X8_inSacks rfl rfl rfl (by decide +kernel) ⟨Nat.le_of_ble_eq_true rfl, Nat.le_of_ble_eq_true rfl⟩) (by decide) rfl rfl rfl hl.1 rfl (Nat.le_of_ble_eq_true rfl) dX8_howMany_64) (fun H locs I => ?_)
        exact gw_iret E I hr hlocks rfl (Option.some.inj hF) rfl dX8_howMany_67
      · replace hF := gw_if0 c1_2 hF
        by_cases c1_3 : v1 = 3
        · replace hF := gw_if1 c1_3 hF
          refine lv_tableIn (off := 67) (tgt := 68) hx hb dX8_howMany_1 (by rw [gw_sw c1_3 (a := 3) (by decide)]; decide) (by rw [gw_sw c1_3 (a := 3) (by decide)]; decide) (by rw [gw_sw c1_3 (a := 3) (by decide)]; rfl) (by decide) ?_
          refine lv_aload_n hx hb dX8_howMany_68 rfl (lv_at hl 0 rfl) ?_
          refine lv_iconst (v := 1) hx hb dX8_howMany_69 (by decide) ?_
          replace hF := gw_bdE hF
          obtain ⟨r70, e70, hF⟩ := hF
          refine gw_calli I (gw_runV E I (ok_X8_inSacks l hD t0 1 _ e70) (cwV 1 E.1.2.2.2.2 gX8_howMany_X8_inSacks rfl rfl rfl (by decide +kernel) ⟨Nat.le_of_ble_eq_true rfl, Nat.le_of_ble_eq_true rfl⟩) (by decide) rfl rfl rfl hl.1 rfl (Nat.le_of_ble_eq_true rfl) dX8_howMany_70) (fun H locs I => ?_)
          exact gw_iret E I hr hlocks rfl (Option.some.inj hF) rfl dX8_howMany_73
        · replace hF := gw_if0 c1_3 hF
          by_cases c1_4 : v1 = 4
          · replace hF := gw_if1 c1_4 hF
            refine lv_tableIn (off := 73) (tgt := 74) hx hb dX8_howMany_1 (by rw [gw_sw c1_4 (a := 4) (by decide)]; decide) (by rw [gw_sw c1_4 (a := 4) (by decide)]; decide) (by rw [gw_sw c1_4 (a := 4) (by decide)]; rfl) (by decide) ?_
            refine lv_aload_n hx hb dX8_howMany_74 rfl (lv_at hl 0 rfl) ?_
            refine gf_M_0_13 E I in_X8_howMany_X8 lk_X8_howMany_121 dX8_howMany_75 ?_
            exact gw_iret E I hr hlocks rfl (Option.some.inj hF) rfl dX8_howMany_78
          · replace hF := gw_if0 c1_4 hF
            by_cases c1_5 : v1 = 5
            · replace hF := gw_if1 c1_5 hF
              refine lv_tableIn (off := 78) (tgt := 79) hx hb dX8_howMany_1 (by rw [gw_sw c1_5 (a := 5) (by decide)]; decide) (by rw [gw_sw c1_5 (a := 5) (by decide)]; decide) (by rw [gw_sw c1_5 (a := 5) (by decide)]; rfl) (by decide) ?_
              refine lv_aload_n hx hb dX8_howMany_79 rfl (lv_at hl 0 rfl) ?_
              refine gf_M_0_14 E I in_X8_howMany_X8 lk_X8_howMany_124 dX8_howMany_80 ?_
              exact gw_iret E I hr hlocks rfl (Option.some.inj hF) rfl dX8_howMany_83
            · replace hF := gw_if0 c1_5 hF
              by_cases c1_6 : v1 = 6
              · replace hF := gw_if1 c1_6 hF
                refine lv_tableIn (off := 83) (tgt := 84) hx hb dX8_howMany_1 (by rw [gw_sw c1_6 (a := 6) (by decide)]; decide) (by rw [gw_sw c1_6 (a := 6) (by decide)]; decide) (by rw [gw_sw c1_6 (a := 6) (by decide)]; rfl) (by decide) ?_
                refine lv_aload_n hx hb dX8_howMany_84 rfl (lv_at hl 0 rfl) ?_
                refine gf_M_0_15 E I in_X8_howMany_X8 lk_X8_howMany_127 dX8_howMany_85 ?_
                exact gw_iret E I hr hlocks rfl (Option.some.inj hF) rfl dX8_howMany_88
              · replace hF := gw_if0 c1_6 hF
                by_cases c1_7 : v1 = 7
                · replace hF := gw_if1 c1_7 hF
                  refine lv_tableIn (off := 88) (tgt := 89) hx hb dX8_howMany_1 (by rw [gw_sw c1_7 (a := 7) (by decide)]; decide) (by rw [gw_sw c1_7 (a := 7) (by decide)]; decide) (by rw [gw_sw c1_7 (a := 7) (by decide)]; rfl) (by decide) ?_
                  refine lv_aload_n hx hb dX8_howMany_89 rfl (lv_at hl 0 rfl) ?_
                  refine gf_M_0_18 E I in_X8_howMany_X8 lk_X8_howMany_81 dX8_howMany_90 ?_
                  exact gw_iret E I hr hlocks rfl (Option.some.inj hF) rfl dX8_howMany_93
                · replace hF := gw_if0 c1_7 hF
                  by_cases c1_8 : v1 = 8
                  · replace hF := gw_if1 c1_8 hF
                    refine lv_tableIn (off := 93) (tgt := 94) hx hb dX8_howMany_1 (by rw [gw_sw c1_8 (a := 8) (by decide)]; decide) (by rw [gw_sw c1_8 (a := 8) (by decide)]; decide) (by rw [gw_sw c1_8 (a := 8) (by decide)]; rfl) (by decide) ?_
                    refine lv_aload_n hx hb dX8_howMany_94 rfl (lv_at hl 0 rfl) ?_
                    refine gf_M_0_0 E I in_X8_howMany_X8 lk_X8_howMany_115 dX8_howMany_95 ?_
                    exact gw_iret E I hr hlocks rfl (Option.some.inj hF) rfl dX8_howMany_98
                  · replace hF := gw_if0 c1_8 hF
                    refine lv_tableOut (tgt := 99) hx hb dX8_howMany_1 (by have q0 := lv_neT c1_0 (a := 0) (by decide); have q1 := lv_neT c1_1 (a := 1) (by decide); have q2 := lv_neT c1_2 (a := 2) (by decide); have q3 := lv_neT c1_3 (a := 3) (by decide); have q4 := lv_neT c1_4 (a := 4) (by decide); have q5 := lv_neT c1_5 (a := 5) (by decide); have q6 := lv_neT c1_6 (a := 6) (by decide); have q7 := lv_neT c1_7 (a := 7) (by decide); have q8 := lv_neT c1_8 (a := 8) (by decide); omega) (by decide) ?_
                    refine lv_bipush (v := (-102)) hx hb dX8_howMany_99 (by decide) ?_
                    exact gw_iret E I hr hlocks rfl (Option.some.inj hF) rfl dX8_howMany_101
abbrev rmX8_count : Room := { frames := 2, cells := 0, slots := 0, locals := 44 }
set_option maxHeartbeats 4000000 in
set_option maxRecDepth 100000 in
theorem ok_X8_count (l : Launch) {D : va_G} {g : gw_G} {tG : Nat} {ad : Nat → Nat} {A : Nat → Prop} (hD : gw_D A 23 ad) (t0 : gw_S) (v1 : Int32) (r0 : Int32) (hF : fX8_count v1 t0 = some r0) : Met l yX8_count wsX8_count rmX8_count (gw_Pc D g tG (tM g ad) 23 ad A [.ref (ad 0), .int v1] t0) (gw_Qi D (tM g ad) 23 ad A r0 t0) 0 0 A := by
  unfold fX8_count at hF
  refine gw_met (by decide) rfl hD (Nat.le_of_ble_eq_true rfl) (fun p e s m args below meth c E hr hlocks I ls hl => ?_)
  have hx := E.1.1
  have hb := E.1.2.1
  have hl : lv_has ls 2 [(0, .ref (ad 0)), (1, .int v1)] := hl
  refine lv_aload_n hx hb dX8_count_0 rfl (lv_at hl 0 rfl) ?_
  refine lv_iload_n hx hb dX8_count_1 rfl (lv_at hl 1 rfl) ?_
  replace hF := gw_bdE hF
  obtain ⟨r2, e2, hF⟩ := hF
  refine gw_calli I (gw_runV E I (ok_X8_howMany l hD t0 v1 _ e2) (cwV 1 E.1.2.2.2.2 gX8_count_X8_howMany rfl rfl rfl (by decide +kernel) ⟨Nat.le_of_ble_eq_true rfl, Nat.le_of_ble_eq_true rfl⟩) (by decide) rfl rfl rfl hl.1 rfl (Nat.le_of_ble_eq_true rfl) dX8_count_2) (fun H locs I => ?_)
  exact gw_iret E I hr hlocks rfl (Option.some.inj hF) rfl dX8_count_5
abbrev rmX8_mix : Room := { frames := 0, cells := 0, slots := 0, locals := 0 }
theorem lk_X8_mix_271 : Cond.fieldLink RX8 271 "ThrownSacksModel" "h" "J" ∈ wsX8_mix := by decide +kernel
theorem in_X8_mix_X8 : ∀ w ∈ u_ws RX8 TX8 42, w ∈ wsX8_mix := by decide +kernel
theorem kc_X8_mix_269 : Cond.constantLong RX8 269 (31) ∈ wsX8_mix := by decide +kernel
set_option maxHeartbeats 4000000 in
set_option maxRecDepth 100000 in
theorem ok_X8_mix (l : Launch) {D : va_G} {g : gw_G} {tG : Nat} {ad : Nat → Nat} {A : Nat → Prop} (hD : gw_D A 23 ad) (t0 : gw_S) (v1 : Int64) (tz : gw_S) (hF : fX8_mix v1 t0 = some tz) : Met l yX8_mix wsX8_mix rmX8_mix (gw_Pc D g tG (tM g ad) 23 ad A [.ref (ad 0), .long v1] t0) (gw_Qv D (tM g ad) 23 ad A tz) 0 0 A := by
  unfold fX8_mix at hF
  refine gw_met (by decide) rfl hD (Nat.le_of_ble_eq_true rfl) (fun p e s m args below meth c E hr hlocks I ls hl => ?_)
  have hx := E.1.1
  have hb := E.1.2.1
  have hl : lv_has ls 3 [(0, .ref (ad 0)), (1, .long v1)] := hl
  refine lv_aload_n hx hb dX8_mix_0 rfl (lv_at hl 0 rfl) ?_
  refine lv_ldc2 hx hb E.1.2.2.2.1 (E.1.2.2.2.2 _ kc_X8_mix_269) dX8_mix_1 ?_
  refine lv_aload_n hx hb dX8_mix_4 rfl (lv_at hl 0 rfl) ?_
  refine gf_M_0_41 E I in_X8_mix_X8 lk_X8_mix_271 dX8_mix_5 ?_
  refine lv_lmul hx hb dX8_mix_8 ?_
  refine lv_lload_n hx hb dX8_mix_9 rfl (lv_at hl 1 rfl) ?_
  refine lv_ladd hx hb dX8_mix_10 ?_
  replace hF := gw_nmE hF
  obtain ⟨t_11, et_11, hF⟩ := hF
  refine gp_M_0_41 E I in_X8_mix_X8 lk_X8_mix_271 et_11 dX8_mix_11 (fun H locs I => ?_)
  exact gw_vret E I hr hlocks (Option.some.inj hF) dX8_mix_14
abbrev rmX8_mixHook : Room := { frames := 6, cells := 0, slots := 0, locals := 135 }
set_option maxHeartbeats 4000000 in
set_option maxRecDepth 100000 in
theorem ok_X8_mixHook (l : Launch) {D : va_G} {g : gw_G} {tG : Nat} {ad : Nat → Nat} {A : Nat → Prop} (hD : gw_D A 23 ad) (t0 : gw_S) (v1 : Int32) (tz : gw_S) (hF : fX8_mixHook v1 t0 = some tz) : Met l yX8_mixHook wsX8_mixHook rmX8_mixHook (gw_Pc D g tG (tM g ad) 23 ad A [.ref (ad 0), .int v1] t0) (gw_Qv D (tM g ad) 23 ad A tz) 0 0 A := by
  unfold fX8_mixHook at hF
  refine gw_met (by decide) rfl hD (Nat.le_of_ble_eq_true rfl) (fun p e s m args below meth c E hr hlocks I ls hl => ?_)
  have hx := E.1.1
  have hb := E.1.2.1
  have hl : lv_has ls 3 [(0, .ref (ad 0)), (1, .int v1)] := hl
  have hL27 : ∀ (Kx : Int32 → gw_S → Option (gw_S)) (v1 : Int32), (∀ (v2 : Int32) (t : gw_S) (H : Heap) (locs : List Loc) (ls : Array Slot), lv_has ls 3 [(0, .ref (ad 0)), (1, .int v1)] → gw_I D (tM g ad) 23 ad A s.heap t H locs → Kx v2 t = some tz → W p l e rmX8_mixHook s m args below meth c H locs 0 0 (MQ below (gw_Qv D (tM g ad) 23 ad A tz) args s 0 0 A) (F0 m 51 ls [])) → ∀ (n : Nat) (v2 : Int32) (t : gw_S) (H : Heap) (locs : List Loc) (ls : Array Slot), lv_has ls 3 [(0, .ref (ad 0)), (1, .int v1), (2, .int v2)] → gw_I D (tM g ad) 23 ad A s.heap t H locs → fX8_mixHook_L27 Kx v1 n v2 t = some tz → W p l e rmX8_mixHook s m args below meth c H locs 0 0 (MQ below (gw_Qv D (tM g ad) 23 ad A tz) args s 0 0 A) (F0 m 27 ls []) := by
    intro Kx v1 hKx n
    induction n with
    | zero =>
      intro v2 t H locs ls hl I hF
      rw [fX8_mixHook_L27] at hF
      cases hF
    | succ n ih =>
      intro v2 t H locs ls hl I hF
      rw [fX8_mixHook_L27] at hF
      refine lv_iload_n hx hb dX8_mixHook_27 rfl (lv_at hl 2 rfl) ?_
      refine lv_bipush (v := 6) hx hb dX8_mixHook_28 (by decide) ?_
      refine lv_icmp_ge (tgt := 51) hx hb dX8_mixHook_30 (by decide) (fun c30 => ?_) (fun c30 => ?_)
      · replace hF := gw_if1 c30 hF
        exact hKx v2 t _ _ _ (lv_sub hl [0, 1] rfl) I hF
      · replace hF := gw_if0 c30 hF
        refine lv_aload_n hx hb dX8_mixHook_33 rfl (lv_at hl 0 rfl) ?_
        refine lv_aload_n hx hb dX8_mixHook_34 rfl (lv_at hl 0 rfl) ?_
        refine lv_iconst (v := 0) hx hb dX8_mixHook_35 (by decide) ?_
        refine lv_iload_n hx hb dX8_mixHook_36 rfl (lv_at hl 1 rfl) ?_
        refine lv_iload_n hx hb dX8_mixHook_37 rfl (lv_at hl 2 rfl) ?_
        replace hF := gw_bdE hF
        obtain ⟨r38, e38, hF⟩ := hF
        refine gw_calli I (gw_runV E I (ok_X8_oddsNow l hD t 0 v1 v2 _ e38) (cwV 3 E.1.2.2.2.2 gX8_mixHook_X8_oddsNow rfl rfl rfl (by decide +kernel) ⟨Nat.le_of_ble_eq_true rfl, Nat.le_of_ble_eq_true rfl⟩) (by decide) rfl rfl rfl hl.1 rfl (Nat.le_of_ble_eq_true rfl) dX8_mixHook_38) (fun H locs I => ?_)
        refine lv_i2l hx hb dX8_mixHook_41 rfl ?_
        replace hF := gw_bdE hF
        obtain ⟨t_42, e42, hF⟩ := hF
        refine gw_callv I (gw_runV E I (ok_X8_mix l hD t (Int32.toInt64 r38) _ e42) (cwV 1 E.1.2.2.2.2 gX8_mixHook_X8_mix rfl rfl rfl (by decide +kernel) ⟨Nat.le_of_ble_eq_true rfl, Nat.le_of_ble_eq_true rfl⟩) (by decide) rfl rfl rfl hl.1 rfl (Nat.le_of_ble_eq_true rfl) dX8_mixHook_42) (fun H locs I => ?_)
        replace hF := gw_nmE hF
        obtain ⟨v2_45, ev2_45, hF⟩ := hF
        refine lv_iinc (v := v2_45) (lv' := [(2, .int v2_45), (0, .ref (ad 0)), (1, .int v1)]) hx hb dX8_mixHook_45 hl (k := 2) rfl (by subst ev2_45; rfl) (by decide) rfl (fun ls hl => ?_)
        refine lv_goto (tgt := 27) hx hb dX8_mixHook_48 (by decide) ?_
        exact ih v2_45 t_42 _ _ _ (lv_sub hl [1, 2, 0] rfl) I hF
  have hL2 : ∀ (Kx : Int32 → gw_S → Option (gw_S)) (v1 : Int32), (∀ (v2 : Int32) (t : gw_S) (H : Heap) (locs : List Loc) (ls : Array Slot), lv_has ls 3 [(0, .ref (ad 0)), (1, .int v1)] → gw_I D (tM g ad) 23 ad A s.heap t H locs → Kx v2 t = some tz → W p l e rmX8_mixHook s m args below meth c H locs 0 0 (MQ below (gw_Qv D (tM g ad) 23 ad A tz) args s 0 0 A) (F0 m 25 ls [])) → ∀ (n : Nat) (v2 : Int32) (t : gw_S) (H : Heap) (locs : List Loc) (ls : Array Slot), lv_has ls 3 [(0, .ref (ad 0)), (1, .int v1), (2, .int v2)] → gw_I D (tM g ad) 23 ad A s.heap t H locs → fX8_mixHook_L2 Kx v1 n v2 t = some tz → W p l e rmX8_mixHook s m args below meth c H locs 0 0 (MQ below (gw_Qv D (tM g ad) 23 ad A tz) args s 0 0 A) (F0 m 2 ls []) := by
    intro Kx v1 hKx n
    induction n with
    | zero =>
      intro v2 t H locs ls hl I hF
      rw [fX8_mixHook_L2] at hF
      cases hF
    | succ n ih =>
      intro v2 t H locs ls hl I hF
      rw [fX8_mixHook_L2] at hF
      refine lv_iload_n hx hb dX8_mixHook_2 rfl (lv_at hl 2 rfl) ?_
      refine lv_bipush (v := 7) hx hb dX8_mixHook_3 (by decide) ?_
      refine lv_icmp_ge (tgt := 25) hx hb dX8_mixHook_5 (by decide) (fun c5 => ?_) (fun c5 => ?_)
      · replace hF := gw_if1 c5 hF
        exact hKx v2 t _ _ _ (lv_sub hl [0, 1] rfl) I hF
      · replace hF := gw_if0 c5 hF
        refine lv_aload_n hx hb dX8_mixHook_8 rfl (lv_at hl 0 rfl) ?_
        refine lv_aload_n hx hb dX8_mixHook_9 rfl (lv_at hl 0 rfl) ?_
        refine lv_iload_n hx hb dX8_mixHook_10 rfl (lv_at hl 1 rfl) ?_
        refine lv_iload_n hx hb dX8_mixHook_11 rfl (lv_at hl 2 rfl) ?_
        replace hF := gw_bdE hF
        obtain ⟨r12, e12, hF⟩ := hF
        refine gw_calli I (gw_runV E I (ok_X8_hookNow l hD t v1 v2 _ e12) (cwV 2 E.1.2.2.2.2 gX8_mixHook_X8_hookNow rfl rfl rfl (by decide +kernel) ⟨Nat.le_of_ble_eq_true rfl, Nat.le_of_ble_eq_true rfl⟩) (by decide) rfl rfl rfl hl.1 rfl (Nat.le_of_ble_eq_true rfl) dX8_mixHook_12) (fun H locs I => ?_)
        refine lv_i2l hx hb dX8_mixHook_15 rfl ?_
        replace hF := gw_bdE hF
        obtain ⟨t_16, e16, hF⟩ := hF
        refine gw_callv I (gw_runV E I (ok_X8_mix l hD t (Int32.toInt64 r12) _ e16) (cwV 1 E.1.2.2.2.2 gX8_mixHook_X8_mix rfl rfl rfl (by decide +kernel) ⟨Nat.le_of_ble_eq_true rfl, Nat.le_of_ble_eq_true rfl⟩) (by decide) rfl rfl rfl hl.1 rfl (Nat.le_of_ble_eq_true rfl) dX8_mixHook_16) (fun H locs I => ?_)
        replace hF := gw_nmE hF
        obtain ⟨v2_19, ev2_19, hF⟩ := hF
        refine lv_iinc (v := v2_19) (lv' := [(2, .int v2_19), (0, .ref (ad 0)), (1, .int v1)]) hx hb dX8_mixHook_19 hl (k := 2) rfl (by subst ev2_19; rfl) (by decide) rfl (fun ls hl => ?_)
        refine lv_goto (tgt := 2) hx hb dX8_mixHook_22 (by decide) ?_
        exact ih v2_19 t_16 _ _ _ (lv_sub hl [1, 2, 0] rfl) I hF
  refine lv_iconst (v := 0) hx hb dX8_mixHook_0 (by decide) ?_
  refine lv_istore_n (lv' := [(2, .int 0), (0, .ref (ad 0)), (1, .int v1)]) hx hb dX8_mixHook_1 rfl hl (by decide) rfl (fun ls hl => ?_)
  refine hL2 _ v1 (fun v2_x2 t_x2 H locs ls hl I hF => ?_) 2000 0 t0 _ _ _ (lv_sub hl [1, 2, 0] rfl) I hF
  refine lv_iconst (v := 0) hx hb dX8_mixHook_25 (by decide) ?_
  refine lv_istore_n (lv' := [(2, .int 0), (0, .ref (ad 0)), (1, .int v1)]) hx hb dX8_mixHook_26 rfl hl (by decide) rfl (fun ls hl => ?_)
  refine hL27 _ v1 (fun v2_x27 t_x27 H locs ls hl I hF => ?_) 2000 0 t_x2 _ _ _ (lv_sub hl [1, 2, 0] rfl) I hF
  refine lv_aload_n hx hb dX8_mixHook_51 rfl (lv_at hl 0 rfl) ?_
  refine lv_aload_n hx hb dX8_mixHook_52 rfl (lv_at hl 0 rfl) ?_
  refine lv_iconst (v := 3) hx hb dX8_mixHook_53 (by decide) ?_
  refine lv_iload_n hx hb dX8_mixHook_54 rfl (lv_at hl 1 rfl) ?_
  refine lv_iconst (v := 3) hx hb dX8_mixHook_55 (by decide) ?_
  replace hF := gw_bdE hF
  obtain ⟨r56, e56, hF⟩ := hF
  refine gw_calli I (gw_runV E I (ok_X8_oddsNow l hD t_x27 3 v1 3 _ e56) (cwV 3 E.1.2.2.2.2 gX8_mixHook_X8_oddsNow rfl rfl rfl (by decide +kernel) ⟨Nat.le_of_ble_eq_true rfl, Nat.le_of_ble_eq_true rfl⟩) (by decide) rfl rfl rfl hl.1 rfl (Nat.le_of_ble_eq_true rfl) dX8_mixHook_56) (fun H locs I => ?_)
  refine lv_i2l hx hb dX8_mixHook_59 rfl ?_
  replace hF := gw_bdE hF
  obtain ⟨t_60, e60, hF⟩ := hF
  refine gw_callv I (gw_runV E I (ok_X8_mix l hD t_x27 (Int32.toInt64 r56) _ e60) (cwV 1 E.1.2.2.2.2 gX8_mixHook_X8_mix rfl rfl rfl (by decide +kernel) ⟨Nat.le_of_ble_eq_true rfl, Nat.le_of_ble_eq_true rfl⟩) (by decide) rfl rfl rfl hl.1 rfl (Nat.le_of_ble_eq_true rfl) dX8_mixHook_60) (fun H locs I => ?_)
  exact gw_vret E I hr hlocks (Option.some.inj hF) dX8_mixHook_63
abbrev rmX8_mixFloor : Room := { frames := 6, cells := 0, slots := 0, locals := 134 }
theorem lk_X8_mixFloor_109 : Cond.fieldLink RX8 109 "ThrownSacksModel" "hooks" "I" ∈ wsX8_mixFloor := by decide +kernel
theorem in_X8_mixFloor_X8 : ∀ w ∈ u_ws RX8 TX8 42, w ∈ wsX8_mixFloor := by decide +kernel
set_option maxHeartbeats 4000000 in
set_option maxRecDepth 100000 in
theorem ok_X8_mixFloor (l : Launch) {D : va_G} {g : gw_G} {tG : Nat} {ad : Nat → Nat} {A : Nat → Prop} (hD : gw_D A 23 ad) (t0 : gw_S) (tz : gw_S) (hF : fX8_mixFloor t0 = some tz) : Met l yX8_mixFloor wsX8_mixFloor rmX8_mixFloor (gw_Pc D g tG (tM g ad) 23 ad A [.ref (ad 0)] t0) (gw_Qv D (tM g ad) 23 ad A tz) 0 0 A := by
  unfold fX8_mixFloor at hF
  refine gw_met (by decide) rfl hD (Nat.le_of_ble_eq_true rfl) (fun p e s m args below meth c E hr hlocks I ls hl => ?_)
  have hx := E.1.1
  have hb := E.1.2.1
  have hl : lv_has ls 2 [(0, .ref (ad 0))] := hl
  have hL56 : ∀ (Kx : Int32 → gw_S → Option (gw_S)), (∀ (v1 : Int32) (t : gw_S) (H : Heap) (locs : List Loc) (ls : Array Slot), lv_has ls 2 [] → gw_I D (tM g ad) 23 ad A s.heap t H locs → Kx v1 t = some tz → W p l e rmX8_mixFloor s m args below meth c H locs 0 0 (MQ below (gw_Qv D (tM g ad) 23 ad A tz) args s 0 0 A) (F0 m 80 ls [])) → ∀ (n : Nat) (v1 : Int32) (t : gw_S) (H : Heap) (locs : List Loc) (ls : Array Slot), lv_has ls 2 [(0, .ref (ad 0)), (1, .int v1)] → gw_I D (tM g ad) 23 ad A s.heap t H locs → fX8_mixFloor_L56 Kx n v1 t = some tz → W p l e rmX8_mixFloor s m args below meth c H locs 0 0 (MQ below (gw_Qv D (tM g ad) 23 ad A tz) args s 0 0 A) (F0 m 56 ls []) := by
    intro Kx hKx n
    induction n with
    | zero =>
      intro v1 t H locs ls hl I hF
      rw [fX8_mixFloor_L56] at hF
      cases hF
    | succ n ih =>
      intro v1 t H locs ls hl I hF
      rw [fX8_mixFloor_L56] at hF
      refine lv_iload_n hx hb dX8_mixFloor_56 rfl (lv_at hl 1 rfl) ?_
      refine lv_aload_n hx hb dX8_mixFloor_57 rfl (lv_at hl 0 rfl) ?_
      refine gf_M_0_1 E I in_X8_mixFloor_X8 lk_X8_mixFloor_109 dX8_mixFloor_58 ?_
      refine lv_icmp_ge (tgt := 80) hx hb dX8_mixFloor_61 (by decide) (fun c61 => ?_) (fun c61 => ?_)
      · replace hF := gw_if1 c61 hF
        exact hKx v1 t _ _ _ (lv_sub hl [] rfl) I hF
      · replace hF := gw_if0 c61 hF
        refine lv_aload_n hx hb dX8_mixFloor_64 rfl (lv_at hl 0 rfl) ?_
        refine lv_aload_n hx hb dX8_mixFloor_65 rfl (lv_at hl 0 rfl) ?_
        refine lv_iload_n hx hb dX8_mixFloor_66 rfl (lv_at hl 1 rfl) ?_
        replace hF := gw_b2E hF
        obtain ⟨r67, t_67, e67, hF⟩ := hF
        refine gw_calli I (gw_runV E I (ok_X8_whereNow l hD t v1 _ _ e67) (cwV 1 E.1.2.2.2.2 gX8_mixFloor_X8_whereNow rfl rfl rfl (by decide +kernel) ⟨Nat.le_of_ble_eq_true rfl, Nat.le_of_ble_eq_true rfl⟩) (by decide) rfl rfl rfl hl.1 rfl (Nat.le_of_ble_eq_true rfl) dX8_mixFloor_67) (fun H locs I => ?_)
        refine lv_i2l hx hb dX8_mixFloor_70 rfl ?_
        replace hF := gw_bdE hF
        obtain ⟨t_71, e71, hF⟩ := hF
        refine gw_callv I (gw_runV E I (ok_X8_mix l hD t_67 (Int32.toInt64 r67) _ e71) (cwV 1 E.1.2.2.2.2 gX8_mixFloor_X8_mix rfl rfl rfl (by decide +kernel) ⟨Nat.le_of_ble_eq_true rfl, Nat.le_of_ble_eq_true rfl⟩) (by decide) rfl rfl rfl hl.1 rfl (Nat.le_of_ble_eq_true rfl) dX8_mixFloor_71) (fun H locs I => ?_)
        replace hF := gw_nmE hF
        obtain ⟨v1_74, ev1_74, hF⟩ := hF
        refine lv_iinc (v := v1_74) (lv' := [(1, .int v1_74), (0, .ref (ad 0))]) hx hb dX8_mixFloor_74 hl (k := 1) rfl (by subst ev1_74; rfl) (by decide) rfl (fun ls hl => ?_)
        refine lv_goto (tgt := 56) hx hb dX8_mixFloor_77 (by decide) ?_
        exact ih v1_74 t_71 _ _ _ (lv_sub hl [1, 0] rfl) I hF
  have hL23 : ∀ (Kx : Int32 → gw_S → Option (gw_S)), (∀ (v1 : Int32) (t : gw_S) (H : Heap) (locs : List Loc) (ls : Array Slot), lv_has ls 2 [(0, .ref (ad 0))] → gw_I D (tM g ad) 23 ad A s.heap t H locs → Kx v1 t = some tz → W p l e rmX8_mixFloor s m args below meth c H locs 0 0 (MQ below (gw_Qv D (tM g ad) 23 ad A tz) args s 0 0 A) (F0 m 45 ls [])) → ∀ (n : Nat) (v1 : Int32) (t : gw_S) (H : Heap) (locs : List Loc) (ls : Array Slot), lv_has ls 2 [(0, .ref (ad 0)), (1, .int v1)] → gw_I D (tM g ad) 23 ad A s.heap t H locs → fX8_mixFloor_L23 Kx n v1 t = some tz → W p l e rmX8_mixFloor s m args below meth c H locs 0 0 (MQ below (gw_Qv D (tM g ad) 23 ad A tz) args s 0 0 A) (F0 m 23 ls []) := by
    intro Kx hKx n
    induction n with
    | zero =>
      intro v1 t H locs ls hl I hF
      rw [fX8_mixFloor_L23] at hF
      cases hF
    | succ n ih =>
      intro v1 t H locs ls hl I hF
      rw [fX8_mixFloor_L23] at hF
      refine lv_iload_n hx hb dX8_mixFloor_23 rfl (lv_at hl 1 rfl) ?_
      refine lv_bipush (v := 16) hx hb dX8_mixFloor_24 (by decide) ?_
      refine lv_icmp_ge (tgt := 45) hx hb dX8_mixFloor_26 (by decide) (fun c26 => ?_) (fun c26 => ?_)
      · replace hF := gw_if1 c26 hF
        exact hKx v1 t _ _ _ (lv_sub hl [0] rfl) I hF
      · replace hF := gw_if0 c26 hF
        refine lv_aload_n hx hb dX8_mixFloor_29 rfl (lv_at hl 0 rfl) ?_
        refine lv_aload_n hx hb dX8_mixFloor_30 rfl (lv_at hl 0 rfl) ?_
        refine lv_iload_n hx hb dX8_mixFloor_31 rfl (lv_at hl 1 rfl) ?_
        replace hF := gw_b2E hF
        obtain ⟨r32, t_32, e32, hF⟩ := hF
        refine gw_calli I (gw_runV E I (ok_X8_hangingNow l hD t v1 _ _ e32) (cwV 1 E.1.2.2.2.2 gX8_mixFloor_X8_hangingNow rfl rfl rfl (by decide +kernel) ⟨Nat.le_of_ble_eq_true rfl, Nat.le_of_ble_eq_true rfl⟩) (by decide) rfl rfl rfl hl.1 rfl (Nat.le_of_ble_eq_true rfl) dX8_mixFloor_32) (fun H locs I => ?_)
        refine lv_i2l hx hb dX8_mixFloor_35 rfl ?_
        replace hF := gw_bdE hF
        obtain ⟨t_36, e36, hF⟩ := hF
        refine gw_callv I (gw_runV E I (ok_X8_mix l hD t_32 (Int32.toInt64 r32) _ e36) (cwV 1 E.1.2.2.2.2 gX8_mixFloor_X8_mix rfl rfl rfl (by decide +kernel) ⟨Nat.le_of_ble_eq_true rfl, Nat.le_of_ble_eq_true rfl⟩) (by decide) rfl rfl rfl hl.1 rfl (Nat.le_of_ble_eq_true rfl) dX8_mixFloor_36) (fun H locs I => ?_)
        replace hF := gw_nmE hF
        obtain ⟨v1_39, ev1_39, hF⟩ := hF
        refine lv_iinc (v := v1_39) (lv' := [(1, .int v1_39), (0, .ref (ad 0))]) hx hb dX8_mixFloor_39 hl (k := 1) rfl (by subst ev1_39; rfl) (by decide) rfl (fun ls hl => ?_)
        refine lv_goto (tgt := 23) hx hb dX8_mixFloor_42 (by decide) ?_
        exact ih v1_39 t_36 _ _ _ (lv_sub hl [1, 0] rfl) I hF
  refine lv_aload_n hx hb dX8_mixFloor_0 rfl (lv_at hl 0 rfl) ?_
  refine lv_aload_n hx hb dX8_mixFloor_1 rfl (lv_at hl 0 rfl) ?_
  refine lv_iconst (v := 0) hx hb dX8_mixFloor_2 (by decide) ?_
  replace hF := gw_b2E hF
  obtain ⟨r3, t_3, e3, hF⟩ := hF
  refine gw_calli I (gw_runV E I (ok_X8_hangingNow l hD t0 0 _ _ e3) (cwV 1 E.1.2.2.2.2 gX8_mixFloor_X8_hangingNow rfl rfl rfl (by decide +kernel) ⟨Nat.le_of_ble_eq_true rfl, Nat.le_of_ble_eq_true rfl⟩) (by decide) rfl rfl rfl hl.1 rfl (Nat.le_of_ble_eq_true rfl) dX8_mixFloor_3) (fun H locs I => ?_)
  refine lv_i2l hx hb dX8_mixFloor_6 rfl ?_
  replace hF := gw_bdE hF
  obtain ⟨t_7, e7, hF⟩ := hF
  refine gw_callv I (gw_runV E I (ok_X8_mix l hD t_3 (Int32.toInt64 r3) _ e7) (cwV 1 E.1.2.2.2.2 gX8_mixFloor_X8_mix rfl rfl rfl (by decide +kernel) ⟨Nat.le_of_ble_eq_true rfl, Nat.le_of_ble_eq_true rfl⟩) (by decide) rfl rfl rfl hl.1 rfl (Nat.le_of_ble_eq_true rfl) dX8_mixFloor_7) (fun H locs I => ?_)
  refine lv_aload_n hx hb dX8_mixFloor_10 rfl (lv_at hl 0 rfl) ?_
  refine lv_aload_n hx hb dX8_mixFloor_11 rfl (lv_at hl 0 rfl) ?_
  refine lv_iconst (v := 1) hx hb dX8_mixFloor_12 (by decide) ?_
  replace hF := gw_b2E hF
  obtain ⟨r13, t_13, e13, hF⟩ := hF
  refine gw_calli I (gw_runV E I (ok_X8_hangingNow l hD t_7 1 _ _ e13) (cwV 1 E.1.2.2.2.2 gX8_mixFloor_X8_hangingNow rfl rfl rfl (by decide +kernel) ⟨Nat.le_of_ble_eq_true rfl, Nat.le_of_ble_eq_true rfl⟩) (by decide) rfl rfl rfl hl.1 rfl (Nat.le_of_ble_eq_true rfl) dX8_mixFloor_13) (fun H locs I => ?_)
  refine lv_i2l hx hb dX8_mixFloor_16 rfl ?_
  replace hF := gw_bdE hF
  obtain ⟨t_17, e17, hF⟩ := hF
  refine gw_callv I (gw_runV E I (ok_X8_mix l hD t_13 (Int32.toInt64 r13) _ e17) (cwV 1 E.1.2.2.2.2 gX8_mixFloor_X8_mix rfl rfl rfl (by decide +kernel) ⟨Nat.le_of_ble_eq_true rfl, Nat.le_of_ble_eq_true rfl⟩) (by decide) rfl rfl rfl hl.1 rfl (Nat.le_of_ble_eq_true rfl) dX8_mixFloor_17) (fun H locs I => ?_)
  refine lv_bipush (v := 10) hx hb dX8_mixFloor_20 (by decide) ?_
  refine lv_istore_n (lv' := [(1, .int 10), (0, .ref (ad 0))]) hx hb dX8_mixFloor_22 rfl hl (by decide) rfl (fun ls hl => ?_)
  refine hL23 _  (fun v1_x23 t_x23 H locs ls hl I hF => ?_) 2000 10 t_17 _ _ _ (lv_sub hl [1, 0] rfl) I hF
  refine lv_aload_n hx hb dX8_mixFloor_45 rfl (lv_at hl 0 rfl) ?_
  refine lv_aload_n hx hb dX8_mixFloor_46 rfl (lv_at hl 0 rfl) ?_
  replace hF := gw_b2E hF
  obtain ⟨r47, t_47, e47, hF⟩ := hF
  refine gw_calli I (gw_runV E I (ok_X8_hungNow l hD t_x23 _ _ e47) (cwV 0 E.1.2.2.2.2 gX8_mixFloor_X8_hungNow rfl rfl rfl (by decide +kernel) ⟨Nat.le_of_ble_eq_true rfl, Nat.le_of_ble_eq_true rfl⟩) (by decide) rfl rfl rfl hl.1 rfl (Nat.le_of_ble_eq_true rfl) dX8_mixFloor_47) (fun H locs I => ?_)
  refine lv_i2l hx hb dX8_mixFloor_50 rfl ?_
  replace hF := gw_bdE hF
  obtain ⟨t_51, e51, hF⟩ := hF
  refine gw_callv I (gw_runV E I (ok_X8_mix l hD t_47 (Int32.toInt64 r47) _ e51) (cwV 1 E.1.2.2.2.2 gX8_mixFloor_X8_mix rfl rfl rfl (by decide +kernel) ⟨Nat.le_of_ble_eq_true rfl, Nat.le_of_ble_eq_true rfl⟩) (by decide) rfl rfl rfl hl.1 rfl (Nat.le_of_ble_eq_true rfl) dX8_mixFloor_51) (fun H locs I => ?_)
  refine lv_iconst (v := 0) hx hb dX8_mixFloor_54 (by decide) ?_
  refine lv_istore_n (lv' := [(1, .int 0), (0, .ref (ad 0))]) hx hb dX8_mixFloor_55 rfl hl (by decide) rfl (fun ls hl => ?_)
  refine hL56 _  (fun v1_x56 t_x56 H locs ls hl I hF => ?_) 2000 0 t_51 _ _ _ (lv_sub hl [1, 0] rfl) I hF
  exact gw_vret E I hr hlocks (Option.some.inj hF) dX8_mixFloor_80
abbrev rmX8_digest : Room := { frames := 7, cells := 0, slots := 0, locals := 157 }
theorem lk_X8_digest_46 : Cond.fieldLink RX8 46 "ThrownSacksModel" "page" "[B" ∈ wsX8_digest := by decide +kernel
theorem lk_X8_digest_81 : Cond.fieldLink RX8 81 "ThrownSacksModel" "pageLength" "I" ∈ wsX8_digest := by decide +kernel
theorem lk_X8_digest_109 : Cond.fieldLink RX8 109 "ThrownSacksModel" "hooks" "I" ∈ wsX8_digest := by decide +kernel
theorem lk_X8_digest_118 : Cond.fieldLink RX8 118 "ThrownSacksModel" "onBelt" "I" ∈ wsX8_digest := by decide +kernel
theorem lk_X8_digest_271 : Cond.fieldLink RX8 271 "ThrownSacksModel" "h" "J" ∈ wsX8_digest := by decide +kernel
theorem in_X8_digest_X8 : ∀ w ∈ u_ws RX8 TX8 42, w ∈ wsX8_digest := by decide +kernel
theorem kc_X8_digest_278 : Cond.constantLong RX8 278 (827) ∈ wsX8_digest := by decide +kernel
set_option maxHeartbeats 4000000 in
set_option maxRecDepth 100000 in
theorem ok_X8_digest (l : Launch) {D : va_G} {g : gw_G} {tG : Nat} {ad : Nat → Nat} {A : Nat → Prop} (hD : gw_D A 23 ad) (t0 : gw_S) (r0 : Int64) (tz : gw_S) (hF : fX8_digest t0 = some (r0, tz)) : Met l yX8_digest wsX8_digest rmX8_digest (gw_Pc D g tG (tM g ad) 23 ad A [.ref (ad 0)] t0) (gw_Ql D (tM g ad) 23 ad A r0 tz) 0 0 A := by
  unfold fX8_digest at hF
  refine gw_met (by decide) rfl hD (Nat.le_of_ble_eq_true rfl) (fun p e s m args below meth c E hr hlocks I ls hl => ?_)
  have hx := E.1.1
  have hb := E.1.2.1
  have hl : lv_has ls 3 [(0, .ref (ad 0))] := hl
  have hL108 : ∀ (Kx : Int32 → gw_S → Option (Int64 × gw_S)), (∀ (v1 : Int32) (t : gw_S) (H : Heap) (locs : List Loc) (ls : Array Slot), lv_has ls 3 [(0, .ref (ad 0))] → gw_I D (tM g ad) 23 ad A s.heap t H locs → Kx v1 t = some (r0, tz) → W p l e rmX8_digest s m args below meth c H locs 0 0 (MQ below (gw_Ql D (tM g ad) 23 ad A r0 tz) args s 0 0 A) (F0 m 130 ls [])) → ∀ (n : Nat) (v1 : Int32) (t : gw_S) (H : Heap) (locs : List Loc) (ls : Array Slot), lv_has ls 3 [(0, .ref (ad 0)), (1, .int v1)] → gw_I D (tM g ad) 23 ad A s.heap t H locs → fX8_digest_L108 Kx n v1 t = some (r0, tz) → W p l e rmX8_digest s m args below meth c H locs 0 0 (MQ below (gw_Ql D (tM g ad) 23 ad A r0 tz) args s 0 0 A) (F0 m 108 ls []) := by
    intro Kx hKx n
    induction n with
    | zero =>
      intro v1 t H locs ls hl I hF
      rw [fX8_digest_L108] at hF
      cases hF
    | succ n ih =>
      intro v1 t H locs ls hl I hF
      rw [fX8_digest_L108] at hF
      refine lv_iload_n hx hb dX8_digest_108 rfl (lv_at hl 1 rfl) ?_
      refine lv_bipush (v := 9) hx hb dX8_digest_109 (by decide) ?_
      refine lv_icmp_ge (tgt := 130) hx hb dX8_digest_111 (by decide) (fun c111 => ?_) (fun c111 => ?_)
      · replace hF := gw_if1 c111 hF
        exact hKx v1 t _ _ _ (lv_sub hl [0] rfl) I hF
      · replace hF := gw_if0 c111 hF
        refine lv_aload_n hx hb dX8_digest_114 rfl (lv_at hl 0 rfl) ?_
        refine lv_aload_n hx hb dX8_digest_115 rfl (lv_at hl 0 rfl) ?_
        refine lv_iload_n hx hb dX8_digest_116 rfl (lv_at hl 1 rfl) ?_
        replace hF := gw_bdE hF
        obtain ⟨r117, e117, hF⟩ := hF
        refine gw_calli I (gw_runV E I (ok_X8_howMany l hD t v1 _ e117) (cwV 1 E.1.2.2.2.2 gX8_digest_X8_howMany rfl rfl rfl (by decide +kernel) ⟨Nat.le_of_ble_eq_true rfl, Nat.le_of_ble_eq_true rfl⟩) (by decide) rfl rfl rfl hl.1 rfl (Nat.le_of_ble_eq_true rfl) dX8_digest_117) (fun H locs I => ?_)
        refine lv_i2l hx hb dX8_digest_120 rfl ?_
        replace hF := gw_bdE hF
        obtain ⟨t_121, e121, hF⟩ := hF
        refine gw_callv I (gw_runV E I (ok_X8_mix l hD t (Int32.toInt64 r117) _ e121) (cwV 1 E.1.2.2.2.2 gX8_digest_X8_mix rfl rfl rfl (by decide +kernel) ⟨Nat.le_of_ble_eq_true rfl, Nat.le_of_ble_eq_true rfl⟩) (by decide) rfl rfl rfl hl.1 rfl (Nat.le_of_ble_eq_true rfl) dX8_digest_121) (fun H locs I => ?_)
        replace hF := gw_nmE hF
        obtain ⟨v1_124, ev1_124, hF⟩ := hF
        refine lv_iinc (v := v1_124) (lv' := [(1, .int v1_124), (0, .ref (ad 0))]) hx hb dX8_digest_124 hl (k := 1) rfl (by subst ev1_124; rfl) (by decide) rfl (fun ls hl => ?_)
        refine lv_goto (tgt := 108) hx hb dX8_digest_127 (by decide) ?_
        exact ih v1_124 t_121 _ _ _ (lv_sub hl [1, 0] rfl) I hF
  have hL81 : ∀ (Kx : Int32 → gw_S → Option (Int64 × gw_S)), (∀ (v1 : Int32) (t : gw_S) (H : Heap) (locs : List Loc) (ls : Array Slot), lv_has ls 3 [(0, .ref (ad 0))] → gw_I D (tM g ad) 23 ad A s.heap t H locs → Kx v1 t = some (r0, tz) → W p l e rmX8_digest s m args below meth c H locs 0 0 (MQ below (gw_Ql D (tM g ad) 23 ad A r0 tz) args s 0 0 A) (F0 m 106 ls [])) → ∀ (n : Nat) (v1 : Int32) (t : gw_S) (H : Heap) (locs : List Loc) (ls : Array Slot), lv_has ls 3 [(0, .ref (ad 0)), (1, .int v1)] → gw_I D (tM g ad) 23 ad A s.heap t H locs → fX8_digest_L81 Kx n v1 t = some (r0, tz) → W p l e rmX8_digest s m args below meth c H locs 0 0 (MQ below (gw_Ql D (tM g ad) 23 ad A r0 tz) args s 0 0 A) (F0 m 81 ls []) := by
    intro Kx hKx n
    induction n with
    | zero =>
      intro v1 t H locs ls hl I hF
      rw [fX8_digest_L81] at hF
      cases hF
    | succ n ih =>
      intro v1 t H locs ls hl I hF
      rw [fX8_digest_L81] at hF
      refine lv_iload_n hx hb dX8_digest_81 rfl (lv_at hl 1 rfl) ?_
      refine lv_aload_n hx hb dX8_digest_82 rfl (lv_at hl 0 rfl) ?_
      refine gf_M_0_18 E I in_X8_digest_X8 lk_X8_digest_81 dX8_digest_83 ?_
      refine lv_icmp_ge (tgt := 106) hx hb dX8_digest_86 (by decide) (fun c86 => ?_) (fun c86 => ?_)
      · replace hF := gw_if1 c86 hF
        exact hKx v1 t _ _ _ (lv_sub hl [0] rfl) I hF
      · replace hF := gw_if0 c86 hF
        refine lv_aload_n hx hb dX8_digest_89 rfl (lv_at hl 0 rfl) ?_
        refine lv_aload_n hx hb dX8_digest_90 rfl (lv_at hl 0 rfl) ?_
        refine gf_M_0_19 E I in_X8_digest_X8 lk_X8_digest_46 dX8_digest_91 ?_
        refine lv_iload_n hx hb dX8_digest_94 rfl (lv_at hl 1 rfl) ?_
        replace hF := gw_ifn hF
        obtain ⟨hz95, hF⟩ := hF
        refine gw_bald E I 13 (by decide) rfl hz95 dX8_digest_95 ?_
        refine lv_i2l hx hb dX8_digest_96 rfl ?_
        replace hF := gw_bdE hF
        obtain ⟨t_97, e97, hF⟩ := hF
        refine gw_callv I (gw_runV E I (ok_X8_mix l hD t (Int32.toInt64 (rdI t 13 (Int32.toNatClampNeg v1))) _ e97) (cwV 1 E.1.2.2.2.2 gX8_digest_X8_mix rfl rfl rfl (by decide +kernel) ⟨Nat.le_of_ble_eq_true rfl, Nat.le_of_ble_eq_true rfl⟩) (by decide) rfl rfl rfl hl.1 rfl (Nat.le_of_ble_eq_true rfl) dX8_digest_97) (fun H locs I => ?_)
        replace hF := gw_nmE hF
        obtain ⟨v1_100, ev1_100, hF⟩ := hF
        refine lv_iinc (v := v1_100) (lv' := [(1, .int v1_100), (0, .ref (ad 0))]) hx hb dX8_digest_100 hl (k := 1) rfl (by subst ev1_100; rfl) (by decide) rfl (fun ls hl => ?_)
        refine lv_goto (tgt := 81) hx hb dX8_digest_103 (by decide) ?_
        exact ih v1_100 t_97 _ _ _ (lv_sub hl [1, 0] rfl) I hF
  have hJ79 : ∀ (t : gw_S) (H : Heap) (locs : List Loc) (ls : Array Slot), lv_has ls 3 [(0, .ref (ad 0))] → gw_I D (tM g ad) 23 ad A s.heap t H locs → fX8_digest_J79 t = some (r0, tz) → W p l e rmX8_digest s m args below meth c H locs 0 0 (MQ below (gw_Ql D (tM g ad) 23 ad A r0 tz) args s 0 0 A) (F0 m 79 ls []) := by
    intro t H locs ls hl I hF
    unfold fX8_digest_J79 at hF
    refine lv_iconst (v := 0) hx hb dX8_digest_79 (by decide) ?_
    refine lv_istore_n (lv' := [(1, .int 0), (0, .ref (ad 0))]) hx hb dX8_digest_80 rfl hl (by decide) rfl (fun ls hl => ?_)
    refine hL81 _  (fun v1_x81 t_x81 H locs ls hl I hF => ?_) 2000 0 t _ _ _ (lv_sub hl [1, 0] rfl) I hF
    refine lv_iconst (v := 0) hx hb dX8_digest_106 (by decide) ?_
    refine lv_istore_n (lv' := [(1, .int 0), (0, .ref (ad 0))]) hx hb dX8_digest_107 rfl hl (by decide) rfl (fun ls hl => ?_)
    refine hL108 _  (fun v1_x108 t_x108 H locs ls hl I hF => ?_) 2000 0 t_x81 _ _ _ (lv_sub hl [1, 0] rfl) I hF
    refine lv_aload_n hx hb dX8_digest_130 rfl (lv_at hl 0 rfl) ?_
    refine gf_M_0_41 E I in_X8_digest_X8 lk_X8_digest_271 dX8_digest_131 ?_
    exact gw_lret E I hr hlocks (Prod.mk.inj (Option.some.inj hF)).1 (Prod.mk.inj (Option.some.inj hF)).2 dX8_digest_134
  have hL40 : ∀ (Kx : Int32 → gw_S → Option (Int64 × gw_S)) (v1 : Int32), (∀ (v2 : Int32) (t : gw_S) (H : Heap) (locs : List Loc) (ls : Array Slot), lv_has ls 3 [(0, .ref (ad 0)), (1, .int v1)] → gw_I D (tM g ad) 23 ad A s.heap t H locs → Kx v2 t = some (r0, tz) → W p l e rmX8_digest s m args below meth c H locs 0 0 (MQ below (gw_Ql D (tM g ad) 23 ad A r0 tz) args s 0 0 A) (F0 m 62 ls [])) → ∀ (n : Nat) (v2 : Int32) (t : gw_S) (H : Heap) (locs : List Loc) (ls : Array Slot), lv_has ls 3 [(0, .ref (ad 0)), (1, .int v1), (2, .int v2)] → gw_I D (tM g ad) 23 ad A s.heap t H locs → fX8_digest_L40 Kx v1 n v2 t = some (r0, tz) → W p l e rmX8_digest s m args below meth c H locs 0 0 (MQ below (gw_Ql D (tM g ad) 23 ad A r0 tz) args s 0 0 A) (F0 m 40 ls []) := by
    intro Kx v1 hKx n
    induction n with
    | zero =>
      intro v2 t H locs ls hl I hF
      rw [fX8_digest_L40] at hF
      cases hF
    | succ n ih =>
      intro v2 t H locs ls hl I hF
      rw [fX8_digest_L40] at hF
      refine lv_iload_n hx hb dX8_digest_40 rfl (lv_at hl 2 rfl) ?_
      refine lv_iconst (v := 3) hx hb dX8_digest_41 (by decide) ?_
      refine lv_icmp_ge (tgt := 62) hx hb dX8_digest_42 (by decide) (fun c42 => ?_) (fun c42 => ?_)
      · replace hF := gw_if1 c42 hF
        exact hKx v2 t _ _ _ (lv_sub hl [0, 1] rfl) I hF
      · replace hF := gw_if0 c42 hF
        refine lv_aload_n hx hb dX8_digest_45 rfl (lv_at hl 0 rfl) ?_
        refine lv_aload_n hx hb dX8_digest_46 rfl (lv_at hl 0 rfl) ?_
        refine lv_iload_n hx hb dX8_digest_47 rfl (lv_at hl 1 rfl) ?_
        refine lv_iload_n hx hb dX8_digest_48 rfl (lv_at hl 2 rfl) ?_
        replace hF := gw_bdE hF
        obtain ⟨r49, e49, hF⟩ := hF
        refine gw_calli I (gw_runV E I (ok_X8_beltNow l hD t v1 v2 _ e49) (cwV 2 E.1.2.2.2.2 gX8_digest_X8_beltNow rfl rfl rfl (by decide +kernel) ⟨Nat.le_of_ble_eq_true rfl, Nat.le_of_ble_eq_true rfl⟩) (by decide) rfl rfl rfl hl.1 rfl (Nat.le_of_ble_eq_true rfl) dX8_digest_49) (fun H locs I => ?_)
        refine lv_i2l hx hb dX8_digest_52 rfl ?_
        replace hF := gw_bdE hF
        obtain ⟨t_53, e53, hF⟩ := hF
        refine gw_callv I (gw_runV E I (ok_X8_mix l hD t (Int32.toInt64 r49) _ e53) (cwV 1 E.1.2.2.2.2 gX8_digest_X8_mix rfl rfl rfl (by decide +kernel) ⟨Nat.le_of_ble_eq_true rfl, Nat.le_of_ble_eq_true rfl⟩) (by decide) rfl rfl rfl hl.1 rfl (Nat.le_of_ble_eq_true rfl) dX8_digest_53) (fun H locs I => ?_)
        replace hF := gw_nmE hF
        obtain ⟨v2_56, ev2_56, hF⟩ := hF
        refine lv_iinc (v := v2_56) (lv' := [(2, .int v2_56), (0, .ref (ad 0)), (1, .int v1)]) hx hb dX8_digest_56 hl (k := 2) rfl (by subst ev2_56; rfl) (by decide) rfl (fun ls hl => ?_)
        refine lv_goto (tgt := 40) hx hb dX8_digest_59 (by decide) ?_
        exact ih v2_56 t_53 _ _ _ (lv_sub hl [1, 2, 0] rfl) I hF
  have hL30 : ∀ (Kx : Int32 → gw_S → Option (Int64 × gw_S)), (∀ (v1 : Int32) (t : gw_S) (H : Heap) (locs : List Loc) (ls : Array Slot), lv_has ls 3 [(0, .ref (ad 0))] → gw_I D (tM g ad) 23 ad A s.heap t H locs → Kx v1 t = some (r0, tz) → W p l e rmX8_digest s m args below meth c H locs 0 0 (MQ below (gw_Ql D (tM g ad) 23 ad A r0 tz) args s 0 0 A) (F0 m 68 ls [])) → ∀ (n : Nat) (v1 : Int32) (t : gw_S) (H : Heap) (locs : List Loc) (ls : Array Slot), lv_has ls 3 [(0, .ref (ad 0)), (1, .int v1)] → gw_I D (tM g ad) 23 ad A s.heap t H locs → fX8_digest_L30 Kx n v1 t = some (r0, tz) → W p l e rmX8_digest s m args below meth c H locs 0 0 (MQ below (gw_Ql D (tM g ad) 23 ad A r0 tz) args s 0 0 A) (F0 m 30 ls []) := by
    intro Kx hKx n
    induction n with
    | zero =>
      intro v1 t H locs ls hl I hF
      rw [fX8_digest_L30] at hF
      cases hF
    | succ n ih =>
      intro v1 t H locs ls hl I hF
      rw [fX8_digest_L30] at hF
      refine lv_iload_n hx hb dX8_digest_30 rfl (lv_at hl 1 rfl) ?_
      refine lv_aload_n hx hb dX8_digest_31 rfl (lv_at hl 0 rfl) ?_
      refine gf_M_0_10 E I in_X8_digest_X8 lk_X8_digest_118 dX8_digest_32 ?_
      refine lv_icmp_ge (tgt := 68) hx hb dX8_digest_35 (by decide) (fun c35 => ?_) (fun c35 => ?_)
      · replace hF := gw_if1 c35 hF
        exact hKx v1 t _ _ _ (lv_sub hl [0] rfl) I hF
      · replace hF := gw_if0 c35 hF
        refine lv_iconst (v := 0) hx hb dX8_digest_38 (by decide) ?_
        refine lv_istore_n (lv' := [(2, .int 0), (0, .ref (ad 0)), (1, .int v1)]) hx hb dX8_digest_39 rfl hl (by decide) rfl (fun ls hl => ?_)
        refine hL40 _ v1 (fun v2_x40 t_x40 H locs ls hl I hF => ?_) 2000 0 t _ _ _ (lv_sub hl [1, 2, 0] rfl) I hF
        replace hF := gw_nmE hF
        obtain ⟨v1_62, ev1_62, hF⟩ := hF
        refine lv_iinc (v := v1_62) (lv' := [(1, .int v1_62), (0, .ref (ad 0))]) hx hb dX8_digest_62 hl (k := 1) rfl (by subst ev1_62; rfl) (by decide) rfl (fun ls hl => ?_)
        refine lv_goto (tgt := 30) hx hb dX8_digest_65 (by decide) ?_
        exact ih v1_62 t_x40 _ _ _ (lv_sub hl [1, 0] rfl) I hF
  have hL9 : ∀ (Kx : Int32 → gw_S → Option (Int64 × gw_S)), (∀ (v1 : Int32) (t : gw_S) (H : Heap) (locs : List Loc) (ls : Array Slot), lv_has ls 3 [(0, .ref (ad 0))] → gw_I D (tM g ad) 23 ad A s.heap t H locs → Kx v1 t = some (r0, tz) → W p l e rmX8_digest s m args below meth c H locs 0 0 (MQ below (gw_Ql D (tM g ad) 23 ad A r0 tz) args s 0 0 A) (F0 m 28 ls [])) → ∀ (n : Nat) (v1 : Int32) (t : gw_S) (H : Heap) (locs : List Loc) (ls : Array Slot), lv_has ls 3 [(0, .ref (ad 0)), (1, .int v1)] → gw_I D (tM g ad) 23 ad A s.heap t H locs → fX8_digest_L9 Kx n v1 t = some (r0, tz) → W p l e rmX8_digest s m args below meth c H locs 0 0 (MQ below (gw_Ql D (tM g ad) 23 ad A r0 tz) args s 0 0 A) (F0 m 9 ls []) := by
    intro Kx hKx n
    induction n with
    | zero =>
      intro v1 t H locs ls hl I hF
      rw [fX8_digest_L9] at hF
      cases hF
    | succ n ih =>
      intro v1 t H locs ls hl I hF
      rw [fX8_digest_L9] at hF
      refine lv_iload_n hx hb dX8_digest_9 rfl (lv_at hl 1 rfl) ?_
      refine lv_aload_n hx hb dX8_digest_10 rfl (lv_at hl 0 rfl) ?_
      refine gf_M_0_1 E I in_X8_digest_X8 lk_X8_digest_109 dX8_digest_11 ?_
      refine lv_icmp_ge (tgt := 28) hx hb dX8_digest_14 (by decide) (fun c14 => ?_) (fun c14 => ?_)
      · replace hF := gw_if1 c14 hF
        exact hKx v1 t _ _ _ (lv_sub hl [0] rfl) I hF
      · replace hF := gw_if0 c14 hF
        refine lv_aload_n hx hb dX8_digest_17 rfl (lv_at hl 0 rfl) ?_
        refine lv_iload_n hx hb dX8_digest_18 rfl (lv_at hl 1 rfl) ?_
        replace hF := gw_bdE hF
        obtain ⟨t_19, e19, hF⟩ := hF
        refine gw_callv I (gw_runV E I (ok_X8_mixHook l hD t v1 _ e19) (cwV 1 E.1.2.2.2.2 gX8_digest_X8_mixHook rfl rfl rfl (by decide +kernel) ⟨Nat.le_of_ble_eq_true rfl, Nat.le_of_ble_eq_true rfl⟩) (by decide) rfl rfl rfl hl.1 rfl (Nat.le_of_ble_eq_true rfl) dX8_digest_19) (fun H locs I => ?_)
        replace hF := gw_nmE hF
        obtain ⟨v1_22, ev1_22, hF⟩ := hF
        refine lv_iinc (v := v1_22) (lv' := [(1, .int v1_22), (0, .ref (ad 0))]) hx hb dX8_digest_22 hl (k := 1) rfl (by subst ev1_22; rfl) (by decide) rfl (fun ls hl => ?_)
        refine lv_goto (tgt := 9) hx hb dX8_digest_25 (by decide) ?_
        exact ih v1_22 t_19 _ _ _ (lv_sub hl [1, 0] rfl) I hF
  refine lv_aload_n hx hb dX8_digest_0 rfl (lv_at hl 0 rfl) ?_
  refine lv_ldc2 hx hb E.1.2.2.2.1 (E.1.2.2.2.2 _ kc_X8_digest_278) dX8_digest_1 ?_
  replace hF := gw_nmE hF
  obtain ⟨t_4, et_4, hF⟩ := hF
  refine gp_M_0_41 E I in_X8_digest_X8 lk_X8_digest_271 et_4 dX8_digest_4 (fun H locs I => ?_)
  refine lv_iconst (v := 0) hx hb dX8_digest_7 (by decide) ?_
  refine lv_istore_n (lv' := [(1, .int 0), (0, .ref (ad 0))]) hx hb dX8_digest_8 rfl hl (by decide) rfl (fun ls hl => ?_)
  refine hL9 _  (fun v1_x9 t_x9 H locs ls hl I hF => ?_) 2000 0 t_4 _ _ _ (lv_sub hl [1, 0] rfl) I hF
  refine lv_iconst (v := 0) hx hb dX8_digest_28 (by decide) ?_
  refine lv_istore_n (lv' := [(1, .int 0), (0, .ref (ad 0))]) hx hb dX8_digest_29 rfl hl (by decide) rfl (fun ls hl => ?_)
  refine hL30 _  (fun v1_x30 t_x30 H locs ls hl I hF => ?_) 2000 0 t_x9 _ _ _ (lv_sub hl [1, 0] rfl) I hF
  refine lv_aload_n hx hb dX8_digest_68 rfl (lv_at hl 0 rfl) ?_
  refine gf_M_0_1 E I in_X8_digest_X8 lk_X8_digest_109 dX8_digest_69 ?_
  refine lv_if_le (tgt := 79) hx hb dX8_digest_72 (by decide) (fun c72 => ?_) (fun c72 => ?_)
  · replace hF := gw_if1 c72 hF
    exact hJ79 t_x30 _ _ _ (lv_sub hl [0] rfl) I hF
  · replace hF := gw_if0 c72 hF
    refine lv_aload_n hx hb dX8_digest_75 rfl (lv_at hl 0 rfl) ?_
    replace hF := gw_bdE hF
    obtain ⟨t_76, e76, hF⟩ := hF
    refine gw_callv I (gw_runV E I (ok_X8_mixFloor l hD t_x30 _ e76) (cwV 0 E.1.2.2.2.2 gX8_digest_X8_mixFloor rfl rfl rfl (by decide +kernel) ⟨Nat.le_of_ble_eq_true rfl, Nat.le_of_ble_eq_true rfl⟩) (by decide) rfl rfl rfl hl.1 rfl (Nat.le_of_ble_eq_true rfl) dX8_digest_76) (fun H locs I => ?_)
    exact hJ79 t_76 _ _ _ (lv_sub hl [0] rfl) I hF
