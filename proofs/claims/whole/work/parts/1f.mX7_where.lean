/-! The contracts: each method does what its function says: written by wip/whole/genall.py. -/
abbrev rmX7_where : Room := { frames := 12, cells := 0, slots := 0, locals := 946 }
theorem lk_X7_where_19 : Cond.fieldLink RX7 19 "ThrownSacks" "plan" "LThrownSacks$Plan;" ∈ wsX7_where := by decide +kernel
theorem lk_X7_where_26 : Cond.fieldLink RX7 26 "ThrownSacks" "now" "LThrownSacks$Standing;" ∈ wsX7_where := by decide +kernel
theorem lk_X7_where_43 : Cond.fieldLink RX7 43 "ThrownSacks" "ways" "LThrownSacks$Ways;" ∈ wsX7_where := by decide +kernel
theorem lk_X7_where_91 : Cond.fieldLink RX7 91 "ThrownSacks$Plan" "hooks" "I" ∈ wsX7_where := by decide +kernel
theorem lk_X7_where_200 : Cond.fieldLink RX7 200 "ThrownSacks$Ways" "places" "[I" ∈ wsX7_where := by decide +kernel
theorem in_X7_where_X2 : ∀ w ∈ u_ws RX2 TX2 4, w ∈ wsX7_where := by decide +kernel
theorem in_X7_where_X6 : ∀ w ∈ u_ws RX6 TX6 5, w ∈ wsX7_where := by decide +kernel
theorem in_X7_where_X7 : ∀ w ∈ u_ws RX7 TX7 9, w ∈ wsX7_where := by decide +kernel
set_option maxHeartbeats 4000000 in
set_option maxRecDepth 100000 in
theorem ok_X7_where (l : Launch) {D : va_G} {g : gw_G} {tG : Nat} {ad : Nat → Nat} {A : Nat → Prop} (hD : gw_D A 83 ad) (t0 : gw_S) (v1 : Int32) (r0 : Int32) (tz : gw_S) (hF : fX7_where v1 t0 = some (r0, tz)) : Met l yX7_where wsX7_where rmX7_where (gw_Pc D g tG (tC g ad) 83 ad A [.ref (ad 0), .int v1] t0) (gw_Qi D (tC g ad) 83 ad A r0 tz) 0 0 A := by
  unfold fX7_where at hF
  refine gw_met (by decide) rfl hD (Nat.le_of_ble_eq_true rfl) (fun p e s m args below meth c E hr hlocks I ls hl => ?_)
  have hx := E.1.1
  have hb := E.1.2.1
  have hl : lv_has ls 2 [(0, .ref (ad 0)), (1, .int v1)] := hl
  refine lv_aload_n hx hb dX7_where_0 rfl (lv_at hl 0 rfl) ?_
  refine lv_iload_n hx hb dX7_where_1 rfl (lv_at hl 1 rfl) ?_
  refine gw_calli I (gw_runV E I (ok_X7_isKnown l hD t0 v1 _ rfl) (cwV 1 E.1.2.2.2.2 gX7_where_X7_isKnown rfl rfl rfl (by decide +kernel) ⟨Nat.le_of_ble_eq_true rfl, Nat.le_of_ble_eq_true rfl⟩) (by decide) rfl rfl rfl hl.1 rfl (Nat.le_of_ble_eq_true rfl) dX7_where_2) (fun H locs I => ?_)
  refine lv_if_ne (tgt := 11) hx hb dX7_where_5 (by decide) (fun c5 => ?_) (fun c5 => ?_)
  · replace hF := gw_if0 c5 hF
    refine lv_aload_n hx hb dX7_where_11 rfl (lv_at hl 0 rfl) ?_
    refine gf_C_0_5 E I in_X7_where_X7 lk_X7_where_43 dX7_where_12 ?_
    refine lv_aload_n hx hb dX7_where_15 rfl (lv_at hl 0 rfl) ?_
    refine gf_C_0_2 E I in_X7_where_X7 lk_X7_where_26 dX7_where_16 ?_
    refine lv_aload_n hx hb dX7_where_19 rfl (lv_at hl 0 rfl) ?_
    refine gf_C_0_1 E I in_X7_where_X7 lk_X7_where_19 dX7_where_20 ?_
    refine gf_C_3_3 E I in_X7_where_X2 lk_X7_where_91 dX7_where_23 ?_
    replace hF := gw_bdE hF
    obtain ⟨t_26, e26, hF⟩ := hF
    refine gw_callv I (gw_runV E I (ok_X6_seek l hD t0 (rdI t0 3 3) _ e26) (cwV 2 E.1.2.2.2.2 gX7_where_X6_seek rfl rfl rfl (by decide +kernel) ⟨Nat.le_of_ble_eq_true rfl, Nat.le_of_ble_eq_true rfl⟩) (by decide) rfl rfl rfl hl.1 rfl (Nat.le_of_ble_eq_true rfl) dX7_where_26) (fun H locs I => ?_)
    refine lv_aload_n hx hb dX7_where_29 rfl (lv_at hl 0 rfl) ?_
    refine gf_C_0_5 E I in_X7_where_X7 lk_X7_where_43 dX7_where_30 ?_
    refine gf_C_21_2 E I in_X7_where_X6 lk_X7_where_200 dX7_where_33 ?_
    refine lv_iload_n hx hb dX7_where_36 rfl (lv_at hl 1 rfl) ?_
    replace hF := gw_ifn hF
    obtain ⟨hz37, hF⟩ := hF
    refine gw_iald E I 24 (by decide) rfl hz37 dX7_where_37 ?_
    exact gw_iret E I hr hlocks rfl (Prod.mk.inj (Option.some.inj hF)).1 (Prod.mk.inj (Option.some.inj hF)).2 dX7_where_38
  · replace hF := gw_if1 c5 hF
    refine lv_bipush (v := (-101)) hx hb dX7_where_8 (by decide) ?_
    exact gw_iret E I hr hlocks rfl (Prod.mk.inj (Option.some.inj hF)).1 (Prod.mk.inj (Option.some.inj hF)).2 dX7_where_10
abbrev rmJ7_fill_53178_26 : Room := { frames := 0, cells := 0, slots := 0, locals := 0 }
set_option maxHeartbeats 4000000 in
set_option maxRecDepth 100000 in
theorem ok_J7_fill_53178_26 (l : Launch) {D : va_G} {g : gw_G} {tG : Nat} {ad : Nat → Nat} {A : Nat → Prop} (hD : gw_D A 83 ad) (t0 : gw_S) (v1 : Int32) (tz : gw_S) (hF : fJ7_fill_53178_26 v1 t0 = some tz) : Met l yJ7_fill_53178 wsJ7_fill_53178 rmJ7_fill_53178_26 (gw_Pc D g tG (tC g ad) 83 ad A [.ref (ad 26), .int v1] t0) (gw_Qv D (tC g ad) 83 ad A tz) 0 0 A := by
  unfold fJ7_fill_53178_26 at hF
  refine gw_met (by decide) rfl hD (Nat.le_of_ble_eq_true rfl) (fun p e s m args below meth c E hr hlocks I ls hl => ?_)
  have hx := E.1.1
  have hb := E.1.2.1
  have hl : lv_has ls 4 [(0, .ref (ad 26)), (1, .int v1)] := hl
  have hL5 : ∀ (Kx : Int32 → gw_S → Option (gw_S)) (v1 : Int32) (v3 : Int32), (∀ (v2 : Int32) (t : gw_S) (H : Heap) (locs : List Loc) (ls : Array Slot), lv_has ls 4 [] → gw_I D (tC g ad) 83 ad A s.heap t H locs → Kx v2 t = some tz → W p l e rmJ7_fill_53178_26 s m args below meth c H locs 0 0 (MQ below (gw_Qv D (tC g ad) 83 ad A tz) args s 0 0 A) (F0 m 20 ls [])) → ∀ (n : Nat) (v2 : Int32) (t : gw_S) (H : Heap) (locs : List Loc) (ls : Array Slot), lv_has ls 4 [(0, .ref (ad 26)), (1, .int v1), (2, .int v2), (3, .int v3)] → gw_I D (tC g ad) 83 ad A s.heap t H locs → fJ7_fill_53178_26_L5 Kx v1 v3 n v2 t = some tz → W p l e rmJ7_fill_53178_26 s m args below meth c H locs 0 0 (MQ below (gw_Qv D (tC g ad) 83 ad A tz) args s 0 0 A) (F0 m 5 ls []) := by
    intro Kx v1 v3 hKx n
    induction n with
    | zero =>
      intro v2 t H locs ls hl I hF
      rw [fJ7_fill_53178_26_L5] at hF
      cases hF
    | succ n ih =>
      intro v2 t H locs ls hl I hF
      rw [fJ7_fill_53178_26_L5] at hF
      refine lv_iload_n hx hb dJ7_fill_53178_5 rfl (lv_at hl 2 rfl) ?_
      refine lv_iload_n hx hb dJ7_fill_53178_6 rfl (lv_at hl 3 rfl) ?_
      refine lv_icmp_ge (tgt := 20) hx hb dJ7_fill_53178_7 (by decide) (fun c7 => ?_) (fun c7 => ?_)
      · replace hF := gw_if1 c7 hF
        exact hKx v2 t _ _ _ (lv_sub hl [] rfl) I hF
      · replace hF := gw_if0 c7 hF
        refine lv_aload_n hx hb dJ7_fill_53178_10 rfl (lv_at hl 0 rfl) ?_
        refine lv_iload_n hx hb dJ7_fill_53178_11 rfl (lv_at hl 2 rfl) ?_
        refine lv_iload_n hx hb dJ7_fill_53178_12 rfl (lv_at hl 1 rfl) ?_
        replace hF := gw_ifn hF
        obtain ⟨hz13, hF⟩ := hF
        replace hF := gw_nmE hF
        obtain ⟨t_13, et_13, hF⟩ := hF
        refine gw_iast E I 26 (by decide) (fun _ => rfl) hz13 et_13 dJ7_fill_53178_13 (fun H locs I => ?_)
        replace hF := gw_nmE hF
        obtain ⟨v2_14, ev2_14, hF⟩ := hF
        refine lv_iinc (v := v2_14) (lv' := [(2, .int v2_14), (0, .ref (ad 26)), (1, .int v1), (3, .int v3)]) hx hb dJ7_fill_53178_14 hl (k := 2) rfl (by subst ev2_14; rfl) (by decide) rfl (fun ls hl => ?_)
        refine lv_goto (tgt := 5) hx hb dJ7_fill_53178_17 (by decide) ?_
        exact ih v2_14 t_13 _ _ _ (lv_sub hl [1, 2, 0, 3] rfl) I hF
  refine lv_iconst (v := 0) hx hb dJ7_fill_53178_0 (by decide) ?_
  refine lv_istore_n (lv' := [(2, .int 0), (0, .ref (ad 26)), (1, .int v1)]) hx hb dJ7_fill_53178_1 rfl hl (by decide) rfl (fun ls hl => ?_)
  refine lv_aload_n hx hb dJ7_fill_53178_2 rfl (lv_at hl 1 rfl) ?_
  refine gw_alen E I 26 (by decide) rfl (v := 6) (by decide) dJ7_fill_53178_3 ?_
  refine lv_istore_n (lv' := [(3, .int 6), (2, .int 0), (0, .ref (ad 26)), (1, .int v1)]) hx hb dJ7_fill_53178_4 rfl hl (by decide) rfl (fun ls hl => ?_)
  refine hL5 _ v1 6 (fun v2_x5 t_x5 H locs ls hl I hF => ?_) 2000 0 t0 _ _ _ (lv_sub hl [2, 3, 1, 0] rfl) I hF
  exact gw_vret E I hr hlocks (Option.some.inj hF) dJ7_fill_53178_20
abbrev rmX5_draw : Room := { frames := 0, cells := 0, slots := 0, locals := 0 }
theorem lk_X5_draw_21 : Cond.fieldLink RX5 21 "ThrownSacks$Trial" "seed" "I" ∈ wsX5_draw := by decide +kernel
theorem in_X5_draw_X5 : ∀ w ∈ u_ws RX5 TX5 4, w ∈ wsX5_draw := by decide +kernel
theorem kc_X5_draw_67 : Cond.constantLong RX5 67 (1103515245) ∈ wsX5_draw := by decide +kernel
theorem kc_X5_draw_69 : Cond.constantLong RX5 69 (12345) ∈ wsX5_draw := by decide +kernel
theorem kc_X5_draw_71 : Cond.constantLong RX5 71 (2147483647) ∈ wsX5_draw := by decide +kernel
set_option maxHeartbeats 4000000 in
set_option maxRecDepth 100000 in
theorem ok_X5_draw (l : Launch) {D : va_G} {g : gw_G} {tG : Nat} {ad : Nat → Nat} {A : Nat → Prop} (hD : gw_D A 83 ad) (t0 : gw_S) (v1 : Int32) (r0 : Int32) (tz : gw_S) (hF : fX5_draw v1 t0 = some (r0, tz)) : Met l yX5_draw wsX5_draw rmX5_draw (gw_Pc D g tG (tC g ad) 83 ad A [.ref (ad 25), .int v1] t0) (gw_Qi D (tC g ad) 83 ad A r0 tz) 0 0 A := by
  unfold fX5_draw at hF
  refine gw_met (by decide) rfl hD (Nat.le_of_ble_eq_true rfl) (fun p e s m args below meth c E hr hlocks I ls hl => ?_)
  have hx := E.1.1
  have hb := E.1.2.1
  have hl : lv_has ls 2 [(0, .ref (ad 25)), (1, .int v1)] := hl
  refine lv_aload_n hx hb dX5_draw_0 rfl (lv_at hl 0 rfl) ?_
  refine lv_ldc2 hx hb E.1.2.2.2.1 (E.1.2.2.2.2 _ kc_X5_draw_67) dX5_draw_1 ?_
  refine lv_aload_n hx hb dX5_draw_4 rfl (lv_at hl 0 rfl) ?_
  refine gf_C_25_1 E I in_X5_draw_X5 lk_X5_draw_21 dX5_draw_5 ?_
  refine lv_i2l hx hb dX5_draw_8 rfl ?_
  refine lv_lmul hx hb dX5_draw_9 ?_
  refine lv_ldc2 hx hb E.1.2.2.2.1 (E.1.2.2.2.2 _ kc_X5_draw_69) dX5_draw_10 ?_
  refine lv_ladd hx hb dX5_draw_13 ?_
  refine lv_ldc2 hx hb E.1.2.2.2.1 (E.1.2.2.2.2 _ kc_X5_draw_71) dX5_draw_14 ?_
  refine lv_land hx hb dX5_draw_17 ?_
  refine lv_l2i hx hb dX5_draw_18 rfl ?_
  replace hF := gw_nmE hF
  obtain ⟨t_19, et_19, hF⟩ := hF
  refine gp_C_25_1 E I in_X5_draw_X5 lk_X5_draw_21 et_19 dX5_draw_19 (fun H locs I => ?_)
  refine lv_iload_n hx hb dX5_draw_22 rfl (lv_at hl 1 rfl) ?_
  refine lv_if_le (tgt := 38) hx hb dX5_draw_23 (by decide) (fun c23 => ?_) (fun c23 => ?_)
  · replace hF := gw_if1 c23 hF
    refine lv_iconst (v := 0) hx hb dX5_draw_38 (by decide) ?_
    exact gw_iret E I hr hlocks rfl (Prod.mk.inj (Option.some.inj hF)).1 (Prod.mk.inj (Option.some.inj hF)).2 dX5_draw_39
  · replace hF := gw_if0 c23 hF
    refine lv_aload_n hx hb dX5_draw_26 rfl (lv_at hl 0 rfl) ?_
    refine gf_C_25_1 E I in_X5_draw_X5 lk_X5_draw_21 dX5_draw_27 ?_
    refine lv_bipush (v := 16) hx hb dX5_draw_30 (by decide) ?_
    refine lv_ishr hx hb dX5_draw_32 ?_
    refine lv_iload_n hx hb dX5_draw_33 rfl (lv_at hl 1 rfl) ?_
    replace hF := gw_ifz hF
    obtain ⟨hz34, hF⟩ := hF
    refine lv_irem hx hb dX5_draw_34 hz34 ?_
    refine lv_goto (tgt := 39) hx hb dX5_draw_35 (by decide) ?_
    exact gw_iret E I hr hlocks rfl (Prod.mk.inj (Option.some.inj hF)).1 (Prod.mk.inj (Option.some.inj hF)).2 dX5_draw_39
abbrev rmX5_throwAt : Room := { frames := 2, cells := 0, slots := 0, locals := 46 }
theorem lk_X5_throwAt_9 : Cond.fieldLink RX5 9 "ThrownSacks$Trial" "held" "[I" ∈ wsX5_throwAt := by decide +kernel
theorem lk_X5_throwAt_25 : Cond.fieldLink RX5 25 "ThrownSacks$Trial" "cameNext" "I" ∈ wsX5_throwAt := by decide +kernel
theorem lk_X5_throwAt_28 : Cond.fieldLink RX5 28 "ThrownSacks$Trial" "layBeside" "I" ∈ wsX5_throwAt := by decide +kernel
theorem lk_X5_throwAt_57 : Cond.fieldLink RX5 57 "ThrownSacks$Plan" "room" "[I" ∈ wsX5_throwAt := by decide +kernel
theorem lk_X5_throwAt_60 : Cond.fieldLink RX5 60 "ThrownSacks$Plan" "yards" "[I" ∈ wsX5_throwAt := by decide +kernel
theorem in_X5_throwAt_X2 : ∀ w ∈ u_ws RX2 TX2 4, w ∈ wsX5_throwAt := by decide +kernel
theorem in_X5_throwAt_X5 : ∀ w ∈ u_ws RX5 TX5 4, w ∈ wsX5_throwAt := by decide +kernel
theorem nk_X5_throwAt_X7_tenthsOf : Cond.static yX7_tenthsOf ∈ wsX5_throwAt := by decide +kernel
theorem nk_X5_throwAt_i : Cond.initialized RX7 ∈ wsX5_throwAt := by decide +kernel
set_option maxHeartbeats 4000000 in
set_option maxRecDepth 100000 in
theorem ok_X5_throwAt (l : Launch) {D : va_G} {g : gw_G} {tG : Nat} {ad : Nat → Nat} {A : Nat → Prop} (hD : gw_D A 83 ad) (t0 : gw_S) (v2 : Int32) (v3 : Int32) (tz : gw_S) (hF : fX5_throwAt v2 v3 t0 = some tz) : Met l yX5_throwAt wsX5_throwAt rmX5_throwAt (gw_Pc D g tG (tC g ad) 83 ad A [.ref (ad 25), .ref (ad 3), .int v2, .int v3] t0) (gw_Qv D (tC g ad) 83 ad A tz) 0 0 A := by
  unfold fX5_throwAt at hF
  refine gw_met (by decide) rfl hD (Nat.le_of_ble_eq_true rfl) (fun p e s m args below meth c E hr hlocks I ls hl => ?_)
  have hx := E.1.1
  have hb := E.1.2.1
  have hl : lv_has ls 8 [(0, .ref (ad 25)), (1, .ref (ad 3)), (2, .int v2), (3, .int v3)] := hl
  have hJ137 : ∀ (v2 : Int32) (t : gw_S) (H : Heap) (locs : List Loc) (ls : Array Slot), lv_has ls 8 [(0, .ref (ad 25)), (2, .int v2)] → gw_I D (tC g ad) 83 ad A s.heap t H locs → fX5_throwAt_J137 v2 t = some tz → W p l e rmX5_throwAt s m args below meth c H locs 0 0 (MQ below (gw_Qv D (tC g ad) 83 ad A tz) args s 0 0 A) (F0 m 137 ls []) := by
    intro v2 t H locs ls hl I hF
    unfold fX5_throwAt_J137 at hF
    refine lv_aload_n hx hb dX5_throwAt_137 rfl (lv_at hl 0 rfl) ?_
    refine gf_C_25_0 E I in_X5_throwAt_X5 lk_X5_throwAt_9 dX5_throwAt_138 ?_
    refine lv_iload_n hx hb dX5_throwAt_141 rfl (lv_at hl 1 rfl) ?_
    refine lv_dup2_11 hx hb dX5_throwAt_142 rfl rfl ?_
    replace hF := gw_ifn hF
    obtain ⟨hz143, hF⟩ := hF
    refine gw_iald E I 26 (by decide) rfl hz143 dX5_throwAt_143 ?_
    refine lv_iconst (v := 1) hx hb dX5_throwAt_144 (by decide) ?_
    refine lv_iadd hx hb dX5_throwAt_145 ?_
    replace hF := gw_ifn hF
    obtain ⟨hz146, hF⟩ := hF
    replace hF := gw_nmE hF
    obtain ⟨t_146, et_146, hF⟩ := hF
    refine gw_iast E I 26 (by decide) (fun _ => rfl) hz146 et_146 dX5_throwAt_146 (fun H locs I => ?_)
    exact gw_vret E I hr hlocks (Option.some.inj hF) dX5_throwAt_147
  have hJ120 : ∀ (v2 : Int32) (v6 : Int32) (v7 : Int32) (t : gw_S) (H : Heap) (locs : List Loc) (ls : Array Slot), lv_has ls 8 [(0, .ref (ad 25)), (2, .int v2), (6, .int v6), (7, .int v7)] → gw_I D (tC g ad) 83 ad A s.heap t H locs → fX5_throwAt_J120 v2 v6 v7 t = some tz → W p l e rmX5_throwAt s m args below meth c H locs 0 0 (MQ below (gw_Qv D (tC g ad) 83 ad A tz) args s 0 0 A) (F0 m 120 ls []) := by
    intro v2 v6 v7 t H locs ls hl I hF
    unfold fX5_throwAt_J120 at hF
    refine lv_iload hx hb dX5_throwAt_120 (lv_at hl 3 rfl) ?_
    refine lv_iload hx hb dX5_throwAt_122 (lv_at hl 2 rfl) ?_
    refine lv_icmp_lt (tgt := 137) hx hb dX5_throwAt_124 (by decide) (fun c124 => ?_) (fun c124 => ?_)
    · replace hF := gw_if1 c124 hF
      exact hJ137 v2 t _ _ _ (lv_sub hl [0, 1] rfl) I hF
    · replace hF := gw_if0 c124 hF
      refine lv_aload_n hx hb dX5_throwAt_127 rfl (lv_at hl 0 rfl) ?_
      refine lv_dup hx hb dX5_throwAt_128 rfl ?_
      refine gf_C_25_3 E I in_X5_throwAt_X5 lk_X5_throwAt_28 dX5_throwAt_129 ?_
      refine lv_iconst (v := 1) hx hb dX5_throwAt_132 (by decide) ?_
      refine lv_iadd hx hb dX5_throwAt_133 ?_
      replace hF := gw_nmE hF
      obtain ⟨t_134, et_134, hF⟩ := hF
      refine gp_C_25_3 E I in_X5_throwAt_X5 lk_X5_throwAt_28 et_134 dX5_throwAt_134 (fun H locs I => ?_)
      exact hJ137 v2 t_134 _ _ _ (lv_sub hl [0, 1] rfl) I hF
  have hJ42 : ∀ (v2 : Int32) (v3 : Int32) (x0 : Int32) (t : gw_S) (H : Heap) (locs : List Loc) (ls : Array Slot), lv_has ls 8 [(0, .ref (ad 25)), (1, .ref (ad 3)), (2, .int v2), (3, .int v3)] → gw_I D (tC g ad) 83 ad A s.heap t H locs → fX5_throwAt_J42 v2 v3 x0 t = some tz → W p l e rmX5_throwAt s m args below meth c H locs 0 0 (MQ below (gw_Qv D (tC g ad) 83 ad A tz) args s 0 0 A) (F0 m 42 ls [.int x0]) := by
    intro v2 v3 x0 t H locs ls hl I hF
    unfold fX5_throwAt_J42 at hF
    refine lv_istore (lv' := [(4, .int x0), (0, .ref (ad 25)), (1, .ref (ad 3)), (2, .int v2), (3, .int v3)]) hx hb dX5_throwAt_42 hl (by decide) rfl (fun ls hl => ?_)
    refine lv_iconst (v := 0) hx hb dX5_throwAt_44 (by decide) ?_
    refine lv_aload_n hx hb dX5_throwAt_45 rfl (lv_at hl 2 rfl) ?_
    refine gf_C_3_0 E I in_X5_throwAt_X2 lk_X5_throwAt_60 dX5_throwAt_46 ?_
    refine lv_iload_n hx hb dX5_throwAt_49 rfl (lv_at hl 3 rfl) ?_
    replace hF := gw_ifn hF
    obtain ⟨hz50, hF⟩ := hF
    refine gw_iald E I 4 (by decide) rfl hz50 dX5_throwAt_50 ?_
    refine lv_iload hx hb dX5_throwAt_51 (lv_at hl 0 rfl) ?_
    refine lv_iconst (v := 0) hx hb dX5_throwAt_53 (by decide) ?_
    replace hF := gw_bdE hF
    obtain ⟨r54, e54, hF⟩ := hF
    refine gw_calli I (gw_runN E I (ok_X7_tenthsOf l hD t 0 (rdI t 4 (Int32.toNatClampNeg v2)) x0 0 _ e54) ⟨va_cnB 4 E.1.2.2.2.2 gX5_throwAt_X7_tenthsOf_n63 rfl rfl rfl E.2.1.2.2.2.2.2.2 (E.1.2.2.2.2 _ nk_X5_throwAt_i) (by decide +kernel) ⟨Nat.le_of_ble_eq_true rfl, Nat.le_of_ble_eq_true rfl⟩, E.1.2.2.2.2 _ nk_X5_throwAt_X7_tenthsOf, trivial⟩ rfl hl.1 rfl (Nat.le_of_ble_eq_true rfl) dX5_throwAt_54) (fun H locs I => ?_)
    refine lv_istore (lv' := [(5, .int r54), (4, .int x0), (0, .ref (ad 25)), (1, .ref (ad 3)), (2, .int v2), (3, .int v3)]) hx hb dX5_throwAt_57 hl (by decide) rfl (fun ls hl => ?_)
    refine lv_iload hx hb dX5_throwAt_59 (lv_at hl 0 rfl) ?_
    refine lv_iconst (v := 0) hx hb dX5_throwAt_61 (by decide) ?_
    refine lv_aload_n hx hb dX5_throwAt_62 rfl (lv_at hl 3 rfl) ?_
    refine gf_C_3_0 E I in_X5_throwAt_X2 lk_X5_throwAt_60 dX5_throwAt_63 ?_
    refine lv_iload_n hx hb dX5_throwAt_66 rfl (lv_at hl 4 rfl) ?_
    replace hF := gw_ifn hF
    obtain ⟨hz67, hF⟩ := hF
    refine gw_iald E I 4 (by decide) rfl hz67 dX5_throwAt_67 ?_
    refine lv_iload hx hb dX5_throwAt_68 (lv_at hl 1 rfl) ?_
    refine lv_iconst (v := 1) hx hb dX5_throwAt_70 (by decide) ?_
    replace hF := gw_bdE hF
    obtain ⟨r71, e71, hF⟩ := hF
    refine gw_calli I (gw_runN E I (ok_X7_tenthsOf l hD t 0 (rdI t 4 (Int32.toNatClampNeg v2)) x0 1 _ e71) ⟨va_cnB 4 E.1.2.2.2.2 gX5_throwAt_X7_tenthsOf_n63 rfl rfl rfl E.2.1.2.2.2.2.2.2 (E.1.2.2.2.2 _ nk_X5_throwAt_i) (by decide +kernel) ⟨Nat.le_of_ble_eq_true rfl, Nat.le_of_ble_eq_true rfl⟩, E.1.2.2.2.2 _ nk_X5_throwAt_X7_tenthsOf, trivial⟩ rfl hl.1 rfl (Nat.le_of_ble_eq_true rfl) dX5_throwAt_71) (fun H locs I => ?_)
    refine lv_iadd hx hb dX5_throwAt_74 ?_
    replace hF := gw_nmE hF
    obtain ⟨v6_75, ev6_75, hF⟩ := hF
    refine gw_topi ev6_75 ?_
    refine lv_istore (lv' := [(6, .int v6_75), (5, .int r54), (4, .int x0), (0, .ref (ad 25)), (1, .ref (ad 3)), (2, .int v2), (3, .int v3)]) hx hb dX5_throwAt_75 hl (by decide) rfl (fun ls hl => ?_)
    refine lv_aload_n hx hb dX5_throwAt_77 rfl (lv_at hl 3 rfl) ?_
    refine lv_bipush (v := 10) hx hb dX5_throwAt_78 (by decide) ?_
    replace hF := gw_b2E hF
    obtain ⟨r80, t_80, e80, hF⟩ := hF
    refine gw_calli I (gw_runV E I (ok_X5_draw l hD t 10 _ _ e80) (cwV 1 E.1.2.2.2.2 gX5_throwAt_X5_draw rfl rfl rfl (by decide +kernel) ⟨Nat.le_of_ble_eq_true rfl, Nat.le_of_ble_eq_true rfl⟩) (by decide) rfl rfl rfl hl.1 rfl (Nat.le_of_ble_eq_true rfl) dX5_throwAt_80) (fun H locs I => ?_)
    refine lv_istore (lv' := [(7, .int r80), (6, .int v6_75), (5, .int r54), (4, .int x0), (0, .ref (ad 25)), (1, .ref (ad 3)), (2, .int v2), (3, .int v3)]) hx hb dX5_throwAt_83 hl (by decide) rfl (fun ls hl => ?_)
    refine lv_iload hx hb dX5_throwAt_85 (lv_at hl 0 rfl) ?_
    refine lv_iload hx hb dX5_throwAt_87 (lv_at hl 2 rfl) ?_
    refine lv_icmp_lt (tgt := 120) hx hb dX5_throwAt_89 (by decide) (fun c89 => ?_) (fun c89 => ?_)
    · replace hF := gw_if1 c89 hF
      exact hJ120 v2 v6_75 r80 t_80 _ _ _ (lv_sub hl [4, 6, 1, 0] rfl) I hF
    · replace hF := gw_if0 c89 hF
      refine lv_iload hx hb dX5_throwAt_92 (lv_at hl 0 rfl) ?_
      refine lv_iload hx hb dX5_throwAt_94 (lv_at hl 1 rfl) ?_
      refine lv_icmp_ge (tgt := 120) hx hb dX5_throwAt_96 (by decide) (fun c96 => ?_) (fun c96 => ?_)
      · replace hF := gw_if1 c96 hF
        exact hJ120 v2 v6_75 r80 t_80 _ _ _ (lv_sub hl [4, 6, 1, 0] rfl) I hF
      · replace hF := gw_if0 c96 hF
        refine lv_aload_n hx hb dX5_throwAt_99 rfl (lv_at hl 4 rfl) ?_
        refine lv_dup hx hb dX5_throwAt_100 rfl ?_
        refine gf_C_25_2 E I in_X5_throwAt_X5 lk_X5_throwAt_25 dX5_throwAt_101 ?_
        refine lv_iconst (v := 1) hx hb dX5_throwAt_104 (by decide) ?_
        refine lv_iadd hx hb dX5_throwAt_105 ?_
        replace hF := gw_nmE hF
        obtain ⟨t_106, et_106, hF⟩ := hF
        refine gp_C_25_2 E I in_X5_throwAt_X5 lk_X5_throwAt_25 et_106 dX5_throwAt_106 (fun H locs I => ?_)
        refine lv_aload_n hx hb dX5_throwAt_109 rfl (lv_at hl 4 rfl) ?_
        refine gf_C_25_0 E I in_X5_throwAt_X5 lk_X5_throwAt_9 dX5_throwAt_110 ?_
        refine lv_iload_n hx hb dX5_throwAt_113 rfl (lv_at hl 7 rfl) ?_
        refine lv_dup2_11 hx hb dX5_throwAt_114 rfl rfl ?_
        replace hF := gw_ifn hF
        obtain ⟨hz115, hF⟩ := hF
        refine gw_iald E I 26 (by decide) rfl hz115 dX5_throwAt_115 ?_
        refine lv_iconst (v := 1) hx hb dX5_throwAt_116 (by decide) ?_
        refine lv_iadd hx hb dX5_throwAt_117 ?_
        replace hF := gw_ifn hF
        obtain ⟨hz118, hF⟩ := hF
        replace hF := gw_nmE hF
        obtain ⟨t_118, et_118, hF⟩ := hF
        refine gw_iast E I 26 (by decide) (fun _ => rfl) hz118 et_118 dX5_throwAt_118 (fun H locs I => ?_)
        exact gw_vret E I hr hlocks (Option.some.inj hF) dX5_throwAt_119
  have hJ22 : ∀ (v2 : Int32) (v3 : Int32) (t : gw_S) (H : Heap) (locs : List Loc) (ls : Array Slot), lv_has ls 8 [(0, .ref (ad 25)), (1, .ref (ad 3)), (2, .int v2), (3, .int v3)] → gw_I D (tC g ad) 83 ad A s.heap t H locs → fX5_throwAt_J22 v2 v3 t = some tz → W p l e rmX5_throwAt s m args below meth c H locs 0 0 (MQ below (gw_Qv D (tC g ad) 83 ad A tz) args s 0 0 A) (F0 m 22 ls []) := by
    intro v2 v3 t H locs ls hl I hF
    unfold fX5_throwAt_J22 at hF
    refine lv_aload_n hx hb dX5_throwAt_22 rfl (lv_at hl 0 rfl) ?_
    refine gf_C_25_0 E I in_X5_throwAt_X5 lk_X5_throwAt_9 dX5_throwAt_23 ?_
    refine lv_iload_n hx hb dX5_throwAt_26 rfl (lv_at hl 3 rfl) ?_
    replace hF := gw_ifn hF
    obtain ⟨hz27, hF⟩ := hF
    refine gw_iald E I 26 (by decide) rfl hz27 dX5_throwAt_27 ?_
    refine lv_aload_n hx hb dX5_throwAt_28 rfl (lv_at hl 1 rfl) ?_
    refine gf_C_3_1 E I in_X5_throwAt_X2 lk_X5_throwAt_57 dX5_throwAt_29 ?_
    refine lv_iload_n hx hb dX5_throwAt_32 rfl (lv_at hl 3 rfl) ?_
    replace hF := gw_ifn hF
    obtain ⟨hz33, hF⟩ := hF
    refine gw_iald E I 5 (by decide) rfl hz33 dX5_throwAt_33 ?_
    refine lv_icmp_lt (tgt := 41) hx hb dX5_throwAt_34 (by decide) (fun c34 => ?_) (fun c34 => ?_)
    · replace hF := gw_if1 c34 hF
      refine lv_iconst (v := 0) hx hb dX5_throwAt_41 (by decide) ?_
      exact hJ42 v2 v3 0 t _ _ _ (lv_sub hl [0, 1, 2, 3] rfl) I hF
    · replace hF := gw_if0 c34 hF
      refine lv_iconst (v := 1) hx hb dX5_throwAt_37 (by decide) ?_
      refine lv_goto (tgt := 42) hx hb dX5_throwAt_38 (by decide) ?_
      exact hJ42 v2 v3 1 t _ _ _ (lv_sub hl [0, 1, 2, 3] rfl) I hF
  refine lv_aload_n hx hb dX5_throwAt_0 rfl (lv_at hl 0 rfl) ?_
  refine gf_C_25_0 E I in_X5_throwAt_X5 lk_X5_throwAt_9 dX5_throwAt_1 ?_
  refine lv_iload_n hx hb dX5_throwAt_4 rfl (lv_at hl 2 rfl) ?_
  replace hF := gw_ifn hF
  obtain ⟨hz5, hF⟩ := hF
  refine gw_iald E I 26 (by decide) rfl hz5 dX5_throwAt_5 ?_
  refine lv_aload_n hx hb dX5_throwAt_6 rfl (lv_at hl 1 rfl) ?_
  refine gf_C_3_1 E I in_X5_throwAt_X2 lk_X5_throwAt_57 dX5_throwAt_7 ?_
  refine lv_iload_n hx hb dX5_throwAt_10 rfl (lv_at hl 2 rfl) ?_
  replace hF := gw_ifn hF
  obtain ⟨hz11, hF⟩ := hF
  refine gw_iald E I 5 (by decide) rfl hz11 dX5_throwAt_11 ?_
  refine lv_icmp_lt (tgt := 22) hx hb dX5_throwAt_12 (by decide) (fun c12 => ?_) (fun c12 => ?_)
  · replace hF := gw_if1 c12 hF
    exact hJ22 v2 v3 t0 _ _ _ (lv_sub hl [0, 1, 2, 3] rfl) I hF
  · replace hF := gw_if0 c12 hF
    refine lv_aload_n hx hb dX5_throwAt_15 rfl (lv_at hl 0 rfl) ?_
    refine gf_C_25_0 E I in_X5_throwAt_X5 lk_X5_throwAt_9 dX5_throwAt_16 ?_
    refine lv_iload_n hx hb dX5_throwAt_19 rfl (lv_at hl 2 rfl) ?_
    refine lv_iconst (v := 0) hx hb dX5_throwAt_20 (by decide) ?_
    replace hF := gw_ifn hF
    obtain ⟨hz21, hF⟩ := hF
    replace hF := gw_nmE hF
    obtain ⟨t_21, et_21, hF⟩ := hF
    refine gw_iast E I 26 (by decide) (fun _ => rfl) hz21 et_21 dX5_throwAt_21 (fun H locs I => ?_)
    exact hJ22 v2 v3 t_21 _ _ _ (lv_sub hl [0, 1, 2, 3] rfl) I hF
abbrev rmX5_run : Room := { frames := 3, cells := 0, slots := 0, locals := 73 }
theorem lk_X5_run_9 : Cond.fieldLink RX5 9 "ThrownSacks$Trial" "held" "[I" ∈ wsX5_run := by decide +kernel
theorem lk_X5_run_21 : Cond.fieldLink RX5 21 "ThrownSacks$Trial" "seed" "I" ∈ wsX5_run := by decide +kernel
theorem lk_X5_run_25 : Cond.fieldLink RX5 25 "ThrownSacks$Trial" "cameNext" "I" ∈ wsX5_run := by decide +kernel
theorem lk_X5_run_28 : Cond.fieldLink RX5 28 "ThrownSacks$Trial" "layBeside" "I" ∈ wsX5_run := by decide +kernel
theorem lk_X5_run_31 : Cond.fieldLink RX5 31 "ThrownSacks$Plan" "hooks" "I" ∈ wsX5_run := by decide +kernel
theorem in_X5_run_X2 : ∀ w ∈ u_ws RX2 TX2 4, w ∈ wsX5_run := by decide +kernel
theorem in_X5_run_X5 : ∀ w ∈ u_ws RX5 TX5 4, w ∈ wsX5_run := by decide +kernel
theorem nk_X5_run_X7_nextTo : Cond.static yX7_nextTo ∈ wsX5_run := by decide +kernel
theorem nk_X5_run_i : Cond.initialized RX7 ∈ wsX5_run := by decide +kernel
set_option maxHeartbeats 4000000 in
set_option maxRecDepth 100000 in
theorem ok_X5_run (l : Launch) {D : va_G} {g : gw_G} {tG : Nat} {ad : Nat → Nat} {A : Nat → Prop} (hD : gw_D A 83 ad) (t0 : gw_S) (v3 : Int32) (v4 : Int32) (tz : gw_S) (hF : fX5_run v3 v4 t0 = some tz) : Met l yX5_run wsX5_run rmX5_run (gw_Pc D g tG (tC g ad) 83 ad A [.ref (ad 25), .ref (ad 3), .ref (ad 7), .int v3, .int v4] t0) (gw_Qv D (tC g ad) 83 ad A tz) 0 0 A := by
  unfold fX5_run at hF
  refine gw_met (by decide) rfl hD (Nat.le_of_ble_eq_true rfl) (fun p e s m args below meth c E hr hlocks I ls hl => ?_)
  have hx := E.1.1
  have hb := E.1.2.1
  have hl : lv_has ls 8 [(0, .ref (ad 25)), (1, .ref (ad 3)), (2, .ref (ad 7)), (3, .int v3), (4, .int v4)] := hl
  have hJ85 : ∀ (Kx : Int32 → gw_S → Option (gw_S)) (Kh : Int32 → gw_S → Option (gw_S)) (v3 : Int32) (v5 : Int32) (hKx : ∀ (v5 : Int32) (t : gw_S) (H : Heap) (locs : List Loc) (ls : Array Slot), lv_has ls 8 [] → gw_I D (tC g ad) 83 ad A s.heap t H locs → Kx v5 t = some tz → W p l e rmX5_run s m args below meth c H locs 0 0 (MQ below (gw_Qv D (tC g ad) 83 ad A tz) args s 0 0 A) (F0 m 91 ls [])) (hKh : ∀ (v5 : Int32) (t : gw_S) (H : Heap) (locs : List Loc) (ls : Array Slot), lv_has ls 8 [(0, .ref (ad 25)), (1, .ref (ad 3)), (2, .ref (ad 7)), (3, .int v3), (5, .int v5)] → gw_I D (tC g ad) 83 ad A s.heap t H locs → Kh v5 t = some tz → W p l e rmX5_run s m args below meth c H locs 0 0 (MQ below (gw_Qv D (tC g ad) 83 ad A tz) args s 0 0 A) (F0 m 27 ls [])) (t : gw_S) (H : Heap) (locs : List Loc) (ls : Array Slot), lv_has ls 8 [(0, .ref (ad 25)), (1, .ref (ad 3)), (2, .ref (ad 7)), (3, .int v3), (5, .int v5)] → gw_I D (tC g ad) 83 ad A s.heap t H locs → fX5_run_J85 Kx Kh v3 v5 t = some tz → W p l e rmX5_run s m args below meth c H locs 0 0 (MQ below (gw_Qv D (tC g ad) 83 ad A tz) args s 0 0 A) (F0 m 85 ls []) := by
    intro Kx Kh v3 v5 hKx hKh t H locs ls hl I hF
    unfold fX5_run_J85 at hF
    replace hF := gw_nmE hF
    obtain ⟨v5_85, ev5_85, hF⟩ := hF
    refine lv_iinc (v := v5_85) (lv' := [(5, .int v5_85), (0, .ref (ad 25)), (1, .ref (ad 3)), (2, .ref (ad 7)), (3, .int v3)]) hx hb dX5_run_85 hl (k := 4) rfl (by subst ev5_85; rfl) (by decide) rfl (fun ls hl => ?_)
    refine lv_goto (tgt := 27) hx hb dX5_run_88 (by decide) ?_
    exact hKh v5_85 t _ _ _ (lv_sub hl [1, 2, 3, 4, 0] rfl) I hF
  have hL27 : ∀ (Kx : Int32 → gw_S → Option (gw_S)) (v3 : Int32), (∀ (v5 : Int32) (t : gw_S) (H : Heap) (locs : List Loc) (ls : Array Slot), lv_has ls 8 [] → gw_I D (tC g ad) 83 ad A s.heap t H locs → Kx v5 t = some tz → W p l e rmX5_run s m args below meth c H locs 0 0 (MQ below (gw_Qv D (tC g ad) 83 ad A tz) args s 0 0 A) (F0 m 91 ls [])) → ∀ (n : Nat) (v5 : Int32) (t : gw_S) (H : Heap) (locs : List Loc) (ls : Array Slot), lv_has ls 8 [(0, .ref (ad 25)), (1, .ref (ad 3)), (2, .ref (ad 7)), (3, .int v3), (5, .int v5)] → gw_I D (tC g ad) 83 ad A s.heap t H locs → fX5_run_L27 Kx v3 n v5 t = some tz → W p l e rmX5_run s m args below meth c H locs 0 0 (MQ below (gw_Qv D (tC g ad) 83 ad A tz) args s 0 0 A) (F0 m 27 ls []) := by
    intro Kx v3 hKx n
    induction n with
    | zero =>
      intro v5 t H locs ls hl I hF
      rw [fX5_run_L27] at hF
      cases hF
    | succ n ih =>
      intro v5 t H locs ls hl I hF
      rw [fX5_run_L27] at hF
      refine lv_iload hx hb dX5_run_27 (lv_at hl 4 rfl) ?_
      refine lv_iload_n hx hb dX5_run_29 rfl (lv_at hl 3 rfl) ?_
      refine lv_icmp_ge (tgt := 91) hx hb dX5_run_30 (by decide) (fun c30 => ?_) (fun c30 => ?_)
      · replace hF := gw_if1 c30 hF
        exact hKx v5 t _ _ _ (lv_sub hl [] rfl) I hF
      · replace hF := gw_if0 c30 hF
        refine lv_aload_n hx hb dX5_run_33 rfl (lv_at hl 2 rfl) ?_
        refine lv_aload_n hx hb dX5_run_34 rfl (lv_at hl 0 rfl) ?_
        refine lv_aload_n hx hb dX5_run_35 rfl (lv_at hl 1 rfl) ?_
        refine gf_C_3_3 E I in_X5_run_X2 lk_X5_run_31 dX5_run_36 ?_
        replace hF := gw_b2E hF
        obtain ⟨r39, t_39, e39, hF⟩ := hF
        refine gw_calli I (gw_runV E I (ok_X5_draw l hD t (rdI t 3 3) _ _ e39) (cwV 1 E.1.2.2.2.2 gX5_run_X5_draw rfl rfl rfl (by decide +kernel) ⟨Nat.le_of_ble_eq_true rfl, Nat.le_of_ble_eq_true rfl⟩) (by decide) rfl rfl rfl hl.1 rfl (Nat.le_of_ble_eq_true rfl) dX5_run_39) (fun H locs I => ?_)
        replace hF := gw_bdE hF
        obtain ⟨r42, e42, hF⟩ := hF
        refine gw_calli I (gw_runV E I (ok_X4_hookOf l hD t_39 r39 _ e42) (cwV 1 E.1.2.2.2.2 gX5_run_X4_hookOf rfl rfl rfl (by decide +kernel) ⟨Nat.le_of_ble_eq_true rfl, Nat.le_of_ble_eq_true rfl⟩) (by decide) rfl rfl rfl hl.1 rfl (Nat.le_of_ble_eq_true rfl) dX5_run_42) (fun H locs I => ?_)
        refine lv_istore (lv' := [(6, .int r42), (0, .ref (ad 25)), (1, .ref (ad 3)), (2, .ref (ad 7)), (3, .int v3), (5, .int v5)]) hx hb dX5_run_45 hl (by decide) rfl (fun ls hl => ?_)
        refine lv_iload hx hb dX5_run_47 (lv_at hl 0 rfl) ?_
        refine lv_aload_n hx hb dX5_run_49 rfl (lv_at hl 2 rfl) ?_
        refine gf_C_3_3 E I in_X5_run_X2 lk_X5_run_31 dX5_run_50 ?_
        refine gw_calli I (gw_runN E I (ok_X7_nextTo l hD t_39 r42 (rdI t_39 3 3) _ rfl) ⟨va_cnB 2 E.1.2.2.2.2 gX5_run_X7_nextTo_n45 rfl rfl rfl E.2.1.2.2.2.2.2.1 (E.1.2.2.2.2 _ nk_X5_run_i) (by decide +kernel) ⟨Nat.le_of_ble_eq_true rfl, Nat.le_of_ble_eq_true rfl⟩, E.1.2.2.2.2 _ nk_X5_run_X7_nextTo, trivial⟩ rfl hl.1 rfl (Nat.le_of_ble_eq_true rfl) dX5_run_53) (fun H locs I => ?_)
        replace hF := gw_nmE hF
        obtain ⟨v7_56, ev7_56, hF⟩ := hF
        refine gw_topi ev7_56 ?_
        refine lv_istore (lv' := [(7, .int v7_56), (6, .int r42), (0, .ref (ad 25)), (1, .ref (ad 3)), (2, .ref (ad 7)), (3, .int v3), (5, .int v5)]) hx hb dX5_run_56 hl (by decide) rfl (fun ls hl => ?_)
        refine lv_aload_n hx hb dX5_run_58 rfl (lv_at hl 3 rfl) ?_
        refine lv_iload hx hb dX5_run_59 (lv_at hl 1 rfl) ?_
        refine gw_calli I (gw_runV E I (ok_X2_has l hD t_39 r42 _ rfl) (cwV 1 E.1.2.2.2.2 gX5_run_X2_has rfl rfl rfl (by decide +kernel) ⟨Nat.le_of_ble_eq_true rfl, Nat.le_of_ble_eq_true rfl⟩) (by decide) rfl rfl rfl hl.1 rfl (Nat.le_of_ble_eq_true rfl) dX5_run_61) (fun H locs I => ?_)
        refine lv_if_eq (tgt := 85) hx hb dX5_run_64 (by decide) (fun c64 => ?_) (fun c64 => ?_)
        · replace hF := gw_if1 c64 hF
          exact hJ85 Kx (fX5_run_L27 Kx v3 n) v3 v5 hKx ih t_39 _ _ _ (lv_sub hl [2, 3, 4, 5, 6] rfl) I hF
        · replace hF := gw_if0 c64 hF
          refine lv_aload_n hx hb dX5_run_67 rfl (lv_at hl 3 rfl) ?_
          refine lv_iload hx hb dX5_run_68 (lv_at hl 0 rfl) ?_
          refine gw_calli I (gw_runV E I (ok_X2_has l hD t_39 v7_56 _ rfl) (cwV 1 E.1.2.2.2.2 gX5_run_X2_has rfl rfl rfl (by decide +kernel) ⟨Nat.le_of_ble_eq_true rfl, Nat.le_of_ble_eq_true rfl⟩) (by decide) rfl rfl rfl hl.1 rfl (Nat.le_of_ble_eq_true rfl) dX5_run_70) (fun H locs I => ?_)
          refine lv_if_eq (tgt := 85) hx hb dX5_run_73 (by decide) (fun c73 => ?_) (fun c73 => ?_)
          · replace hF := gw_if1 c73 hF
            exact hJ85 Kx (fX5_run_L27 Kx v3 n) v3 v5 hKx ih t_39 _ _ _ (lv_sub hl [2, 3, 4, 5, 6] rfl) I hF
          · replace hF := gw_if0 c73 hF
            refine lv_aload_n hx hb dX5_run_76 rfl (lv_at hl 2 rfl) ?_
            refine lv_aload_n hx hb dX5_run_77 rfl (lv_at hl 3 rfl) ?_
            refine lv_iload hx hb dX5_run_78 (lv_at hl 1 rfl) ?_
            refine lv_iload hx hb dX5_run_80 (lv_at hl 0 rfl) ?_
            replace hF := gw_bdE hF
            obtain ⟨t_82, e82, hF⟩ := hF
            refine gw_callv I (gw_runV E I (ok_X5_throwAt l hD t_39 r42 v7_56 _ e82) (cwV 3 E.1.2.2.2.2 gX5_run_X5_throwAt rfl rfl rfl (by decide +kernel) ⟨Nat.le_of_ble_eq_true rfl, Nat.le_of_ble_eq_true rfl⟩) (by decide) rfl rfl rfl hl.1 rfl (Nat.le_of_ble_eq_true rfl) dX5_run_82) (fun H locs I => ?_)
            exact hJ85 Kx (fX5_run_L27 Kx v3 n) v3 v5 hKx ih t_82 _ _ _ (lv_sub hl [2, 3, 4, 5, 6] rfl) I hF
  refine lv_aload_n hx hb dX5_run_0 rfl (lv_at hl 0 rfl) ?_
  refine gf_C_25_0 E I in_X5_run_X5 lk_X5_run_9 dX5_run_1 ?_
  refine lv_iconst (v := 0) hx hb dX5_run_4 (by decide) ?_
  replace hF := gw_bdE hF
  obtain ⟨t_5, e5, hF⟩ := hF
  refine gw_callv I (gw_runS E I (ok_J7_fill_53178_26 l hD t0 0 _ e5) (va_cwS 2 E.1.2.2.2.2 gX5_run_J7_fill_53178 rfl rfl rfl (by decide +kernel) ⟨Nat.le_of_ble_eq_true rfl, Nat.le_of_ble_eq_true rfl⟩) rfl hl.1 rfl (Nat.le_of_ble_eq_true rfl) dX5_run_5) (fun H locs I => ?_)
  refine lv_aload_n hx hb dX5_run_8 rfl (lv_at hl 0 rfl) ?_
  refine lv_iload hx hb dX5_run_9 (lv_at hl 4 rfl) ?_
  replace hF := gw_nmE hF
  obtain ⟨t_11, et_11, hF⟩ := hF
  refine gp_C_25_1 E I in_X5_run_X5 lk_X5_run_21 et_11 dX5_run_11 (fun H locs I => ?_)
  refine lv_aload_n hx hb dX5_run_14 rfl (lv_at hl 0 rfl) ?_
  refine lv_iconst (v := 0) hx hb dX5_run_15 (by decide) ?_
  replace hF := gw_nmE hF
  obtain ⟨t_16, et_16, hF⟩ := hF
  refine gp_C_25_2 E I in_X5_run_X5 lk_X5_run_25 et_16 dX5_run_16 (fun H locs I => ?_)
  refine lv_aload_n hx hb dX5_run_19 rfl (lv_at hl 0 rfl) ?_
  refine lv_iconst (v := 0) hx hb dX5_run_20 (by decide) ?_
  replace hF := gw_nmE hF
  obtain ⟨t_21, et_21, hF⟩ := hF
  refine gp_C_25_3 E I in_X5_run_X5 lk_X5_run_28 et_21 dX5_run_21 (fun H locs I => ?_)
  refine lv_iconst (v := 0) hx hb dX5_run_24 (by decide) ?_
  refine lv_istore (lv' := [(5, .int 0), (0, .ref (ad 25)), (1, .ref (ad 3)), (2, .ref (ad 7)), (3, .int v3), (4, .int v4)]) hx hb dX5_run_25 hl (by decide) rfl (fun ls hl => ?_)
  refine hL27 _ v3 (fun v5_x27 t_x27 H locs ls hl I hF => ?_) 2000 0 t_21 _ _ _ (lv_sub hl [1, 2, 3, 4, 0] rfl) I hF
  exact gw_vret E I hr hlocks (Option.some.inj hF) dX5_run_91
abbrev rmX7_shifts : Room := { frames := 4, cells := 0, slots := 0, locals := 100 }
theorem lk_X7_shifts_19 : Cond.fieldLink RX7 19 "ThrownSacks" "plan" "LThrownSacks$Plan;" ∈ wsX7_shifts := by decide +kernel
theorem lk_X7_shifts_26 : Cond.fieldLink RX7 26 "ThrownSacks" "now" "LThrownSacks$Standing;" ∈ wsX7_shifts := by decide +kernel
theorem lk_X7_shifts_50 : Cond.fieldLink RX7 50 "ThrownSacks" "trial" "LThrownSacks$Trial;" ∈ wsX7_shifts := by decide +kernel
theorem lk_X7_shifts_91 : Cond.fieldLink RX7 91 "ThrownSacks$Plan" "hooks" "I" ∈ wsX7_shifts := by decide +kernel
theorem lk_X7_shifts_207 : Cond.fieldLink RX7 207 "ThrownSacks$Trial" "cameNext" "I" ∈ wsX7_shifts := by decide +kernel
theorem lk_X7_shifts_210 : Cond.fieldLink RX7 210 "ThrownSacks$Trial" "layBeside" "I" ∈ wsX7_shifts := by decide +kernel
theorem lk_X7_shifts_213 : Cond.fieldLink RX7 213 "ThrownSacks$Trial" "seed" "I" ∈ wsX7_shifts := by decide +kernel
theorem in_X7_shifts_X2 : ∀ w ∈ u_ws RX2 TX2 4, w ∈ wsX7_shifts := by decide +kernel
theorem in_X7_shifts_X5 : ∀ w ∈ u_ws RX5 TX5 4, w ∈ wsX7_shifts := by decide +kernel
theorem in_X7_shifts_X7 : ∀ w ∈ u_ws RX7 TX7 9, w ∈ wsX7_shifts := by decide +kernel
set_option maxHeartbeats 4000000 in
set_option maxRecDepth 100000 in
theorem ok_X7_shifts (l : Launch) {D : va_G} {g : gw_G} {tG : Nat} {ad : Nat → Nat} {A : Nat → Prop} (hD : gw_D A 83 ad) (t0 : gw_S) (v1 : Int32) (v2 : Int32) (v3 : Int32) (r0 : Int32) (tz : gw_S) (hF : fX7_shifts v1 v2 v3 t0 = some (r0, tz)) : Met l yX7_shifts wsX7_shifts rmX7_shifts (gw_Pc D g tG (tC g ad) 83 ad A [.ref (ad 0), .int v1, .int v2, .int v3] t0) (gw_Qi D (tC g ad) 83 ad A r0 tz) 0 0 A := by
  unfold fX7_shifts at hF
  refine gw_met (by decide) rfl hD (Nat.le_of_ble_eq_true rfl) (fun p e s m args below meth c E hr hlocks I ls hl => ?_)
  have hx := E.1.1
  have hb := E.1.2.1
  have hl : lv_has ls 4 [(0, .ref (ad 0)), (1, .int v1), (2, .int v2), (3, .int v3)] := hl
  refine lv_iload_n hx hb dX7_shifts_0 rfl (lv_at hl 1 rfl) ?_
  refine lv_iconst (v := 1) hx hb dX7_shifts_1 (by decide) ?_
  refine lv_icmp_lt (tgt := 24) hx hb dX7_shifts_2 (by decide) (fun c2 => ?_) (fun c2 => ?_)
  · replace hF := gw_if1 c2 hF
    refine lv_bipush (v := (-102)) hx hb dX7_shifts_24 (by decide) ?_
    exact gw_iret E I hr hlocks rfl (Prod.mk.inj (Option.some.inj hF)).1 (Prod.mk.inj (Option.some.inj hF)).2 dX7_shifts_26
  · replace hF := gw_if0 c2 hF
    refine lv_iload_n hx hb dX7_shifts_5 rfl (lv_at hl 1 rfl) ?_
    refine lv_bipush (v := 60) hx hb dX7_shifts_6 (by decide) ?_
    refine lv_icmp_gt (tgt := 24) hx hb dX7_shifts_8 (by decide) (fun c8 => ?_) (fun c8 => ?_)
    · replace hF := gw_if1 c8 hF
      refine lv_bipush (v := (-102)) hx hb dX7_shifts_24 (by decide) ?_
      exact gw_iret E I hr hlocks rfl (Prod.mk.inj (Option.some.inj hF)).1 (Prod.mk.inj (Option.some.inj hF)).2 dX7_shifts_26
    · replace hF := gw_if0 c8 hF
      refine lv_iload_n hx hb dX7_shifts_11 rfl (lv_at hl 2 rfl) ?_
      refine lv_if_lt (tgt := 24) hx hb dX7_shifts_12 (by decide) (fun c12 => ?_) (fun c12 => ?_)
      · replace hF := gw_if1 c12 hF
        refine lv_bipush (v := (-102)) hx hb dX7_shifts_24 (by decide) ?_
        exact gw_iret E I hr hlocks rfl (Prod.mk.inj (Option.some.inj hF)).1 (Prod.mk.inj (Option.some.inj hF)).2 dX7_shifts_26
      · replace hF := gw_if0 c12 hF
        refine lv_iload_n hx hb dX7_shifts_15 rfl (lv_at hl 3 rfl) ?_
        refine lv_if_lt (tgt := 24) hx hb dX7_shifts_16 (by decide) (fun c16 => ?_) (fun c16 => ?_)
        · replace hF := gw_if1 c16 hF
          refine lv_bipush (v := (-102)) hx hb dX7_shifts_24 (by decide) ?_
          exact gw_iret E I hr hlocks rfl (Prod.mk.inj (Option.some.inj hF)).1 (Prod.mk.inj (Option.some.inj hF)).2 dX7_shifts_26
        · replace hF := gw_if0 c16 hF
          refine lv_iload_n hx hb dX7_shifts_19 rfl (lv_at hl 3 rfl) ?_
          refine lv_iconst (v := 2) hx hb dX7_shifts_20 (by decide) ?_
          refine lv_icmp_le (tgt := 27) hx hb dX7_shifts_21 (by decide) (fun c21 => ?_) (fun c21 => ?_)
          · replace hF := gw_if1 c21 hF
            refine lv_aload_n hx hb dX7_shifts_27 rfl (lv_at hl 0 rfl) ?_
            refine gf_C_0_1 E I in_X7_shifts_X7 lk_X7_shifts_19 dX7_shifts_28 ?_
            refine gf_C_3_3 E I in_X7_shifts_X2 lk_X7_shifts_91 dX7_shifts_31 ?_
            refine lv_if_ne (tgt := 40) hx hb dX7_shifts_34 (by decide) (fun c34 => ?_) (fun c34 => ?_)
            · replace hF := gw_if0 c34 hF
              refine lv_aload_n hx hb dX7_shifts_40 rfl (lv_at hl 0 rfl) ?_
              refine gf_C_0_6 E I in_X7_shifts_X7 lk_X7_shifts_50 dX7_shifts_41 ?_
              refine lv_aload_n hx hb dX7_shifts_44 rfl (lv_at hl 0 rfl) ?_
              refine gf_C_0_1 E I in_X7_shifts_X7 lk_X7_shifts_19 dX7_shifts_45 ?_
              refine lv_aload_n hx hb dX7_shifts_48 rfl (lv_at hl 0 rfl) ?_
              refine gf_C_0_2 E I in_X7_shifts_X7 lk_X7_shifts_26 dX7_shifts_49 ?_
              refine lv_iload_n hx hb dX7_shifts_52 rfl (lv_at hl 1 rfl) ?_
              refine lv_iload_n hx hb dX7_shifts_53 rfl (lv_at hl 2 rfl) ?_
              replace hF := gw_bdE hF
              obtain ⟨t_54, e54, hF⟩ := hF
              refine gw_callv I (gw_runV E I (ok_X5_run l hD t0 v1 v2 _ e54) (cwV 4 E.1.2.2.2.2 gX7_shifts_X5_run rfl rfl rfl (by decide +kernel) ⟨Nat.le_of_ble_eq_true rfl, Nat.le_of_ble_eq_true rfl⟩) (by decide) rfl rfl rfl hl.1 rfl (Nat.le_of_ble_eq_true rfl) dX7_shifts_54) (fun H locs I => ?_)
              refine lv_iload_n hx hb dX7_shifts_57 rfl (lv_at hl 3 rfl) ?_
              refine lv_if_ne (tgt := 69) hx hb dX7_shifts_58 (by decide) (fun c58 => ?_) (fun c58 => ?_)
              · replace hF := gw_if0 c58 hF
                refine lv_iload_n hx hb dX7_shifts_69 rfl (lv_at hl 3 rfl) ?_
                refine lv_iconst (v := 1) hx hb dX7_shifts_70 (by decide) ?_
                refine lv_icmp_ne (tgt := 84) hx hb dX7_shifts_71 (by decide) (fun c71 => ?_) (fun c71 => ?_)
                · replace hF := gw_if0 c71 hF
                  refine lv_aload_n hx hb dX7_shifts_84 rfl (lv_at hl 0 rfl) ?_
                  refine gf_C_0_6 E I in_X7_shifts_X7 lk_X7_shifts_50 dX7_shifts_85 ?_
                  refine gf_C_25_1 E I in_X7_shifts_X5 lk_X7_shifts_213 dX7_shifts_88 ?_
                  exact gw_iret E I hr hlocks rfl (Prod.mk.inj (Option.some.inj hF)).1 (Prod.mk.inj (Option.some.inj hF)).2 dX7_shifts_91
                · replace hF := gw_if1 c71 hF
                  refine lv_aload_n hx hb dX7_shifts_74 rfl (lv_at hl 0 rfl) ?_
                  refine gf_C_0_6 E I in_X7_shifts_X7 lk_X7_shifts_50 dX7_shifts_75 ?_
                  refine gf_C_25_3 E I in_X7_shifts_X5 lk_X7_shifts_210 dX7_shifts_78 ?_
                  refine lv_goto (tgt := 91) hx hb dX7_shifts_81 (by decide) ?_
                  exact gw_iret E I hr hlocks rfl (Prod.mk.inj (Option.some.inj hF)).1 (Prod.mk.inj (Option.some.inj hF)).2 dX7_shifts_91
              · replace hF := gw_if1 c58 hF
                refine lv_aload_n hx hb dX7_shifts_61 rfl (lv_at hl 0 rfl) ?_
                refine gf_C_0_6 E I in_X7_shifts_X7 lk_X7_shifts_50 dX7_shifts_62 ?_
                refine gf_C_25_2 E I in_X7_shifts_X5 lk_X7_shifts_207 dX7_shifts_65 ?_
                exact gw_iret E I hr hlocks rfl (Prod.mk.inj (Option.some.inj hF)).1 (Prod.mk.inj (Option.some.inj hF)).2 dX7_shifts_68
            · replace hF := gw_if1 c34 hF
              refine lv_bipush (v := (-103)) hx hb dX7_shifts_37 (by decide) ?_
              exact gw_iret E I hr hlocks rfl (Prod.mk.inj (Option.some.inj hF)).1 (Prod.mk.inj (Option.some.inj hF)).2 dX7_shifts_39
          · replace hF := gw_if0 c21 hF
            refine lv_bipush (v := (-102)) hx hb dX7_shifts_24 (by decide) ?_
            exact gw_iret E I hr hlocks rfl (Prod.mk.inj (Option.some.inj hF)).1 (Prod.mk.inj (Option.some.inj hF)).2 dX7_shifts_26
abbrev rmX3_copy : Room := { frames := 0, cells := 0, slots := 0, locals := 0 }
theorem lk_X3_copy_9 : Cond.fieldLink RX3 9 "ThrownSacks$Row" "kinds" "[I" ∈ wsX3_copy := by decide +kernel
theorem lk_X3_copy_15 : Cond.fieldLink RX3 15 "ThrownSacks$Row" "towns" "[I" ∈ wsX3_copy := by decide +kernel
theorem lk_X3_copy_18 : Cond.fieldLink RX3 18 "ThrownSacks$Row" "harms" "[Z" ∈ wsX3_copy := by decide +kernel
theorem lk_X3_copy_22 : Cond.fieldLink RX3 22 "ThrownSacks$Row" "size" "I" ∈ wsX3_copy := by decide +kernel
theorem in_X3_copy_X3 : ∀ w ∈ u_ws RX3 TX3 4, w ∈ wsX3_copy := by decide +kernel
set_option maxHeartbeats 4000000 in
set_option maxRecDepth 100000 in
theorem ok_X3_copy (l : Launch) {D : va_G} {g : gw_G} {tG : Nat} {ad : Nat → Nat} {A : Nat → Prop} (hD : gw_D A 83 ad) (t0 : gw_S) (q0 : Nat) (q1 : Nat) (hq0 : gw_row q0 = true) (hq1 : gw_row q1 = true) (tz : gw_S) (hF : fX3_copy q0 q1 t0 = some tz) : Met l yX3_copy wsX3_copy rmX3_copy (gw_Pc D g tG (tC g ad) 83 ad A [.ref (ad q0), .ref (ad q1)] t0) (gw_Qv D (tC g ad) 83 ad A tz) 0 0 A := by
  unfold fX3_copy at hF
  refine gw_met (by decide) rfl hD (Nat.le_of_ble_eq_true rfl) (fun p e s m args below meth c E hr hlocks I ls hl => ?_)
  have hx := E.1.1
  have hb := E.1.2.1
  have hl : lv_has ls 3 [(0, .ref (ad q0)), (1, .ref (ad q1))] := hl
  have hL10 : ∀ (Kx : Int32 → gw_S → Option (gw_S)) (q0 : Nat) (q1 : Nat) (hq0 : gw_row q0 = true) (hq1 : gw_row q1 = true), (∀ (v2 : Int32) (t : gw_S) (H : Heap) (locs : List Loc) (ls : Array Slot), lv_has ls 3 [] → gw_I D (tC g ad) 83 ad A s.heap t H locs → Kx v2 t = some tz → W p l e rmX3_copy s m args below meth c H locs 0 0 (MQ below (gw_Qv D (tC g ad) 83 ad A tz) args s 0 0 A) (F0 m 60 ls [])) → ∀ (n : Nat) (v2 : Int32) (t : gw_S) (H : Heap) (locs : List Loc) (ls : Array Slot), lv_has ls 3 [(0, .ref (ad q0)), (1, .ref (ad q1)), (2, .int v2)] → gw_I D (tC g ad) 83 ad A s.heap t H locs → fX3_copy_L10 Kx q0 q1 n v2 t = some tz → W p l e rmX3_copy s m args below meth c H locs 0 0 (MQ below (gw_Qv D (tC g ad) 83 ad A tz) args s 0 0 A) (F0 m 10 ls []) := by
    intro Kx q0 q1 hq0 hq1 hKx n
    induction n with
    | zero =>
      intro v2 t H locs ls hl I hF
      rw [fX3_copy_L10] at hF
      cases hF
    | succ n ih =>
      intro v2 t H locs ls hl I hF
      rw [fX3_copy_L10] at hF
      refine lv_iload_n hx hb dX3_copy_10 rfl (lv_at hl 2 rfl) ?_
      refine lv_aload_n hx hb dX3_copy_11 rfl (lv_at hl 0 rfl) ?_
      refine gf_row_3 hq0 E I in_X3_copy_X3 lk_X3_copy_22 dX3_copy_12 ?_
      refine lv_icmp_ge (tgt := 60) hx hb dX3_copy_15 (by decide) (fun c15 => ?_) (fun c15 => ?_)
      · replace hF := gw_if1 c15 hF
        exact hKx v2 t _ _ _ (lv_sub hl [] rfl) I hF
      · replace hF := gw_if0 c15 hF
        refine lv_aload_n hx hb dX3_copy_18 rfl (lv_at hl 0 rfl) ?_
        refine gf_row_0 hq0 E I in_X3_copy_X3 lk_X3_copy_9 dX3_copy_19 ?_
        refine lv_iload_n hx hb dX3_copy_22 rfl (lv_at hl 2 rfl) ?_
        refine lv_aload_n hx hb dX3_copy_23 rfl (lv_at hl 1 rfl) ?_
        refine gf_row_0 hq1 E I in_X3_copy_X3 lk_X3_copy_9 dX3_copy_24 ?_
        refine lv_iload_n hx hb dX3_copy_27 rfl (lv_at hl 2 rfl) ?_
        replace hF := gw_ifn hF
        obtain ⟨hz28, hF⟩ := hF
        refine gw_iald E I (q1 + 1) (tC_lt1 hq1) (tC_ra1 hq1) hz28 dX3_copy_28 ?_
        replace hF := gw_ifn hF
        obtain ⟨hz29, hF⟩ := hF
        replace hF := gw_nmE hF
        obtain ⟨t_29, et_29, hF⟩ := hF
        refine gw_iast E I (q0 + 1) (tC_lt1 hq0) (fun _ => tC_ra1 hq0) hz29 et_29 dX3_copy_29 (fun H locs I => ?_)
        refine lv_aload_n hx hb dX3_copy_30 rfl (lv_at hl 0 rfl) ?_
        refine gf_row_1 hq0 E I in_X3_copy_X3 lk_X3_copy_15 dX3_copy_31 ?_
        refine lv_iload_n hx hb dX3_copy_34 rfl (lv_at hl 2 rfl) ?_
        refine lv_aload_n hx hb dX3_copy_35 rfl (lv_at hl 1 rfl) ?_
        refine gf_row_1 hq1 E I in_X3_copy_X3 lk_X3_copy_15 dX3_copy_36 ?_
        refine lv_iload_n hx hb dX3_copy_39 rfl (lv_at hl 2 rfl) ?_
        replace hF := gw_ifn hF
        obtain ⟨hz40, hF⟩ := hF
        refine gw_iald E I (q1 + 2) (tC_lt2 hq1) (tC_ra2 hq1) hz40 dX3_copy_40 ?_
        replace hF := gw_ifn hF
        obtain ⟨hz41, hF⟩ := hF
        replace hF := gw_nmE hF
        obtain ⟨t_41, et_41, hF⟩ := hF
        refine gw_iast E I (q0 + 2) (tC_lt2 hq0) (fun _ => tC_ra2 hq0) hz41 et_41 dX3_copy_41 (fun H locs I => ?_)
        refine lv_aload_n hx hb dX3_copy_42 rfl (lv_at hl 0 rfl) ?_
        refine gf_row_2 hq0 E I in_X3_copy_X3 lk_X3_copy_18 dX3_copy_43 ?_
        refine lv_iload_n hx hb dX3_copy_46 rfl (lv_at hl 2 rfl) ?_
        refine lv_aload_n hx hb dX3_copy_47 rfl (lv_at hl 1 rfl) ?_
        refine gf_row_2 hq1 E I in_X3_copy_X3 lk_X3_copy_18 dX3_copy_48 ?_
        refine lv_iload_n hx hb dX3_copy_51 rfl (lv_at hl 2 rfl) ?_
        replace hF := gw_ifn hF
        obtain ⟨hz52, hF⟩ := hF
        refine gw_zald E I (q1 + 3) (tC_lt3 hq1) (tC_ra3 hq1) hz52 dX3_copy_52 ?_
        replace hF := gw_ifn hF
        obtain ⟨hz53, hF⟩ := hF
        replace hF := gw_ifn hF
        obtain ⟨hy53, hF⟩ := hF
        replace hF := gw_nmE hF
        obtain ⟨t_53, et_53, hF⟩ := hF
        refine gw_zast E I (q0 + 3) (tC_lt3 hq0) (fun _ => tC_ra3 hq0) hz53 hy53 et_53 dX3_copy_53 (fun H locs I => ?_)
        replace hF := gw_nmE hF
        obtain ⟨v2_54, ev2_54, hF⟩ := hF
        refine lv_iinc (v := v2_54) (lv' := [(2, .int v2_54), (0, .ref (ad q0)), (1, .ref (ad q1))]) hx hb dX3_copy_54 hl (k := 2) rfl (by subst ev2_54; rfl) (by decide) rfl (fun ls hl => ?_)
        refine lv_goto (tgt := 10) hx hb dX3_copy_57 (by decide) ?_
        exact ih v2_54 t_53 _ _ _ (lv_sub hl [1, 2, 0] rfl) I hF
  refine lv_aload_n hx hb dX3_copy_0 rfl (lv_at hl 0 rfl) ?_
  refine lv_aload_n hx hb dX3_copy_1 rfl (lv_at hl 1 rfl) ?_
  refine gf_row_3 hq1 E I in_X3_copy_X3 lk_X3_copy_22 dX3_copy_2 ?_
  replace hF := gw_nmE hF
  obtain ⟨t_5, et_5, hF⟩ := hF
  refine gp_row_3 hq0 E I in_X3_copy_X3 lk_X3_copy_22 et_5 dX3_copy_5 (fun H locs I => ?_)
  refine lv_iconst (v := 0) hx hb dX3_copy_8 (by decide) ?_
  refine lv_istore_n (lv' := [(2, .int 0), (0, .ref (ad q0)), (1, .ref (ad q1))]) hx hb dX3_copy_9 rfl hl (by decide) rfl (fun ls hl => ?_)
  refine hL10 _ q0 q1 hq0 hq1 (fun v2_x10 t_x10 H locs ls hl I hF => ?_) 2000 0 t_5 _ _ _ (lv_sub hl [1, 2, 0] rfl) I hF
  exact gw_vret E I hr hlocks (Option.some.inj hF) dX3_copy_60
abbrev rmX4_copy_12_7 : Room := { frames := 1, cells := 0, slots := 0, locals := 22 }
theorem lk_X4_copy_9 : Cond.fieldLink RX4 9 "ThrownSacks$Standing" "towns" "[I" ∈ wsX4_copy := by decide +kernel
theorem lk_X4_copy_17 : Cond.fieldLink RX4 17 "ThrownSacks$Standing" "sacks" "[LThrownSacks$Row;" ∈ wsX4_copy := by decide +kernel
theorem lk_X4_copy_22 : Cond.fieldLink RX4 22 "ThrownSacks$Standing" "belt" "LThrownSacks$Row;" ∈ wsX4_copy := by decide +kernel
theorem lk_X4_copy_26 : Cond.fieldLink RX4 26 "ThrownSacks$Standing" "foundTowns" "[I" ∈ wsX4_copy := by decide +kernel
theorem lk_X4_copy_29 : Cond.fieldLink RX4 29 "ThrownSacks$Standing" "foundIn" "[I" ∈ wsX4_copy := by decide +kernel
theorem lk_X4_copy_36 : Cond.fieldLink RX4 36 "ThrownSacks$Standing" "found" "I" ∈ wsX4_copy := by decide +kernel
theorem lk_X4_copy_39 : Cond.fieldLink RX4 39 "ThrownSacks$Standing" "seconds" "I" ∈ wsX4_copy := by decide +kernel
theorem lk_X4_copy_42 : Cond.fieldLink RX4 42 "ThrownSacks$Standing" "harmed" "I" ∈ wsX4_copy := by decide +kernel
theorem in_X4_copy_X4 : ∀ w ∈ u_ws RX4 TX4 8, w ∈ wsX4_copy := by decide +kernel
set_option maxHeartbeats 4000000 in
set_option maxRecDepth 100000 in
theorem ok_X4_copy_12_7 (l : Launch) {D : va_G} {g : gw_G} {tG : Nat} {ad : Nat → Nat} {A : Nat → Prop} (hD : gw_D A 83 ad) (t0 : gw_S) (tz : gw_S) (hF : fX4_copy_12_7 t0 = some tz) : Met l yX4_copy wsX4_copy rmX4_copy_12_7 (gw_Pc D g tG (tC g ad) 83 ad A [.ref (ad 12), .ref (ad 7)] t0) (gw_Qv D (tC g ad) 83 ad A tz) 0 0 A := by
  unfold fX4_copy_12_7 at hF
  refine gw_met (by decide) rfl hD (Nat.le_of_ble_eq_true rfl) (fun p e s m args below meth c E hr hlocks I ls hl => ?_)
  have hx := E.1.1
  have hb := E.1.2.1
  have hl : lv_has ls 3 [(0, .ref (ad 12)), (1, .ref (ad 7))] := hl
  have hL54 : ∀ (Kx : Int32 → gw_S → Option (gw_S)), (∀ (v2 : Int32) (t : gw_S) (H : Heap) (locs : List Loc) (ls : Array Slot), lv_has ls 3 [(0, .ref (ad 12)), (1, .ref (ad 7))] → gw_I D (tC g ad) 83 ad A s.heap t H locs → Kx v2 t = some tz → W p l e rmX4_copy_12_7 s m args below meth c H locs 0 0 (MQ below (gw_Qv D (tC g ad) 83 ad A tz) args s 0 0 A) (F0 m 90 ls [])) → ∀ (n : Nat) (v2 : Int32) (t : gw_S) (H : Heap) (locs : List Loc) (ls : Array Slot), lv_has ls 3 [(0, .ref (ad 12)), (1, .ref (ad 7)), (2, .int v2)] → gw_I D (tC g ad) 83 ad A s.heap t H locs → fX4_copy_12_7_L54 Kx n v2 t = some tz → W p l e rmX4_copy_12_7 s m args below meth c H locs 0 0 (MQ below (gw_Qv D (tC g ad) 83 ad A tz) args s 0 0 A) (F0 m 54 ls []) := by
    intro Kx hKx n
    induction n with
    | zero =>
      intro v2 t H locs ls hl I hF
      rw [fX4_copy_12_7_L54] at hF
      cases hF
    | succ n ih =>
      intro v2 t H locs ls hl I hF
      rw [fX4_copy_12_7_L54] at hF
      refine lv_iload_n hx hb dX4_copy_54 rfl (lv_at hl 2 rfl) ?_
      refine lv_bipush (v := 8) hx hb dX4_copy_55 (by decide) ?_
      refine lv_icmp_ge (tgt := 90) hx hb dX4_copy_57 (by decide) (fun c57 => ?_) (fun c57 => ?_)
      · replace hF := gw_if1 c57 hF
        exact hKx v2 t _ _ _ (lv_sub hl [0, 1] rfl) I hF
      · replace hF := gw_if0 c57 hF
        refine lv_aload_n hx hb dX4_copy_60 rfl (lv_at hl 0 rfl) ?_
        refine gf_C_12_3 E I in_X4_copy_X4 lk_X4_copy_26 dX4_copy_61 ?_
        refine lv_iload_n hx hb dX4_copy_64 rfl (lv_at hl 2 rfl) ?_
        refine lv_aload_n hx hb dX4_copy_65 rfl (lv_at hl 1 rfl) ?_
        refine gf_C_7_3 E I in_X4_copy_X4 lk_X4_copy_26 dX4_copy_66 ?_
        refine lv_iload_n hx hb dX4_copy_69 rfl (lv_at hl 2 rfl) ?_
        replace hF := gw_ifn hF
        obtain ⟨hz70, hF⟩ := hF
        refine gw_iald E I 10 (by decide) rfl hz70 dX4_copy_70 ?_
        replace hF := gw_ifn hF
        obtain ⟨hz71, hF⟩ := hF
        replace hF := gw_nmE hF
        obtain ⟨t_71, et_71, hF⟩ := hF
        refine gw_iast E I 15 (by decide) (fun _ => rfl) hz71 et_71 dX4_copy_71 (fun H locs I => ?_)
        refine lv_aload_n hx hb dX4_copy_72 rfl (lv_at hl 0 rfl) ?_
        refine gf_C_12_4 E I in_X4_copy_X4 lk_X4_copy_29 dX4_copy_73 ?_
        refine lv_iload_n hx hb dX4_copy_76 rfl (lv_at hl 2 rfl) ?_
        refine lv_aload_n hx hb dX4_copy_77 rfl (lv_at hl 1 rfl) ?_
        refine gf_C_7_4 E I in_X4_copy_X4 lk_X4_copy_29 dX4_copy_78 ?_
        refine lv_iload_n hx hb dX4_copy_81 rfl (lv_at hl 2 rfl) ?_
        replace hF := gw_ifn hF
        obtain ⟨hz82, hF⟩ := hF
        refine gw_iald E I 11 (by decide) rfl hz82 dX4_copy_82 ?_
        replace hF := gw_ifn hF
        obtain ⟨hz83, hF⟩ := hF
        replace hF := gw_nmE hF
        obtain ⟨t_83, et_83, hF⟩ := hF
        refine gw_iast E I 16 (by decide) (fun _ => rfl) hz83 et_83 dX4_copy_83 (fun H locs I => ?_)
        replace hF := gw_nmE hF
        obtain ⟨v2_84, ev2_84, hF⟩ := hF
        refine lv_iinc (v := v2_84) (lv' := [(2, .int v2_84), (0, .ref (ad 12)), (1, .ref (ad 7))]) hx hb dX4_copy_84 hl (k := 2) rfl (by subst ev2_84; rfl) (by decide) rfl (fun ls hl => ?_)
        refine lv_goto (tgt := 54) hx hb dX4_copy_87 (by decide) ?_
        exact ih v2_84 t_83 _ _ _ (lv_sub hl [1, 2, 0] rfl) I hF
  have hL2 : ∀ (Kx : Int32 → gw_S → Option (gw_S)), (∀ (v2 : Int32) (t : gw_S) (H : Heap) (locs : List Loc) (ls : Array Slot), lv_has ls 3 [(0, .ref (ad 12)), (1, .ref (ad 7))] → gw_I D (tC g ad) 83 ad A s.heap t H locs → Kx v2 t = some tz → W p l e rmX4_copy_12_7 s m args below meth c H locs 0 0 (MQ below (gw_Qv D (tC g ad) 83 ad A tz) args s 0 0 A) (F0 m 41 ls [])) → ∀ (n : Nat) (v2 : Int32) (t : gw_S) (H : Heap) (locs : List Loc) (ls : Array Slot), lv_has ls 3 [(0, .ref (ad 12)), (1, .ref (ad 7)), (2, .int v2)] → gw_I D (tC g ad) 83 ad A s.heap t H locs → fX4_copy_12_7_L2 Kx n v2 t = some tz → W p l e rmX4_copy_12_7 s m args below meth c H locs 0 0 (MQ below (gw_Qv D (tC g ad) 83 ad A tz) args s 0 0 A) (F0 m 2 ls []) := by
    intro Kx hKx n
    induction n with
    | zero =>
      intro v2 t H locs ls hl I hF
      rw [fX4_copy_12_7_L2] at hF
      cases hF
    | succ n ih =>
      intro v2 t H locs ls hl I hF
      rw [fX4_copy_12_7_L2] at hF
      refine lv_iload_n hx hb dX4_copy_2 rfl (lv_at hl 2 rfl) ?_
      refine lv_bipush (v := 6) hx hb dX4_copy_3 (by decide) ?_
      refine lv_icmp_ge (tgt := 41) hx hb dX4_copy_5 (by decide) (fun c5 => ?_) (fun c5 => ?_)
      · replace hF := gw_if1 c5 hF
        exact hKx v2 t _ _ _ (lv_sub hl [0, 1] rfl) I hF
      · replace hF := gw_if0 c5 hF
        refine lv_aload_n hx hb dX4_copy_8 rfl (lv_at hl 0 rfl) ?_
        refine gf_C_12_0 E I in_X4_copy_X4 lk_X4_copy_9 dX4_copy_9 ?_
        refine lv_iload_n hx hb dX4_copy_12 rfl (lv_at hl 2 rfl) ?_
        refine lv_aload_n hx hb dX4_copy_13 rfl (lv_at hl 1 rfl) ?_
        refine gf_C_7_0 E I in_X4_copy_X4 lk_X4_copy_9 dX4_copy_14 ?_
        refine lv_iload_n hx hb dX4_copy_17 rfl (lv_at hl 2 rfl) ?_
        replace hF := gw_ifn hF
        obtain ⟨hz18, hF⟩ := hF
        refine gw_iald E I 8 (by decide) rfl hz18 dX4_copy_18 ?_
        replace hF := gw_ifn hF
        obtain ⟨hz19, hF⟩ := hF
        replace hF := gw_nmE hF
        obtain ⟨t_19, et_19, hF⟩ := hF
        refine gw_iast E I 13 (by decide) (fun _ => rfl) hz19 et_19 dX4_copy_19 (fun H locs I => ?_)
        refine lv_aload_n hx hb dX4_copy_20 rfl (lv_at hl 0 rfl) ?_
        refine gf_C_12_1 E I in_X4_copy_X4 lk_X4_copy_17 dX4_copy_21 ?_
        refine lv_iload_n hx hb dX4_copy_24 rfl (lv_at hl 2 rfl) ?_
        replace hF := gw_ifn hF
        obtain ⟨hz25, hF⟩ := hF
        refine gw_aald E I 14 (by decide) rfl hz25 dX4_copy_25 ?_
        replace hF := gw_nmE hF
        obtain ⟨r25, er25, hF⟩ := hF
        replace hF := gw_ifn hF
        obtain ⟨hr25, hF⟩ := hF
        refine gw_topr er25 ?_
        refine lv_aload_n hx hb dX4_copy_26 rfl (lv_at hl 1 rfl) ?_
        refine gf_C_7_1 E I in_X4_copy_X4 lk_X4_copy_17 dX4_copy_27 ?_
        refine lv_iload_n hx hb dX4_copy_30 rfl (lv_at hl 2 rfl) ?_
        replace hF := gw_ifn hF
        obtain ⟨hz31, hF⟩ := hF
        refine gw_aald E I 9 (by decide) rfl hz31 dX4_copy_31 ?_
        replace hF := gw_nmE hF
        obtain ⟨r31, er31, hF⟩ := hF
        replace hF := gw_ifn hF
        obtain ⟨hr31, hF⟩ := hF
        refine gw_topr er31 ?_
        replace hF := gw_bdE hF
        obtain ⟨t_32, e32, hF⟩ := hF
        refine gw_callv I (gw_runV E I (ok_X3_copy l hD t_19 r25 r31 hr25 hr31 _ e32) (cwV 1 E.1.2.2.2.2 gX4_copy_X3_copy rfl rfl rfl (by decide +kernel) ⟨Nat.le_of_ble_eq_true rfl, Nat.le_of_ble_eq_true rfl⟩) (tC_lt0 hr25) (tC_row hr25) rfl rfl hl.1 rfl (Nat.le_of_ble_eq_true rfl) dX4_copy_32) (fun H locs I => ?_)
        replace hF := gw_nmE hF
        obtain ⟨v2_35, ev2_35, hF⟩ := hF
        refine lv_iinc (v := v2_35) (lv' := [(2, .int v2_35), (0, .ref (ad 12)), (1, .ref (ad 7))]) hx hb dX4_copy_35 hl (k := 2) rfl (by subst ev2_35; rfl) (by decide) rfl (fun ls hl => ?_)
        refine lv_goto (tgt := 2) hx hb dX4_copy_38 (by decide) ?_
        exact ih v2_35 t_32 _ _ _ (lv_sub hl [1, 2, 0] rfl) I hF
  refine lv_iconst (v := 0) hx hb dX4_copy_0 (by decide) ?_
  refine lv_istore_n (lv' := [(2, .int 0), (0, .ref (ad 12)), (1, .ref (ad 7))]) hx hb dX4_copy_1 rfl hl (by decide) rfl (fun ls hl => ?_)
  refine hL2 _  (fun v2_x2 t_x2 H locs ls hl I hF => ?_) 2000 0 t0 _ _ _ (lv_sub hl [1, 2, 0] rfl) I hF
  refine lv_aload_n hx hb dX4_copy_41 rfl (lv_at hl 0 rfl) ?_
  refine gf_C_12_2 E I in_X4_copy_X4 lk_X4_copy_22 dX4_copy_42 ?_
  refine lv_aload_n hx hb dX4_copy_45 rfl (lv_at hl 1 rfl) ?_
  refine gf_C_7_2 E I in_X4_copy_X4 lk_X4_copy_22 dX4_copy_46 ?_
  replace hF := gw_bdE hF
  obtain ⟨t_49, e49, hF⟩ := hF
  refine gw_callv I (gw_runV E I (ok_X3_copy l hD t_x2 55 27 (by decide) (by decide) _ e49) (cwV 1 E.1.2.2.2.2 gX4_copy_X3_copy rfl rfl rfl (by decide +kernel) ⟨Nat.le_of_ble_eq_true rfl, Nat.le_of_ble_eq_true rfl⟩) (tC_lt0 (by decide)) (tC_row (by decide)) rfl rfl hl.1 rfl (Nat.le_of_ble_eq_true rfl) dX4_copy_49) (fun H locs I => ?_)
  refine lv_iconst (v := 0) hx hb dX4_copy_52 (by decide) ?_
  refine lv_istore_n (lv' := [(2, .int 0), (0, .ref (ad 12)), (1, .ref (ad 7))]) hx hb dX4_copy_53 rfl hl (by decide) rfl (fun ls hl => ?_)
  refine hL54 _  (fun v2_x54 t_x54 H locs ls hl I hF => ?_) 2000 0 t_49 _ _ _ (lv_sub hl [1, 2, 0] rfl) I hF
  refine lv_aload_n hx hb dX4_copy_90 rfl (lv_at hl 0 rfl) ?_
  refine lv_aload_n hx hb dX4_copy_91 rfl (lv_at hl 1 rfl) ?_
  refine gf_C_7_5 E I in_X4_copy_X4 lk_X4_copy_36 dX4_copy_92 ?_
  replace hF := gw_nmE hF
  obtain ⟨t_95, et_95, hF⟩ := hF
  refine gp_C_12_5 E I in_X4_copy_X4 lk_X4_copy_36 et_95 dX4_copy_95 (fun H locs I => ?_)
  refine lv_aload_n hx hb dX4_copy_98 rfl (lv_at hl 0 rfl) ?_
  refine lv_aload_n hx hb dX4_copy_99 rfl (lv_at hl 1 rfl) ?_
  refine gf_C_7_6 E I in_X4_copy_X4 lk_X4_copy_39 dX4_copy_100 ?_
  replace hF := gw_nmE hF
  obtain ⟨t_103, et_103, hF⟩ := hF
  refine gp_C_12_6 E I in_X4_copy_X4 lk_X4_copy_39 et_103 dX4_copy_103 (fun H locs I => ?_)
  refine lv_aload_n hx hb dX4_copy_106 rfl (lv_at hl 0 rfl) ?_
  refine lv_aload_n hx hb dX4_copy_107 rfl (lv_at hl 1 rfl) ?_
  refine gf_C_7_7 E I in_X4_copy_X4 lk_X4_copy_42 dX4_copy_108 ?_
  replace hF := gw_nmE hF
  obtain ⟨t_111, et_111, hF⟩ := hF
  refine gp_C_12_7 E I in_X4_copy_X4 lk_X4_copy_42 et_111 dX4_copy_111 (fun H locs I => ?_)
  exact gw_vret E I hr hlocks (Option.some.inj hF) dX4_copy_114
abbrev rmX7_image : Room := { frames := 2, cells := 0, slots := 0, locals := 44 }
theorem lk_X7_image_19 : Cond.fieldLink RX7 19 "ThrownSacks" "plan" "LThrownSacks$Plan;" ∈ wsX7_image := by decide +kernel
theorem lk_X7_image_26 : Cond.fieldLink RX7 26 "ThrownSacks" "now" "LThrownSacks$Standing;" ∈ wsX7_image := by decide +kernel
theorem lk_X7_image_30 : Cond.fieldLink RX7 30 "ThrownSacks" "kept" "LThrownSacks$Standing;" ∈ wsX7_image := by decide +kernel
theorem lk_X7_image_85 : Cond.fieldLink RX7 85 "ThrownSacks" "imageKept" "Z" ∈ wsX7_image := by decide +kernel
theorem lk_X7_image_91 : Cond.fieldLink RX7 91 "ThrownSacks$Plan" "hooks" "I" ∈ wsX7_image := by decide +kernel
theorem lk_X7_image_159 : Cond.fieldLink RX7 159 "ThrownSacks$Standing" "seconds" "I" ∈ wsX7_image := by decide +kernel
theorem in_X7_image_X2 : ∀ w ∈ u_ws RX2 TX2 4, w ∈ wsX7_image := by decide +kernel
theorem in_X7_image_X4 : ∀ w ∈ u_ws RX4 TX4 8, w ∈ wsX7_image := by decide +kernel
theorem in_X7_image_X7 : ∀ w ∈ u_ws RX7 TX7 9, w ∈ wsX7_image := by decide +kernel
set_option maxHeartbeats 4000000 in
set_option maxRecDepth 100000 in
theorem ok_X7_image (l : Launch) {D : va_G} {g : gw_G} {tG : Nat} {ad : Nat → Nat} {A : Nat → Prop} (hD : gw_D A 83 ad) (t0 : gw_S) (r0 : Int32) (tz : gw_S) (hF : fX7_image t0 = some (r0, tz)) : Met l yX7_image wsX7_image rmX7_image (gw_Pc D g tG (tC g ad) 83 ad A [.ref (ad 0)] t0) (gw_Qi D (tC g ad) 83 ad A r0 tz) 0 0 A := by
  unfold fX7_image at hF
  refine gw_met (by decide) rfl hD (Nat.le_of_ble_eq_true rfl) (fun p e s m args below meth c E hr hlocks I ls hl => ?_)
  have hx := E.1.1
  have hb := E.1.2.1
  have hl : lv_has ls 1 [(0, .ref (ad 0))] := hl
  refine lv_aload_n hx hb dX7_image_0 rfl (lv_at hl 0 rfl) ?_
  refine gf_C_0_1 E I in_X7_image_X7 lk_X7_image_19 dX7_image_1 ?_
  refine gf_C_3_3 E I in_X7_image_X2 lk_X7_image_91 dX7_image_4 ?_
  refine lv_if_ne (tgt := 13) hx hb dX7_image_7 (by decide) (fun c7 => ?_) (fun c7 => ?_)
  · replace hF := gw_if0 c7 hF
    refine lv_aload_n hx hb dX7_image_13 rfl (lv_at hl 0 rfl) ?_
    refine gf_C_0_3 E I in_X7_image_X7 lk_X7_image_30 dX7_image_14 ?_
    refine lv_aload_n hx hb dX7_image_17 rfl (lv_at hl 0 rfl) ?_
    refine gf_C_0_2 E I in_X7_image_X7 lk_X7_image_26 dX7_image_18 ?_
    replace hF := gw_bdE hF
    obtain ⟨t_21, e21, hF⟩ := hF
    refine gw_callv I (gw_runV E I (ok_X4_copy_12_7 l hD t0 _ e21) (cwV 1 E.1.2.2.2.2 gX7_image_X4_copy rfl rfl rfl (by decide +kernel) ⟨Nat.le_of_ble_eq_true rfl, Nat.le_of_ble_eq_true rfl⟩) (by decide) rfl rfl rfl hl.1 rfl (Nat.le_of_ble_eq_true rfl) dX7_image_21) (fun H locs I => ?_)
    refine lv_aload_n hx hb dX7_image_24 rfl (lv_at hl 0 rfl) ?_
    refine lv_iconst (v := 1) hx hb dX7_image_25 (by decide) ?_
    replace hF := gw_nmE hF
    obtain ⟨t_26, et_26, hF⟩ := hF
    refine gp_C_0_7 E I in_X7_image_X7 lk_X7_image_85 (by decide) et_26 dX7_image_26 (fun H locs I => ?_)
    refine lv_aload_n hx hb dX7_image_29 rfl (lv_at hl 0 rfl) ?_
    refine gf_C_0_2 E I in_X7_image_X7 lk_X7_image_26 dX7_image_30 ?_
    refine gf_C_7_6 E I in_X7_image_X4 lk_X7_image_159 dX7_image_33 ?_
    exact gw_iret E I hr hlocks rfl (Prod.mk.inj (Option.some.inj hF)).1 (Prod.mk.inj (Option.some.inj hF)).2 dX7_image_36
  · replace hF := gw_if1 c7 hF
    refine lv_bipush (v := (-103)) hx hb dX7_image_10 (by decide) ?_
    exact gw_iret E I hr hlocks rfl (Prod.mk.inj (Option.some.inj hF)).1 (Prod.mk.inj (Option.some.inj hF)).2 dX7_image_12
