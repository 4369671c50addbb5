/-! The contracts: each method does what its function says: written by wip/whole/genall.py. -/
abbrev rmX4_copy_12 : Room := { frames := 1, cells := 0, slots := 0, locals := 22 }
set_option maxHeartbeats 4000000 in
set_option maxRecDepth 100000 in
theorem ok_X4_copy_12 (l : Launch) {D : va_G} {g : gw_G} {tG : Nat} {ad : Nat → Nat} {A : Nat → Prop} (hD : gw_D A 83 ad) (t0 : gw_S) (tz : gw_S) (hF : fX4_copy_12 t0 = some tz) : Met l yX4_copy wsX4_copy rmX4_copy_12 (gw_Pc D g tG (tC g ad) 83 ad A [.ref (ad 7), .ref (ad 12)] t0) (gw_Qv D (tC g ad) 83 ad A tz) 0 0 A := by
  unfold fX4_copy_12 at hF
  refine gw_met (by decide) rfl hD (Nat.le_of_ble_eq_true rfl) (fun p e s m args below meth c E hr hlocks I ls hl => ?_)
  have hx := E.1.1
  have hb := E.1.2.1
  have hl : lv_has ls 3 [(0, .ref (ad 7)), (1, .ref (ad 12))] := hl
  have hL54 : ∀ (Kx : Int32 → gw_S → Option (gw_S)), (∀ (v2 : Int32) (t : gw_S) (H : Heap) (locs : List Loc) (ls : Array Slot), lv_has ls 3 [(0, .ref (ad 7)), (1, .ref (ad 12))] → gw_I D (tC g ad) 83 ad A s.heap t H locs → Kx v2 t = some tz → W p l e rmX4_copy_12 s m args below meth c H locs 0 0 (MQ below (gw_Qv D (tC g ad) 83 ad A tz) args s 0 0 A) (F0 m 90 ls [])) → ∀ (n : Nat) (v2 : Int32) (t : gw_S) (H : Heap) (locs : List Loc) (ls : Array Slot), lv_has ls 3 [(0, .ref (ad 7)), (1, .ref (ad 12)), (2, .int v2)] → gw_I D (tC g ad) 83 ad A s.heap t H locs → fX4_copy_12_L54 Kx n v2 t = some tz → W p l e rmX4_copy_12 s m args below meth c H locs 0 0 (MQ below (gw_Qv D (tC g ad) 83 ad A tz) args s 0 0 A) (F0 m 54 ls []) := by
    intro Kx hKx n
    induction n with
    | zero =>
      intro v2 t H locs ls hl I hF
      rw [fX4_copy_12_L54] at hF
      cases hF
    | succ n ih =>
      intro v2 t H locs ls hl I hF
      rw [fX4_copy_12_L54] at hF
      refine lv_iload_n hx hb dX4_copy_54 rfl (lv_at hl 2 rfl) ?_
      refine lv_bipush (v := 8) hx hb dX4_copy_55 (by decide) ?_
      refine lv_icmp_ge (tgt := 90) hx hb dX4_copy_57 (by decide) (fun c57 => ?_) (fun c57 => ?_)
      · replace hF := gw_if1 c57 hF
        exact hKx v2 t _ _ _ (lv_sub hl [0, 1] rfl) I hF
      · replace hF := gw_if0 c57 hF
        refine lv_aload_n hx hb dX4_copy_60 rfl (lv_at hl 0 rfl) ?_
        refine gf_C_7_3 E I in_X4_copy_X4 lk_X4_copy_26 dX4_copy_61 ?_
        refine lv_iload_n hx hb dX4_copy_64 rfl (lv_at hl 2 rfl) ?_
        refine lv_aload_n hx hb dX4_copy_65 rfl (lv_at hl 1 rfl) ?_
        refine gf_C_12_3 E I in_X4_copy_X4 lk_X4_copy_26 dX4_copy_66 ?_
        refine lv_iload_n hx hb dX4_copy_69 rfl (lv_at hl 2 rfl) ?_
        replace hF := gw_ifn hF
        obtain ⟨hz70, hF⟩ := hF
        refine gw_iald E I 15 (by decide) rfl hz70 dX4_copy_70 ?_
        replace hF := gw_ifn hF
        obtain ⟨hz71, hF⟩ := hF
        replace hF := gw_nmE hF
        obtain ⟨t_71, et_71, hF⟩ := hF
        refine gw_iast E I 10 (by decide) (fun _ => rfl) hz71 et_71 dX4_copy_71 (fun H locs I => ?_)
        refine lv_aload_n hx hb dX4_copy_72 rfl (lv_at hl 0 rfl) ?_
        refine gf_C_7_4 E I in_X4_copy_X4 lk_X4_copy_29 dX4_copy_73 ?_
        refine lv_iload_n hx hb dX4_copy_76 rfl (lv_at hl 2 rfl) ?_
        refine lv_aload_n hx hb dX4_copy_77 rfl (lv_at hl 1 rfl) ?_
        refine gf_C_12_4 E I in_X4_copy_X4 lk_X4_copy_29 dX4_copy_78 ?_
        refine lv_iload_n hx hb dX4_copy_81 rfl (lv_at hl 2 rfl) ?_
        replace hF := gw_ifn hF
        obtain ⟨hz82, hF⟩ := hF
        refine gw_iald E I 16 (by decide) rfl hz82 dX4_copy_82 ?_
        replace hF := gw_ifn hF
        obtain ⟨hz83, hF⟩ := hF
        replace hF := gw_nmE hF
        obtain ⟨t_83, et_83, hF⟩ := hF
        refine gw_iast E I 11 (by decide) (fun _ => rfl) hz83 et_83 dX4_copy_83 (fun H locs I => ?_)
        replace hF := gw_nmE hF
        obtain ⟨v2_84, ev2_84, hF⟩ := hF
        refine lv_iinc (v := v2_84) (lv' := [(2, .int v2_84), (0, .ref (ad 7)), (1, .ref (ad 12))]) hx hb dX4_copy_84 hl (k := 2) rfl (by subst ev2_84; rfl) (by decide) rfl (fun ls hl => ?_)
        refine lv_goto (tgt := 54) hx hb dX4_copy_87 (by decide) ?_
        exact ih v2_84 t_83 _ _ _ (lv_sub hl [1, 2, 0] rfl) I hF
  have hL2 : ∀ (Kx : Int32 → gw_S → Option (gw_S)), (∀ (v2 : Int32) (t : gw_S) (H : Heap) (locs : List Loc) (ls : Array Slot), lv_has ls 3 [(0, .ref (ad 7)), (1, .ref (ad 12))] → gw_I D (tC g ad) 83 ad A s.heap t H locs → Kx v2 t = some tz → W p l e rmX4_copy_12 s m args below meth c H locs 0 0 (MQ below (gw_Qv D (tC g ad) 83 ad A tz) args s 0 0 A) (F0 m 41 ls [])) → ∀ (n : Nat) (v2 : Int32) (t : gw_S) (H : Heap) (locs : List Loc) (ls : Array Slot), lv_has ls 3 [(0, .ref (ad 7)), (1, .ref (ad 12)), (2, .int v2)] → gw_I D (tC g ad) 83 ad A s.heap t H locs → fX4_copy_12_L2 Kx n v2 t = some tz → W p l e rmX4_copy_12 s m args below meth c H locs 0 0 (MQ below (gw_Qv D (tC g ad) 83 ad A tz) args s 0 0 A) (F0 m 2 ls []) := by
    intro Kx hKx n
    induction n with
    | zero =>
      intro v2 t H locs ls hl I hF
      rw [fX4_copy_12_L2] at hF
      cases hF
    | succ n ih =>
      intro v2 t H locs ls hl I hF
      rw [fX4_copy_12_L2] at hF
      refine lv_iload_n hx hb dX4_copy_2 rfl (lv_at hl 2 rfl) ?_
      refine lv_bipush (v := 6) hx hb dX4_copy_3 (by decide) ?_
      refine lv_icmp_ge (tgt := 41) hx hb dX4_copy_5 (by decide) (fun c5 => ?_) (fun c5 => ?_)
      · replace hF := gw_if1 c5 hF
        exact hKx v2 t _ _ _ (lv_sub hl [0, 1] rfl) I hF
      · replace hF := gw_if0 c5 hF
        refine lv_aload_n hx hb dX4_copy_8 rfl (lv_at hl 0 rfl) ?_
        refine gf_C_7_0 E I in_X4_copy_X4 lk_X4_copy_9 dX4_copy_9 ?_
        refine lv_iload_n hx hb dX4_copy_12 rfl (lv_at hl 2 rfl) ?_
        refine lv_aload_n hx hb dX4_copy_13 rfl (lv_at hl 1 rfl) ?_
        refine gf_C_12_0 E I in_X4_copy_X4 lk_X4_copy_9 dX4_copy_14 ?_
        refine lv_iload_n hx hb dX4_copy_17 rfl (lv_at hl 2 rfl) ?_
        replace hF := gw_ifn hF
        obtain ⟨hz18, hF⟩ := hF
        refine gw_iald E I 13 (by decide) rfl hz18 dX4_copy_18 ?_
        replace hF := gw_ifn hF
        obtain ⟨hz19, hF⟩ := hF
        replace hF := gw_nmE hF
        obtain ⟨t_19, et_19, hF⟩ := hF
        refine gw_iast E I 8 (by decide) (fun _ => rfl) hz19 et_19 dX4_copy_19 (fun H locs I => ?_)
        refine lv_aload_n hx hb dX4_copy_20 rfl (lv_at hl 0 rfl) ?_
        refine gf_C_7_1 E I in_X4_copy_X4 lk_X4_copy_17 dX4_copy_21 ?_
        refine lv_iload_n hx hb dX4_copy_24 rfl (lv_at hl 2 rfl) ?_
        replace hF := gw_ifn hF
        obtain ⟨hz25, hF⟩ := hF
        refine gw_aald E I 9 (by decide) rfl hz25 dX4_copy_25 ?_
        replace hF := gw_nmE hF
        obtain ⟨r25, er25, hF⟩ := hF
        replace hF := gw_ifn hF
        obtain ⟨hr25, hF⟩ := hF
        refine gw_topr er25 ?_
        refine lv_aload_n hx hb dX4_copy_26 rfl (lv_at hl 1 rfl) ?_
        refine gf_C_12_1 E I in_X4_copy_X4 lk_X4_copy_17 dX4_copy_27 ?_
        refine lv_iload_n hx hb dX4_copy_30 rfl (lv_at hl 2 rfl) ?_
        replace hF := gw_ifn hF
        obtain ⟨hz31, hF⟩ := hF
        refine gw_aald E I 14 (by decide) rfl hz31 dX4_copy_31 ?_
        replace hF := gw_nmE hF
        obtain ⟨r31, er31, hF⟩ := hF
        replace hF := gw_ifn hF
        obtain ⟨hr31, hF⟩ := hF
        refine gw_topr er31 ?_
        replace hF := gw_bdE hF
        obtain ⟨t_32, e32, hF⟩ := hF
        refine gw_callv I (gw_runV E I (ok_X3_copy l hD t_19 r25 r31 hr25 hr31 _ e32) (cwV 1 E.1.2.2.2.2 gX4_copy_X3_copy rfl rfl rfl (by decide +kernel) ⟨Nat.le_of_ble_eq_true rfl, Nat.le_of_ble_eq_true rfl⟩) (tC_lt0 hr25) (tC_row hr25) rfl rfl hl.1 rfl (Nat.le_of_ble_eq_true rfl) dX4_copy_32) (fun H locs I => ?_)
        replace hF := gw_nmE hF
        obtain ⟨v2_35, ev2_35, hF⟩ := hF
        refine lv_iinc (v := v2_35) (lv' := [(2, .int v2_35), (0, .ref (ad 7)), (1, .ref (ad 12))]) hx hb dX4_copy_35 hl (k := 2) rfl (by subst ev2_35; rfl) (by decide) rfl (fun ls hl => ?_)
        refine lv_goto (tgt := 2) hx hb dX4_copy_38 (by decide) ?_
        exact ih v2_35 t_32 _ _ _ (lv_sub hl [1, 2, 0] rfl) I hF
  refine lv_iconst (v := 0) hx hb dX4_copy_0 (by decide) ?_
  refine lv_istore_n (lv' := [(2, .int 0), (0, .ref (ad 7)), (1, .ref (ad 12))]) hx hb dX4_copy_1 rfl hl (by decide) rfl (fun ls hl => ?_)
  refine hL2 _  (fun v2_x2 t_x2 H locs ls hl I hF => ?_) 2000 0 t0 _ _ _ (lv_sub hl [1, 2, 0] rfl) I hF
  refine lv_aload_n hx hb dX4_copy_41 rfl (lv_at hl 0 rfl) ?_
  refine gf_C_7_2 E I in_X4_copy_X4 lk_X4_copy_22 dX4_copy_42 ?_
  refine lv_aload_n hx hb dX4_copy_45 rfl (lv_at hl 1 rfl) ?_
  refine gf_C_12_2 E I in_X4_copy_X4 lk_X4_copy_22 dX4_copy_46 ?_
  replace hF := gw_bdE hF
  obtain ⟨t_49, e49, hF⟩ := hF
  refine gw_callv I (gw_runV E I (ok_X3_copy l hD t_x2 27 55 (by decide) (by decide) _ e49) (cwV 1 E.1.2.2.2.2 gX4_copy_X3_copy rfl rfl rfl (by decide +kernel) ⟨Nat.le_of_ble_eq_true rfl, Nat.le_of_ble_eq_true rfl⟩) (tC_lt0 (by decide)) (tC_row (by decide)) rfl rfl hl.1 rfl (Nat.le_of_ble_eq_true rfl) dX4_copy_49) (fun H locs I => ?_)
  refine lv_iconst (v := 0) hx hb dX4_copy_52 (by decide) ?_
  refine lv_istore_n (lv' := [(2, .int 0), (0, .ref (ad 7)), (1, .ref (ad 12))]) hx hb dX4_copy_53 rfl hl (by decide) rfl (fun ls hl => ?_)
  refine hL54 _  (fun v2_x54 t_x54 H locs ls hl I hF => ?_) 2000 0 t_49 _ _ _ (lv_sub hl [1, 2, 0] rfl) I hF
  refine lv_aload_n hx hb dX4_copy_90 rfl (lv_at hl 0 rfl) ?_
  refine lv_aload_n hx hb dX4_copy_91 rfl (lv_at hl 1 rfl) ?_
  refine gf_C_12_5 E I in_X4_copy_X4 lk_X4_copy_36 dX4_copy_92 ?_
  replace hF := gw_nmE hF
  obtain ⟨t_95, et_95, hF⟩ := hF
  refine gp_C_7_5 E I in_X4_copy_X4 lk_X4_copy_36 et_95 dX4_copy_95 (fun H locs I => ?_)
  refine lv_aload_n hx hb dX4_copy_98 rfl (lv_at hl 0 rfl) ?_
  refine lv_aload_n hx hb dX4_copy_99 rfl (lv_at hl 1 rfl) ?_
  refine gf_C_12_6 E I in_X4_copy_X4 lk_X4_copy_39 dX4_copy_100 ?_
  replace hF := gw_nmE hF
  obtain ⟨t_103, et_103, hF⟩ := hF
  refine gp_C_7_6 E I in_X4_copy_X4 lk_X4_copy_39 et_103 dX4_copy_103 (fun H locs I => ?_)
  refine lv_aload_n hx hb dX4_copy_106 rfl (lv_at hl 0 rfl) ?_
  refine lv_aload_n hx hb dX4_copy_107 rfl (lv_at hl 1 rfl) ?_
  refine gf_C_12_7 E I in_X4_copy_X4 lk_X4_copy_42 dX4_copy_108 ?_
  replace hF := gw_nmE hF
  obtain ⟨t_111, et_111, hF⟩ := hF
  refine gp_C_7_7 E I in_X4_copy_X4 lk_X4_copy_42 et_111 dX4_copy_111 (fun H locs I => ?_)
  exact gw_vret E I hr hlocks (Option.some.inj hF) dX4_copy_114
abbrev rmX7_restore : Room := { frames := 2, cells := 0, slots := 0, locals := 44 }
theorem lk_X7_restore_26 : Cond.fieldLink RX7 26 "ThrownSacks" "now" "LThrownSacks$Standing;" ∈ wsX7_restore := by decide +kernel
theorem lk_X7_restore_30 : Cond.fieldLink RX7 30 "ThrownSacks" "kept" "LThrownSacks$Standing;" ∈ wsX7_restore := by decide +kernel
theorem lk_X7_restore_43 : Cond.fieldLink RX7 43 "ThrownSacks" "ways" "LThrownSacks$Ways;" ∈ wsX7_restore := by decide +kernel
theorem lk_X7_restore_81 : Cond.fieldLink RX7 81 "ThrownSacks$Ways" "counted" "Z" ∈ wsX7_restore := by decide +kernel
theorem lk_X7_restore_85 : Cond.fieldLink RX7 85 "ThrownSacks" "imageKept" "Z" ∈ wsX7_restore := by decide +kernel
theorem lk_X7_restore_159 : Cond.fieldLink RX7 159 "ThrownSacks$Standing" "seconds" "I" ∈ wsX7_restore := by decide +kernel
theorem in_X7_restore_X4 : ∀ w ∈ u_ws RX4 TX4 8, w ∈ wsX7_restore := by decide +kernel
theorem in_X7_restore_X6 : ∀ w ∈ u_ws RX6 TX6 5, w ∈ wsX7_restore := by decide +kernel
theorem in_X7_restore_X7 : ∀ w ∈ u_ws RX7 TX7 9, w ∈ wsX7_restore := by decide +kernel
set_option maxHeartbeats 4000000 in
set_option maxRecDepth 100000 in
theorem ok_X7_restore (l : Launch) {D : va_G} {g : gw_G} {tG : Nat} {ad : Nat → Nat} {A : Nat → Prop} (hD : gw_D A 83 ad) (t0 : gw_S) (r0 : Int32) (tz : gw_S) (hF : fX7_restore t0 = some (r0, tz)) : Met l yX7_restore wsX7_restore rmX7_restore (gw_Pc D g tG (tC g ad) 83 ad A [.ref (ad 0)] t0) (gw_Qi D (tC g ad) 83 ad A r0 tz) 0 0 A := by
  unfold fX7_restore at hF
  refine gw_met (by decide) rfl hD (Nat.le_of_ble_eq_true rfl) (fun p e s m args below meth c E hr hlocks I ls hl => ?_)
  have hx := E.1.1
  have hb := E.1.2.1
  have hl : lv_has ls 1 [(0, .ref (ad 0))] := hl
  refine lv_aload_n hx hb dX7_restore_0 rfl (lv_at hl 0 rfl) ?_
  refine gf_C_0_7 E I in_X7_restore_X7 lk_X7_restore_85 dX7_restore_1 ?_
  refine lv_if_ne (tgt := 10) hx hb dX7_restore_4 (by decide) (fun c4 => ?_) (fun c4 => ?_)
  · replace hF := gw_if0 c4 hF
    refine lv_aload_n hx hb dX7_restore_10 rfl (lv_at hl 0 rfl) ?_
    refine gf_C_0_2 E I in_X7_restore_X7 lk_X7_restore_26 dX7_restore_11 ?_
    refine lv_aload_n hx hb dX7_restore_14 rfl (lv_at hl 0 rfl) ?_
    refine gf_C_0_3 E I in_X7_restore_X7 lk_X7_restore_30 dX7_restore_15 ?_
    replace hF := gw_bdE hF
    obtain ⟨t_18, e18, hF⟩ := hF
    refine gw_callv I (gw_runV E I (ok_X4_copy_12 l hD t0 _ e18) (cwV 1 E.1.2.2.2.2 gX7_restore_X4_copy rfl rfl rfl (by decide +kernel) ⟨Nat.le_of_ble_eq_true rfl, Nat.le_of_ble_eq_true rfl⟩) (by decide) rfl rfl rfl hl.1 rfl (Nat.le_of_ble_eq_true rfl) dX7_restore_18) (fun H locs I => ?_)
    refine lv_aload_n hx hb dX7_restore_21 rfl (lv_at hl 0 rfl) ?_
    refine gf_C_0_5 E I in_X7_restore_X7 lk_X7_restore_43 dX7_restore_22 ?_
    refine lv_iconst (v := 0) hx hb dX7_restore_25 (by decide) ?_
    replace hF := gw_nmE hF
    obtain ⟨t_26, et_26, hF⟩ := hF
    refine gp_C_21_3 E I in_X7_restore_X6 lk_X7_restore_81 (by decide) et_26 dX7_restore_26 (fun H locs I => ?_)
    refine lv_aload_n hx hb dX7_restore_29 rfl (lv_at hl 0 rfl) ?_
    refine gf_C_0_2 E I in_X7_restore_X7 lk_X7_restore_26 dX7_restore_30 ?_
    refine gf_C_7_6 E I in_X7_restore_X4 lk_X7_restore_159 dX7_restore_33 ?_
    exact gw_iret E I hr hlocks rfl (Prod.mk.inj (Option.some.inj hF)).1 (Prod.mk.inj (Option.some.inj hF)).2 dX7_restore_36
  · replace hF := gw_if1 c4 hF
    refine lv_bipush (v := (-103)) hx hb dX7_restore_7 (by decide) ?_
    exact gw_iret E I hr hlocks rfl (Prod.mk.inj (Option.some.inj hF)).1 (Prod.mk.inj (Option.some.inj hF)).2 dX7_restore_9
abbrev rmX4_wrongInSacks : Room := { frames := 1, cells := 0, slots := 0, locals := 23 }
theorem lk_X4_wrongInSacks_9 : Cond.fieldLink RX4 9 "ThrownSacks$Standing" "towns" "[I" ∈ wsX4_wrongInSacks := by decide +kernel
theorem lk_X4_wrongInSacks_17 : Cond.fieldLink RX4 17 "ThrownSacks$Standing" "sacks" "[LThrownSacks$Row;" ∈ wsX4_wrongInSacks := by decide +kernel
theorem in_X4_wrongInSacks_X4 : ∀ w ∈ u_ws RX4 TX4 8, w ∈ wsX4_wrongInSacks := by decide +kernel
set_option maxHeartbeats 4000000 in
set_option maxRecDepth 100000 in
theorem ok_X4_wrongInSacks (l : Launch) {D : va_G} {g : gw_G} {tG : Nat} {ad : Nat → Nat} {A : Nat → Prop} (hD : gw_D A 83 ad) (t0 : gw_S) (v1 : Int32) (r0 : Int32) (hF : fX4_wrongInSacks v1 t0 = some r0) : Met l yX4_wrongInSacks wsX4_wrongInSacks rmX4_wrongInSacks (gw_Pc D g tG (tC g ad) 83 ad A [.ref (ad 7), .int v1] t0) (gw_Qi D (tC g ad) 83 ad A r0 t0) 0 0 A := by
  unfold fX4_wrongInSacks at hF
  refine gw_met (by decide) rfl hD (Nat.le_of_ble_eq_true rfl) (fun p e s m args below meth c E hr hlocks I ls hl => ?_)
  have hx := E.1.1
  have hb := E.1.2.1
  have hl : lv_has ls 4 [(0, .ref (ad 7)), (1, .int v1)] := hl
  have hL4 : ∀ (Kx : Int32 → Int32 → Option (Int32)) (v1 : Int32), (∀ (v2 : Int32) (v3 : Int32) (H : Heap) (locs : List Loc) (ls : Array Slot), lv_has ls 4 [(2, .int v2)] → gw_I D (tC g ad) 83 ad A s.heap t0 H locs → Kx v2 v3 = some r0 → W p l e rmX4_wrongInSacks s m args below meth c H locs 0 0 (MQ below (gw_Qi D (tC g ad) 83 ad A r0 t0) args s 0 0 A) (F0 m 33 ls [])) → ∀ (n : Nat) (v2 : Int32) (v3 : Int32) (H : Heap) (locs : List Loc) (ls : Array Slot), lv_has ls 4 [(0, .ref (ad 7)), (1, .int v1), (2, .int v2), (3, .int v3)] → gw_I D (tC g ad) 83 ad A s.heap t0 H locs → fX4_wrongInSacks_L4 Kx v1 t0 n v2 v3 = some r0 → W p l e rmX4_wrongInSacks s m args below meth c H locs 0 0 (MQ below (gw_Qi D (tC g ad) 83 ad A r0 t0) args s 0 0 A) (F0 m 4 ls []) := by
    intro Kx v1 hKx n
    induction n with
    | zero =>
      intro v2 v3 H locs ls hl I hF
      rw [fX4_wrongInSacks_L4] at hF
      cases hF
    | succ n ih =>
      intro v2 v3 H locs ls hl I hF
      rw [fX4_wrongInSacks_L4] at hF
      refine lv_iload_n hx hb dX4_wrongInSacks_4 rfl (lv_at hl 3 rfl) ?_
      refine lv_iload_n hx hb dX4_wrongInSacks_5 rfl (lv_at hl 1 rfl) ?_
      refine lv_icmp_ge (tgt := 33) hx hb dX4_wrongInSacks_6 (by decide) (fun c6 => ?_) (fun c6 => ?_)
      · replace hF := gw_if1 c6 hF
        exact hKx v2 v3 _ _ _ (lv_sub hl [2] rfl) I hF
      · replace hF := gw_if0 c6 hF
        refine lv_iload_n hx hb dX4_wrongInSacks_9 rfl (lv_at hl 2 rfl) ?_
        refine lv_aload_n hx hb dX4_wrongInSacks_10 rfl (lv_at hl 0 rfl) ?_
        refine gf_C_7_1 E I in_X4_wrongInSacks_X4 lk_X4_wrongInSacks_17 dX4_wrongInSacks_11 ?_
        refine lv_iload_n hx hb dX4_wrongInSacks_14 rfl (lv_at hl 3 rfl) ?_
        replace hF := gw_ifn hF
        obtain ⟨hz15, hF⟩ := hF
        refine gw_aald E I 9 (by decide) rfl hz15 dX4_wrongInSacks_15 ?_
        replace hF := gw_nmE hF
        obtain ⟨r15, er15, hF⟩ := hF
        replace hF := gw_ifn hF
        obtain ⟨hr15, hF⟩ := hF
        refine gw_topr er15 ?_
        refine lv_aload_n hx hb dX4_wrongInSacks_16 rfl (lv_at hl 0 rfl) ?_
        refine gf_C_7_0 E I in_X4_wrongInSacks_X4 lk_X4_wrongInSacks_9 dX4_wrongInSacks_17 ?_
        refine lv_iload_n hx hb dX4_wrongInSacks_20 rfl (lv_at hl 3 rfl) ?_
        replace hF := gw_ifn hF
        obtain ⟨hz21, hF⟩ := hF
        refine gw_iald E I 8 (by decide) rfl hz21 dX4_wrongInSacks_21 ?_
        replace hF := gw_bdE hF
        obtain ⟨r22, e22, hF⟩ := hF
        refine gw_calli I (gw_runV E I (ok_X3_notFor l hD t0 r15 (rdI t0 8 (Int32.toNatClampNeg v3)) hr15 _ e22) (cwV 1 E.1.2.2.2.2 gX4_wrongInSacks_X3_notFor rfl rfl rfl (by decide +kernel) ⟨Nat.le_of_ble_eq_true rfl, Nat.le_of_ble_eq_true rfl⟩) (tC_lt0 hr15) (tC_row hr15) rfl rfl hl.1 rfl (Nat.le_of_ble_eq_true rfl) dX4_wrongInSacks_22) (fun H locs I => ?_)
        refine lv_iadd hx hb dX4_wrongInSacks_25 ?_
        replace hF := gw_nmE hF
        obtain ⟨v2_26, ev2_26, hF⟩ := hF
        refine gw_topi ev2_26 ?_
        refine lv_istore_n (lv' := [(2, .int v2_26), (0, .ref (ad 7)), (1, .int v1), (3, .int v3)]) hx hb dX4_wrongInSacks_26 rfl hl (by decide) rfl (fun ls hl => ?_)
        replace hF := gw_nmE hF
        obtain ⟨v3_27, ev3_27, hF⟩ := hF
        refine lv_iinc (v := v3_27) (lv' := [(3, .int v3_27), (2, .int v2_26), (0, .ref (ad 7)), (1, .int v1)]) hx hb dX4_wrongInSacks_27 hl (k := 3) rfl (by subst ev3_27; rfl) (by decide) rfl (fun ls hl => ?_)
        refine lv_goto (tgt := 4) hx hb dX4_wrongInSacks_30 (by decide) ?_
        exact ih v2_26 v3_27 _ _ _ (lv_sub hl [2, 3, 1, 0] rfl) I hF
  refine lv_iconst (v := 0) hx hb dX4_wrongInSacks_0 (by decide) ?_
  refine lv_istore_n (lv' := [(2, .int 0), (0, .ref (ad 7)), (1, .int v1)]) hx hb dX4_wrongInSacks_1 rfl hl (by decide) rfl (fun ls hl => ?_)
  refine lv_iconst (v := 0) hx hb dX4_wrongInSacks_2 (by decide) ?_
  refine lv_istore_n (lv' := [(3, .int 0), (2, .int 0), (0, .ref (ad 7)), (1, .int v1)]) hx hb dX4_wrongInSacks_3 rfl hl (by decide) rfl (fun ls hl => ?_)
  refine hL4 _ v1 (fun v2_x4 v3_x4 H locs ls hl I hF => ?_) 2000 0 0 _ _ _ (lv_sub hl [2, 3, 1, 0] rfl) I hF
  refine lv_iload_n hx hb dX4_wrongInSacks_33 rfl (lv_at hl 0 rfl) ?_
  exact gw_iret E I hr hlocks rfl (Option.some.inj hF) rfl dX4_wrongInSacks_34
abbrev rmX4_inSacks : Room := { frames := 0, cells := 0, slots := 0, locals := 0 }
theorem lk_X4_inSacks_17 : Cond.fieldLink RX4 17 "ThrownSacks$Standing" "sacks" "[LThrownSacks$Row;" ∈ wsX4_inSacks := by decide +kernel
theorem lk_X4_inSacks_32 : Cond.fieldLink RX4 32 "ThrownSacks$Row" "size" "I" ∈ wsX4_inSacks := by decide +kernel
theorem in_X4_inSacks_X3 : ∀ w ∈ u_ws RX3 TX3 4, w ∈ wsX4_inSacks := by decide +kernel
theorem in_X4_inSacks_X4 : ∀ w ∈ u_ws RX4 TX4 8, w ∈ wsX4_inSacks := by decide +kernel
set_option maxHeartbeats 4000000 in
set_option maxRecDepth 100000 in
theorem ok_X4_inSacks (l : Launch) {D : va_G} {g : gw_G} {tG : Nat} {ad : Nat → Nat} {A : Nat → Prop} (hD : gw_D A 83 ad) (t0 : gw_S) (v1 : Int32) (r0 : Int32) (hF : fX4_inSacks v1 t0 = some r0) : Met l yX4_inSacks wsX4_inSacks rmX4_inSacks (gw_Pc D g tG (tC g ad) 83 ad A [.ref (ad 7), .int v1] t0) (gw_Qi D (tC g ad) 83 ad A r0 t0) 0 0 A := by
  unfold fX4_inSacks at hF
  refine gw_met (by decide) rfl hD (Nat.le_of_ble_eq_true rfl) (fun p e s m args below meth c E hr hlocks I ls hl => ?_)
  have hx := E.1.1
  have hb := E.1.2.1
  have hl : lv_has ls 4 [(0, .ref (ad 7)), (1, .int v1)] := hl
  have hL4 : ∀ (Kx : Int32 → Int32 → Option (Int32)) (v1 : Int32), (∀ (v2 : Int32) (v3 : Int32) (H : Heap) (locs : List Loc) (ls : Array Slot), lv_has ls 4 [(2, .int v2)] → gw_I D (tC g ad) 83 ad A s.heap t0 H locs → Kx v2 v3 = some r0 → W p l e rmX4_inSacks s m args below meth c H locs 0 0 (MQ below (gw_Qi D (tC g ad) 83 ad A r0 t0) args s 0 0 A) (F0 m 27 ls [])) → ∀ (n : Nat) (v2 : Int32) (v3 : Int32) (H : Heap) (locs : List Loc) (ls : Array Slot), lv_has ls 4 [(0, .ref (ad 7)), (1, .int v1), (2, .int v2), (3, .int v3)] → gw_I D (tC g ad) 83 ad A s.heap t0 H locs → fX4_inSacks_L4 Kx v1 t0 n v2 v3 = some r0 → W p l e rmX4_inSacks s m args below meth c H locs 0 0 (MQ below (gw_Qi D (tC g ad) 83 ad A r0 t0) args s 0 0 A) (F0 m 4 ls []) := by
    intro Kx v1 hKx n
    induction n with
    | zero =>
      intro v2 v3 H locs ls hl I hF
      rw [fX4_inSacks_L4] at hF
      cases hF
    | succ n ih =>
      intro v2 v3 H locs ls hl I hF
      rw [fX4_inSacks_L4] at hF
      refine lv_iload_n hx hb dX4_inSacks_4 rfl (lv_at hl 3 rfl) ?_
      refine lv_iload_n hx hb dX4_inSacks_5 rfl (lv_at hl 1 rfl) ?_
      refine lv_icmp_ge (tgt := 27) hx hb dX4_inSacks_6 (by decide) (fun c6 => ?_) (fun c6 => ?_)
      · replace hF := gw_if1 c6 hF
        exact hKx v2 v3 _ _ _ (lv_sub hl [2] rfl) I hF
      · replace hF := gw_if0 c6 hF
        refine lv_iload_n hx hb dX4_inSacks_9 rfl (lv_at hl 2 rfl) ?_
        refine lv_aload_n hx hb dX4_inSacks_10 rfl (lv_at hl 0 rfl) ?_
        refine gf_C_7_1 E I in_X4_inSacks_X4 lk_X4_inSacks_17 dX4_inSacks_11 ?_
        refine lv_iload_n hx hb dX4_inSacks_14 rfl (lv_at hl 3 rfl) ?_
        replace hF := gw_ifn hF
        obtain ⟨hz15, hF⟩ := hF
        refine gw_aald E I 9 (by decide) rfl hz15 dX4_inSacks_15 ?_
        replace hF := gw_nmE hF
        obtain ⟨r15, er15, hF⟩ := hF
        replace hF := gw_ifn hF
        obtain ⟨hr15, hF⟩ := hF
        refine gw_topr er15 ?_
        refine gf_row_3 hr15 E I in_X4_inSacks_X3 lk_X4_inSacks_32 dX4_inSacks_16 ?_
        refine lv_iadd hx hb dX4_inSacks_19 ?_
        replace hF := gw_nmE hF
        obtain ⟨v2_20, ev2_20, hF⟩ := hF
        refine gw_topi ev2_20 ?_
        refine lv_istore_n (lv' := [(2, .int v2_20), (0, .ref (ad 7)), (1, .int v1), (3, .int v3)]) hx hb dX4_inSacks_20 rfl hl (by decide) rfl (fun ls hl => ?_)
        replace hF := gw_nmE hF
        obtain ⟨v3_21, ev3_21, hF⟩ := hF
        refine lv_iinc (v := v3_21) (lv' := [(3, .int v3_21), (2, .int v2_20), (0, .ref (ad 7)), (1, .int v1)]) hx hb dX4_inSacks_21 hl (k := 3) rfl (by subst ev3_21; rfl) (by decide) rfl (fun ls hl => ?_)
        refine lv_goto (tgt := 4) hx hb dX4_inSacks_24 (by decide) ?_
        exact ih v2_20 v3_21 _ _ _ (lv_sub hl [2, 3, 1, 0] rfl) I hF
  refine lv_iconst (v := 0) hx hb dX4_inSacks_0 (by decide) ?_
  refine lv_istore_n (lv' := [(2, .int 0), (0, .ref (ad 7)), (1, .int v1)]) hx hb dX4_inSacks_1 rfl hl (by decide) rfl (fun ls hl => ?_)
  refine lv_iconst (v := 0) hx hb dX4_inSacks_2 (by decide) ?_
  refine lv_istore_n (lv' := [(3, .int 0), (2, .int 0), (0, .ref (ad 7)), (1, .int v1)]) hx hb dX4_inSacks_3 rfl hl (by decide) rfl (fun ls hl => ?_)
  refine hL4 _ v1 (fun v2_x4 v3_x4 H locs ls hl I hF => ?_) 2000 0 0 _ _ _ (lv_sub hl [2, 3, 1, 0] rfl) I hF
  refine lv_iload_n hx hb dX4_inSacks_27 rfl (lv_at hl 0 rfl) ?_
  exact gw_iret E I hr hlocks rfl (Option.some.inj hF) rfl dX4_inSacks_28
abbrev rmX7_count : Room := { frames := 2, cells := 0, slots := 0, locals := 46 }
theorem lk_X7_count_10 : Cond.fieldLink RX7 10 "ThrownSacks" "page" "LThrownSacks$Page;" ∈ wsX7_count := by decide +kernel
theorem lk_X7_count_19 : Cond.fieldLink RX7 19 "ThrownSacks" "plan" "LThrownSacks$Plan;" ∈ wsX7_count := by decide +kernel
theorem lk_X7_count_26 : Cond.fieldLink RX7 26 "ThrownSacks" "now" "LThrownSacks$Standing;" ∈ wsX7_count := by decide +kernel
theorem lk_X7_count_54 : Cond.fieldLink RX7 54 "ThrownSacks$Page" "size" "I" ∈ wsX7_count := by decide +kernel
theorem lk_X7_count_88 : Cond.fieldLink RX7 88 "ThrownSacks" "floorsRead" "I" ∈ wsX7_count := by decide +kernel
theorem lk_X7_count_91 : Cond.fieldLink RX7 91 "ThrownSacks$Plan" "hooks" "I" ∈ wsX7_count := by decide +kernel
theorem lk_X7_count_112 : Cond.fieldLink RX7 112 "ThrownSacks$Row" "size" "I" ∈ wsX7_count := by decide +kernel
theorem lk_X7_count_128 : Cond.fieldLink RX7 128 "ThrownSacks$Standing" "belt" "LThrownSacks$Row;" ∈ wsX7_count := by decide +kernel
theorem lk_X7_count_159 : Cond.fieldLink RX7 159 "ThrownSacks$Standing" "seconds" "I" ∈ wsX7_count := by decide +kernel
theorem lk_X7_count_188 : Cond.fieldLink RX7 188 "ThrownSacks$Standing" "found" "I" ∈ wsX7_count := by decide +kernel
theorem lk_X7_count_226 : Cond.fieldLink RX7 226 "ThrownSacks$Standing" "harmed" "I" ∈ wsX7_count := by decide +kernel
theorem in_X7_count_X1 : ∀ w ∈ u_ws RX1 TX1 2, w ∈ wsX7_count := by decide +kernel
theorem in_X7_count_X2 : ∀ w ∈ u_ws RX2 TX2 4, w ∈ wsX7_count := by decide +kernel
theorem in_X7_count_X3 : ∀ w ∈ u_ws RX3 TX3 4, w ∈ wsX7_count := by decide +kernel
theorem in_X7_count_X4 : ∀ w ∈ u_ws RX4 TX4 8, w ∈ wsX7_count := by decide +kernel
theorem in_X7_count_X7 : ∀ w ∈ u_ws RX7 TX7 9, w ∈ wsX7_count := by decide +kernel
set_option maxHeartbeats 4000000 in
set_option maxRecDepth 100000 in
theorem ok_X7_count (l : Launch) {D : va_G} {g : gw_G} {tG : Nat} {ad : Nat → Nat} {A : Nat → Prop} (hD : gw_D A 83 ad) (t0 : gw_S) (v1 : Int32) (r0 : Int32) (hF : fX7_count v1 t0 = some r0) : Met l yX7_count wsX7_count rmX7_count (gw_Pc D g tG (tC g ad) 83 ad A [.ref (ad 0), .int v1] t0) (gw_Qi D (tC g ad) 83 ad A r0 t0) 0 0 A := by
  unfold fX7_count at hF
  refine gw_met (by decide) rfl hD (Nat.le_of_ble_eq_true rfl) (fun p e s m args below meth c E hr hlocks I ls hl => ?_)
  have hx := E.1.1
  have hb := E.1.2.1
  have hl : lv_has ls 2 [(0, .ref (ad 0)), (1, .int v1)] := hl
  refine lv_iload_n hx hb dX7_count_0 rfl (lv_at hl 1 rfl) ?_
  by_cases c1_0 : v1 = 0
  · replace hF := gw_if1 c1_0 hF
    refine lv_tableIn (off := 51) (tgt := 52) hx hb dX7_count_1 (by rw [gw_sw c1_0 (a := 0) (by decide)]; decide) (by rw [gw_sw c1_0 (a := 0) (by decide)]; decide) (by rw [gw_sw c1_0 (a := 0) (by decide)]; rfl) (by decide) ?_
    refine lv_aload_n hx hb dX7_count_52 rfl (lv_at hl 0 rfl) ?_
    refine gf_C_0_1 E I in_X7_count_X7 lk_X7_count_19 dX7_count_53 ?_
    refine gf_C_3_3 E I in_X7_count_X2 lk_X7_count_91 dX7_count_56 ?_
    exact gw_iret E I hr hlocks rfl (Option.some.inj hF) rfl dX7_count_59
  · replace hF := gw_if0 c1_0 hF
    by_cases c1_1 : v1 = 1
    · replace hF := gw_if1 c1_1 hF
      refine lv_tableIn (off := 59) (tgt := 60) hx hb dX7_count_1 (by rw [gw_sw c1_1 (a := 1) (by decide)]; decide) (by rw [gw_sw c1_1 (a := 1) (by decide)]; decide) (by rw [gw_sw c1_1 (a := 1) (by decide)]; rfl) (by decide) ?_
      refine lv_aload_n hx hb dX7_count_60 rfl (lv_at hl 0 rfl) ?_
      refine gf_C_0_2 E I in_X7_count_X7 lk_X7_count_26 dX7_count_61 ?_
      refine gf_C_7_2 E I in_X7_count_X4 lk_X7_count_128 dX7_count_64 ?_
      refine gf_row_3 (by decide) E I in_X7_count_X3 lk_X7_count_112 dX7_count_67 ?_
      exact gw_iret E I hr hlocks rfl (Option.some.inj hF) rfl dX7_count_70
    · replace hF := gw_if0 c1_1 hF
      by_cases c1_2 : v1 = 2
      · replace hF := gw_if1 c1_2 hF
        refine lv_tableIn (off := 70) (tgt := 71) hx hb dX7_count_1 (by rw [gw_sw c1_2 (a := 2) (by decide)]; decide) (by rw [gw_sw c1_2 (a := 2) (by decide)]; decide) (by rw [gw_sw c1_2 (a := 2) (by decide)]; rfl) (by decide) ?_
        refine lv_aload_n hx hb dX7_count_71 rfl (lv_at hl 0 rfl) ?_
        refine gf_C_0_2 E I in_X7_count_X7 lk_X7_count_26 dX7_count_72 ?_
        refine lv_aload_n hx hb dX7_count_75 rfl (lv_at hl 0 rfl) ?_
        refine gf_C_0_1 E I in_X7_count_X7 lk_X7_count_19 dX7_count_76 ?_
        refine gf_C_3_3 E I in_X7_count_X2 lk_X7_count_91 dX7_count_79 ?_
        replace hF := gw_bdE hF
        obtain ⟨r82, e82, hF⟩ := hF
        refine gw_calli I (gw_runV E I (ok_X4_inSacks l hD t0 (rdI t0 3 3) _ e82) (cwV 1 E.1.2.2.2.2 gX7_count_X4_inSacks rfl rfl rfl (by decide +kernel) ⟨Nat.le_of_ble_eq_true rfl, Nat.le_of_ble_eq_true rfl⟩) (by decide) rfl rfl rfl hl.1 rfl (Nat.le_of_ble_eq_true rfl) dX7_count_82) (fun H locs I => ?_)
        exact gw_iret E I hr hlocks rfl (Option.some.inj hF) rfl dX7_count_85
      · replace hF := gw_if0 c1_2 hF
        by_cases c1_3 : v1 = 3
        · replace hF := gw_if1 c1_3 hF
          refine lv_tableIn (off := 85) (tgt := 86) hx hb dX7_count_1 (by rw [gw_sw c1_3 (a := 3) (by decide)]; decide) (by rw [gw_sw c1_3 (a := 3) (by decide)]; decide) (by rw [gw_sw c1_3 (a := 3) (by decide)]; rfl) (by decide) ?_
          refine lv_aload_n hx hb dX7_count_86 rfl (lv_at hl 0 rfl) ?_
          refine gf_C_0_2 E I in_X7_count_X7 lk_X7_count_26 dX7_count_87 ?_
          refine lv_aload_n hx hb dX7_count_90 rfl (lv_at hl 0 rfl) ?_
          refine gf_C_0_1 E I in_X7_count_X7 lk_X7_count_19 dX7_count_91 ?_
          refine gf_C_3_3 E I in_X7_count_X2 lk_X7_count_91 dX7_count_94 ?_
          replace hF := gw_bdE hF
          obtain ⟨r97, e97, hF⟩ := hF
          refine gw_calli I (gw_runV E I (ok_X4_wrongInSacks l hD t0 (rdI t0 3 3) _ e97) (cwV 1 E.1.2.2.2.2 gX7_count_X4_wrongInSacks rfl rfl rfl (by decide +kernel) ⟨Nat.le_of_ble_eq_true rfl, Nat.le_of_ble_eq_true rfl⟩) (by decide) rfl rfl rfl hl.1 rfl (Nat.le_of_ble_eq_true rfl) dX7_count_97) (fun H locs I => ?_)
          exact gw_iret E I hr hlocks rfl (Option.some.inj hF) rfl dX7_count_100
        · replace hF := gw_if0 c1_3 hF
          by_cases c1_4 : v1 = 4
          · replace hF := gw_if1 c1_4 hF
            refine lv_tableIn (off := 100) (tgt := 101) hx hb dX7_count_1 (by rw [gw_sw c1_4 (a := 4) (by decide)]; decide) (by rw [gw_sw c1_4 (a := 4) (by decide)]; decide) (by rw [gw_sw c1_4 (a := 4) (by decide)]; rfl) (by decide) ?_
            refine lv_aload_n hx hb dX7_count_101 rfl (lv_at hl 0 rfl) ?_
            refine gf_C_0_2 E I in_X7_count_X7 lk_X7_count_26 dX7_count_102 ?_
            refine gf_C_7_6 E I in_X7_count_X4 lk_X7_count_159 dX7_count_105 ?_
            exact gw_iret E I hr hlocks rfl (Option.some.inj hF) rfl dX7_count_108
          · replace hF := gw_if0 c1_4 hF
            by_cases c1_5 : v1 = 5
            · replace hF := gw_if1 c1_5 hF
              refine lv_tableIn (off := 108) (tgt := 109) hx hb dX7_count_1 (by rw [gw_sw c1_5 (a := 5) (by decide)]; decide) (by rw [gw_sw c1_5 (a := 5) (by decide)]; decide) (by rw [gw_sw c1_5 (a := 5) (by decide)]; rfl) (by decide) ?_
              refine lv_aload_n hx hb dX7_count_109 rfl (lv_at hl 0 rfl) ?_
              refine gf_C_0_2 E I in_X7_count_X7 lk_X7_count_26 dX7_count_110 ?_
              refine gf_C_7_7 E I in_X7_count_X4 lk_X7_count_226 dX7_count_113 ?_
              exact gw_iret E I hr hlocks rfl (Option.some.inj hF) rfl dX7_count_116
            · replace hF := gw_if0 c1_5 hF
              by_cases c1_6 : v1 = 6
              · replace hF := gw_if1 c1_6 hF
                refine lv_tableIn (off := 116) (tgt := 117) hx hb dX7_count_1 (by rw [gw_sw c1_6 (a := 6) (by decide)]; decide) (by rw [gw_sw c1_6 (a := 6) (by decide)]; decide) (by rw [gw_sw c1_6 (a := 6) (by decide)]; rfl) (by decide) ?_
                refine lv_aload_n hx hb dX7_count_117 rfl (lv_at hl 0 rfl) ?_
                refine gf_C_0_2 E I in_X7_count_X7 lk_X7_count_26 dX7_count_118 ?_
                refine gf_C_7_5 E I in_X7_count_X4 lk_X7_count_188 dX7_count_121 ?_
                exact gw_iret E I hr hlocks rfl (Option.some.inj hF) rfl dX7_count_124
              · replace hF := gw_if0 c1_6 hF
                by_cases c1_7 : v1 = 7
                · replace hF := gw_if1 c1_7 hF
                  refine lv_tableIn (off := 124) (tgt := 125) hx hb dX7_count_1 (by rw [gw_sw c1_7 (a := 7) (by decide)]; decide) (by rw [gw_sw c1_7 (a := 7) (by decide)]; decide) (by rw [gw_sw c1_7 (a := 7) (by decide)]; rfl) (by decide) ?_
                  refine lv_aload_n hx hb dX7_count_125 rfl (lv_at hl 0 rfl) ?_
                  refine gf_C_0_0 E I in_X7_count_X7 lk_X7_count_10 dX7_count_126 ?_
                  refine gf_C_1_1 E I in_X7_count_X1 lk_X7_count_54 dX7_count_129 ?_
                  exact gw_iret E I hr hlocks rfl (Option.some.inj hF) rfl dX7_count_132
                · replace hF := gw_if0 c1_7 hF
                  by_cases c1_8 : v1 = 8
                  · replace hF := gw_if1 c1_8 hF
                    refine lv_tableIn (off := 132) (tgt := 133) hx hb dX7_count_1 (by rw [gw_sw c1_8 (a := 8) (by decide)]; decide) (by rw [gw_sw c1_8 (a := 8) (by decide)]; decide) (by rw [gw_sw c1_8 (a := 8) (by decide)]; rfl) (by decide) ?_
                    refine lv_aload_n hx hb dX7_count_133 rfl (lv_at hl 0 rfl) ?_
                    refine gf_C_0_8 E I in_X7_count_X7 lk_X7_count_88 dX7_count_134 ?_
                    exact gw_iret E I hr hlocks rfl (Option.some.inj hF) rfl dX7_count_137
                  · replace hF := gw_if0 c1_8 hF
                    refine lv_tableOut (tgt := 138) hx hb dX7_count_1 (by have q0 := lv_neT c1_0 (a := 0) (by decide); have q1 := lv_neT c1_1 (a := 1) (by decide); have q2 := lv_neT c1_2 (a := 2) (by decide); have q3 := lv_neT c1_3 (a := 3) (by decide); have q4 := lv_neT c1_4 (a := 4) (by decide); have q5 := lv_neT c1_5 (a := 5) (by decide); have q6 := lv_neT c1_6 (a := 6) (by decide); have q7 := lv_neT c1_7 (a := 7) (by decide); have q8 := lv_neT c1_8 (a := 8) (by decide); omega) (by decide) ?_
                    refine lv_bipush (v := (-102)) hx hb dX7_count_138 (by decide) ?_
                    exact gw_iret E I hr hlocks rfl (Option.some.inj hF) rfl dX7_count_140
abbrev rmX7_withHook : Room := { frames := 5, cells := 0, slots := 0, locals := 111 }
theorem kc_X7_withHook_235 : Cond.constantLong RX7 235 (31) ∈ wsX7_withHook := by decide +kernel
set_option maxHeartbeats 4000000 in
set_option maxRecDepth 100000 in
theorem ok_X7_withHook (l : Launch) {D : va_G} {g : gw_G} {tG : Nat} {ad : Nat → Nat} {A : Nat → Prop} (hD : gw_D A 83 ad) (t0 : gw_S) (v1 : Int64) (v3 : Int32) (r0 : Int64) (hF : fX7_withHook v1 v3 t0 = some r0) : Met l yX7_withHook wsX7_withHook rmX7_withHook (gw_Pc D g tG (tC g ad) 83 ad A [.ref (ad 0), .long v1, .int v3] t0) (gw_Ql D (tC g ad) 83 ad A r0 t0) 0 0 A := by
  unfold fX7_withHook at hF
  refine gw_met (by decide) rfl hD (Nat.le_of_ble_eq_true rfl) (fun p e s m args below meth c E hr hlocks I ls hl => ?_)
  have hx := E.1.1
  have hb := E.1.2.1
  have hl : lv_has ls 7 [(0, .ref (ad 0)), (1, .long v1), (3, .int v3)] := hl
  have hL39 : ∀ (Kx : Int64 → Int32 → Option (Int64)) (v3 : Int32), (∀ (v4 : Int64) (v6 : Int32) (H : Heap) (locs : List Loc) (ls : Array Slot), lv_has ls 7 [(0, .ref (ad 0)), (3, .int v3), (4, .long v4)] → gw_I D (tC g ad) 83 ad A s.heap t0 H locs → Kx v4 v6 = some r0 → W p l e rmX7_withHook s m args below meth c H locs 0 0 (MQ below (gw_Ql D (tC g ad) 83 ad A r0 t0) args s 0 0 A) (F0 m 69 ls [])) → ∀ (n : Nat) (v4 : Int64) (v6 : Int32) (H : Heap) (locs : List Loc) (ls : Array Slot), lv_has ls 7 [(0, .ref (ad 0)), (3, .int v3), (4, .long v4), (6, .int v6)] → gw_I D (tC g ad) 83 ad A s.heap t0 H locs → fX7_withHook_L39 Kx v3 t0 n v4 v6 = some r0 → W p l e rmX7_withHook s m args below meth c H locs 0 0 (MQ below (gw_Ql D (tC g ad) 83 ad A r0 t0) args s 0 0 A) (F0 m 39 ls []) := by
    intro Kx v3 hKx n
    induction n with
    | zero =>
      intro v4 v6 H locs ls hl I hF
      rw [fX7_withHook_L39] at hF
      cases hF
    | succ n ih =>
      intro v4 v6 H locs ls hl I hF
      rw [fX7_withHook_L39] at hF
      refine lv_iload hx hb dX7_withHook_39 (lv_at hl 3 rfl) ?_
      refine lv_iconst (v := 5) hx hb dX7_withHook_41 (by decide) ?_
      refine lv_icmp_gt (tgt := 69) hx hb dX7_withHook_42 (by decide) (fun c42 => ?_) (fun c42 => ?_)
      · replace hF := gw_if1 c42 hF
        exact hKx v4 v6 _ _ _ (lv_sub hl [0, 1, 2] rfl) I hF
      · replace hF := gw_if0 c42 hF
        refine lv_ldc2 hx hb E.1.2.2.2.1 (E.1.2.2.2.2 _ kc_X7_withHook_235) dX7_withHook_45 ?_
        refine lv_lload hx hb dX7_withHook_48 (lv_at hl 2 rfl) ?_
        refine lv_lmul hx hb dX7_withHook_50 ?_
        refine lv_aload_n hx hb dX7_withHook_51 rfl (lv_at hl 0 rfl) ?_
        refine lv_iconst (v := 0) hx hb dX7_withHook_52 (by decide) ?_
        refine lv_iload_n hx hb dX7_withHook_53 rfl (lv_at hl 1 rfl) ?_
        refine lv_iload hx hb dX7_withHook_54 (lv_at hl 3 rfl) ?_
        replace hF := gw_bdE hF
        obtain ⟨r56, e56, hF⟩ := hF
        refine gw_calli I (gw_runV E I (ok_X7_odds l hD t0 0 v3 v6 _ e56) (cwV 3 E.1.2.2.2.2 gX7_withHook_X7_odds rfl rfl rfl (by decide +kernel) ⟨Nat.le_of_ble_eq_true rfl, Nat.le_of_ble_eq_true rfl⟩) (by decide) rfl rfl rfl hl.1 rfl (Nat.le_of_ble_eq_true rfl) dX7_withHook_56) (fun H locs I => ?_)
        refine lv_i2l hx hb dX7_withHook_59 rfl ?_
        refine lv_ladd hx hb dX7_withHook_60 ?_
        replace hF := gw_nmE hF
        obtain ⟨v4_61, ev4_61, hF⟩ := hF
        refine gw_topl ev4_61 ?_
        refine lv_lstore (lv' := [(4, .long v4_61), (0, .ref (ad 0)), (3, .int v3), (6, .int v6)]) hx hb dX7_withHook_61 hl (by decide) rfl (fun ls hl => ?_)
        replace hF := gw_nmE hF
        obtain ⟨v6_63, ev6_63, hF⟩ := hF
        refine lv_iinc (v := v6_63) (lv' := [(6, .int v6_63), (4, .long v4_61), (0, .ref (ad 0)), (3, .int v3)]) hx hb dX7_withHook_63 hl (k := 3) rfl (by subst ev6_63; rfl) (by decide) rfl (fun ls hl => ?_)
        refine lv_goto (tgt := 39) hx hb dX7_withHook_66 (by decide) ?_
        exact ih v4_61 v6_63 _ _ _ (lv_sub hl [2, 3, 1, 0] rfl) I hF
  have hL6 : ∀ (Kx : Int64 → Int32 → Option (Int64)) (v3 : Int32), (∀ (v4 : Int64) (v6 : Int32) (H : Heap) (locs : List Loc) (ls : Array Slot), lv_has ls 7 [(0, .ref (ad 0)), (3, .int v3), (4, .long v4)] → gw_I D (tC g ad) 83 ad A s.heap t0 H locs → Kx v4 v6 = some r0 → W p l e rmX7_withHook s m args below meth c H locs 0 0 (MQ below (gw_Ql D (tC g ad) 83 ad A r0 t0) args s 0 0 A) (F0 m 36 ls [])) → ∀ (n : Nat) (v4 : Int64) (v6 : Int32) (H : Heap) (locs : List Loc) (ls : Array Slot), lv_has ls 7 [(0, .ref (ad 0)), (3, .int v3), (4, .long v4), (6, .int v6)] → gw_I D (tC g ad) 83 ad A s.heap t0 H locs → fX7_withHook_L6 Kx v3 t0 n v4 v6 = some r0 → W p l e rmX7_withHook s m args below meth c H locs 0 0 (MQ below (gw_Ql D (tC g ad) 83 ad A r0 t0) args s 0 0 A) (F0 m 6 ls []) := by
    intro Kx v3 hKx n
    induction n with
    | zero =>
      intro v4 v6 H locs ls hl I hF
      rw [fX7_withHook_L6] at hF
      cases hF
    | succ n ih =>
      intro v4 v6 H locs ls hl I hF
      rw [fX7_withHook_L6] at hF
      refine lv_iload hx hb dX7_withHook_6 (lv_at hl 3 rfl) ?_
      refine lv_bipush (v := 6) hx hb dX7_withHook_8 (by decide) ?_
      refine lv_icmp_gt (tgt := 36) hx hb dX7_withHook_10 (by decide) (fun c10 => ?_) (fun c10 => ?_)
      · replace hF := gw_if1 c10 hF
        exact hKx v4 v6 _ _ _ (lv_sub hl [0, 1, 2] rfl) I hF
      · replace hF := gw_if0 c10 hF
        refine lv_ldc2 hx hb E.1.2.2.2.1 (E.1.2.2.2.2 _ kc_X7_withHook_235) dX7_withHook_13 ?_
        refine lv_lload hx hb dX7_withHook_16 (lv_at hl 2 rfl) ?_
        refine lv_lmul hx hb dX7_withHook_18 ?_
        refine lv_aload_n hx hb dX7_withHook_19 rfl (lv_at hl 0 rfl) ?_
        refine lv_iload_n hx hb dX7_withHook_20 rfl (lv_at hl 1 rfl) ?_
        refine lv_iload hx hb dX7_withHook_21 (lv_at hl 3 rfl) ?_
        replace hF := gw_bdE hF
        obtain ⟨r23, e23, hF⟩ := hF
        refine gw_calli I (gw_runV E I (ok_X7_hook l hD t0 v3 v6 _ e23) (cwV 2 E.1.2.2.2.2 gX7_withHook_X7_hook rfl rfl rfl (by decide +kernel) ⟨Nat.le_of_ble_eq_true rfl, Nat.le_of_ble_eq_true rfl⟩) (by decide) rfl rfl rfl hl.1 rfl (Nat.le_of_ble_eq_true rfl) dX7_withHook_23) (fun H locs I => ?_)
        refine lv_i2l hx hb dX7_withHook_26 rfl ?_
        refine lv_ladd hx hb dX7_withHook_27 ?_
        replace hF := gw_nmE hF
        obtain ⟨v4_28, ev4_28, hF⟩ := hF
        refine gw_topl ev4_28 ?_
        refine lv_lstore (lv' := [(4, .long v4_28), (0, .ref (ad 0)), (3, .int v3), (6, .int v6)]) hx hb dX7_withHook_28 hl (by decide) rfl (fun ls hl => ?_)
        replace hF := gw_nmE hF
        obtain ⟨v6_30, ev6_30, hF⟩ := hF
        refine lv_iinc (v := v6_30) (lv' := [(6, .int v6_30), (4, .long v4_28), (0, .ref (ad 0)), (3, .int v3)]) hx hb dX7_withHook_30 hl (k := 3) rfl (by subst ev6_30; rfl) (by decide) rfl (fun ls hl => ?_)
        refine lv_goto (tgt := 6) hx hb dX7_withHook_33 (by decide) ?_
        exact ih v4_28 v6_30 _ _ _ (lv_sub hl [2, 3, 1, 0] rfl) I hF
  refine lv_lload_n hx hb dX7_withHook_0 rfl (lv_at hl 1 rfl) ?_
  refine lv_lstore (lv' := [(4, .long v1), (0, .ref (ad 0)), (1, .long v1), (3, .int v3)]) hx hb dX7_withHook_1 hl (by decide) rfl (fun ls hl => ?_)
  refine lv_iconst (v := 0) hx hb dX7_withHook_3 (by decide) ?_
  refine lv_istore (lv' := [(6, .int 0), (4, .long v1), (0, .ref (ad 0)), (1, .long v1), (3, .int v3)]) hx hb dX7_withHook_4 hl (by decide) rfl (fun ls hl => ?_)
  refine hL6 _ v3 (fun v4_x6 v6_x6 H locs ls hl I hF => ?_) 2000 v1 0 _ _ _ (lv_sub hl [2, 4, 1, 0] rfl) I hF
  refine lv_iconst (v := 0) hx hb dX7_withHook_36 (by decide) ?_
  refine lv_istore (lv' := [(6, .int 0), (0, .ref (ad 0)), (3, .int v3), (4, .long v4_x6)]) hx hb dX7_withHook_37 hl (by decide) rfl (fun ls hl => ?_)
  refine hL39 _ v3 (fun v4_x39 v6_x39 H locs ls hl I hF => ?_) 2000 v4_x6 0 _ _ _ (lv_sub hl [1, 2, 3, 0] rfl) I hF
  refine lv_ldc2 hx hb E.1.2.2.2.1 (E.1.2.2.2.2 _ kc_X7_withHook_235) dX7_withHook_69 ?_
  refine lv_lload hx hb dX7_withHook_72 (lv_at hl 2 rfl) ?_
  refine lv_lmul hx hb dX7_withHook_74 ?_
  refine lv_aload_n hx hb dX7_withHook_75 rfl (lv_at hl 0 rfl) ?_
  refine lv_iconst (v := 3) hx hb dX7_withHook_76 (by decide) ?_
  refine lv_iload_n hx hb dX7_withHook_77 rfl (lv_at hl 1 rfl) ?_
  refine lv_iconst (v := 3) hx hb dX7_withHook_78 (by decide) ?_
  replace hF := gw_bdE hF
  obtain ⟨r79, e79, hF⟩ := hF
  refine gw_calli I (gw_runV E I (ok_X7_odds l hD t0 3 v3 3 _ e79) (cwV 3 E.1.2.2.2.2 gX7_withHook_X7_odds rfl rfl rfl (by decide +kernel) ⟨Nat.le_of_ble_eq_true rfl, Nat.le_of_ble_eq_true rfl⟩) (by decide) rfl rfl rfl hl.1 rfl (Nat.le_of_ble_eq_true rfl) dX7_withHook_79) (fun H locs I => ?_)
  refine lv_i2l hx hb dX7_withHook_82 rfl ?_
  refine lv_ladd hx hb dX7_withHook_83 ?_
  exact gw_lret E I hr hlocks (Option.some.inj hF) rfl dX7_withHook_84
abbrev rmX7_withHanging : Room := { frames := 13, cells := 0, slots := 0, locals := 967 }
theorem lk_X7_withHanging_19 : Cond.fieldLink RX7 19 "ThrownSacks" "plan" "LThrownSacks$Plan;" ∈ wsX7_withHanging := by decide +kernel
theorem lk_X7_withHanging_91 : Cond.fieldLink RX7 91 "ThrownSacks$Plan" "hooks" "I" ∈ wsX7_withHanging := by decide +kernel
theorem in_X7_withHanging_X2 : ∀ w ∈ u_ws RX2 TX2 4, w ∈ wsX7_withHanging := by decide +kernel
theorem in_X7_withHanging_X7 : ∀ w ∈ u_ws RX7 TX7 9, w ∈ wsX7_withHanging := by decide +kernel
theorem kc_X7_withHanging_235 : Cond.constantLong RX7 235 (31) ∈ wsX7_withHanging := by decide +kernel
set_option maxHeartbeats 4000000 in
set_option maxRecDepth 100000 in
theorem ok_X7_withHanging (l : Launch) {D : va_G} {g : gw_G} {tG : Nat} {ad : Nat → Nat} {A : Nat → Prop} (hD : gw_D A 83 ad) (t0 : gw_S) (v1 : Int64) (r0 : Int64) (tz : gw_S) (hF : fX7_withHanging v1 t0 = some (r0, tz)) : Met l yX7_withHanging wsX7_withHanging rmX7_withHanging (gw_Pc D g tG (tC g ad) 83 ad A [.ref (ad 0), .long v1] t0) (gw_Ql D (tC g ad) 83 ad A r0 tz) 0 0 A := by
  unfold fX7_withHanging at hF
  refine gw_met (by decide) rfl hD (Nat.le_of_ble_eq_true rfl) (fun p e s m args below meth c E hr hlocks I ls hl => ?_)
  have hx := E.1.1
  have hb := E.1.2.1
  have hl : lv_has ls 6 [(0, .ref (ad 0)), (1, .long v1)] := hl
  have hL72 : ∀ (Kx : Int64 → Int32 → gw_S → Option (Int64 × gw_S)), (∀ (v3 : Int64) (v5 : Int32) (t : gw_S) (H : Heap) (locs : List Loc) (ls : Array Slot), lv_has ls 6 [(3, .long v3)] → gw_I D (tC g ad) 83 ad A s.heap t H locs → Kx v3 v5 t = some (r0, tz) → W p l e rmX7_withHanging s m args below meth c H locs 0 0 (MQ below (gw_Ql D (tC g ad) 83 ad A r0 tz) args s 0 0 A) (F0 m 104 ls [])) → ∀ (n : Nat) (v3 : Int64) (v5 : Int32) (t : gw_S) (H : Heap) (locs : List Loc) (ls : Array Slot), lv_has ls 6 [(0, .ref (ad 0)), (3, .long v3), (5, .int v5)] → gw_I D (tC g ad) 83 ad A s.heap t H locs → fX7_withHanging_L72 Kx n v3 v5 t = some (r0, tz) → W p l e rmX7_withHanging s m args below meth c H locs 0 0 (MQ below (gw_Ql D (tC g ad) 83 ad A r0 tz) args s 0 0 A) (F0 m 72 ls []) := by
    intro Kx hKx n
    induction n with
    | zero =>
      intro v3 v5 t H locs ls hl I hF
      rw [fX7_withHanging_L72] at hF
      cases hF
    | succ n ih =>
      intro v3 v5 t H locs ls hl I hF
      rw [fX7_withHanging_L72] at hF
      refine lv_iload hx hb dX7_withHanging_72 (lv_at hl 2 rfl) ?_
      refine lv_aload_n hx hb dX7_withHanging_74 rfl (lv_at hl 0 rfl) ?_
      refine gf_C_0_1 E I in_X7_withHanging_X7 lk_X7_withHanging_19 dX7_withHanging_75 ?_
      refine gf_C_3_3 E I in_X7_withHanging_X2 lk_X7_withHanging_91 dX7_withHanging_78 ?_
      refine lv_icmp_ge (tgt := 104) hx hb dX7_withHanging_81 (by decide) (fun c81 => ?_) (fun c81 => ?_)
      · replace hF := gw_if1 c81 hF
        exact hKx v3 v5 t _ _ _ (lv_sub hl [1] rfl) I hF
      · replace hF := gw_if0 c81 hF
        refine lv_ldc2 hx hb E.1.2.2.2.1 (E.1.2.2.2.2 _ kc_X7_withHanging_235) dX7_withHanging_84 ?_
        refine lv_lload_n hx hb dX7_withHanging_87 rfl (lv_at hl 1 rfl) ?_
        refine lv_lmul hx hb dX7_withHanging_88 ?_
        refine lv_aload_n hx hb dX7_withHanging_89 rfl (lv_at hl 0 rfl) ?_
        refine lv_iload hx hb dX7_withHanging_90 (lv_at hl 2 rfl) ?_
        replace hF := gw_b2E hF
        obtain ⟨r92, t_92, e92, hF⟩ := hF
        refine gw_calli I (gw_runV E I (ok_X7_where l hD t v5 _ _ e92) (cwV 1 E.1.2.2.2.2 gX7_withHanging_X7_where rfl rfl rfl (by decide +kernel) ⟨Nat.le_of_ble_eq_true rfl, Nat.le_of_ble_eq_true rfl⟩) (by decide) rfl rfl rfl hl.1 rfl (Nat.le_of_ble_eq_true rfl) dX7_withHanging_92) (fun H locs I => ?_)
        refine lv_i2l hx hb dX7_withHanging_95 rfl ?_
        refine lv_ladd hx hb dX7_withHanging_96 ?_
        replace hF := gw_nmE hF
        obtain ⟨v3_97, ev3_97, hF⟩ := hF
        refine gw_topl ev3_97 ?_
        refine lv_lstore_n (lv' := [(3, .long v3_97), (0, .ref (ad 0)), (5, .int v5)]) hx hb dX7_withHanging_97 rfl hl (by decide) rfl (fun ls hl => ?_)
        replace hF := gw_nmE hF
        obtain ⟨v5_98, ev5_98, hF⟩ := hF
        refine lv_iinc (v := v5_98) (lv' := [(5, .int v5_98), (3, .long v3_97), (0, .ref (ad 0))]) hx hb dX7_withHanging_98 hl (k := 2) rfl (by subst ev5_98; rfl) (by decide) rfl (fun ls hl => ?_)
        refine lv_goto (tgt := 72) hx hb dX7_withHanging_101 (by decide) ?_
        exact ih v3_97 v5_98 t_92 _ _ _ (lv_sub hl [2, 1, 0] rfl) I hF
  have hL30 : ∀ (Kx : Int64 → Int32 → gw_S → Option (Int64 × gw_S)), (∀ (v3 : Int64) (v5 : Int32) (t : gw_S) (H : Heap) (locs : List Loc) (ls : Array Slot), lv_has ls 6 [(0, .ref (ad 0)), (3, .long v3)] → gw_I D (tC g ad) 83 ad A s.heap t H locs → Kx v3 v5 t = some (r0, tz) → W p l e rmX7_withHanging s m args below meth c H locs 0 0 (MQ below (gw_Ql D (tC g ad) 83 ad A r0 tz) args s 0 0 A) (F0 m 57 ls [])) → ∀ (n : Nat) (v3 : Int64) (v5 : Int32) (t : gw_S) (H : Heap) (locs : List Loc) (ls : Array Slot), lv_has ls 6 [(0, .ref (ad 0)), (3, .long v3), (5, .int v5)] → gw_I D (tC g ad) 83 ad A s.heap t H locs → fX7_withHanging_L30 Kx n v3 v5 t = some (r0, tz) → W p l e rmX7_withHanging s m args below meth c H locs 0 0 (MQ below (gw_Ql D (tC g ad) 83 ad A r0 tz) args s 0 0 A) (F0 m 30 ls []) := by
    intro Kx hKx n
    induction n with
    | zero =>
      intro v3 v5 t H locs ls hl I hF
      rw [fX7_withHanging_L30] at hF
      cases hF
    | succ n ih =>
      intro v3 v5 t H locs ls hl I hF
      rw [fX7_withHanging_L30] at hF
      refine lv_iload hx hb dX7_withHanging_30 (lv_at hl 2 rfl) ?_
      refine lv_bipush (v := 16) hx hb dX7_withHanging_32 (by decide) ?_
      refine lv_icmp_ge (tgt := 57) hx hb dX7_withHanging_34 (by decide) (fun c34 => ?_) (fun c34 => ?_)
      · replace hF := gw_if1 c34 hF
        exact hKx v3 v5 t _ _ _ (lv_sub hl [0, 1] rfl) I hF
      · replace hF := gw_if0 c34 hF
        refine lv_ldc2 hx hb E.1.2.2.2.1 (E.1.2.2.2.2 _ kc_X7_withHanging_235) dX7_withHanging_37 ?_
        refine lv_lload_n hx hb dX7_withHanging_40 rfl (lv_at hl 1 rfl) ?_
        refine lv_lmul hx hb dX7_withHanging_41 ?_
        refine lv_aload_n hx hb dX7_withHanging_42 rfl (lv_at hl 0 rfl) ?_
        refine lv_iload hx hb dX7_withHanging_43 (lv_at hl 2 rfl) ?_
        replace hF := gw_bdE hF
        obtain ⟨r45, e45, hF⟩ := hF
        refine gw_calli I (gw_runV E I (ok_X7_hanging l hD t v5 _ e45) (cwV 1 E.1.2.2.2.2 gX7_withHanging_X7_hanging rfl rfl rfl (by decide +kernel) ⟨Nat.le_of_ble_eq_true rfl, Nat.le_of_ble_eq_true rfl⟩) (by decide) rfl rfl rfl hl.1 rfl (Nat.le_of_ble_eq_true rfl) dX7_withHanging_45) (fun H locs I => ?_)
        refine lv_i2l hx hb dX7_withHanging_48 rfl ?_
        refine lv_ladd hx hb dX7_withHanging_49 ?_
        replace hF := gw_nmE hF
        obtain ⟨v3_50, ev3_50, hF⟩ := hF
        refine gw_topl ev3_50 ?_
        refine lv_lstore_n (lv' := [(3, .long v3_50), (0, .ref (ad 0)), (5, .int v5)]) hx hb dX7_withHanging_50 rfl hl (by decide) rfl (fun ls hl => ?_)
        replace hF := gw_nmE hF
        obtain ⟨v5_51, ev5_51, hF⟩ := hF
        refine lv_iinc (v := v5_51) (lv' := [(5, .int v5_51), (3, .long v3_50), (0, .ref (ad 0))]) hx hb dX7_withHanging_51 hl (k := 2) rfl (by subst ev5_51; rfl) (by decide) rfl (fun ls hl => ?_)
        refine lv_goto (tgt := 30) hx hb dX7_withHanging_54 (by decide) ?_
        exact ih v3_50 v5_51 t _ _ _ (lv_sub hl [2, 1, 0] rfl) I hF
  refine lv_ldc2 hx hb E.1.2.2.2.1 (E.1.2.2.2.2 _ kc_X7_withHanging_235) dX7_withHanging_0 ?_
  refine lv_lload_n hx hb dX7_withHanging_3 rfl (lv_at hl 1 rfl) ?_
  refine lv_lmul hx hb dX7_withHanging_4 ?_
  refine lv_aload_n hx hb dX7_withHanging_5 rfl (lv_at hl 0 rfl) ?_
  refine lv_iconst (v := 0) hx hb dX7_withHanging_6 (by decide) ?_
  replace hF := gw_bdE hF
  obtain ⟨r7, e7, hF⟩ := hF
  refine gw_calli I (gw_runV E I (ok_X7_hanging l hD t0 0 _ e7) (cwV 1 E.1.2.2.2.2 gX7_withHanging_X7_hanging rfl rfl rfl (by decide +kernel) ⟨Nat.le_of_ble_eq_true rfl, Nat.le_of_ble_eq_true rfl⟩) (by decide) rfl rfl rfl hl.1 rfl (Nat.le_of_ble_eq_true rfl) dX7_withHanging_7) (fun H locs I => ?_)
  refine lv_i2l hx hb dX7_withHanging_10 rfl ?_
  refine lv_ladd hx hb dX7_withHanging_11 ?_
  replace hF := gw_nmE hF
  obtain ⟨v3_12, ev3_12, hF⟩ := hF
  refine gw_topl ev3_12 ?_
  refine lv_lstore_n (lv' := [(3, .long v3_12), (0, .ref (ad 0)), (1, .long v1)]) hx hb dX7_withHanging_12 rfl hl (by decide) rfl (fun ls hl => ?_)
  refine lv_ldc2 hx hb E.1.2.2.2.1 (E.1.2.2.2.2 _ kc_X7_withHanging_235) dX7_withHanging_13 ?_
  refine lv_lload_n hx hb dX7_withHanging_16 rfl (lv_at hl 0 rfl) ?_
  refine lv_lmul hx hb dX7_withHanging_17 ?_
  refine lv_aload_n hx hb dX7_withHanging_18 rfl (lv_at hl 1 rfl) ?_
  refine lv_iconst (v := 1) hx hb dX7_withHanging_19 (by decide) ?_
  replace hF := gw_bdE hF
  obtain ⟨r20, e20, hF⟩ := hF
  refine gw_calli I (gw_runV E I (ok_X7_hanging l hD t0 1 _ e20) (cwV 1 E.1.2.2.2.2 gX7_withHanging_X7_hanging rfl rfl rfl (by decide +kernel) ⟨Nat.le_of_ble_eq_true rfl, Nat.le_of_ble_eq_true rfl⟩) (by decide) rfl rfl rfl hl.1 rfl (Nat.le_of_ble_eq_true rfl) dX7_withHanging_20) (fun H locs I => ?_)
  refine lv_i2l hx hb dX7_withHanging_23 rfl ?_
  refine lv_ladd hx hb dX7_withHanging_24 ?_
  replace hF := gw_nmE hF
  obtain ⟨v3_25, ev3_25, hF⟩ := hF
  refine gw_topl ev3_25 ?_
  refine lv_lstore_n (lv' := [(3, .long v3_25), (0, .ref (ad 0)), (1, .long v1)]) hx hb dX7_withHanging_25 rfl hl (by decide) rfl (fun ls hl => ?_)
  refine lv_bipush (v := 10) hx hb dX7_withHanging_26 (by decide) ?_
  refine lv_istore (lv' := [(5, .int 10), (3, .long v3_25), (0, .ref (ad 0)), (1, .long v1)]) hx hb dX7_withHanging_28 hl (by decide) rfl (fun ls hl => ?_)
  refine hL30 _  (fun v3_x30 v5_x30 t_x30 H locs ls hl I hF => ?_) 2000 v3_25 10 t0 _ _ _ (lv_sub hl [2, 1, 0] rfl) I hF
  refine lv_ldc2 hx hb E.1.2.2.2.1 (E.1.2.2.2.2 _ kc_X7_withHanging_235) dX7_withHanging_57 ?_
  refine lv_lload_n hx hb dX7_withHanging_60 rfl (lv_at hl 1 rfl) ?_
  refine lv_lmul hx hb dX7_withHanging_61 ?_
  refine lv_aload_n hx hb dX7_withHanging_62 rfl (lv_at hl 0 rfl) ?_
  replace hF := gw_b2E hF
  obtain ⟨r63, t_63, e63, hF⟩ := hF
  refine gw_calli I (gw_runV E I (ok_X7_hung l hD t_x30 _ _ e63) (cwV 0 E.1.2.2.2.2 gX7_withHanging_X7_hung rfl rfl rfl (by decide +kernel) ⟨Nat.le_of_ble_eq_true rfl, Nat.le_of_ble_eq_true rfl⟩) (by decide) rfl rfl rfl hl.1 rfl (Nat.le_of_ble_eq_true rfl) dX7_withHanging_63) (fun H locs I => ?_)
  refine lv_i2l hx hb dX7_withHanging_66 rfl ?_
  refine lv_ladd hx hb dX7_withHanging_67 ?_
  replace hF := gw_nmE hF
  obtain ⟨v3_68, ev3_68, hF⟩ := hF
  refine gw_topl ev3_68 ?_
  refine lv_lstore_n (lv' := [(3, .long v3_68), (0, .ref (ad 0))]) hx hb dX7_withHanging_68 rfl hl (by decide) rfl (fun ls hl => ?_)
  refine lv_iconst (v := 0) hx hb dX7_withHanging_69 (by decide) ?_
  refine lv_istore (lv' := [(5, .int 0), (3, .long v3_68), (0, .ref (ad 0))]) hx hb dX7_withHanging_70 hl (by decide) rfl (fun ls hl => ?_)
  refine hL72 _  (fun v3_x72 v5_x72 t_x72 H locs ls hl I hF => ?_) 2000 v3_68 0 t_63 _ _ _ (lv_sub hl [2, 1, 0] rfl) I hF
  refine lv_lload_n hx hb dX7_withHanging_104 rfl (lv_at hl 0 rfl) ?_
  exact gw_lret E I hr hlocks (Prod.mk.inj (Option.some.inj hF)).1 (Prod.mk.inj (Option.some.inj hF)).2 dX7_withHanging_105
abbrev rmX7_digest : Room := { frames := 14, cells := 0, slots := 0, locals := 992 }
theorem lk_X7_digest_10 : Cond.fieldLink RX7 10 "ThrownSacks" "page" "LThrownSacks$Page;" ∈ wsX7_digest := by decide +kernel
theorem lk_X7_digest_19 : Cond.fieldLink RX7 19 "ThrownSacks" "plan" "LThrownSacks$Plan;" ∈ wsX7_digest := by decide +kernel
theorem lk_X7_digest_26 : Cond.fieldLink RX7 26 "ThrownSacks" "now" "LThrownSacks$Standing;" ∈ wsX7_digest := by decide +kernel
theorem lk_X7_digest_54 : Cond.fieldLink RX7 54 "ThrownSacks$Page" "size" "I" ∈ wsX7_digest := by decide +kernel
theorem lk_X7_digest_91 : Cond.fieldLink RX7 91 "ThrownSacks$Plan" "hooks" "I" ∈ wsX7_digest := by decide +kernel
theorem lk_X7_digest_112 : Cond.fieldLink RX7 112 "ThrownSacks$Row" "size" "I" ∈ wsX7_digest := by decide +kernel
theorem lk_X7_digest_128 : Cond.fieldLink RX7 128 "ThrownSacks$Standing" "belt" "LThrownSacks$Row;" ∈ wsX7_digest := by decide +kernel
theorem in_X7_digest_X1 : ∀ w ∈ u_ws RX1 TX1 2, w ∈ wsX7_digest := by decide +kernel
theorem in_X7_digest_X2 : ∀ w ∈ u_ws RX2 TX2 4, w ∈ wsX7_digest := by decide +kernel
theorem in_X7_digest_X3 : ∀ w ∈ u_ws RX3 TX3 4, w ∈ wsX7_digest := by decide +kernel
theorem in_X7_digest_X4 : ∀ w ∈ u_ws RX4 TX4 8, w ∈ wsX7_digest := by decide +kernel
theorem in_X7_digest_X7 : ∀ w ∈ u_ws RX7 TX7 9, w ∈ wsX7_digest := by decide +kernel
theorem kc_X7_digest_229 : Cond.constantLong RX7 229 (827) ∈ wsX7_digest := by decide +kernel
theorem kc_X7_digest_235 : Cond.constantLong RX7 235 (31) ∈ wsX7_digest := by decide +kernel
set_option maxHeartbeats 4000000 in
set_option maxRecDepth 100000 in
theorem ok_X7_digest (l : Launch) {D : va_G} {g : gw_G} {tG : Nat} {ad : Nat → Nat} {A : Nat → Prop} (hD : gw_D A 83 ad) (t0 : gw_S) (r0 : Int64) (tz : gw_S) (hF : fX7_digest t0 = some (r0, tz)) : Met l yX7_digest wsX7_digest rmX7_digest (gw_Pc D g tG (tC g ad) 83 ad A [.ref (ad 0)] t0) (gw_Ql D (tC g ad) 83 ad A r0 tz) 0 0 A := by
  unfold fX7_digest at hF
  refine gw_met (by decide) rfl hD (Nat.le_of_ble_eq_true rfl) (fun p e s m args below meth c E hr hlocks I ls hl => ?_)
  have hx := E.1.1
  have hb := E.1.2.1
  have hl : lv_has ls 5 [(0, .ref (ad 0))] := hl
  have hL135 : ∀ (Kx : Int64 → Int32 → gw_S → Option (Int64 × gw_S)), (∀ (v1 : Int64) (v3 : Int32) (t : gw_S) (H : Heap) (locs : List Loc) (ls : Array Slot), lv_has ls 5 [(1, .long v1)] → gw_I D (tC g ad) 83 ad A s.heap t H locs → Kx v1 v3 t = some (r0, tz) → W p l e rmX7_digest s m args below meth c H locs 0 0 (MQ below (gw_Ql D (tC g ad) 83 ad A r0 tz) args s 0 0 A) (F0 m 160 ls [])) → ∀ (n : Nat) (v1 : Int64) (v3 : Int32) (t : gw_S) (H : Heap) (locs : List Loc) (ls : Array Slot), lv_has ls 5 [(0, .ref (ad 0)), (1, .long v1), (3, .int v3)] → gw_I D (tC g ad) 83 ad A s.heap t H locs → fX7_digest_L135 Kx n v1 v3 t = some (r0, tz) → W p l e rmX7_digest s m args below meth c H locs 0 0 (MQ below (gw_Ql D (tC g ad) 83 ad A r0 tz) args s 0 0 A) (F0 m 135 ls []) := by
    intro Kx hKx n
    induction n with
    | zero =>
      intro v1 v3 t H locs ls hl I hF
      rw [fX7_digest_L135] at hF
      cases hF
    | succ n ih =>
      intro v1 v3 t H locs ls hl I hF
      rw [fX7_digest_L135] at hF
      refine lv_iload_n hx hb dX7_digest_135 rfl (lv_at hl 2 rfl) ?_
      refine lv_bipush (v := 8) hx hb dX7_digest_136 (by decide) ?_
      refine lv_icmp_gt (tgt := 160) hx hb dX7_digest_138 (by decide) (fun c138 => ?_) (fun c138 => ?_)
      · replace hF := gw_if1 c138 hF
        exact hKx v1 v3 t _ _ _ (lv_sub hl [1] rfl) I hF
      · replace hF := gw_if0 c138 hF
        refine lv_ldc2 hx hb E.1.2.2.2.1 (E.1.2.2.2.2 _ kc_X7_digest_235) dX7_digest_141 ?_
        refine lv_lload_n hx hb dX7_digest_144 rfl (lv_at hl 1 rfl) ?_
        refine lv_lmul hx hb dX7_digest_145 ?_
        refine lv_aload_n hx hb dX7_digest_146 rfl (lv_at hl 0 rfl) ?_
        refine lv_iload_n hx hb dX7_digest_147 rfl (lv_at hl 2 rfl) ?_
        replace hF := gw_bdE hF
        obtain ⟨r148, e148, hF⟩ := hF
        refine gw_calli I (gw_runV E I (ok_X7_count l hD t v3 _ e148) (cwV 1 E.1.2.2.2.2 gX7_digest_X7_count rfl rfl rfl (by decide +kernel) ⟨Nat.le_of_ble_eq_true rfl, Nat.le_of_ble_eq_true rfl⟩) (by decide) rfl rfl rfl hl.1 rfl (Nat.le_of_ble_eq_true rfl) dX7_digest_148) (fun H locs I => ?_)
        refine lv_i2l hx hb dX7_digest_151 rfl ?_
        refine lv_ladd hx hb dX7_digest_152 ?_
        replace hF := gw_nmE hF
        obtain ⟨v1_153, ev1_153, hF⟩ := hF
        refine gw_topl ev1_153 ?_
        refine lv_lstore_n (lv' := [(1, .long v1_153), (0, .ref (ad 0)), (3, .int v3)]) hx hb dX7_digest_153 rfl hl (by decide) rfl (fun ls hl => ?_)
        replace hF := gw_nmE hF
        obtain ⟨v3_154, ev3_154, hF⟩ := hF
        refine lv_iinc (v := v3_154) (lv' := [(3, .int v3_154), (1, .long v1_153), (0, .ref (ad 0))]) hx hb dX7_digest_154 hl (k := 2) rfl (by subst ev3_154; rfl) (by decide) rfl (fun ls hl => ?_)
        refine lv_goto (tgt := 135) hx hb dX7_digest_157 (by decide) ?_
        exact ih v1_153 v3_154 t _ _ _ (lv_sub hl [2, 1, 0] rfl) I hF
  have hL100 : ∀ (Kx : Int64 → Int32 → gw_S → Option (Int64 × gw_S)), (∀ (v1 : Int64) (v3 : Int32) (t : gw_S) (H : Heap) (locs : List Loc) (ls : Array Slot), lv_has ls 5 [(0, .ref (ad 0)), (1, .long v1)] → gw_I D (tC g ad) 83 ad A s.heap t H locs → Kx v1 v3 t = some (r0, tz) → W p l e rmX7_digest s m args below meth c H locs 0 0 (MQ below (gw_Ql D (tC g ad) 83 ad A r0 tz) args s 0 0 A) (F0 m 133 ls [])) → ∀ (n : Nat) (v1 : Int64) (v3 : Int32) (t : gw_S) (H : Heap) (locs : List Loc) (ls : Array Slot), lv_has ls 5 [(0, .ref (ad 0)), (1, .long v1), (3, .int v3)] → gw_I D (tC g ad) 83 ad A s.heap t H locs → fX7_digest_L100 Kx n v1 v3 t = some (r0, tz) → W p l e rmX7_digest s m args below meth c H locs 0 0 (MQ below (gw_Ql D (tC g ad) 83 ad A r0 tz) args s 0 0 A) (F0 m 100 ls []) := by
    intro Kx hKx n
    induction n with
    | zero =>
      intro v1 v3 t H locs ls hl I hF
      rw [fX7_digest_L100] at hF
      cases hF
    | succ n ih =>
      intro v1 v3 t H locs ls hl I hF
      rw [fX7_digest_L100] at hF
      refine lv_iload_n hx hb dX7_digest_100 rfl (lv_at hl 2 rfl) ?_
      refine lv_aload_n hx hb dX7_digest_101 rfl (lv_at hl 0 rfl) ?_
      refine gf_C_0_0 E I in_X7_digest_X7 lk_X7_digest_10 dX7_digest_102 ?_
      refine gf_C_1_1 E I in_X7_digest_X1 lk_X7_digest_54 dX7_digest_105 ?_
      refine lv_icmp_ge (tgt := 133) hx hb dX7_digest_108 (by decide) (fun c108 => ?_) (fun c108 => ?_)
      · replace hF := gw_if1 c108 hF
        exact hKx v1 v3 t _ _ _ (lv_sub hl [0, 1] rfl) I hF
      · replace hF := gw_if0 c108 hF
        refine lv_ldc2 hx hb E.1.2.2.2.1 (E.1.2.2.2.2 _ kc_X7_digest_235) dX7_digest_111 ?_
        refine lv_lload_n hx hb dX7_digest_114 rfl (lv_at hl 1 rfl) ?_
        refine lv_lmul hx hb dX7_digest_115 ?_
        refine lv_aload_n hx hb dX7_digest_116 rfl (lv_at hl 0 rfl) ?_
        refine gf_C_0_0 E I in_X7_digest_X7 lk_X7_digest_10 dX7_digest_117 ?_
        refine lv_iload_n hx hb dX7_digest_120 rfl (lv_at hl 2 rfl) ?_
        replace hF := gw_bdE hF
        obtain ⟨r121, e121, hF⟩ := hF
        refine gw_calli I (gw_runV E I (ok_X1_codeAt l hD t v3 _ e121) (cwV 1 E.1.2.2.2.2 gX7_digest_X1_codeAt rfl rfl rfl (by decide +kernel) ⟨Nat.le_of_ble_eq_true rfl, Nat.le_of_ble_eq_true rfl⟩) (by decide) rfl rfl rfl hl.1 rfl (Nat.le_of_ble_eq_true rfl) dX7_digest_121) (fun H locs I => ?_)
        refine lv_i2l hx hb dX7_digest_124 rfl ?_
        refine lv_ladd hx hb dX7_digest_125 ?_
        replace hF := gw_nmE hF
        obtain ⟨v1_126, ev1_126, hF⟩ := hF
        refine gw_topl ev1_126 ?_
        refine lv_lstore_n (lv' := [(1, .long v1_126), (0, .ref (ad 0)), (3, .int v3)]) hx hb dX7_digest_126 rfl hl (by decide) rfl (fun ls hl => ?_)
        replace hF := gw_nmE hF
        obtain ⟨v3_127, ev3_127, hF⟩ := hF
        refine lv_iinc (v := v3_127) (lv' := [(3, .int v3_127), (1, .long v1_126), (0, .ref (ad 0))]) hx hb dX7_digest_127 hl (k := 2) rfl (by subst ev3_127; rfl) (by decide) rfl (fun ls hl => ?_)
        refine lv_goto (tgt := 100) hx hb dX7_digest_130 (by decide) ?_
        exact ih v1_126 v3_127 t _ _ _ (lv_sub hl [2, 1, 0] rfl) I hF
  have hJ98 : ∀ (v1 : Int64) (t : gw_S) (H : Heap) (locs : List Loc) (ls : Array Slot), lv_has ls 5 [(0, .ref (ad 0)), (1, .long v1)] → gw_I D (tC g ad) 83 ad A s.heap t H locs → fX7_digest_J98 v1 t = some (r0, tz) → W p l e rmX7_digest s m args below meth c H locs 0 0 (MQ below (gw_Ql D (tC g ad) 83 ad A r0 tz) args s 0 0 A) (F0 m 98 ls []) := by
    intro v1 t H locs ls hl I hF
    unfold fX7_digest_J98 at hF
    refine lv_iconst (v := 0) hx hb dX7_digest_98 (by decide) ?_
    refine lv_istore_n (lv' := [(3, .int 0), (0, .ref (ad 0)), (1, .long v1)]) hx hb dX7_digest_99 rfl hl (by decide) rfl (fun ls hl => ?_)
    refine hL100 _  (fun v1_x100 v3_x100 t_x100 H locs ls hl I hF => ?_) 2000 v1 0 t _ _ _ (lv_sub hl [1, 2, 0] rfl) I hF
    refine lv_iconst (v := 0) hx hb dX7_digest_133 (by decide) ?_
    refine lv_istore_n (lv' := [(3, .int 0), (0, .ref (ad 0)), (1, .long v1_x100)]) hx hb dX7_digest_134 rfl hl (by decide) rfl (fun ls hl => ?_)
    refine hL135 _  (fun v1_x135 v3_x135 t_x135 H locs ls hl I hF => ?_) 2000 v1_x100 0 t_x100 _ _ _ (lv_sub hl [1, 2, 0] rfl) I hF
    refine lv_lload_n hx hb dX7_digest_160 rfl (lv_at hl 0 rfl) ?_
    exact gw_lret E I hr hlocks (Prod.mk.inj (Option.some.inj hF)).1 (Prod.mk.inj (Option.some.inj hF)).2 dX7_digest_161
  have hL49 : ∀ (Kx : Int64 → Int32 → gw_S → Option (Int64 × gw_S)) (v3 : Int32), (∀ (v1 : Int64) (v4 : Int32) (t : gw_S) (H : Heap) (locs : List Loc) (ls : Array Slot), lv_has ls 5 [(0, .ref (ad 0)), (1, .long v1), (3, .int v3)] → gw_I D (tC g ad) 83 ad A s.heap t H locs → Kx v1 v4 t = some (r0, tz) → W p l e rmX7_digest s m args below meth c H locs 0 0 (MQ below (gw_Ql D (tC g ad) 83 ad A r0 tz) args s 0 0 A) (F0 m 76 ls [])) → ∀ (n : Nat) (v1 : Int64) (v4 : Int32) (t : gw_S) (H : Heap) (locs : List Loc) (ls : Array Slot), lv_has ls 5 [(0, .ref (ad 0)), (1, .long v1), (3, .int v3), (4, .int v4)] → gw_I D (tC g ad) 83 ad A s.heap t H locs → fX7_digest_L49 Kx v3 n v1 v4 t = some (r0, tz) → W p l e rmX7_digest s m args below meth c H locs 0 0 (MQ below (gw_Ql D (tC g ad) 83 ad A r0 tz) args s 0 0 A) (F0 m 49 ls []) := by
    intro Kx v3 hKx n
    induction n with
    | zero =>
      intro v1 v4 t H locs ls hl I hF
      rw [fX7_digest_L49] at hF
      cases hF
    | succ n ih =>
      intro v1 v4 t H locs ls hl I hF
      rw [fX7_digest_L49] at hF
      refine lv_iload hx hb dX7_digest_49 (lv_at hl 3 rfl) ?_
      refine lv_iconst (v := 2) hx hb dX7_digest_51 (by decide) ?_
      refine lv_icmp_gt (tgt := 76) hx hb dX7_digest_52 (by decide) (fun c52 => ?_) (fun c52 => ?_)
      · replace hF := gw_if1 c52 hF
        exact hKx v1 v4 t _ _ _ (lv_sub hl [0, 1, 2] rfl) I hF
      · replace hF := gw_if0 c52 hF
        refine lv_ldc2 hx hb E.1.2.2.2.1 (E.1.2.2.2.2 _ kc_X7_digest_235) dX7_digest_55 ?_
        refine lv_lload_n hx hb dX7_digest_58 rfl (lv_at hl 1 rfl) ?_
        refine lv_lmul hx hb dX7_digest_59 ?_
        refine lv_aload_n hx hb dX7_digest_60 rfl (lv_at hl 0 rfl) ?_
        refine lv_iload_n hx hb dX7_digest_61 rfl (lv_at hl 2 rfl) ?_
        refine lv_iload hx hb dX7_digest_62 (lv_at hl 3 rfl) ?_
        replace hF := gw_bdE hF
        obtain ⟨r64, e64, hF⟩ := hF
        refine gw_calli I (gw_runV E I (ok_X7_belt l hD t v3 v4 _ e64) (cwV 2 E.1.2.2.2.2 gX7_digest_X7_belt rfl rfl rfl (by decide +kernel) ⟨Nat.le_of_ble_eq_true rfl, Nat.le_of_ble_eq_true rfl⟩) (by decide) rfl rfl rfl hl.1 rfl (Nat.le_of_ble_eq_true rfl) dX7_digest_64) (fun H locs I => ?_)
        refine lv_i2l hx hb dX7_digest_67 rfl ?_
        refine lv_ladd hx hb dX7_digest_68 ?_
        replace hF := gw_nmE hF
        obtain ⟨v1_69, ev1_69, hF⟩ := hF
        refine gw_topl ev1_69 ?_
        refine lv_lstore_n (lv' := [(1, .long v1_69), (0, .ref (ad 0)), (3, .int v3), (4, .int v4)]) hx hb dX7_digest_69 rfl hl (by decide) rfl (fun ls hl => ?_)
        replace hF := gw_nmE hF
        obtain ⟨v4_70, ev4_70, hF⟩ := hF
        refine lv_iinc (v := v4_70) (lv' := [(4, .int v4_70), (1, .long v1_69), (0, .ref (ad 0)), (3, .int v3)]) hx hb dX7_digest_70 hl (k := 3) rfl (by subst ev4_70; rfl) (by decide) rfl (fun ls hl => ?_)
        refine lv_goto (tgt := 49) hx hb dX7_digest_73 (by decide) ?_
        exact ih v1_69 v4_70 t _ _ _ (lv_sub hl [2, 1, 3, 0] rfl) I hF
  have hL32 : ∀ (Kx : Int64 → Int32 → gw_S → Option (Int64 × gw_S)), (∀ (v1 : Int64) (v3 : Int32) (t : gw_S) (H : Heap) (locs : List Loc) (ls : Array Slot), lv_has ls 5 [(0, .ref (ad 0)), (1, .long v1)] → gw_I D (tC g ad) 83 ad A s.heap t H locs → Kx v1 v3 t = some (r0, tz) → W p l e rmX7_digest s m args below meth c H locs 0 0 (MQ below (gw_Ql D (tC g ad) 83 ad A r0 tz) args s 0 0 A) (F0 m 82 ls [])) → ∀ (n : Nat) (v1 : Int64) (v3 : Int32) (t : gw_S) (H : Heap) (locs : List Loc) (ls : Array Slot), lv_has ls 5 [(0, .ref (ad 0)), (1, .long v1), (3, .int v3)] → gw_I D (tC g ad) 83 ad A s.heap t H locs → fX7_digest_L32 Kx n v1 v3 t = some (r0, tz) → W p l e rmX7_digest s m args below meth c H locs 0 0 (MQ below (gw_Ql D (tC g ad) 83 ad A r0 tz) args s 0 0 A) (F0 m 32 ls []) := by
    intro Kx hKx n
    induction n with
    | zero =>
      intro v1 v3 t H locs ls hl I hF
      rw [fX7_digest_L32] at hF
      cases hF
    | succ n ih =>
      intro v1 v3 t H locs ls hl I hF
      rw [fX7_digest_L32] at hF
      refine lv_iload_n hx hb dX7_digest_32 rfl (lv_at hl 2 rfl) ?_
      refine lv_aload_n hx hb dX7_digest_33 rfl (lv_at hl 0 rfl) ?_
      refine gf_C_0_2 E I in_X7_digest_X7 lk_X7_digest_26 dX7_digest_34 ?_
      refine gf_C_7_2 E I in_X7_digest_X4 lk_X7_digest_128 dX7_digest_37 ?_
      refine gf_row_3 (by decide) E I in_X7_digest_X3 lk_X7_digest_112 dX7_digest_40 ?_
      refine lv_icmp_ge (tgt := 82) hx hb dX7_digest_43 (by decide) (fun c43 => ?_) (fun c43 => ?_)
      · replace hF := gw_if1 c43 hF
        exact hKx v1 v3 t _ _ _ (lv_sub hl [0, 1] rfl) I hF
      · replace hF := gw_if0 c43 hF
        refine lv_iconst (v := 0) hx hb dX7_digest_46 (by decide) ?_
        refine lv_istore (lv' := [(4, .int 0), (0, .ref (ad 0)), (1, .long v1), (3, .int v3)]) hx hb dX7_digest_47 hl (by decide) rfl (fun ls hl => ?_)
        refine hL49 _ v3 (fun v1_x49 v4_x49 t_x49 H locs ls hl I hF => ?_) 2000 v1 0 t _ _ _ (lv_sub hl [1, 2, 3, 0] rfl) I hF
        replace hF := gw_nmE hF
        obtain ⟨v3_76, ev3_76, hF⟩ := hF
        refine lv_iinc (v := v3_76) (lv' := [(3, .int v3_76), (0, .ref (ad 0)), (1, .long v1_x49)]) hx hb dX7_digest_76 hl (k := 2) rfl (by subst ev3_76; rfl) (by decide) rfl (fun ls hl => ?_)
        refine lv_goto (tgt := 32) hx hb dX7_digest_79 (by decide) ?_
        exact ih v1_x49 v3_76 t_x49 _ _ _ (lv_sub hl [1, 2, 0] rfl) I hF
  have hL6 : ∀ (Kx : Int64 → Int32 → gw_S → Option (Int64 × gw_S)), (∀ (v1 : Int64) (v3 : Int32) (t : gw_S) (H : Heap) (locs : List Loc) (ls : Array Slot), lv_has ls 5 [(0, .ref (ad 0)), (1, .long v1)] → gw_I D (tC g ad) 83 ad A s.heap t H locs → Kx v1 v3 t = some (r0, tz) → W p l e rmX7_digest s m args below meth c H locs 0 0 (MQ below (gw_Ql D (tC g ad) 83 ad A r0 tz) args s 0 0 A) (F0 m 30 ls [])) → ∀ (n : Nat) (v1 : Int64) (v3 : Int32) (t : gw_S) (H : Heap) (locs : List Loc) (ls : Array Slot), lv_has ls 5 [(0, .ref (ad 0)), (1, .long v1), (3, .int v3)] → gw_I D (tC g ad) 83 ad A s.heap t H locs → fX7_digest_L6 Kx n v1 v3 t = some (r0, tz) → W p l e rmX7_digest s m args below meth c H locs 0 0 (MQ below (gw_Ql D (tC g ad) 83 ad A r0 tz) args s 0 0 A) (F0 m 6 ls []) := by
    intro Kx hKx n
    induction n with
    | zero =>
      intro v1 v3 t H locs ls hl I hF
      rw [fX7_digest_L6] at hF
      cases hF
    | succ n ih =>
      intro v1 v3 t H locs ls hl I hF
      rw [fX7_digest_L6] at hF
      refine lv_iload_n hx hb dX7_digest_6 rfl (lv_at hl 2 rfl) ?_
      refine lv_aload_n hx hb dX7_digest_7 rfl (lv_at hl 0 rfl) ?_
      refine gf_C_0_1 E I in_X7_digest_X7 lk_X7_digest_19 dX7_digest_8 ?_
      refine gf_C_3_3 E I in_X7_digest_X2 lk_X7_digest_91 dX7_digest_11 ?_
      refine lv_icmp_ge (tgt := 30) hx hb dX7_digest_14 (by decide) (fun c14 => ?_) (fun c14 => ?_)
      · replace hF := gw_if1 c14 hF
        exact hKx v1 v3 t _ _ _ (lv_sub hl [0, 1] rfl) I hF
      · replace hF := gw_if0 c14 hF
        refine lv_aload_n hx hb dX7_digest_17 rfl (lv_at hl 0 rfl) ?_
        refine lv_lload_n hx hb dX7_digest_18 rfl (lv_at hl 1 rfl) ?_
        refine lv_iload_n hx hb dX7_digest_19 rfl (lv_at hl 2 rfl) ?_
        replace hF := gw_bdE hF
        obtain ⟨r20, e20, hF⟩ := hF
        refine gw_calll I (gw_runV E I (ok_X7_withHook l hD t v1 v3 _ e20) (cwV 2 E.1.2.2.2.2 gX7_digest_X7_withHook rfl rfl rfl (by decide +kernel) ⟨Nat.le_of_ble_eq_true rfl, Nat.le_of_ble_eq_true rfl⟩) (by decide) rfl rfl rfl hl.1 rfl (Nat.le_of_ble_eq_true rfl) dX7_digest_20) (fun H locs I => ?_)
        refine lv_lstore_n (lv' := [(1, .long r20), (0, .ref (ad 0)), (3, .int v3)]) hx hb dX7_digest_23 rfl hl (by decide) rfl (fun ls hl => ?_)
        replace hF := gw_nmE hF
        obtain ⟨v3_24, ev3_24, hF⟩ := hF
        refine lv_iinc (v := v3_24) (lv' := [(3, .int v3_24), (1, .long r20), (0, .ref (ad 0))]) hx hb dX7_digest_24 hl (k := 2) rfl (by subst ev3_24; rfl) (by decide) rfl (fun ls hl => ?_)
        refine lv_goto (tgt := 6) hx hb dX7_digest_27 (by decide) ?_
        exact ih r20 v3_24 t _ _ _ (lv_sub hl [2, 1, 0] rfl) I hF
  refine lv_ldc2 hx hb E.1.2.2.2.1 (E.1.2.2.2.2 _ kc_X7_digest_229) dX7_digest_0 ?_
  refine lv_lstore_n (lv' := [(1, .long 827), (0, .ref (ad 0))]) hx hb dX7_digest_3 rfl hl (by decide) rfl (fun ls hl => ?_)
  refine lv_iconst (v := 0) hx hb dX7_digest_4 (by decide) ?_
  refine lv_istore_n (lv' := [(3, .int 0), (1, .long 827), (0, .ref (ad 0))]) hx hb dX7_digest_5 rfl hl (by decide) rfl (fun ls hl => ?_)
  refine hL6 _  (fun v1_x6 v3_x6 t_x6 H locs ls hl I hF => ?_) 2000 827 0 t0 _ _ _ (lv_sub hl [2, 1, 0] rfl) I hF
  refine lv_iconst (v := 0) hx hb dX7_digest_30 (by decide) ?_
  refine lv_istore_n (lv' := [(3, .int 0), (0, .ref (ad 0)), (1, .long v1_x6)]) hx hb dX7_digest_31 rfl hl (by decide) rfl (fun ls hl => ?_)
  refine hL32 _  (fun v1_x32 v3_x32 t_x32 H locs ls hl I hF => ?_) 2000 v1_x6 0 t_x6 _ _ _ (lv_sub hl [1, 2, 0] rfl) I hF
  refine lv_aload_n hx hb dX7_digest_82 rfl (lv_at hl 0 rfl) ?_
  refine gf_C_0_1 E I in_X7_digest_X7 lk_X7_digest_19 dX7_digest_83 ?_
  refine gf_C_3_3 E I in_X7_digest_X2 lk_X7_digest_91 dX7_digest_86 ?_
  refine lv_if_le (tgt := 98) hx hb dX7_digest_89 (by decide) (fun c89 => ?_) (fun c89 => ?_)
  · replace hF := gw_if1 c89 hF
    exact hJ98 v1_x32 t_x32 _ _ _ (lv_sub hl [0, 1] rfl) I hF
  · replace hF := gw_if0 c89 hF
    refine lv_aload_n hx hb dX7_digest_92 rfl (lv_at hl 0 rfl) ?_
    refine lv_lload_n hx hb dX7_digest_93 rfl (lv_at hl 1 rfl) ?_
    replace hF := gw_b2E hF
    obtain ⟨r94, t_94, e94, hF⟩ := hF
    refine gw_calll I (gw_runV E I (ok_X7_withHanging l hD t_x32 v1_x32 _ _ e94) (cwV 1 E.1.2.2.2.2 gX7_digest_X7_withHanging rfl rfl rfl (by decide +kernel) ⟨Nat.le_of_ble_eq_true rfl, Nat.le_of_ble_eq_true rfl⟩) (by decide) rfl rfl rfl hl.1 rfl (Nat.le_of_ble_eq_true rfl) dX7_digest_94) (fun H locs I => ?_)
    refine lv_lstore_n (lv' := [(1, .long r94), (0, .ref (ad 0))]) hx hb dX7_digest_97 rfl hl (by decide) rfl (fun ls hl => ?_)
    exact hJ98 r94 t_94 _ _ _ (lv_sub hl [1, 0] rfl) I hF
