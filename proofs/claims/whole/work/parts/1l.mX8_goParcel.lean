/-! The contracts: each method does what its function says: written by wip/whole/genall.py. -/
abbrev rmX8_goParcel : Room := { frames := 3, cells := 0, slots := 0, locals := 65 }
theorem lk_X8_goParcel_19 : Cond.fieldLink RX8 19 "ThrownSacksModel" "hangsOn" "[I" ∈ wsX8_goParcel := by decide +kernel
theorem lk_X8_goParcel_22 : Cond.fieldLink RX8 22 "ThrownSacksModel" "manyIn" "[I" ∈ wsX8_goParcel := by decide +kernel
theorem lk_X8_goParcel_109 : Cond.fieldLink RX8 109 "ThrownSacksModel" "hooks" "I" ∈ wsX8_goParcel := by decide +kernel
theorem lk_X8_goParcel_232 : Cond.fieldLink RX8 232 "ThrownSacksModel" "cameNext" "I" ∈ wsX8_goParcel := by decide +kernel
theorem lk_X8_goParcel_235 : Cond.fieldLink RX8 235 "ThrownSacksModel" "layBeside" "I" ∈ wsX8_goParcel := by decide +kernel
theorem in_X8_goParcel_X8 : ∀ w ∈ u_ws RX8 TX8 42, w ∈ wsX8_goParcel := by decide +kernel
set_option maxHeartbeats 4000000 in
set_option maxRecDepth 100000 in
theorem ok_X8_goParcel (l : Launch) {D : va_G} {g : gw_G} {tG : Nat} {ad : Nat → Nat} {A : Nat → Prop} (hD : gw_D A 23 ad) (t0 : gw_S) (tz : gw_S) (hF : fX8_goParcel t0 = some tz) : Met l yX8_goParcel wsX8_goParcel rmX8_goParcel (gw_Pc D g tG (tM g ad) 23 ad A [.ref (ad 0)] t0) (gw_Qv D (tM g ad) 23 ad A tz) 0 0 A := by
  unfold fX8_goParcel at hF
  refine gw_met (by decide) rfl hD (Nat.le_of_ble_eq_true rfl) (fun p e s m args below meth c E hr hlocks I ls hl => ?_)
  have hx := E.1.1
  have hb := E.1.2.1
  have hl : lv_has ls 7 [(0, .ref (ad 0))] := hl
  have hJ162 : ∀ (x0 : Int32) (t : gw_S) (H : Heap) (locs : List Loc) (ls : Array Slot), lv_has ls 7 [(0, .ref (ad 0))] → gw_I D (tM g ad) 23 ad A s.heap t H locs → fX8_goParcel_J162 x0 t = some tz → W p l e rmX8_goParcel s m args below meth c H locs 0 0 (MQ below (gw_Qv D (tM g ad) 23 ad A tz) args s 0 0 A) (F0 m 162 ls [.int x0]) := by
    intro x0 t H locs ls hl I hF
    unfold fX8_goParcel_J162 at hF
    refine lv_istore (lv' := [(6, .int x0), (0, .ref (ad 0))]) hx hb dX8_goParcel_162 hl (by decide) rfl (fun ls hl => ?_)
    refine lv_aload_n hx hb dX8_goParcel_164 rfl (lv_at hl 1 rfl) ?_
    refine gf_M_0_6 E I in_X8_goParcel_X8 lk_X8_goParcel_22 dX8_goParcel_165 ?_
    refine lv_bipush (v := 6) hx hb dX8_goParcel_168 (by decide) ?_
    refine lv_iload hx hb dX8_goParcel_170 (lv_at hl 0 rfl) ?_
    refine lv_iadd hx hb dX8_goParcel_172 ?_
    refine lv_dup2_11 hx hb dX8_goParcel_173 rfl rfl ?_
    replace hF := gw_ifn hF
    obtain ⟨hz174, hF⟩ := hF
    refine gw_iald E I 5 (by decide) rfl hz174 dX8_goParcel_174 ?_
    refine lv_iconst (v := 1) hx hb dX8_goParcel_175 (by decide) ?_
    refine lv_iadd hx hb dX8_goParcel_176 ?_
    replace hF := gw_ifn hF
    obtain ⟨hz177, hF⟩ := hF
    replace hF := gw_nmE hF
    obtain ⟨t_177, et_177, hF⟩ := hF
    refine gw_iast E I 5 (by decide) (fun _ => rfl) hz177 et_177 dX8_goParcel_177 (fun H locs I => ?_)
    exact gw_vret E I hr hlocks (Option.some.inj hF) dX8_goParcel_178
  have hJ139 : ∀ (v1 : Int32) (v2 : Int32) (v5 : Int32) (x1 : Int32) (x2 : Int32) (t : gw_S) (H : Heap) (locs : List Loc) (ls : Array Slot), lv_has ls 7 [(0, .ref (ad 0)), (1, .int v1), (2, .int v2), (5, .int v5)] → gw_I D (tM g ad) 23 ad A s.heap t H locs → fX8_goParcel_J139 v1 v2 v5 x1 x2 t = some tz → W p l e rmX8_goParcel s m args below meth c H locs 0 0 (MQ below (gw_Qv D (tM g ad) 23 ad A tz) args s 0 0 A) (F0 m 139 ls [.int x2, .int x1, .ref (ad 0)]) := by
    intro v1 v2 v5 x1 x2 t H locs ls hl I hF
    unfold fX8_goParcel_J139 at hF
    refine lv_iadd hx hb dX8_goParcel_139 ?_
    replace hF := gw_nmE hF
    obtain ⟨t_140, et_140, hF⟩ := hF
    refine gp_M_0_25 E I in_X8_goParcel_X8 lk_X8_goParcel_235 et_140 dX8_goParcel_140 (fun H locs I => ?_)
    refine lv_iload hx hb dX8_goParcel_143 (lv_at hl 3 rfl) ?_
    refine lv_if_eq (tgt := 161) hx hb dX8_goParcel_145 (by decide) (fun c145 => ?_) (fun c145 => ?_)
    · replace hF := gw_if1 c145 hF
      refine lv_iload_n hx hb dX8_goParcel_161 rfl (lv_at hl 1 rfl) ?_
      exact hJ162 v1 t_140 _ _ _ (lv_sub hl [0] rfl) I hF
    · replace hF := gw_if0 c145 hF
      refine lv_aload_n hx hb dX8_goParcel_148 rfl (lv_at hl 0 rfl) ?_
      refine gf_M_0_5 E I in_X8_goParcel_X8 lk_X8_goParcel_19 dX8_goParcel_149 ?_
      refine lv_aload_n hx hb dX8_goParcel_152 rfl (lv_at hl 0 rfl) ?_
      refine lv_iload_n hx hb dX8_goParcel_153 rfl (lv_at hl 2 rfl) ?_
      refine gw_calli I (gw_runV E I (ok_X8_nextOf l hD t_140 v2 _ rfl) (cwV 1 E.1.2.2.2.2 gX8_goParcel_X8_nextOf rfl rfl rfl (by decide +kernel) ⟨Nat.le_of_ble_eq_true rfl, Nat.le_of_ble_eq_true rfl⟩) (by decide) rfl rfl rfl hl.1 rfl (Nat.le_of_ble_eq_true rfl) dX8_goParcel_154) (fun H locs I => ?_)
      replace hF := gw_ifn hF
      obtain ⟨hz157, hF⟩ := hF
      refine gw_iald E I 4 (by decide) rfl hz157 dX8_goParcel_157 ?_
      refine lv_goto (tgt := 162) hx hb dX8_goParcel_158 (by decide) ?_
      exact hJ162 (rdI t_140 4 (Int32.toNatClampNeg (fX8_nextOf v2 t_140))) t_140 _ _ _ (lv_sub hl [0] rfl) I hF
  have hJ138 : ∀ (v1 : Int32) (v2 : Int32) (v5 : Int32) (x1 : Int32) (t : gw_S) (H : Heap) (locs : List Loc) (ls : Array Slot), lv_has ls 7 [(0, .ref (ad 0)), (1, .int v1), (2, .int v2), (5, .int v5)] → gw_I D (tM g ad) 23 ad A s.heap t H locs → fX8_goParcel_J138 v1 v2 v5 x1 t = some tz → W p l e rmX8_goParcel s m args below meth c H locs 0 0 (MQ below (gw_Qv D (tM g ad) 23 ad A tz) args s 0 0 A) (F0 m 138 ls [.int x1, .ref (ad 0)]) := by
    intro v1 v2 v5 x1 t H locs ls hl I hF
    unfold fX8_goParcel_J138 at hF
    refine lv_iconst (v := 0) hx hb dX8_goParcel_138 (by decide) ?_
    exact hJ139 v1 v2 v5 x1 0 t _ _ _ (lv_sub hl [0, 1, 2, 3] rfl) I hF
  have hJ114 : ∀ (v1 : Int32) (v2 : Int32) (v3 : Int32) (v4 : Int32) (v5 : Int32) (x1 : Int32) (x2 : Int32) (t : gw_S) (H : Heap) (locs : List Loc) (ls : Array Slot), lv_has ls 7 [(0, .ref (ad 0)), (1, .int v1), (2, .int v2), (3, .int v3), (4, .int v4), (5, .int v5)] → gw_I D (tM g ad) 23 ad A s.heap t H locs → fX8_goParcel_J114 v1 v2 v3 v4 v5 x1 x2 t = some tz → W p l e rmX8_goParcel s m args below meth c H locs 0 0 (MQ below (gw_Qv D (tM g ad) 23 ad A tz) args s 0 0 A) (F0 m 114 ls [.int x2, .int x1, .ref (ad 0)]) := by
    intro v1 v2 v3 v4 v5 x1 x2 t H locs ls hl I hF
    unfold fX8_goParcel_J114 at hF
    refine lv_iadd hx hb dX8_goParcel_114 ?_
    replace hF := gw_nmE hF
    obtain ⟨t_115, et_115, hF⟩ := hF
    refine gp_M_0_24 E I in_X8_goParcel_X8 lk_X8_goParcel_232 et_115 dX8_goParcel_115 (fun H locs I => ?_)
    refine lv_aload_n hx hb dX8_goParcel_118 rfl (lv_at hl 0 rfl) ?_
    refine lv_dup hx hb dX8_goParcel_119 rfl ?_
    refine gf_M_0_25 E I in_X8_goParcel_X8 lk_X8_goParcel_235 dX8_goParcel_120 ?_
    refine lv_iload_n hx hb dX8_goParcel_123 rfl (lv_at hl 3 rfl) ?_
    refine lv_iload hx hb dX8_goParcel_124 (lv_at hl 4 rfl) ?_
    refine lv_icmp_lt (tgt := 138) hx hb dX8_goParcel_126 (by decide) (fun c126 => ?_) (fun c126 => ?_)
    · replace hF := gw_if1 c126 hF
      exact hJ138 v1 v2 v5 (rdI t_115 0 25) t_115 _ _ _ (lv_sub hl [0, 1, 2, 5] rfl) I hF
    · replace hF := gw_if0 c126 hF
      refine lv_iload hx hb dX8_goParcel_129 (lv_at hl 5 rfl) ?_
      refine lv_if_ne (tgt := 138) hx hb dX8_goParcel_131 (by decide) (fun c131 => ?_) (fun c131 => ?_)
      · replace hF := gw_if0 c131 hF
        exact hJ138 v1 v2 v5 (rdI t_115 0 25) t_115 _ _ _ (lv_sub hl [0, 1, 2, 5] rfl) I hF
      · replace hF := gw_if1 c131 hF
        refine lv_iconst (v := 1) hx hb dX8_goParcel_134 (by decide) ?_
        refine lv_goto (tgt := 139) hx hb dX8_goParcel_135 (by decide) ?_
        exact hJ139 v1 v2 v5 (rdI t_115 0 25) 1 t_115 _ _ _ (lv_sub hl [0, 1, 2, 5] rfl) I hF
  have hJ97 : ∀ (v1 : Int32) (v2 : Int32) (v3 : Int32) (v4 : Int32) (x0 : Int32) (t : gw_S) (H : Heap) (locs : List Loc) (ls : Array Slot), lv_has ls 7 [(0, .ref (ad 0)), (1, .int v1), (2, .int v2), (3, .int v3), (4, .int v4)] → gw_I D (tM g ad) 23 ad A s.heap t H locs → fX8_goParcel_J97 v1 v2 v3 v4 x0 t = some tz → W p l e rmX8_goParcel s m args below meth c H locs 0 0 (MQ below (gw_Qv D (tM g ad) 23 ad A tz) args s 0 0 A) (F0 m 97 ls [.int x0]) := by
    intro v1 v2 v3 v4 x0 t H locs ls hl I hF
    unfold fX8_goParcel_J97 at hF
    refine lv_istore (lv' := [(5, .int x0), (0, .ref (ad 0)), (1, .int v1), (2, .int v2), (3, .int v3), (4, .int v4)]) hx hb dX8_goParcel_97 hl (by decide) rfl (fun ls hl => ?_)
    refine lv_aload_n hx hb dX8_goParcel_99 rfl (lv_at hl 1 rfl) ?_
    refine lv_dup hx hb dX8_goParcel_100 rfl ?_
    refine gf_M_0_24 E I in_X8_goParcel_X8 lk_X8_goParcel_232 dX8_goParcel_101 ?_
    refine lv_iload hx hb dX8_goParcel_104 (lv_at hl 0 rfl) ?_
    refine lv_if_eq (tgt := 113) hx hb dX8_goParcel_106 (by decide) (fun c106 => ?_) (fun c106 => ?_)
    · replace hF := gw_if1 c106 hF
      refine lv_iconst (v := 0) hx hb dX8_goParcel_113 (by decide) ?_
      exact hJ114 v1 v2 v3 v4 x0 (rdI t 0 24) 0 t _ _ _ (lv_sub hl [1, 2, 3, 4, 5, 0] rfl) I hF
    · replace hF := gw_if0 c106 hF
      refine lv_iconst (v := 1) hx hb dX8_goParcel_109 (by decide) ?_
      refine lv_goto (tgt := 114) hx hb dX8_goParcel_110 (by decide) ?_
      exact hJ114 v1 v2 v3 v4 x0 (rdI t 0 24) 1 t _ _ _ (lv_sub hl [1, 2, 3, 4, 5, 0] rfl) I hF
  have hJ96 : ∀ (v1 : Int32) (v2 : Int32) (v3 : Int32) (v4 : Int32) (t : gw_S) (H : Heap) (locs : List Loc) (ls : Array Slot), lv_has ls 7 [(0, .ref (ad 0)), (1, .int v1), (2, .int v2), (3, .int v3), (4, .int v4)] → gw_I D (tM g ad) 23 ad A s.heap t H locs → fX8_goParcel_J96 v1 v2 v3 v4 t = some tz → W p l e rmX8_goParcel s m args below meth c H locs 0 0 (MQ below (gw_Qv D (tM g ad) 23 ad A tz) args s 0 0 A) (F0 m 96 ls []) := by
    intro v1 v2 v3 v4 t H locs ls hl I hF
    unfold fX8_goParcel_J96 at hF
    refine lv_iconst (v := 0) hx hb dX8_goParcel_96 (by decide) ?_
    exact hJ97 v1 v2 v3 v4 0 t _ _ _ (lv_sub hl [0, 1, 2, 3, 4] rfl) I hF
  have hJ45 : ∀ (v1 : Int32) (v2 : Int32) (x1 : Int32) (x2 : Int32) (t : gw_S) (H : Heap) (locs : List Loc) (ls : Array Slot), lv_has ls 7 [(0, .ref (ad 0)), (1, .int v1), (2, .int v2)] → gw_I D (tM g ad) 23 ad A s.heap t H locs → fX8_goParcel_J45 v1 v2 x1 x2 t = some tz → W p l e rmX8_goParcel s m args below meth c H locs 0 0 (MQ below (gw_Qv D (tM g ad) 23 ad A tz) args s 0 0 A) (F0 m 45 ls [.int x2, .int x1, .ref (ad 5)]) := by
    intro v1 v2 x1 x2 t H locs ls hl I hF
    unfold fX8_goParcel_J45 at hF
    replace hF := gw_ifn hF
    obtain ⟨hz45, hF⟩ := hF
    replace hF := gw_nmE hF
    obtain ⟨t_45, et_45, hF⟩ := hF
    refine gw_iast E I 5 (by decide) (fun _ => rfl) hz45 et_45 dX8_goParcel_45 (fun H locs I => ?_)
    refine lv_aload_n hx hb dX8_goParcel_46 rfl (lv_at hl 0 rfl) ?_
    refine lv_bipush (v := 10) hx hb dX8_goParcel_47 (by decide) ?_
    replace hF := gw_b2E hF
    obtain ⟨r49, t_49, e49, hF⟩ := hF
    refine gw_calli I (gw_runV E I (ok_X8_draw l hD t_45 10 _ _ e49) (cwV 1 E.1.2.2.2.2 gX8_goParcel_X8_draw rfl rfl rfl (by decide +kernel) ⟨Nat.le_of_ble_eq_true rfl, Nat.le_of_ble_eq_true rfl⟩) (by decide) rfl rfl rfl hl.1 rfl (Nat.le_of_ble_eq_true rfl) dX8_goParcel_49) (fun H locs I => ?_)
    refine lv_istore_n (lv' := [(3, .int r49), (0, .ref (ad 0)), (1, .int v1), (2, .int v2)]) hx hb dX8_goParcel_52 rfl hl (by decide) rfl (fun ls hl => ?_)
    refine lv_aload_n hx hb dX8_goParcel_53 rfl (lv_at hl 1 rfl) ?_
    refine lv_iconst (v := 0) hx hb dX8_goParcel_54 (by decide) ?_
    refine lv_iload_n hx hb dX8_goParcel_55 rfl (lv_at hl 3 rfl) ?_
    replace hF := gw_bdE hF
    obtain ⟨r56, e56, hF⟩ := hF
    refine gw_calli I (gw_runV E I (ok_X8_tenthsIn l hD t_49 0 v2 _ e56) (cwV 2 E.1.2.2.2.2 gX8_goParcel_X8_tenthsIn rfl rfl rfl (by decide +kernel) ⟨Nat.le_of_ble_eq_true rfl, Nat.le_of_ble_eq_true rfl⟩) (by decide) rfl rfl rfl hl.1 rfl (Nat.le_of_ble_eq_true rfl) dX8_goParcel_56) (fun H locs I => ?_)
    refine lv_istore (lv' := [(4, .int r56), (3, .int r49), (0, .ref (ad 0)), (1, .int v1), (2, .int v2)]) hx hb dX8_goParcel_59 hl (by decide) rfl (fun ls hl => ?_)
    refine lv_iload_n hx hb dX8_goParcel_61 rfl (lv_at hl 1 rfl) ?_
    refine lv_iload hx hb dX8_goParcel_62 (lv_at hl 0 rfl) ?_
    refine lv_icmp_lt (tgt := 96) hx hb dX8_goParcel_64 (by decide) (fun c64 => ?_) (fun c64 => ?_)
    · replace hF := gw_if1 c64 hF
      exact hJ96 v1 v2 r49 r56 t_49 _ _ _ (lv_sub hl [2, 3, 4, 1, 0] rfl) I hF
    · replace hF := gw_if0 c64 hF
      refine lv_iload_n hx hb dX8_goParcel_67 rfl (lv_at hl 1 rfl) ?_
      refine lv_iload hx hb dX8_goParcel_68 (lv_at hl 0 rfl) ?_
      refine lv_aload_n hx hb dX8_goParcel_70 rfl (lv_at hl 2 rfl) ?_
      refine lv_iconst (v := 0) hx hb dX8_goParcel_71 (by decide) ?_
      refine lv_iload_n hx hb dX8_goParcel_72 rfl (lv_at hl 4 rfl) ?_
      replace hF := gw_bdE hF
      obtain ⟨r73, e73, hF⟩ := hF
      refine gw_calli I (gw_runV E I (ok_X8_tenthsNext l hD t_49 0 v2 _ e73) (cwV 2 E.1.2.2.2.2 gX8_goParcel_X8_tenthsNext rfl rfl rfl (by decide +kernel) ⟨Nat.le_of_ble_eq_true rfl, Nat.le_of_ble_eq_true rfl⟩) (by decide) rfl rfl rfl hl.1 rfl (Nat.le_of_ble_eq_true rfl) dX8_goParcel_73) (fun H locs I => ?_)
      refine lv_iadd hx hb dX8_goParcel_76 ?_
      refine lv_icmp_ge (tgt := 96) hx hb dX8_goParcel_77 (by decide) (fun c77 => ?_) (fun c77 => ?_)
      · replace hF := gw_if1 c77 hF
        exact hJ96 v1 v2 r49 r56 t_49 _ _ _ (lv_sub hl [2, 3, 4, 1, 0] rfl) I hF
      · replace hF := gw_if0 c77 hF
        refine lv_aload_n hx hb dX8_goParcel_80 rfl (lv_at hl 2 rfl) ?_
        refine lv_aload_n hx hb dX8_goParcel_81 rfl (lv_at hl 2 rfl) ?_
        refine lv_iload_n hx hb dX8_goParcel_82 rfl (lv_at hl 4 rfl) ?_
        refine gw_calli I (gw_runV E I (ok_X8_nextOf l hD t_49 v2 _ rfl) (cwV 1 E.1.2.2.2.2 gX8_goParcel_X8_nextOf rfl rfl rfl (by decide +kernel) ⟨Nat.le_of_ble_eq_true rfl, Nat.le_of_ble_eq_true rfl⟩) (by decide) rfl rfl rfl hl.1 rfl (Nat.le_of_ble_eq_true rfl) dX8_goParcel_83) (fun H locs I => ?_)
        replace hF := gw_bdE hF
        obtain ⟨r86, e86, hF⟩ := hF
        refine gw_calli I (gw_runV E I (ok_X8_wouldBeFull l hD t_49 (fX8_nextOf v2 t_49) _ e86) (cwV 1 E.1.2.2.2.2 gX8_goParcel_X8_wouldBeFull rfl rfl rfl (by decide +kernel) ⟨Nat.le_of_ble_eq_true rfl, Nat.le_of_ble_eq_true rfl⟩) (by decide) rfl rfl rfl hl.1 rfl (Nat.le_of_ble_eq_true rfl) dX8_goParcel_86) (fun H locs I => ?_)
        refine lv_if_ne (tgt := 96) hx hb dX8_goParcel_89 (by decide) (fun c89 => ?_) (fun c89 => ?_)
        · replace hF := gw_if0 c89 hF
          exact hJ96 v1 v2 r49 r56 t_49 _ _ _ (lv_sub hl [2, 3, 4, 1, 0] rfl) I hF
        · replace hF := gw_if1 c89 hF
          refine lv_iconst (v := 1) hx hb dX8_goParcel_92 (by decide) ?_
          refine lv_goto (tgt := 97) hx hb dX8_goParcel_93 (by decide) ?_
          exact hJ97 v1 v2 r49 r56 1 t_49 _ _ _ (lv_sub hl [2, 3, 4, 1, 0] rfl) I hF
  refine lv_aload_n hx hb dX8_goParcel_0 rfl (lv_at hl 0 rfl) ?_
  refine lv_aload_n hx hb dX8_goParcel_1 rfl (lv_at hl 0 rfl) ?_
  refine gf_M_0_1 E I in_X8_goParcel_X8 lk_X8_goParcel_109 dX8_goParcel_2 ?_
  replace hF := gw_b2E hF
  obtain ⟨r5, t_5, e5, hF⟩ := hF
  refine gw_calli I (gw_runV E I (ok_X8_draw l hD t0 (rdI t0 0 1) _ _ e5) (cwV 1 E.1.2.2.2.2 gX8_goParcel_X8_draw rfl rfl rfl (by decide +kernel) ⟨Nat.le_of_ble_eq_true rfl, Nat.le_of_ble_eq_true rfl⟩) (by decide) rfl rfl rfl hl.1 rfl (Nat.le_of_ble_eq_true rfl) dX8_goParcel_5) (fun H locs I => ?_)
  refine lv_istore_n (lv' := [(1, .int r5), (0, .ref (ad 0))]) hx hb dX8_goParcel_8 rfl hl (by decide) rfl (fun ls hl => ?_)
  refine lv_aload_n hx hb dX8_goParcel_9 rfl (lv_at hl 1 rfl) ?_
  refine lv_iconst (v := 0) hx hb dX8_goParcel_10 (by decide) ?_
  refine lv_iload_n hx hb dX8_goParcel_11 rfl (lv_at hl 0 rfl) ?_
  replace hF := gw_bdE hF
  obtain ⟨r12, e12, hF⟩ := hF
  refine gw_calli I (gw_runV E I (ok_X8_hookOf l hD t_5 0 r5 _ e12) (cwV 2 E.1.2.2.2.2 gX8_goParcel_X8_hookOf rfl rfl rfl (by decide +kernel) ⟨Nat.le_of_ble_eq_true rfl, Nat.le_of_ble_eq_true rfl⟩) (by decide) rfl rfl rfl hl.1 rfl (Nat.le_of_ble_eq_true rfl) dX8_goParcel_12) (fun H locs I => ?_)
  refine lv_istore_n (lv' := [(2, .int r12), (1, .int r5), (0, .ref (ad 0))]) hx hb dX8_goParcel_15 rfl hl (by decide) rfl (fun ls hl => ?_)
  refine lv_aload_n hx hb dX8_goParcel_16 rfl (lv_at hl 2 rfl) ?_
  refine gf_M_0_6 E I in_X8_goParcel_X8 lk_X8_goParcel_22 dX8_goParcel_17 ?_
  refine lv_bipush (v := 6) hx hb dX8_goParcel_20 (by decide) ?_
  refine lv_iload_n hx hb dX8_goParcel_22 rfl (lv_at hl 1 rfl) ?_
  refine lv_iadd hx hb dX8_goParcel_23 ?_
  refine lv_aload_n hx hb dX8_goParcel_24 rfl (lv_at hl 2 rfl) ?_
  refine lv_iload_n hx hb dX8_goParcel_25 rfl (lv_at hl 0 rfl) ?_
  replace hF := gw_bdE hF
  obtain ⟨r26, e26, hF⟩ := hF
  refine gw_calli I (gw_runV E I (ok_X8_wouldBeFull l hD t_5 r12 _ e26) (cwV 1 E.1.2.2.2.2 gX8_goParcel_X8_wouldBeFull rfl rfl rfl (by decide +kernel) ⟨Nat.le_of_ble_eq_true rfl, Nat.le_of_ble_eq_true rfl⟩) (by decide) rfl rfl rfl hl.1 rfl (Nat.le_of_ble_eq_true rfl) dX8_goParcel_26) (fun H locs I => ?_)
  refine lv_if_eq (tgt := 36) hx hb dX8_goParcel_29 (by decide) (fun c29 => ?_) (fun c29 => ?_)
  · replace hF := gw_if1 c29 hF
    refine lv_aload_n hx hb dX8_goParcel_36 rfl (lv_at hl 2 rfl) ?_
    refine gf_M_0_6 E I in_X8_goParcel_X8 lk_X8_goParcel_22 dX8_goParcel_37 ?_
    refine lv_bipush (v := 6) hx hb dX8_goParcel_40 (by decide) ?_
    refine lv_iload_n hx hb dX8_goParcel_42 rfl (lv_at hl 1 rfl) ?_
    refine lv_iadd hx hb dX8_goParcel_43 ?_
    replace hF := gw_ifn hF
    obtain ⟨hz44, hF⟩ := hF
    refine gw_iald E I 5 (by decide) rfl hz44 dX8_goParcel_44 ?_
    exact hJ45 r5 r12 (6 + r5) (rdI t_5 5 (Int32.toNatClampNeg (6 + r5))) t_5 _ _ _ (lv_sub hl [2, 1, 0] rfl) I hF
  · replace hF := gw_if0 c29 hF
    refine lv_iconst (v := 0) hx hb dX8_goParcel_32 (by decide) ?_
    refine lv_goto (tgt := 45) hx hb dX8_goParcel_33 (by decide) ?_
    exact hJ45 r5 r12 (6 + r5) 0 t_5 _ _ _ (lv_sub hl [2, 1, 0] rfl) I hF
abbrev rmX8_shiftsNow : Room := { frames := 4, cells := 0, slots := 0, locals := 91 }
theorem lk_X8_shiftsNow_22 : Cond.fieldLink RX8 22 "ThrownSacksModel" "manyIn" "[I" ∈ wsX8_shiftsNow := by decide +kernel
theorem lk_X8_shiftsNow_216 : Cond.fieldLink RX8 216 "ThrownSacksModel" "seedNow" "J" ∈ wsX8_shiftsNow := by decide +kernel
theorem lk_X8_shiftsNow_232 : Cond.fieldLink RX8 232 "ThrownSacksModel" "cameNext" "I" ∈ wsX8_shiftsNow := by decide +kernel
theorem lk_X8_shiftsNow_235 : Cond.fieldLink RX8 235 "ThrownSacksModel" "layBeside" "I" ∈ wsX8_shiftsNow := by decide +kernel
theorem in_X8_shiftsNow_X8 : ∀ w ∈ u_ws RX8 TX8 42, w ∈ wsX8_shiftsNow := by decide +kernel
set_option maxHeartbeats 4000000 in
set_option maxRecDepth 100000 in
theorem ok_X8_shiftsNow (l : Launch) {D : va_G} {g : gw_G} {tG : Nat} {ad : Nat → Nat} {A : Nat → Prop} (hD : gw_D A 23 ad) (t0 : gw_S) (v1 : Int32) (v2 : Int32) (v3 : Int32) (r0 : Int32) (tz : gw_S) (hF : fX8_shiftsNow v1 v2 v3 t0 = some (r0, tz)) : Met l yX8_shiftsNow wsX8_shiftsNow rmX8_shiftsNow (gw_Pc D g tG (tM g ad) 23 ad A [.ref (ad 0), .int v1, .int v2, .int v3] t0) (gw_Qi D (tM g ad) 23 ad A r0 tz) 0 0 A := by
  unfold fX8_shiftsNow at hF
  refine gw_met (by decide) rfl hD (Nat.le_of_ble_eq_true rfl) (fun p e s m args below meth c E hr hlocks I ls hl => ?_)
  have hx := E.1.1
  have hb := E.1.2.1
  have hl : lv_has ls 5 [(0, .ref (ad 0)), (1, .int v1), (2, .int v2), (3, .int v3)] := hl
  have hL46 : ∀ (Kx : Int32 → gw_S → Option (Int32 × gw_S)) (v1 : Int32) (v3 : Int32), (∀ (v4 : Int32) (t : gw_S) (H : Heap) (locs : List Loc) (ls : Array Slot), lv_has ls 5 [(0, .ref (ad 0)), (3, .int v3)] → gw_I D (tM g ad) 23 ad A s.heap t H locs → Kx v4 t = some (r0, tz) → W p l e rmX8_shiftsNow s m args below meth c H locs 0 0 (MQ below (gw_Qi D (tM g ad) 23 ad A r0 tz) args s 0 0 A) (F0 m 62 ls [])) → ∀ (n : Nat) (v4 : Int32) (t : gw_S) (H : Heap) (locs : List Loc) (ls : Array Slot), lv_has ls 5 [(0, .ref (ad 0)), (1, .int v1), (3, .int v3), (4, .int v4)] → gw_I D (tM g ad) 23 ad A s.heap t H locs → fX8_shiftsNow_L46 Kx v1 v3 n v4 t = some (r0, tz) → W p l e rmX8_shiftsNow s m args below meth c H locs 0 0 (MQ below (gw_Qi D (tM g ad) 23 ad A r0 tz) args s 0 0 A) (F0 m 46 ls []) := by
    intro Kx v1 v3 hKx n
    induction n with
    | zero =>
      intro v4 t H locs ls hl I hF
      rw [fX8_shiftsNow_L46] at hF
      cases hF
    | succ n ih =>
      intro v4 t H locs ls hl I hF
      rw [fX8_shiftsNow_L46] at hF
      refine lv_iload hx hb dX8_shiftsNow_46 (lv_at hl 3 rfl) ?_
      refine lv_iload_n hx hb dX8_shiftsNow_48 rfl (lv_at hl 1 rfl) ?_
      refine lv_icmp_ge (tgt := 62) hx hb dX8_shiftsNow_49 (by decide) (fun c49 => ?_) (fun c49 => ?_)
      · replace hF := gw_if1 c49 hF
        exact hKx v4 t _ _ _ (lv_sub hl [0, 2] rfl) I hF
      · replace hF := gw_if0 c49 hF
        refine lv_aload_n hx hb dX8_shiftsNow_52 rfl (lv_at hl 0 rfl) ?_
        replace hF := gw_bdE hF
        obtain ⟨t_53, e53, hF⟩ := hF
        refine gw_callv I (gw_runV E I (ok_X8_goParcel l hD t _ e53) (cwV 0 E.1.2.2.2.2 gX8_shiftsNow_X8_goParcel rfl rfl rfl (by decide +kernel) ⟨Nat.le_of_ble_eq_true rfl, Nat.le_of_ble_eq_true rfl⟩) (by decide) rfl rfl rfl hl.1 rfl (Nat.le_of_ble_eq_true rfl) dX8_shiftsNow_53) (fun H locs I => ?_)
        replace hF := gw_nmE hF
        obtain ⟨v4_56, ev4_56, hF⟩ := hF
        refine lv_iinc (v := v4_56) (lv' := [(4, .int v4_56), (0, .ref (ad 0)), (1, .int v1), (3, .int v3)]) hx hb dX8_shiftsNow_56 hl (k := 3) rfl (by subst ev4_56; rfl) (by decide) rfl (fun ls hl => ?_)
        refine lv_goto (tgt := 46) hx hb dX8_shiftsNow_59 (by decide) ?_
        exact ih v4_56 t_53 _ _ _ (lv_sub hl [1, 2, 3, 0] rfl) I hF
  have hL3 : ∀ (Kx : Int32 → gw_S → Option (Int32 × gw_S)) (v1 : Int32) (v2 : Int32) (v3 : Int32), (∀ (v4 : Int32) (t : gw_S) (H : Heap) (locs : List Loc) (ls : Array Slot), lv_has ls 5 [(0, .ref (ad 0)), (1, .int v1), (2, .int v2), (3, .int v3)] → gw_I D (tM g ad) 23 ad A s.heap t H locs → Kx v4 t = some (r0, tz) → W p l e rmX8_shiftsNow s m args below meth c H locs 0 0 (MQ below (gw_Qi D (tM g ad) 23 ad A r0 tz) args s 0 0 A) (F0 m 27 ls [])) → ∀ (n : Nat) (v4 : Int32) (t : gw_S) (H : Heap) (locs : List Loc) (ls : Array Slot), lv_has ls 5 [(0, .ref (ad 0)), (1, .int v1), (2, .int v2), (3, .int v3), (4, .int v4)] → gw_I D (tM g ad) 23 ad A s.heap t H locs → fX8_shiftsNow_L3 Kx v1 v2 v3 n v4 t = some (r0, tz) → W p l e rmX8_shiftsNow s m args below meth c H locs 0 0 (MQ below (gw_Qi D (tM g ad) 23 ad A r0 tz) args s 0 0 A) (F0 m 3 ls []) := by
    intro Kx v1 v2 v3 hKx n
    induction n with
    | zero =>
      intro v4 t H locs ls hl I hF
      rw [fX8_shiftsNow_L3] at hF
      cases hF
    | succ n ih =>
      intro v4 t H locs ls hl I hF
      rw [fX8_shiftsNow_L3] at hF
      refine lv_iload hx hb dX8_shiftsNow_3 (lv_at hl 4 rfl) ?_
      refine lv_bipush (v := 6) hx hb dX8_shiftsNow_5 (by decide) ?_
      refine lv_icmp_ge (tgt := 27) hx hb dX8_shiftsNow_7 (by decide) (fun c7 => ?_) (fun c7 => ?_)
      · replace hF := gw_if1 c7 hF
        exact hKx v4 t _ _ _ (lv_sub hl [0, 1, 2, 3] rfl) I hF
      · replace hF := gw_if0 c7 hF
        refine lv_aload_n hx hb dX8_shiftsNow_10 rfl (lv_at hl 0 rfl) ?_
        refine gf_M_0_6 E I in_X8_shiftsNow_X8 lk_X8_shiftsNow_22 dX8_shiftsNow_11 ?_
        refine lv_bipush (v := 6) hx hb dX8_shiftsNow_14 (by decide) ?_
        refine lv_iload hx hb dX8_shiftsNow_16 (lv_at hl 4 rfl) ?_
        refine lv_iadd hx hb dX8_shiftsNow_18 ?_
        refine lv_iconst (v := 0) hx hb dX8_shiftsNow_19 (by decide) ?_
        replace hF := gw_ifn hF
        obtain ⟨hz20, hF⟩ := hF
        replace hF := gw_nmE hF
        obtain ⟨t_20, et_20, hF⟩ := hF
        refine gw_iast E I 5 (by decide) (fun _ => rfl) hz20 et_20 dX8_shiftsNow_20 (fun H locs I => ?_)
        replace hF := gw_nmE hF
        obtain ⟨v4_21, ev4_21, hF⟩ := hF
        refine lv_iinc (v := v4_21) (lv' := [(4, .int v4_21), (0, .ref (ad 0)), (1, .int v1), (2, .int v2), (3, .int v3)]) hx hb dX8_shiftsNow_21 hl (k := 4) rfl (by subst ev4_21; rfl) (by decide) rfl (fun ls hl => ?_)
        refine lv_goto (tgt := 3) hx hb dX8_shiftsNow_24 (by decide) ?_
        exact ih v4_21 t_20 _ _ _ (lv_sub hl [1, 2, 3, 4, 0] rfl) I hF
  refine lv_iconst (v := 0) hx hb dX8_shiftsNow_0 (by decide) ?_
  refine lv_istore (lv' := [(4, .int 0), (0, .ref (ad 0)), (1, .int v1), (2, .int v2), (3, .int v3)]) hx hb dX8_shiftsNow_1 hl (by decide) rfl (fun ls hl => ?_)
  refine hL3 _ v1 v2 v3 (fun v4_x3 t_x3 H locs ls hl I hF => ?_) 2000 0 t0 _ _ _ (lv_sub hl [1, 2, 3, 4, 0] rfl) I hF
  refine lv_aload_n hx hb dX8_shiftsNow_27 rfl (lv_at hl 0 rfl) ?_
  refine lv_iload_n hx hb dX8_shiftsNow_28 rfl (lv_at hl 2 rfl) ?_
  refine lv_i2l hx hb dX8_shiftsNow_29 rfl ?_
  replace hF := gw_nmE hF
  obtain ⟨t_30, et_30, hF⟩ := hF
  refine gp_M_0_23 E I in_X8_shiftsNow_X8 lk_X8_shiftsNow_216 et_30 dX8_shiftsNow_30 (fun H locs I => ?_)
  refine lv_aload_n hx hb dX8_shiftsNow_33 rfl (lv_at hl 0 rfl) ?_
  refine lv_iconst (v := 0) hx hb dX8_shiftsNow_34 (by decide) ?_
  replace hF := gw_nmE hF
  obtain ⟨t_35, et_35, hF⟩ := hF
  refine gp_M_0_24 E I in_X8_shiftsNow_X8 lk_X8_shiftsNow_232 et_35 dX8_shiftsNow_35 (fun H locs I => ?_)
  refine lv_aload_n hx hb dX8_shiftsNow_38 rfl (lv_at hl 0 rfl) ?_
  refine lv_iconst (v := 0) hx hb dX8_shiftsNow_39 (by decide) ?_
  replace hF := gw_nmE hF
  obtain ⟨t_40, et_40, hF⟩ := hF
  refine gp_M_0_25 E I in_X8_shiftsNow_X8 lk_X8_shiftsNow_235 et_40 dX8_shiftsNow_40 (fun H locs I => ?_)
  refine lv_iconst (v := 0) hx hb dX8_shiftsNow_43 (by decide) ?_
  refine lv_istore (lv' := [(4, .int 0), (0, .ref (ad 0)), (1, .int v1), (2, .int v2), (3, .int v3)]) hx hb dX8_shiftsNow_44 hl (by decide) rfl (fun ls hl => ?_)
  refine hL46 _ v1 v3 (fun v4_x46 t_x46 H locs ls hl I hF => ?_) 2000 0 t_40 _ _ _ (lv_sub hl [1, 2, 4, 0] rfl) I hF
  refine lv_iload_n hx hb dX8_shiftsNow_62 rfl (lv_at hl 1 rfl) ?_
  refine lv_if_ne (tgt := 73) hx hb dX8_shiftsNow_63 (by decide) (fun c63 => ?_) (fun c63 => ?_)
  · replace hF := gw_if0 c63 hF
    refine lv_iload_n hx hb dX8_shiftsNow_73 rfl (lv_at hl 1 rfl) ?_
    refine lv_iconst (v := 1) hx hb dX8_shiftsNow_74 (by decide) ?_
    refine lv_icmp_ne (tgt := 85) hx hb dX8_shiftsNow_75 (by decide) (fun c75 => ?_) (fun c75 => ?_)
    · replace hF := gw_if0 c75 hF
      refine lv_aload_n hx hb dX8_shiftsNow_85 rfl (lv_at hl 0 rfl) ?_
      refine gf_M_0_23 E I in_X8_shiftsNow_X8 lk_X8_shiftsNow_216 dX8_shiftsNow_86 ?_
      refine lv_l2i hx hb dX8_shiftsNow_89 rfl ?_
      exact gw_iret E I hr hlocks rfl (Prod.mk.inj (Option.some.inj hF)).1 (Prod.mk.inj (Option.some.inj hF)).2 dX8_shiftsNow_90
    · replace hF := gw_if1 c75 hF
      refine lv_aload_n hx hb dX8_shiftsNow_78 rfl (lv_at hl 0 rfl) ?_
      refine gf_M_0_25 E I in_X8_shiftsNow_X8 lk_X8_shiftsNow_235 dX8_shiftsNow_79 ?_
      refine lv_goto (tgt := 90) hx hb dX8_shiftsNow_82 (by decide) ?_
      exact gw_iret E I hr hlocks rfl (Prod.mk.inj (Option.some.inj hF)).1 (Prod.mk.inj (Option.some.inj hF)).2 dX8_shiftsNow_90
  · replace hF := gw_if1 c63 hF
    refine lv_aload_n hx hb dX8_shiftsNow_66 rfl (lv_at hl 0 rfl) ?_
    refine gf_M_0_24 E I in_X8_shiftsNow_X8 lk_X8_shiftsNow_232 dX8_shiftsNow_67 ?_
    refine lv_goto (tgt := 90) hx hb dX8_shiftsNow_70 (by decide) ?_
    exact gw_iret E I hr hlocks rfl (Prod.mk.inj (Option.some.inj hF)).1 (Prod.mk.inj (Option.some.inj hF)).2 dX8_shiftsNow_90
abbrev rmX8_shifts : Room := { frames := 5, cells := 0, slots := 0, locals := 115 }
theorem lk_X8_shifts_109 : Cond.fieldLink RX8 109 "ThrownSacksModel" "hooks" "I" ∈ wsX8_shifts := by decide +kernel
theorem in_X8_shifts_X8 : ∀ w ∈ u_ws RX8 TX8 42, w ∈ wsX8_shifts := by decide +kernel
set_option maxHeartbeats 4000000 in
set_option maxRecDepth 100000 in
theorem ok_X8_shifts (l : Launch) {D : va_G} {g : gw_G} {tG : Nat} {ad : Nat → Nat} {A : Nat → Prop} (hD : gw_D A 23 ad) (t0 : gw_S) (v1 : Int32) (v2 : Int32) (v3 : Int32) (r0 : Int32) (tz : gw_S) (hF : fX8_shifts v1 v2 v3 t0 = some (r0, tz)) : Met l yX8_shifts wsX8_shifts rmX8_shifts (gw_Pc D g tG (tM g ad) 23 ad A [.ref (ad 0), .int v1, .int v2, .int v3] t0) (gw_Qi D (tM g ad) 23 ad A r0 tz) 0 0 A := by
  unfold fX8_shifts at hF
  refine gw_met (by decide) rfl hD (Nat.le_of_ble_eq_true rfl) (fun p e s m args below meth c E hr hlocks I ls hl => ?_)
  have hx := E.1.1
  have hb := E.1.2.1
  have hl : lv_has ls 4 [(0, .ref (ad 0)), (1, .int v1), (2, .int v2), (3, .int v3)] := hl
  refine lv_iload_n hx hb dX8_shifts_0 rfl (lv_at hl 1 rfl) ?_
  refine lv_iconst (v := 1) hx hb dX8_shifts_1 (by decide) ?_
  refine lv_bipush (v := 60) hx hb dX8_shifts_2 (by decide) ?_
  refine gw_calli I (gw_runS E I (ok_X8_within l hD t0 v1 1 60 _ rfl) (va_cwS 3 E.1.2.2.2.2 gX8_shifts_X8_within rfl rfl rfl (by decide +kernel) ⟨Nat.le_of_ble_eq_true rfl, Nat.le_of_ble_eq_true rfl⟩) rfl hl.1 rfl (Nat.le_of_ble_eq_true rfl) dX8_shifts_4) (fun H locs I => ?_)
  refine lv_if_eq (tgt := 23) hx hb dX8_shifts_7 (by decide) (fun c7 => ?_) (fun c7 => ?_)
  · replace hF := gw_if1 c7 hF
    refine lv_bipush (v := (-102)) hx hb dX8_shifts_23 (by decide) ?_
    exact gw_iret E I hr hlocks rfl (Prod.mk.inj (Option.some.inj hF)).1 (Prod.mk.inj (Option.some.inj hF)).2 dX8_shifts_25
  · replace hF := gw_if0 c7 hF
    refine lv_iload_n hx hb dX8_shifts_10 rfl (lv_at hl 2 rfl) ?_
    refine lv_if_lt (tgt := 23) hx hb dX8_shifts_11 (by decide) (fun c11 => ?_) (fun c11 => ?_)
    · replace hF := gw_if1 c11 hF
      refine lv_bipush (v := (-102)) hx hb dX8_shifts_23 (by decide) ?_
      exact gw_iret E I hr hlocks rfl (Prod.mk.inj (Option.some.inj hF)).1 (Prod.mk.inj (Option.some.inj hF)).2 dX8_shifts_25
    · replace hF := gw_if0 c11 hF
      refine lv_iload_n hx hb dX8_shifts_14 rfl (lv_at hl 3 rfl) ?_
      refine lv_iconst (v := 0) hx hb dX8_shifts_15 (by decide) ?_
      refine lv_iconst (v := 2) hx hb dX8_shifts_16 (by decide) ?_
      refine gw_calli I (gw_runS E I (ok_X8_within l hD t0 v3 0 2 _ rfl) (va_cwS 3 E.1.2.2.2.2 gX8_shifts_X8_within rfl rfl rfl (by decide +kernel) ⟨Nat.le_of_ble_eq_true rfl, Nat.le_of_ble_eq_true rfl⟩) rfl hl.1 rfl (Nat.le_of_ble_eq_true rfl) dX8_shifts_17) (fun H locs I => ?_)
      refine lv_if_ne (tgt := 26) hx hb dX8_shifts_20 (by decide) (fun c20 => ?_) (fun c20 => ?_)
      · replace hF := gw_if0 c20 hF
        refine lv_aload_n hx hb dX8_shifts_26 rfl (lv_at hl 0 rfl) ?_
        refine gf_M_0_1 E I in_X8_shifts_X8 lk_X8_shifts_109 dX8_shifts_27 ?_
        refine lv_if_ne (tgt := 38) hx hb dX8_shifts_30 (by decide) (fun c30 => ?_) (fun c30 => ?_)
        · replace hF := gw_if0 c30 hF
          refine lv_aload_n hx hb dX8_shifts_38 rfl (lv_at hl 0 rfl) ?_
          refine lv_iload_n hx hb dX8_shifts_39 rfl (lv_at hl 1 rfl) ?_
          refine lv_iload_n hx hb dX8_shifts_40 rfl (lv_at hl 2 rfl) ?_
          refine lv_iload_n hx hb dX8_shifts_41 rfl (lv_at hl 3 rfl) ?_
          replace hF := gw_b2E hF
          obtain ⟨r42, t_42, e42, hF⟩ := hF
          refine gw_calli I (gw_runV E I (ok_X8_shiftsNow l hD t0 v1 v2 v3 _ _ e42) (cwV 3 E.1.2.2.2.2 gX8_shifts_X8_shiftsNow rfl rfl rfl (by decide +kernel) ⟨Nat.le_of_ble_eq_true rfl, Nat.le_of_ble_eq_true rfl⟩) (by decide) rfl rfl rfl hl.1 rfl (Nat.le_of_ble_eq_true rfl) dX8_shifts_42) (fun H locs I => ?_)
          exact gw_iret E I hr hlocks rfl (Prod.mk.inj (Option.some.inj hF)).1 (Prod.mk.inj (Option.some.inj hF)).2 dX8_shifts_45
        · replace hF := gw_if1 c30 hF
          refine lv_bipush (v := (-103)) hx hb dX8_shifts_33 (by decide) ?_
          refine lv_goto (tgt := 45) hx hb dX8_shifts_35 (by decide) ?_
          exact gw_iret E I hr hlocks rfl (Prod.mk.inj (Option.some.inj hF)).1 (Prod.mk.inj (Option.some.inj hF)).2 dX8_shifts_45
      · replace hF := gw_if1 c20 hF
        refine lv_bipush (v := (-102)) hx hb dX8_shifts_23 (by decide) ?_
        exact gw_iret E I hr hlocks rfl (Prod.mk.inj (Option.some.inj hF)).1 (Prod.mk.inj (Option.some.inj hF)).2 dX8_shifts_25
abbrev rmX8_image : Room := { frames := 0, cells := 0, slots := 0, locals := 0 }
theorem lk_X8_image_19 : Cond.fieldLink RX8 19 "ThrownSacksModel" "hangsOn" "[I" ∈ wsX8_image := by decide +kernel
theorem lk_X8_image_22 : Cond.fieldLink RX8 22 "ThrownSacksModel" "manyIn" "[I" ∈ wsX8_image := by decide +kernel
theorem lk_X8_image_25 : Cond.fieldLink RX8 25 "ThrownSacksModel" "wrongIn" "[I" ∈ wsX8_image := by decide +kernel
theorem lk_X8_image_28 : Cond.fieldLink RX8 28 "ThrownSacksModel" "glassIn" "[I" ∈ wsX8_image := by decide +kernel
theorem lk_X8_image_31 : Cond.fieldLink RX8 31 "ThrownSacksModel" "wholeIn" "[I" ∈ wsX8_image := by decide +kernel
theorem lk_X8_image_34 : Cond.fieldLink RX8 34 "ThrownSacksModel" "beltKind" "[I" ∈ wsX8_image := by decide +kernel
theorem lk_X8_image_37 : Cond.fieldLink RX8 37 "ThrownSacksModel" "beltTown" "[I" ∈ wsX8_image := by decide +kernel
theorem lk_X8_image_40 : Cond.fieldLink RX8 40 "ThrownSacksModel" "foundTown" "[I" ∈ wsX8_image := by decide +kernel
theorem lk_X8_image_43 : Cond.fieldLink RX8 43 "ThrownSacksModel" "foundIn" "[I" ∈ wsX8_image := by decide +kernel
theorem lk_X8_image_50 : Cond.fieldLink RX8 50 "ThrownSacksModel" "keptHangs" "[I" ∈ wsX8_image := by decide +kernel
theorem lk_X8_image_53 : Cond.fieldLink RX8 53 "ThrownSacksModel" "keptMany" "[I" ∈ wsX8_image := by decide +kernel
theorem lk_X8_image_56 : Cond.fieldLink RX8 56 "ThrownSacksModel" "keptWrong" "[I" ∈ wsX8_image := by decide +kernel
theorem lk_X8_image_59 : Cond.fieldLink RX8 59 "ThrownSacksModel" "keptGlass" "[I" ∈ wsX8_image := by decide +kernel
theorem lk_X8_image_62 : Cond.fieldLink RX8 62 "ThrownSacksModel" "keptWhole" "[I" ∈ wsX8_image := by decide +kernel
theorem lk_X8_image_65 : Cond.fieldLink RX8 65 "ThrownSacksModel" "keptKind" "[I" ∈ wsX8_image := by decide +kernel
theorem lk_X8_image_68 : Cond.fieldLink RX8 68 "ThrownSacksModel" "keptTown" "[I" ∈ wsX8_image := by decide +kernel
theorem lk_X8_image_71 : Cond.fieldLink RX8 71 "ThrownSacksModel" "keptFoundTown" "[I" ∈ wsX8_image := by decide +kernel
theorem lk_X8_image_74 : Cond.fieldLink RX8 74 "ThrownSacksModel" "keptFoundIn" "[I" ∈ wsX8_image := by decide +kernel
theorem lk_X8_image_109 : Cond.fieldLink RX8 109 "ThrownSacksModel" "hooks" "I" ∈ wsX8_image := by decide +kernel
theorem lk_X8_image_115 : Cond.fieldLink RX8 115 "ThrownSacksModel" "floors" "I" ∈ wsX8_image := by decide +kernel
theorem lk_X8_image_118 : Cond.fieldLink RX8 118 "ThrownSacksModel" "onBelt" "I" ∈ wsX8_image := by decide +kernel
theorem lk_X8_image_121 : Cond.fieldLink RX8 121 "ThrownSacksModel" "seconds" "I" ∈ wsX8_image := by decide +kernel
theorem lk_X8_image_124 : Cond.fieldLink RX8 124 "ThrownSacksModel" "harmed" "I" ∈ wsX8_image := by decide +kernel
theorem lk_X8_image_127 : Cond.fieldLink RX8 127 "ThrownSacksModel" "found" "I" ∈ wsX8_image := by decide +kernel
theorem lk_X8_image_244 : Cond.fieldLink RX8 244 "ThrownSacksModel" "isKept" "Z" ∈ wsX8_image := by decide +kernel
theorem lk_X8_image_247 : Cond.fieldLink RX8 247 "ThrownSacksModel" "keptFloor" "I" ∈ wsX8_image := by decide +kernel
theorem lk_X8_image_250 : Cond.fieldLink RX8 250 "ThrownSacksModel" "keptBelt" "I" ∈ wsX8_image := by decide +kernel
theorem lk_X8_image_253 : Cond.fieldLink RX8 253 "ThrownSacksModel" "keptSeconds" "I" ∈ wsX8_image := by decide +kernel
theorem lk_X8_image_256 : Cond.fieldLink RX8 256 "ThrownSacksModel" "keptHarmed" "I" ∈ wsX8_image := by decide +kernel
theorem lk_X8_image_259 : Cond.fieldLink RX8 259 "ThrownSacksModel" "keptFound" "I" ∈ wsX8_image := by decide +kernel
theorem in_X8_image_X8 : ∀ w ∈ u_ws RX8 TX8 42, w ∈ wsX8_image := by decide +kernel
set_option maxHeartbeats 4000000 in
set_option maxRecDepth 100000 in
theorem ok_X8_image (l : Launch) {D : va_G} {g : gw_G} {tG : Nat} {ad : Nat → Nat} {A : Nat → Prop} (hD : gw_D A 23 ad) (t0 : gw_S) (r0 : Int32) (tz : gw_S) (hF : fX8_image t0 = some (r0, tz)) : Met l yX8_image wsX8_image rmX8_image (gw_Pc D g tG (tM g ad) 23 ad A [.ref (ad 0)] t0) (gw_Qi D (tM g ad) 23 ad A r0 tz) 0 0 A := by
  unfold fX8_image at hF
  refine gw_met (by decide) rfl hD (Nat.le_of_ble_eq_true rfl) (fun p e s m args below meth c E hr hlocks I ls hl => ?_)
  have hx := E.1.1
  have hb := E.1.2.1
  have hl : lv_has ls 2 [(0, .ref (ad 0))] := hl
  have hL131 : ∀ (Kx : Int32 → gw_S → Option (Int32 × gw_S)), (∀ (v1 : Int32) (t : gw_S) (H : Heap) (locs : List Loc) (ls : Array Slot), lv_has ls 2 [(0, .ref (ad 0))] → gw_I D (tM g ad) 23 ad A s.heap t H locs → Kx v1 t = some (r0, tz) → W p l e rmX8_image s m args below meth c H locs 0 0 (MQ below (gw_Qi D (tM g ad) 23 ad A r0 tz) args s 0 0 A) (F0 m 191 ls [])) → ∀ (n : Nat) (v1 : Int32) (t : gw_S) (H : Heap) (locs : List Loc) (ls : Array Slot), lv_has ls 2 [(0, .ref (ad 0)), (1, .int v1)] → gw_I D (tM g ad) 23 ad A s.heap t H locs → fX8_image_L131 Kx n v1 t = some (r0, tz) → W p l e rmX8_image s m args below meth c H locs 0 0 (MQ below (gw_Qi D (tM g ad) 23 ad A r0 tz) args s 0 0 A) (F0 m 131 ls []) := by
    intro Kx hKx n
    induction n with
    | zero =>
      intro v1 t H locs ls hl I hF
      rw [fX8_image_L131] at hF
      cases hF
    | succ n ih =>
      intro v1 t H locs ls hl I hF
      rw [fX8_image_L131] at hF
      refine lv_iload_n hx hb dX8_image_131 rfl (lv_at hl 1 rfl) ?_
      refine lv_bipush (v := 8) hx hb dX8_image_132 (by decide) ?_
      refine lv_icmp_ge (tgt := 191) hx hb dX8_image_134 (by decide) (fun c134 => ?_) (fun c134 => ?_)
      · replace hF := gw_if1 c134 hF
        exact hKx v1 t _ _ _ (lv_sub hl [0] rfl) I hF
      · replace hF := gw_if0 c134 hF
        refine lv_aload_n hx hb dX8_image_137 rfl (lv_at hl 0 rfl) ?_
        refine gf_M_0_37 E I in_X8_image_X8 lk_X8_image_65 dX8_image_138 ?_
        refine lv_iload_n hx hb dX8_image_141 rfl (lv_at hl 1 rfl) ?_
        refine lv_aload_n hx hb dX8_image_142 rfl (lv_at hl 0 rfl) ?_
        refine gf_M_0_11 E I in_X8_image_X8 lk_X8_image_34 dX8_image_143 ?_
        refine lv_iload_n hx hb dX8_image_146 rfl (lv_at hl 1 rfl) ?_
        replace hF := gw_ifn hF
        obtain ⟨hz147, hF⟩ := hF
        refine gw_iald E I 9 (by decide) rfl hz147 dX8_image_147 ?_
        replace hF := gw_ifn hF
        obtain ⟨hz148, hF⟩ := hF
        replace hF := gw_nmE hF
        obtain ⟨t_148, et_148, hF⟩ := hF
        refine gw_iast E I 19 (by decide) (fun _ => rfl) hz148 et_148 dX8_image_148 (fun H locs I => ?_)
        refine lv_aload_n hx hb dX8_image_149 rfl (lv_at hl 0 rfl) ?_
        refine gf_M_0_38 E I in_X8_image_X8 lk_X8_image_68 dX8_image_150 ?_
        refine lv_iload_n hx hb dX8_image_153 rfl (lv_at hl 1 rfl) ?_
        refine lv_aload_n hx hb dX8_image_154 rfl (lv_at hl 0 rfl) ?_
        refine gf_M_0_12 E I in_X8_image_X8 lk_X8_image_37 dX8_image_155 ?_
        refine lv_iload_n hx hb dX8_image_158 rfl (lv_at hl 1 rfl) ?_
        replace hF := gw_ifn hF
        obtain ⟨hz159, hF⟩ := hF
        refine gw_iald E I 10 (by decide) rfl hz159 dX8_image_159 ?_
        replace hF := gw_ifn hF
        obtain ⟨hz160, hF⟩ := hF
        replace hF := gw_nmE hF
        obtain ⟨t_160, et_160, hF⟩ := hF
        refine gw_iast E I 20 (by decide) (fun _ => rfl) hz160 et_160 dX8_image_160 (fun H locs I => ?_)
        refine lv_aload_n hx hb dX8_image_161 rfl (lv_at hl 0 rfl) ?_
        refine gf_M_0_39 E I in_X8_image_X8 lk_X8_image_71 dX8_image_162 ?_
        refine lv_iload_n hx hb dX8_image_165 rfl (lv_at hl 1 rfl) ?_
        refine lv_aload_n hx hb dX8_image_166 rfl (lv_at hl 0 rfl) ?_
        refine gf_M_0_16 E I in_X8_image_X8 lk_X8_image_40 dX8_image_167 ?_
        refine lv_iload_n hx hb dX8_image_170 rfl (lv_at hl 1 rfl) ?_
        replace hF := gw_ifn hF
        obtain ⟨hz171, hF⟩ := hF
        refine gw_iald E I 11 (by decide) rfl hz171 dX8_image_171 ?_
        replace hF := gw_ifn hF
        obtain ⟨hz172, hF⟩ := hF
        replace hF := gw_nmE hF
        obtain ⟨t_172, et_172, hF⟩ := hF
        refine gw_iast E I 21 (by decide) (fun _ => rfl) hz172 et_172 dX8_image_172 (fun H locs I => ?_)
        refine lv_aload_n hx hb dX8_image_173 rfl (lv_at hl 0 rfl) ?_
        refine gf_M_0_40 E I in_X8_image_X8 lk_X8_image_74 dX8_image_174 ?_
        refine lv_iload_n hx hb dX8_image_177 rfl (lv_at hl 1 rfl) ?_
        refine lv_aload_n hx hb dX8_image_178 rfl (lv_at hl 0 rfl) ?_
        refine gf_M_0_17 E I in_X8_image_X8 lk_X8_image_43 dX8_image_179 ?_
        refine lv_iload_n hx hb dX8_image_182 rfl (lv_at hl 1 rfl) ?_
        replace hF := gw_ifn hF
        obtain ⟨hz183, hF⟩ := hF
        refine gw_iald E I 12 (by decide) rfl hz183 dX8_image_183 ?_
        replace hF := gw_ifn hF
        obtain ⟨hz184, hF⟩ := hF
        replace hF := gw_nmE hF
        obtain ⟨t_184, et_184, hF⟩ := hF
        refine gw_iast E I 22 (by decide) (fun _ => rfl) hz184 et_184 dX8_image_184 (fun H locs I => ?_)
        replace hF := gw_nmE hF
        obtain ⟨v1_185, ev1_185, hF⟩ := hF
        refine lv_iinc (v := v1_185) (lv' := [(1, .int v1_185), (0, .ref (ad 0))]) hx hb dX8_image_185 hl (k := 1) rfl (by subst ev1_185; rfl) (by decide) rfl (fun ls hl => ?_)
        refine lv_goto (tgt := 131) hx hb dX8_image_188 (by decide) ?_
        exact ih v1_185 t_184 _ _ _ (lv_sub hl [1, 0] rfl) I hF
  have hL57 : ∀ (Kx : Int32 → gw_S → Option (Int32 × gw_S)), (∀ (v1 : Int32) (t : gw_S) (H : Heap) (locs : List Loc) (ls : Array Slot), lv_has ls 2 [(0, .ref (ad 0))] → gw_I D (tM g ad) 23 ad A s.heap t H locs → Kx v1 t = some (r0, tz) → W p l e rmX8_image s m args below meth c H locs 0 0 (MQ below (gw_Qi D (tM g ad) 23 ad A r0 tz) args s 0 0 A) (F0 m 129 ls [])) → ∀ (n : Nat) (v1 : Int32) (t : gw_S) (H : Heap) (locs : List Loc) (ls : Array Slot), lv_has ls 2 [(0, .ref (ad 0)), (1, .int v1)] → gw_I D (tM g ad) 23 ad A s.heap t H locs → fX8_image_L57 Kx n v1 t = some (r0, tz) → W p l e rmX8_image s m args below meth c H locs 0 0 (MQ below (gw_Qi D (tM g ad) 23 ad A r0 tz) args s 0 0 A) (F0 m 57 ls []) := by
    intro Kx hKx n
    induction n with
    | zero =>
      intro v1 t H locs ls hl I hF
      rw [fX8_image_L57] at hF
      cases hF
    | succ n ih =>
      intro v1 t H locs ls hl I hF
      rw [fX8_image_L57] at hF
      refine lv_iload_n hx hb dX8_image_57 rfl (lv_at hl 1 rfl) ?_
      refine lv_bipush (v := 6) hx hb dX8_image_58 (by decide) ?_
      refine lv_icmp_ge (tgt := 129) hx hb dX8_image_60 (by decide) (fun c60 => ?_) (fun c60 => ?_)
      · replace hF := gw_if1 c60 hF
        exact hKx v1 t _ _ _ (lv_sub hl [0] rfl) I hF
      · replace hF := gw_if0 c60 hF
        refine lv_aload_n hx hb dX8_image_63 rfl (lv_at hl 0 rfl) ?_
        refine gf_M_0_32 E I in_X8_image_X8 lk_X8_image_50 dX8_image_64 ?_
        refine lv_iload_n hx hb dX8_image_67 rfl (lv_at hl 1 rfl) ?_
        refine lv_aload_n hx hb dX8_image_68 rfl (lv_at hl 0 rfl) ?_
        refine gf_M_0_5 E I in_X8_image_X8 lk_X8_image_19 dX8_image_69 ?_
        refine lv_iload_n hx hb dX8_image_72 rfl (lv_at hl 1 rfl) ?_
        replace hF := gw_ifn hF
        obtain ⟨hz73, hF⟩ := hF
        refine gw_iald E I 4 (by decide) rfl hz73 dX8_image_73 ?_
        replace hF := gw_ifn hF
        obtain ⟨hz74, hF⟩ := hF
        replace hF := gw_nmE hF
        obtain ⟨t_74, et_74, hF⟩ := hF
        refine gw_iast E I 14 (by decide) (fun _ => rfl) hz74 et_74 dX8_image_74 (fun H locs I => ?_)
        refine lv_aload_n hx hb dX8_image_75 rfl (lv_at hl 0 rfl) ?_
        refine gf_M_0_33 E I in_X8_image_X8 lk_X8_image_53 dX8_image_76 ?_
        refine lv_iload_n hx hb dX8_image_79 rfl (lv_at hl 1 rfl) ?_
        refine lv_aload_n hx hb dX8_image_80 rfl (lv_at hl 0 rfl) ?_
        refine gf_M_0_6 E I in_X8_image_X8 lk_X8_image_22 dX8_image_81 ?_
        refine lv_iload_n hx hb dX8_image_84 rfl (lv_at hl 1 rfl) ?_
        replace hF := gw_ifn hF
        obtain ⟨hz85, hF⟩ := hF
        refine gw_iald E I 5 (by decide) rfl hz85 dX8_image_85 ?_
        replace hF := gw_ifn hF
        obtain ⟨hz86, hF⟩ := hF
        replace hF := gw_nmE hF
        obtain ⟨t_86, et_86, hF⟩ := hF
        refine gw_iast E I 15 (by decide) (fun _ => rfl) hz86 et_86 dX8_image_86 (fun H locs I => ?_)
        refine lv_aload_n hx hb dX8_image_87 rfl (lv_at hl 0 rfl) ?_
        refine gf_M_0_34 E I in_X8_image_X8 lk_X8_image_56 dX8_image_88 ?_
        refine lv_iload_n hx hb dX8_image_91 rfl (lv_at hl 1 rfl) ?_
        refine lv_aload_n hx hb dX8_image_92 rfl (lv_at hl 0 rfl) ?_
        refine gf_M_0_7 E I in_X8_image_X8 lk_X8_image_25 dX8_image_93 ?_
        refine lv_iload_n hx hb dX8_image_96 rfl (lv_at hl 1 rfl) ?_
        replace hF := gw_ifn hF
        obtain ⟨hz97, hF⟩ := hF
        refine gw_iald E I 6 (by decide) rfl hz97 dX8_image_97 ?_
        replace hF := gw_ifn hF
        obtain ⟨hz98, hF⟩ := hF
        replace hF := gw_nmE hF
        obtain ⟨t_98, et_98, hF⟩ := hF
        refine gw_iast E I 16 (by decide) (fun _ => rfl) hz98 et_98 dX8_image_98 (fun H locs I => ?_)
        refine lv_aload_n hx hb dX8_image_99 rfl (lv_at hl 0 rfl) ?_
        refine gf_M_0_35 E I in_X8_image_X8 lk_X8_image_59 dX8_image_100 ?_
        refine lv_iload_n hx hb dX8_image_103 rfl (lv_at hl 1 rfl) ?_
        refine lv_aload_n hx hb dX8_image_104 rfl (lv_at hl 0 rfl) ?_
        refine gf_M_0_8 E I in_X8_image_X8 lk_X8_image_28 dX8_image_105 ?_
        refine lv_iload_n hx hb dX8_image_108 rfl (lv_at hl 1 rfl) ?_
        replace hF := gw_ifn hF
        obtain ⟨hz109, hF⟩ := hF
        refine gw_iald E I 7 (by decide) rfl hz109 dX8_image_109 ?_
        replace hF := gw_ifn hF
        obtain ⟨hz110, hF⟩ := hF
        replace hF := gw_nmE hF
        obtain ⟨t_110, et_110, hF⟩ := hF
        refine gw_iast E I 17 (by decide) (fun _ => rfl) hz110 et_110 dX8_image_110 (fun H locs I => ?_)
        refine lv_aload_n hx hb dX8_image_111 rfl (lv_at hl 0 rfl) ?_
        refine gf_M_0_36 E I in_X8_image_X8 lk_X8_image_62 dX8_image_112 ?_
        refine lv_iload_n hx hb dX8_image_115 rfl (lv_at hl 1 rfl) ?_
        refine lv_aload_n hx hb dX8_image_116 rfl (lv_at hl 0 rfl) ?_
        refine gf_M_0_9 E I in_X8_image_X8 lk_X8_image_31 dX8_image_117 ?_
        refine lv_iload_n hx hb dX8_image_120 rfl (lv_at hl 1 rfl) ?_
        replace hF := gw_ifn hF
        obtain ⟨hz121, hF⟩ := hF
        refine gw_iald E I 8 (by decide) rfl hz121 dX8_image_121 ?_
        replace hF := gw_ifn hF
        obtain ⟨hz122, hF⟩ := hF
        replace hF := gw_nmE hF
        obtain ⟨t_122, et_122, hF⟩ := hF
        refine gw_iast E I 18 (by decide) (fun _ => rfl) hz122 et_122 dX8_image_122 (fun H locs I => ?_)
        replace hF := gw_nmE hF
        obtain ⟨v1_123, ev1_123, hF⟩ := hF
        refine lv_iinc (v := v1_123) (lv' := [(1, .int v1_123), (0, .ref (ad 0))]) hx hb dX8_image_123 hl (k := 1) rfl (by subst ev1_123; rfl) (by decide) rfl (fun ls hl => ?_)
        refine lv_goto (tgt := 57) hx hb dX8_image_126 (by decide) ?_
        exact ih v1_123 t_122 _ _ _ (lv_sub hl [1, 0] rfl) I hF
  refine lv_aload_n hx hb dX8_image_0 rfl (lv_at hl 0 rfl) ?_
  refine gf_M_0_1 E I in_X8_image_X8 lk_X8_image_109 dX8_image_1 ?_
  refine lv_if_ne (tgt := 10) hx hb dX8_image_4 (by decide) (fun c4 => ?_) (fun c4 => ?_)
  · replace hF := gw_if0 c4 hF
    refine lv_aload_n hx hb dX8_image_10 rfl (lv_at hl 0 rfl) ?_
    refine lv_iconst (v := 1) hx hb dX8_image_11 (by decide) ?_
    replace hF := gw_nmE hF
    obtain ⟨t_12, et_12, hF⟩ := hF
    refine gp_M_0_26 E I in_X8_image_X8 lk_X8_image_244 (by decide) et_12 dX8_image_12 (fun H locs I => ?_)
    refine lv_aload_n hx hb dX8_image_15 rfl (lv_at hl 0 rfl) ?_
    refine lv_aload_n hx hb dX8_image_16 rfl (lv_at hl 0 rfl) ?_
    refine gf_M_0_0 E I in_X8_image_X8 lk_X8_image_115 dX8_image_17 ?_
    replace hF := gw_nmE hF
    obtain ⟨t_20, et_20, hF⟩ := hF
    refine gp_M_0_27 E I in_X8_image_X8 lk_X8_image_247 et_20 dX8_image_20 (fun H locs I => ?_)
    refine lv_aload_n hx hb dX8_image_23 rfl (lv_at hl 0 rfl) ?_
    refine lv_aload_n hx hb dX8_image_24 rfl (lv_at hl 0 rfl) ?_
    refine gf_M_0_10 E I in_X8_image_X8 lk_X8_image_118 dX8_image_25 ?_
    replace hF := gw_nmE hF
    obtain ⟨t_28, et_28, hF⟩ := hF
    refine gp_M_0_28 E I in_X8_image_X8 lk_X8_image_250 et_28 dX8_image_28 (fun H locs I => ?_)
    refine lv_aload_n hx hb dX8_image_31 rfl (lv_at hl 0 rfl) ?_
    refine lv_aload_n hx hb dX8_image_32 rfl (lv_at hl 0 rfl) ?_
    refine gf_M_0_13 E I in_X8_image_X8 lk_X8_image_121 dX8_image_33 ?_
    replace hF := gw_nmE hF
    obtain ⟨t_36, et_36, hF⟩ := hF
    refine gp_M_0_29 E I in_X8_image_X8 lk_X8_image_253 et_36 dX8_image_36 (fun H locs I => ?_)
    refine lv_aload_n hx hb dX8_image_39 rfl (lv_at hl 0 rfl) ?_
    refine lv_aload_n hx hb dX8_image_40 rfl (lv_at hl 0 rfl) ?_
    refine gf_M_0_14 E I in_X8_image_X8 lk_X8_image_124 dX8_image_41 ?_
    replace hF := gw_nmE hF
    obtain ⟨t_44, et_44, hF⟩ := hF
    refine gp_M_0_30 E I in_X8_image_X8 lk_X8_image_256 et_44 dX8_image_44 (fun H locs I => ?_)
    refine lv_aload_n hx hb dX8_image_47 rfl (lv_at hl 0 rfl) ?_
    refine lv_aload_n hx hb dX8_image_48 rfl (lv_at hl 0 rfl) ?_
    refine gf_M_0_15 E I in_X8_image_X8 lk_X8_image_127 dX8_image_49 ?_
    replace hF := gw_nmE hF
    obtain ⟨t_52, et_52, hF⟩ := hF
    refine gp_M_0_31 E I in_X8_image_X8 lk_X8_image_259 et_52 dX8_image_52 (fun H locs I => ?_)
    refine lv_iconst (v := 0) hx hb dX8_image_55 (by decide) ?_
    refine lv_istore_n (lv' := [(1, .int 0), (0, .ref (ad 0))]) hx hb dX8_image_56 rfl hl (by decide) rfl (fun ls hl => ?_)
    refine hL57 _  (fun v1_x57 t_x57 H locs ls hl I hF => ?_) 2000 0 t_52 _ _ _ (lv_sub hl [1, 0] rfl) I hF
    refine lv_iconst (v := 0) hx hb dX8_image_129 (by decide) ?_
    refine lv_istore_n (lv' := [(1, .int 0), (0, .ref (ad 0))]) hx hb dX8_image_130 rfl hl (by decide) rfl (fun ls hl => ?_)
    refine hL131 _  (fun v1_x131 t_x131 H locs ls hl I hF => ?_) 2000 0 t_x57 _ _ _ (lv_sub hl [1, 0] rfl) I hF
    refine lv_aload_n hx hb dX8_image_191 rfl (lv_at hl 0 rfl) ?_
    refine gf_M_0_13 E I in_X8_image_X8 lk_X8_image_121 dX8_image_192 ?_
    exact gw_iret E I hr hlocks rfl (Prod.mk.inj (Option.some.inj hF)).1 (Prod.mk.inj (Option.some.inj hF)).2 dX8_image_195
  · replace hF := gw_if1 c4 hF
    refine lv_bipush (v := (-103)) hx hb dX8_image_7 (by decide) ?_
    exact gw_iret E I hr hlocks rfl (Prod.mk.inj (Option.some.inj hF)).1 (Prod.mk.inj (Option.some.inj hF)).2 dX8_image_9
abbrev rmX8_restore : Room := { frames := 0, cells := 0, slots := 0, locals := 0 }
theorem lk_X8_restore_19 : Cond.fieldLink RX8 19 "ThrownSacksModel" "hangsOn" "[I" ∈ wsX8_restore := by decide +kernel
theorem lk_X8_restore_22 : Cond.fieldLink RX8 22 "ThrownSacksModel" "manyIn" "[I" ∈ wsX8_restore := by decide +kernel
theorem lk_X8_restore_25 : Cond.fieldLink RX8 25 "ThrownSacksModel" "wrongIn" "[I" ∈ wsX8_restore := by decide +kernel
theorem lk_X8_restore_28 : Cond.fieldLink RX8 28 "ThrownSacksModel" "glassIn" "[I" ∈ wsX8_restore := by decide +kernel
theorem lk_X8_restore_31 : Cond.fieldLink RX8 31 "ThrownSacksModel" "wholeIn" "[I" ∈ wsX8_restore := by decide +kernel
theorem lk_X8_restore_34 : Cond.fieldLink RX8 34 "ThrownSacksModel" "beltKind" "[I" ∈ wsX8_restore := by decide +kernel
theorem lk_X8_restore_37 : Cond.fieldLink RX8 37 "ThrownSacksModel" "beltTown" "[I" ∈ wsX8_restore := by decide +kernel
theorem lk_X8_restore_40 : Cond.fieldLink RX8 40 "ThrownSacksModel" "foundTown" "[I" ∈ wsX8_restore := by decide +kernel
theorem lk_X8_restore_43 : Cond.fieldLink RX8 43 "ThrownSacksModel" "foundIn" "[I" ∈ wsX8_restore := by decide +kernel
theorem lk_X8_restore_50 : Cond.fieldLink RX8 50 "ThrownSacksModel" "keptHangs" "[I" ∈ wsX8_restore := by decide +kernel
theorem lk_X8_restore_53 : Cond.fieldLink RX8 53 "ThrownSacksModel" "keptMany" "[I" ∈ wsX8_restore := by decide +kernel
theorem lk_X8_restore_56 : Cond.fieldLink RX8 56 "ThrownSacksModel" "keptWrong" "[I" ∈ wsX8_restore := by decide +kernel
theorem lk_X8_restore_59 : Cond.fieldLink RX8 59 "ThrownSacksModel" "keptGlass" "[I" ∈ wsX8_restore := by decide +kernel
theorem lk_X8_restore_62 : Cond.fieldLink RX8 62 "ThrownSacksModel" "keptWhole" "[I" ∈ wsX8_restore := by decide +kernel
theorem lk_X8_restore_65 : Cond.fieldLink RX8 65 "ThrownSacksModel" "keptKind" "[I" ∈ wsX8_restore := by decide +kernel
theorem lk_X8_restore_68 : Cond.fieldLink RX8 68 "ThrownSacksModel" "keptTown" "[I" ∈ wsX8_restore := by decide +kernel
theorem lk_X8_restore_71 : Cond.fieldLink RX8 71 "ThrownSacksModel" "keptFoundTown" "[I" ∈ wsX8_restore := by decide +kernel
theorem lk_X8_restore_74 : Cond.fieldLink RX8 74 "ThrownSacksModel" "keptFoundIn" "[I" ∈ wsX8_restore := by decide +kernel
theorem lk_X8_restore_115 : Cond.fieldLink RX8 115 "ThrownSacksModel" "floors" "I" ∈ wsX8_restore := by decide +kernel
theorem lk_X8_restore_118 : Cond.fieldLink RX8 118 "ThrownSacksModel" "onBelt" "I" ∈ wsX8_restore := by decide +kernel
theorem lk_X8_restore_121 : Cond.fieldLink RX8 121 "ThrownSacksModel" "seconds" "I" ∈ wsX8_restore := by decide +kernel
theorem lk_X8_restore_124 : Cond.fieldLink RX8 124 "ThrownSacksModel" "harmed" "I" ∈ wsX8_restore := by decide +kernel
theorem lk_X8_restore_127 : Cond.fieldLink RX8 127 "ThrownSacksModel" "found" "I" ∈ wsX8_restore := by decide +kernel
theorem lk_X8_restore_244 : Cond.fieldLink RX8 244 "ThrownSacksModel" "isKept" "Z" ∈ wsX8_restore := by decide +kernel
theorem lk_X8_restore_247 : Cond.fieldLink RX8 247 "ThrownSacksModel" "keptFloor" "I" ∈ wsX8_restore := by decide +kernel
theorem lk_X8_restore_250 : Cond.fieldLink RX8 250 "ThrownSacksModel" "keptBelt" "I" ∈ wsX8_restore := by decide +kernel
theorem lk_X8_restore_253 : Cond.fieldLink RX8 253 "ThrownSacksModel" "keptSeconds" "I" ∈ wsX8_restore := by decide +kernel
theorem lk_X8_restore_256 : Cond.fieldLink RX8 256 "ThrownSacksModel" "keptHarmed" "I" ∈ wsX8_restore := by decide +kernel
theorem lk_X8_restore_259 : Cond.fieldLink RX8 259 "ThrownSacksModel" "keptFound" "I" ∈ wsX8_restore := by decide +kernel
theorem in_X8_restore_X8 : ∀ w ∈ u_ws RX8 TX8 42, w ∈ wsX8_restore := by decide +kernel
set_option maxHeartbeats 4000000 in
set_option maxRecDepth 100000 in
theorem ok_X8_restore (l : Launch) {D : va_G} {g : gw_G} {tG : Nat} {ad : Nat → Nat} {A : Nat → Prop} (hD : gw_D A 23 ad) (t0 : gw_S) (r0 : Int32) (tz : gw_S) (hF : fX8_restore t0 = some (r0, tz)) : Met l yX8_restore wsX8_restore rmX8_restore (gw_Pc D g tG (tM g ad) 23 ad A [.ref (ad 0)] t0) (gw_Qi D (tM g ad) 23 ad A r0 tz) 0 0 A := by
  unfold fX8_restore at hF
  refine gw_met (by decide) rfl hD (Nat.le_of_ble_eq_true rfl) (fun p e s m args below meth c E hr hlocks I ls hl => ?_)
  have hx := E.1.1
  have hb := E.1.2.1
  have hl : lv_has ls 2 [(0, .ref (ad 0))] := hl
  have hL129 : ∀ (Kx : Int32 → gw_S → Option (Int32 × gw_S)), (∀ (v1 : Int32) (t : gw_S) (H : Heap) (locs : List Loc) (ls : Array Slot), lv_has ls 2 [(0, .ref (ad 0))] → gw_I D (tM g ad) 23 ad A s.heap t H locs → Kx v1 t = some (r0, tz) → W p l e rmX8_restore s m args below meth c H locs 0 0 (MQ below (gw_Qi D (tM g ad) 23 ad A r0 tz) args s 0 0 A) (F0 m 189 ls [])) → ∀ (n : Nat) (v1 : Int32) (t : gw_S) (H : Heap) (locs : List Loc) (ls : Array Slot), lv_has ls 2 [(0, .ref (ad 0)), (1, .int v1)] → gw_I D (tM g ad) 23 ad A s.heap t H locs → fX8_restore_L129 Kx n v1 t = some (r0, tz) → W p l e rmX8_restore s m args below meth c H locs 0 0 (MQ below (gw_Qi D (tM g ad) 23 ad A r0 tz) args s 0 0 A) (F0 m 129 ls []) := by
    intro Kx hKx n
    induction n with
    | zero =>
      intro v1 t H locs ls hl I hF
      rw [fX8_restore_L129] at hF
      cases hF
    | succ n ih =>
      intro v1 t H locs ls hl I hF
      rw [fX8_restore_L129] at hF
      refine lv_iload_n hx hb dX8_restore_129 rfl (lv_at hl 1 rfl) ?_
      refine lv_bipush (v := 8) hx hb dX8_restore_130 (by decide) ?_
      refine lv_icmp_ge (tgt := 189) hx hb dX8_restore_132 (by decide) (fun c132 => ?_) (fun c132 => ?_)
      · replace hF := gw_if1 c132 hF
        exact hKx v1 t _ _ _ (lv_sub hl [0] rfl) I hF
      · replace hF := gw_if0 c132 hF
        refine lv_aload_n hx hb dX8_restore_135 rfl (lv_at hl 0 rfl) ?_
        refine gf_M_0_11 E I in_X8_restore_X8 lk_X8_restore_34 dX8_restore_136 ?_
        refine lv_iload_n hx hb dX8_restore_139 rfl (lv_at hl 1 rfl) ?_
        refine lv_aload_n hx hb dX8_restore_140 rfl (lv_at hl 0 rfl) ?_
        refine gf_M_0_37 E I in_X8_restore_X8 lk_X8_restore_65 dX8_restore_141 ?_
        refine lv_iload_n hx hb dX8_restore_144 rfl (lv_at hl 1 rfl) ?_
        replace hF := gw_ifn hF
        obtain ⟨hz145, hF⟩ := hF
        refine gw_iald E I 19 (by decide) rfl hz145 dX8_restore_145 ?_
        replace hF := gw_ifn hF
        obtain ⟨hz146, hF⟩ := hF
        replace hF := gw_nmE hF
        obtain ⟨t_146, et_146, hF⟩ := hF
        refine gw_iast E I 9 (by decide) (fun _ => rfl) hz146 et_146 dX8_restore_146 (fun H locs I => ?_)
        refine lv_aload_n hx hb dX8_restore_147 rfl (lv_at hl 0 rfl) ?_
        refine gf_M_0_12 E I in_X8_restore_X8 lk_X8_restore_37 dX8_restore_148 ?_
        refine lv_iload_n hx hb dX8_restore_151 rfl (lv_at hl 1 rfl) ?_
        refine lv_aload_n hx hb dX8_restore_152 rfl (lv_at hl 0 rfl) ?_
        refine gf_M_0_38 E I in_X8_restore_X8 lk_X8_restore_68 dX8_restore_153 ?_
        refine lv_iload_n hx hb dX8_restore_156 rfl (lv_at hl 1 rfl) ?_
        replace hF := gw_ifn hF
        obtain ⟨hz157, hF⟩ := hF
        refine gw_iald E I 20 (by decide) rfl hz157 dX8_restore_157 ?_
        replace hF := gw_ifn hF
        obtain ⟨hz158, hF⟩ := hF
        replace hF := gw_nmE hF
        obtain ⟨t_158, et_158, hF⟩ := hF
        refine gw_iast E I 10 (by decide) (fun _ => rfl) hz158 et_158 dX8_restore_158 (fun H locs I => ?_)
        refine lv_aload_n hx hb dX8_restore_159 rfl (lv_at hl 0 rfl) ?_
        refine gf_M_0_16 E I in_X8_restore_X8 lk_X8_restore_40 dX8_restore_160 ?_
        refine lv_iload_n hx hb dX8_restore_163 rfl (lv_at hl 1 rfl) ?_
        refine lv_aload_n hx hb dX8_restore_164 rfl (lv_at hl 0 rfl) ?_
        refine gf_M_0_39 E I in_X8_restore_X8 lk_X8_restore_71 dX8_restore_165 ?_
        refine lv_iload_n hx hb dX8_restore_168 rfl (lv_at hl 1 rfl) ?_
        replace hF := gw_ifn hF
        obtain ⟨hz169, hF⟩ := hF
        refine gw_iald E I 21 (by decide) rfl hz169 dX8_restore_169 ?_
        replace hF := gw_ifn hF
        obtain ⟨hz170, hF⟩ := hF
        replace hF := gw_nmE hF
        obtain ⟨t_170, et_170, hF⟩ := hF
        refine gw_iast E I 11 (by decide) (fun _ => rfl) hz170 et_170 dX8_restore_170 (fun H locs I => ?_)
        refine lv_aload_n hx hb dX8_restore_171 rfl (lv_at hl 0 rfl) ?_
        refine gf_M_0_17 E I in_X8_restore_X8 lk_X8_restore_43 dX8_restore_172 ?_
        refine lv_iload_n hx hb dX8_restore_175 rfl (lv_at hl 1 rfl) ?_
        refine lv_aload_n hx hb dX8_restore_176 rfl (lv_at hl 0 rfl) ?_
        refine gf_M_0_40 E I in_X8_restore_X8 lk_X8_restore_74 dX8_restore_177 ?_
        refine lv_iload_n hx hb dX8_restore_180 rfl (lv_at hl 1 rfl) ?_
        replace hF := gw_ifn hF
        obtain ⟨hz181, hF⟩ := hF
        refine gw_iald E I 22 (by decide) rfl hz181 dX8_restore_181 ?_
        replace hF := gw_ifn hF
        obtain ⟨hz182, hF⟩ := hF
        replace hF := gw_nmE hF
        obtain ⟨t_182, et_182, hF⟩ := hF
        refine gw_iast E I 12 (by decide) (fun _ => rfl) hz182 et_182 dX8_restore_182 (fun H locs I => ?_)
        replace hF := gw_nmE hF
        obtain ⟨v1_183, ev1_183, hF⟩ := hF
        refine lv_iinc (v := v1_183) (lv' := [(1, .int v1_183), (0, .ref (ad 0))]) hx hb dX8_restore_183 hl (k := 1) rfl (by subst ev1_183; rfl) (by decide) rfl (fun ls hl => ?_)
        refine lv_goto (tgt := 129) hx hb dX8_restore_186 (by decide) ?_
        exact ih v1_183 t_182 _ _ _ (lv_sub hl [1, 0] rfl) I hF
  have hL55 : ∀ (Kx : Int32 → gw_S → Option (Int32 × gw_S)), (∀ (v1 : Int32) (t : gw_S) (H : Heap) (locs : List Loc) (ls : Array Slot), lv_has ls 2 [(0, .ref (ad 0))] → gw_I D (tM g ad) 23 ad A s.heap t H locs → Kx v1 t = some (r0, tz) → W p l e rmX8_restore s m args below meth c H locs 0 0 (MQ below (gw_Qi D (tM g ad) 23 ad A r0 tz) args s 0 0 A) (F0 m 127 ls [])) → ∀ (n : Nat) (v1 : Int32) (t : gw_S) (H : Heap) (locs : List Loc) (ls : Array Slot), lv_has ls 2 [(0, .ref (ad 0)), (1, .int v1)] → gw_I D (tM g ad) 23 ad A s.heap t H locs → fX8_restore_L55 Kx n v1 t = some (r0, tz) → W p l e rmX8_restore s m args below meth c H locs 0 0 (MQ below (gw_Qi D (tM g ad) 23 ad A r0 tz) args s 0 0 A) (F0 m 55 ls []) := by
    intro Kx hKx n
    induction n with
    | zero =>
      intro v1 t H locs ls hl I hF
      rw [fX8_restore_L55] at hF
      cases hF
    | succ n ih =>
      intro v1 t H locs ls hl I hF
      rw [fX8_restore_L55] at hF
      refine lv_iload_n hx hb dX8_restore_55 rfl (lv_at hl 1 rfl) ?_
      refine lv_bipush (v := 6) hx hb dX8_restore_56 (by decide) ?_
      refine lv_icmp_ge (tgt := 127) hx hb dX8_restore_58 (by decide) (fun c58 => ?_) (fun c58 => ?_)
      · replace hF := gw_if1 c58 hF
        exact hKx v1 t _ _ _ (lv_sub hl [0] rfl) I hF
      · replace hF := gw_if0 c58 hF
        refine lv_aload_n hx hb dX8_restore_61 rfl (lv_at hl 0 rfl) ?_
        refine gf_M_0_5 E I in_X8_restore_X8 lk_X8_restore_19 dX8_restore_62 ?_
        refine lv_iload_n hx hb dX8_restore_65 rfl (lv_at hl 1 rfl) ?_
        refine lv_aload_n hx hb dX8_restore_66 rfl (lv_at hl 0 rfl) ?_
        refine gf_M_0_32 E I in_X8_restore_X8 lk_X8_restore_50 dX8_restore_67 ?_
        refine lv_iload_n hx hb dX8_restore_70 rfl (lv_at hl 1 rfl) ?_
        replace hF := gw_ifn hF
        obtain ⟨hz71, hF⟩ := hF
        refine gw_iald E I 14 (by decide) rfl hz71 dX8_restore_71 ?_
        replace hF := gw_ifn hF
        obtain ⟨hz72, hF⟩ := hF
        replace hF := gw_nmE hF
        obtain ⟨t_72, et_72, hF⟩ := hF
        refine gw_iast E I 4 (by decide) (fun _ => rfl) hz72 et_72 dX8_restore_72 (fun H locs I => ?_)
        refine lv_aload_n hx hb dX8_restore_73 rfl (lv_at hl 0 rfl) ?_
        refine gf_M_0_6 E I in_X8_restore_X8 lk_X8_restore_22 dX8_restore_74 ?_
        refine lv_iload_n hx hb dX8_restore_77 rfl (lv_at hl 1 rfl) ?_
        refine lv_aload_n hx hb dX8_restore_78 rfl (lv_at hl 0 rfl) ?_
        refine gf_M_0_33 E I in_X8_restore_X8 lk_X8_restore_53 dX8_restore_79 ?_
        refine lv_iload_n hx hb dX8_restore_82 rfl (lv_at hl 1 rfl) ?_
        replace hF := gw_ifn hF
        obtain ⟨hz83, hF⟩ := hF
        refine gw_iald E I 15 (by decide) rfl hz83 dX8_restore_83 ?_
        replace hF := gw_ifn hF
        obtain ⟨hz84, hF⟩ := hF
        replace hF := gw_nmE hF
        obtain ⟨t_84, et_84, hF⟩ := hF
        refine gw_iast E I 5 (by decide) (fun _ => rfl) hz84 et_84 dX8_restore_84 (fun H locs I => ?_)
        refine lv_aload_n hx hb dX8_restore_85 rfl (lv_at hl 0 rfl) ?_
        refine gf_M_0_7 E I in_X8_restore_X8 lk_X8_restore_25 dX8_restore_86 ?_
        refine lv_iload_n hx hb dX8_restore_89 rfl (lv_at hl 1 rfl) ?_
        refine lv_aload_n hx hb dX8_restore_90 rfl (lv_at hl 0 rfl) ?_
        refine gf_M_0_34 E I in_X8_restore_X8 lk_X8_restore_56 dX8_restore_91 ?_
        refine lv_iload_n hx hb dX8_restore_94 rfl (lv_at hl 1 rfl) ?_
        replace hF := gw_ifn hF
        obtain ⟨hz95, hF⟩ := hF
        refine gw_iald E I 16 (by decide) rfl hz95 dX8_restore_95 ?_
        replace hF := gw_ifn hF
        obtain ⟨hz96, hF⟩ := hF
        replace hF := gw_nmE hF
        obtain ⟨t_96, et_96, hF⟩ := hF
        refine gw_iast E I 6 (by decide) (fun _ => rfl) hz96 et_96 dX8_restore_96 (fun H locs I => ?_)
        refine lv_aload_n hx hb dX8_restore_97 rfl (lv_at hl 0 rfl) ?_
        refine gf_M_0_8 E I in_X8_restore_X8 lk_X8_restore_28 dX8_restore_98 ?_
        refine lv_iload_n hx hb dX8_restore_101 rfl (lv_at hl 1 rfl) ?_
        refine lv_aload_n hx hb dX8_restore_102 rfl (lv_at hl 0 rfl) ?_
        refine gf_M_0_35 E I in_X8_restore_X8 lk_X8_restore_59 dX8_restore_103 ?_
        refine lv_iload_n hx hb dX8_restore_106 rfl (lv_at hl 1 rfl) ?_
        replace hF := gw_ifn hF
        obtain ⟨hz107, hF⟩ := hF
        refine gw_iald E I 17 (by decide) rfl hz107 dX8_restore_107 ?_
        replace hF := gw_ifn hF
        obtain ⟨hz108, hF⟩ := hF
        replace hF := gw_nmE hF
        obtain ⟨t_108, et_108, hF⟩ := hF
        refine gw_iast E I 7 (by decide) (fun _ => rfl) hz108 et_108 dX8_restore_108 (fun H locs I => ?_)
        refine lv_aload_n hx hb dX8_restore_109 rfl (lv_at hl 0 rfl) ?_
        refine gf_M_0_9 E I in_X8_restore_X8 lk_X8_restore_31 dX8_restore_110 ?_
        refine lv_iload_n hx hb dX8_restore_113 rfl (lv_at hl 1 rfl) ?_
        refine lv_aload_n hx hb dX8_restore_114 rfl (lv_at hl 0 rfl) ?_
        refine gf_M_0_36 E I in_X8_restore_X8 lk_X8_restore_62 dX8_restore_115 ?_
        refine lv_iload_n hx hb dX8_restore_118 rfl (lv_at hl 1 rfl) ?_
        replace hF := gw_ifn hF
        obtain ⟨hz119, hF⟩ := hF
        refine gw_iald E I 18 (by decide) rfl hz119 dX8_restore_119 ?_
        replace hF := gw_ifn hF
        obtain ⟨hz120, hF⟩ := hF
        replace hF := gw_nmE hF
        obtain ⟨t_120, et_120, hF⟩ := hF
        refine gw_iast E I 8 (by decide) (fun _ => rfl) hz120 et_120 dX8_restore_120 (fun H locs I => ?_)
        replace hF := gw_nmE hF
        obtain ⟨v1_121, ev1_121, hF⟩ := hF
        refine lv_iinc (v := v1_121) (lv' := [(1, .int v1_121), (0, .ref (ad 0))]) hx hb dX8_restore_121 hl (k := 1) rfl (by subst ev1_121; rfl) (by decide) rfl (fun ls hl => ?_)
        refine lv_goto (tgt := 55) hx hb dX8_restore_124 (by decide) ?_
        exact ih v1_121 t_120 _ _ _ (lv_sub hl [1, 0] rfl) I hF
  refine lv_aload_n hx hb dX8_restore_0 rfl (lv_at hl 0 rfl) ?_
  refine gf_M_0_26 E I in_X8_restore_X8 lk_X8_restore_244 dX8_restore_1 ?_
  refine lv_if_eq (tgt := 18) hx hb dX8_restore_4 (by decide) (fun c4 => ?_) (fun c4 => ?_)
  · replace hF := gw_if1 c4 hF
    refine lv_bipush (v := (-103)) hx hb dX8_restore_18 (by decide) ?_
    exact gw_iret E I hr hlocks rfl (Prod.mk.inj (Option.some.inj hF)).1 (Prod.mk.inj (Option.some.inj hF)).2 dX8_restore_20
  · replace hF := gw_if0 c4 hF
    refine lv_aload_n hx hb dX8_restore_7 rfl (lv_at hl 0 rfl) ?_
    refine gf_M_0_27 E I in_X8_restore_X8 lk_X8_restore_247 dX8_restore_8 ?_
    refine lv_aload_n hx hb dX8_restore_11 rfl (lv_at hl 0 rfl) ?_
    refine gf_M_0_0 E I in_X8_restore_X8 lk_X8_restore_115 dX8_restore_12 ?_
    refine lv_icmp_eq (tgt := 21) hx hb dX8_restore_15 (by decide) (fun c15 => ?_) (fun c15 => ?_)
    · replace hF := gw_if1 c15 hF
      refine lv_aload_n hx hb dX8_restore_21 rfl (lv_at hl 0 rfl) ?_
      refine lv_aload_n hx hb dX8_restore_22 rfl (lv_at hl 0 rfl) ?_
      refine gf_M_0_28 E I in_X8_restore_X8 lk_X8_restore_250 dX8_restore_23 ?_
      replace hF := gw_nmE hF
      obtain ⟨t_26, et_26, hF⟩ := hF
      refine gp_M_0_10 E I in_X8_restore_X8 lk_X8_restore_118 et_26 dX8_restore_26 (fun H locs I => ?_)
      refine lv_aload_n hx hb dX8_restore_29 rfl (lv_at hl 0 rfl) ?_
      refine lv_aload_n hx hb dX8_restore_30 rfl (lv_at hl 0 rfl) ?_
      refine gf_M_0_29 E I in_X8_restore_X8 lk_X8_restore_253 dX8_restore_31 ?_
      replace hF := gw_nmE hF
      obtain ⟨t_34, et_34, hF⟩ := hF
      refine gp_M_0_13 E I in_X8_restore_X8 lk_X8_restore_121 et_34 dX8_restore_34 (fun H locs I => ?_)
      refine lv_aload_n hx hb dX8_restore_37 rfl (lv_at hl 0 rfl) ?_
      refine lv_aload_n hx hb dX8_restore_38 rfl (lv_at hl 0 rfl) ?_
      refine gf_M_0_30 E I in_X8_restore_X8 lk_X8_restore_256 dX8_restore_39 ?_
      replace hF := gw_nmE hF
      obtain ⟨t_42, et_42, hF⟩ := hF
      refine gp_M_0_14 E I in_X8_restore_X8 lk_X8_restore_124 et_42 dX8_restore_42 (fun H locs I => ?_)
      refine lv_aload_n hx hb dX8_restore_45 rfl (lv_at hl 0 rfl) ?_
      refine lv_aload_n hx hb dX8_restore_46 rfl (lv_at hl 0 rfl) ?_
      refine gf_M_0_31 E I in_X8_restore_X8 lk_X8_restore_259 dX8_restore_47 ?_
      replace hF := gw_nmE hF
      obtain ⟨t_50, et_50, hF⟩ := hF
      refine gp_M_0_15 E I in_X8_restore_X8 lk_X8_restore_127 et_50 dX8_restore_50 (fun H locs I => ?_)
      refine lv_iconst (v := 0) hx hb dX8_restore_53 (by decide) ?_
      refine lv_istore_n (lv' := [(1, .int 0), (0, .ref (ad 0))]) hx hb dX8_restore_54 rfl hl (by decide) rfl (fun ls hl => ?_)
      refine hL55 _  (fun v1_x55 t_x55 H locs ls hl I hF => ?_) 2000 0 t_50 _ _ _ (lv_sub hl [1, 0] rfl) I hF
      refine lv_iconst (v := 0) hx hb dX8_restore_127 (by decide) ?_
      refine lv_istore_n (lv' := [(1, .int 0), (0, .ref (ad 0))]) hx hb dX8_restore_128 rfl hl (by decide) rfl (fun ls hl => ?_)
      refine hL129 _  (fun v1_x129 t_x129 H locs ls hl I hF => ?_) 2000 0 t_x55 _ _ _ (lv_sub hl [1, 0] rfl) I hF
      refine lv_aload_n hx hb dX8_restore_189 rfl (lv_at hl 0 rfl) ?_
      refine gf_M_0_13 E I in_X8_restore_X8 lk_X8_restore_121 dX8_restore_190 ?_
      exact gw_iret E I hr hlocks rfl (Prod.mk.inj (Option.some.inj hF)).1 (Prod.mk.inj (Option.some.inj hF)).2 dX8_restore_193
    · replace hF := gw_if0 c15 hF
      refine lv_bipush (v := (-103)) hx hb dX8_restore_18 (by decide) ?_
      exact gw_iret E I hr hlocks rfl (Prod.mk.inj (Option.some.inj hF)).1 (Prod.mk.inj (Option.some.inj hF)).2 dX8_restore_20
