/-! The contracts: each method does what its function says: written by wip/whole/genall.py. -/
abbrev rmX8_exchanges : Room := { frames := 1, cells := 0, slots := 0, locals := 24 }
theorem lk_X8_exchanges_19 : Cond.fieldLink RX8 19 "ThrownSacksModel" "hangsOn" "[I" ∈ wsX8_exchanges := by decide +kernel
theorem lk_X8_exchanges_109 : Cond.fieldLink RX8 109 "ThrownSacksModel" "hooks" "I" ∈ wsX8_exchanges := by decide +kernel
theorem in_X8_exchanges_X8 : ∀ w ∈ u_ws RX8 TX8 42, w ∈ wsX8_exchanges := by decide +kernel
set_option maxHeartbeats 4000000 in
set_option maxRecDepth 100000 in
theorem ok_X8_exchanges (l : Launch) {D : va_G} {g : gw_G} {tG : Nat} {ad : Nat → Nat} {A : Nat → Prop} (hD : gw_D A 23 ad) (t0 : gw_S) (r0 : Int32) (hF : fX8_exchanges t0 = some r0) : Met l yX8_exchanges wsX8_exchanges rmX8_exchanges (gw_Pc D g tG (tM g ad) 23 ad A [.ref (ad 0)] t0) (gw_Qi D (tM g ad) 23 ad A r0 t0) 0 0 A := by
  unfold fX8_exchanges at hF
  refine gw_met (by decide) rfl hD (Nat.le_of_ble_eq_true rfl) (fun p e s m args below meth c E hr hlocks I ls hl => ?_)
  have hx := E.1.1
  have hb := E.1.2.1
  have hl : lv_has ls 5 [(0, .ref (ad 0))] := hl
  have hL33 : ∀ (Kx : Int32 → Int32 → Option (Int32)) (v1 : Int32) (v3 : Int32), (∀ (v2 : Int32) (v4 : Int32) (H : Heap) (locs : List Loc) (ls : Array Slot), lv_has ls 5 [(0, .ref (ad 0)), (1, .int v1), (2, .int v2), (3, .int v3)] → gw_I D (tM g ad) 23 ad A s.heap t0 H locs → Kx v2 v4 = some r0 → W p l e rmX8_exchanges s m args below meth c H locs 0 0 (MQ below (gw_Qi D (tM g ad) 23 ad A r0 t0) args s 0 0 A) (F0 m 69 ls [])) → ∀ (n : Nat) (v2 : Int32) (v4 : Int32) (H : Heap) (locs : List Loc) (ls : Array Slot), lv_has ls 5 [(0, .ref (ad 0)), (1, .int v1), (2, .int v2), (3, .int v3), (4, .int v4)] → gw_I D (tM g ad) 23 ad A s.heap t0 H locs → fX8_exchanges_L33 Kx v1 v3 t0 n v2 v4 = some r0 → W p l e rmX8_exchanges s m args below meth c H locs 0 0 (MQ below (gw_Qi D (tM g ad) 23 ad A r0 t0) args s 0 0 A) (F0 m 33 ls []) := by
    intro Kx v1 v3 hKx n
    induction n with
    | zero =>
      intro v2 v4 H locs ls hl I hF
      rw [fX8_exchanges_L33] at hF
      cases hF
    | succ n ih =>
      intro v2 v4 H locs ls hl I hF
      rw [fX8_exchanges_L33] at hF
      refine lv_iload_n hx hb dX8_exchanges_33 rfl (lv_at hl 2 rfl) ?_
      refine lv_iload hx hb dX8_exchanges_34 (lv_at hl 4 rfl) ?_
      refine lv_ishr hx hb dX8_exchanges_36 ?_
      refine lv_iconst (v := 1) hx hb dX8_exchanges_37 (by decide) ?_
      refine lv_iand hx hb dX8_exchanges_38 ?_
      refine lv_if_ne (tgt := 69) hx hb dX8_exchanges_39 (by decide) (fun c39 => ?_) (fun c39 => ?_)
      · replace hF := gw_if0 c39 hF
        exact hKx v2 v4 _ _ _ (lv_sub hl [0, 1, 2, 3] rfl) I hF
      · replace hF := gw_if1 c39 hF
        refine lv_iload_n hx hb dX8_exchanges_42 rfl (lv_at hl 2 rfl) ?_
        refine lv_iconst (v := 1) hx hb dX8_exchanges_43 (by decide) ?_
        refine lv_iload hx hb dX8_exchanges_44 (lv_at hl 4 rfl) ?_
        refine lv_ishl hx hb dX8_exchanges_46 ?_
        refine lv_ior hx hb dX8_exchanges_47 ?_
        replace hF := gw_nmE hF
        obtain ⟨v2_48, ev2_48, hF⟩ := hF
        refine gw_topi ev2_48 ?_
        refine lv_istore_n (lv' := [(2, .int v2_48), (0, .ref (ad 0)), (1, .int v1), (3, .int v3), (4, .int v4)]) hx hb dX8_exchanges_48 rfl hl (by decide) rfl (fun ls hl => ?_)
        refine lv_aload_n hx hb dX8_exchanges_49 rfl (lv_at hl 1 rfl) ?_
        refine lv_iconst (v := 0) hx hb dX8_exchanges_50 (by decide) ?_
        refine lv_aload_n hx hb dX8_exchanges_51 rfl (lv_at hl 1 rfl) ?_
        refine gf_M_0_5 E I in_X8_exchanges_X8 lk_X8_exchanges_19 dX8_exchanges_52 ?_
        refine lv_bipush (v := 6) hx hb dX8_exchanges_55 (by decide) ?_
        refine lv_iload hx hb dX8_exchanges_57 (lv_at hl 4 rfl) ?_
        refine lv_iadd hx hb dX8_exchanges_59 ?_
        replace hF := gw_ifn hF
        obtain ⟨hz60, hF⟩ := hF
        refine gw_iald E I 4 (by decide) rfl hz60 dX8_exchanges_60 ?_
        replace hF := gw_bdE hF
        obtain ⟨r61, e61, hF⟩ := hF
        refine gw_calli I (gw_runV E I (ok_X8_hookOf l hD t0 0 (rdI t0 4 (Int32.toNatClampNeg (6 + v4))) _ e61) (cwV 2 E.1.2.2.2.2 gX8_exchanges_X8_hookOf rfl rfl rfl (by decide +kernel) ⟨Nat.le_of_ble_eq_true rfl, Nat.le_of_ble_eq_true rfl⟩) (by decide) rfl rfl rfl hl.1 rfl (Nat.le_of_ble_eq_true rfl) dX8_exchanges_61) (fun H locs I => ?_)
        refine lv_istore (lv' := [(4, .int r61), (2, .int v2_48), (0, .ref (ad 0)), (1, .int v1), (3, .int v3)]) hx hb dX8_exchanges_64 hl (by decide) rfl (fun ls hl => ?_)
        refine lv_goto (tgt := 33) hx hb dX8_exchanges_66 (by decide) ?_
        exact ih v2_48 r61 _ _ _ (lv_sub hl [2, 3, 1, 4, 0] rfl) I hF
  have hJ28 : ∀ (Kx : Int32 → Int32 → Int32 → Option (Int32)) (Kh : Int32 → Int32 → Int32 → Option (Int32)) (v2 : Int32) (v3 : Int32) (x0 : Int32) (x1 : Int32) (hKx : ∀ (v1 : Int32) (v2 : Int32) (v3 : Int32) (H : Heap) (locs : List Loc) (ls : Array Slot), lv_has ls 5 [(0, .ref (ad 0)), (1, .int v1)] → gw_I D (tM g ad) 23 ad A s.heap t0 H locs → Kx v1 v2 v3 = some r0 → W p l e rmX8_exchanges s m args below meth c H locs 0 0 (MQ below (gw_Qi D (tM g ad) 23 ad A r0 t0) args s 0 0 A) (F0 m 75 ls [])) (hKh : ∀ (v1 : Int32) (v2 : Int32) (v3 : Int32) (H : Heap) (locs : List Loc) (ls : Array Slot), lv_has ls 5 [(0, .ref (ad 0)), (1, .int v1), (2, .int v2), (3, .int v3)] → gw_I D (tM g ad) 23 ad A s.heap t0 H locs → Kh v1 v2 v3 = some r0 → W p l e rmX8_exchanges s m args below meth c H locs 0 0 (MQ below (gw_Qi D (tM g ad) 23 ad A r0 t0) args s 0 0 A) (F0 m 6 ls [])) (H : Heap) (locs : List Loc) (ls : Array Slot), lv_has ls 5 [(0, .ref (ad 0)), (2, .int v2), (3, .int v3)] → gw_I D (tM g ad) 23 ad A s.heap t0 H locs → fX8_exchanges_J28 Kx Kh v2 v3 x0 x1 t0 = some r0 → W p l e rmX8_exchanges s m args below meth c H locs 0 0 (MQ below (gw_Qi D (tM g ad) 23 ad A r0 t0) args s 0 0 A) (F0 m 28 ls [.int x1, .int x0]) := by
    intro Kx Kh v2 v3 x0 x1 hKx hKh H locs ls hl I hF
    unfold fX8_exchanges_J28 at hF
    refine lv_iadd hx hb dX8_exchanges_28 ?_
    replace hF := gw_nmE hF
    obtain ⟨v1_29, ev1_29, hF⟩ := hF
    refine gw_topi ev1_29 ?_
    refine lv_istore_n (lv' := [(1, .int v1_29), (0, .ref (ad 0)), (2, .int v2), (3, .int v3)]) hx hb dX8_exchanges_29 rfl hl (by decide) rfl (fun ls hl => ?_)
    refine lv_iload_n hx hb dX8_exchanges_30 rfl (lv_at hl 3 rfl) ?_
    refine lv_istore (lv' := [(4, .int v3), (1, .int v1_29), (0, .ref (ad 0)), (2, .int v2), (3, .int v3)]) hx hb dX8_exchanges_31 hl (by decide) rfl (fun ls hl => ?_)
    refine hL33 _ v1_29 v3 (fun v2_x33 v4_x33 H locs ls hl I hF => ?_) 2000 v2 v3 _ _ _ (lv_sub hl [2, 1, 3, 4, 0] rfl) I hF
    replace hF := gw_nmE hF
    obtain ⟨v3_69, ev3_69, hF⟩ := hF
    refine lv_iinc (v := v3_69) (lv' := [(3, .int v3_69), (0, .ref (ad 0)), (1, .int v1_29), (2, .int v2_x33)]) hx hb dX8_exchanges_69 hl (k := 3) rfl (by subst ev3_69; rfl) (by decide) rfl (fun ls hl => ?_)
    refine lv_goto (tgt := 6) hx hb dX8_exchanges_72 (by decide) ?_
    exact hKh v1_29 v2_x33 v3_69 _ _ _ (lv_sub hl [1, 2, 3, 0] rfl) I hF
  have hL6 : ∀ (Kx : Int32 → Int32 → Int32 → Option (Int32)), (∀ (v1 : Int32) (v2 : Int32) (v3 : Int32) (H : Heap) (locs : List Loc) (ls : Array Slot), lv_has ls 5 [(0, .ref (ad 0)), (1, .int v1)] → gw_I D (tM g ad) 23 ad A s.heap t0 H locs → Kx v1 v2 v3 = some r0 → W p l e rmX8_exchanges s m args below meth c H locs 0 0 (MQ below (gw_Qi D (tM g ad) 23 ad A r0 t0) args s 0 0 A) (F0 m 75 ls [])) → ∀ (n : Nat) (v1 : Int32) (v2 : Int32) (v3 : Int32) (H : Heap) (locs : List Loc) (ls : Array Slot), lv_has ls 5 [(0, .ref (ad 0)), (1, .int v1), (2, .int v2), (3, .int v3)] → gw_I D (tM g ad) 23 ad A s.heap t0 H locs → fX8_exchanges_L6 Kx t0 n v1 v2 v3 = some r0 → W p l e rmX8_exchanges s m args below meth c H locs 0 0 (MQ below (gw_Qi D (tM g ad) 23 ad A r0 t0) args s 0 0 A) (F0 m 6 ls []) := by
    intro Kx hKx n
    induction n with
    | zero =>
      intro v1 v2 v3 H locs ls hl I hF
      rw [fX8_exchanges_L6] at hF
      cases hF
    | succ n ih =>
      intro v1 v2 v3 H locs ls hl I hF
      rw [fX8_exchanges_L6] at hF
      refine lv_iload_n hx hb dX8_exchanges_6 rfl (lv_at hl 3 rfl) ?_
      refine lv_aload_n hx hb dX8_exchanges_7 rfl (lv_at hl 0 rfl) ?_
      refine gf_M_0_1 E I in_X8_exchanges_X8 lk_X8_exchanges_109 dX8_exchanges_8 ?_
      refine lv_icmp_ge (tgt := 75) hx hb dX8_exchanges_11 (by decide) (fun c11 => ?_) (fun c11 => ?_)
      · replace hF := gw_if1 c11 hF
        exact hKx v1 v2 v3 _ _ _ (lv_sub hl [0, 1] rfl) I hF
      · replace hF := gw_if0 c11 hF
        refine lv_iload_n hx hb dX8_exchanges_14 rfl (lv_at hl 1 rfl) ?_
        refine lv_iload_n hx hb dX8_exchanges_15 rfl (lv_at hl 2 rfl) ?_
        refine lv_iload_n hx hb dX8_exchanges_16 rfl (lv_at hl 3 rfl) ?_
        refine lv_ishr hx hb dX8_exchanges_17 ?_
        refine lv_iconst (v := 1) hx hb dX8_exchanges_18 (by decide) ?_
        refine lv_iand hx hb dX8_exchanges_19 ?_
        refine lv_if_ne (tgt := 27) hx hb dX8_exchanges_20 (by decide) (fun c20 => ?_) (fun c20 => ?_)
        · replace hF := gw_if0 c20 hF
          refine lv_iconst (v := 0) hx hb dX8_exchanges_27 (by decide) ?_
          exact hJ28 Kx (fX8_exchanges_L6 Kx t0 n) v2 v3 v1 0 hKx ih _ _ _ (lv_sub hl [0, 2, 3] rfl) I hF
        · replace hF := gw_if1 c20 hF
          refine lv_iconst (v := 1) hx hb dX8_exchanges_23 (by decide) ?_
          refine lv_goto (tgt := 28) hx hb dX8_exchanges_24 (by decide) ?_
          exact hJ28 Kx (fX8_exchanges_L6 Kx t0 n) v2 v3 v1 1 hKx ih _ _ _ (lv_sub hl [0, 2, 3] rfl) I hF
  refine lv_iconst (v := 0) hx hb dX8_exchanges_0 (by decide) ?_
  refine lv_istore_n (lv' := [(1, .int 0), (0, .ref (ad 0))]) hx hb dX8_exchanges_1 rfl hl (by decide) rfl (fun ls hl => ?_)
  refine lv_iconst (v := 0) hx hb dX8_exchanges_2 (by decide) ?_
  refine lv_istore_n (lv' := [(2, .int 0), (1, .int 0), (0, .ref (ad 0))]) hx hb dX8_exchanges_3 rfl hl (by decide) rfl (fun ls hl => ?_)
  refine lv_iconst (v := 0) hx hb dX8_exchanges_4 (by decide) ?_
  refine lv_istore_n (lv' := [(3, .int 0), (2, .int 0), (1, .int 0), (0, .ref (ad 0))]) hx hb dX8_exchanges_5 rfl hl (by decide) rfl (fun ls hl => ?_)
  refine hL6 _  (fun v1_x6 v2_x6 v3_x6 H locs ls hl I hF => ?_) 2000 0 0 0 _ _ _ (lv_sub hl [3, 2, 1, 0] rfl) I hF
  refine lv_aload_n hx hb dX8_exchanges_75 rfl (lv_at hl 0 rfl) ?_
  refine gf_M_0_1 E I in_X8_exchanges_X8 lk_X8_exchanges_109 dX8_exchanges_76 ?_
  refine lv_iload_n hx hb dX8_exchanges_79 rfl (lv_at hl 1 rfl) ?_
  refine lv_isub hx hb dX8_exchanges_80 ?_
  exact gw_iret E I hr hlocks rfl (Option.some.inj hF) rfl dX8_exchanges_81
abbrev rmX8_hangingNow : Room := { frames := 5, cells := 0, slots := 0, locals := 109 }
theorem lk_X8_hangingNow_19 : Cond.fieldLink RX8 19 "ThrownSacksModel" "hangsOn" "[I" ∈ wsX8_hangingNow := by decide +kernel
theorem lk_X8_hangingNow_109 : Cond.fieldLink RX8 109 "ThrownSacksModel" "hooks" "I" ∈ wsX8_hangingNow := by decide +kernel
theorem in_X8_hangingNow_X8 : ∀ w ∈ u_ws RX8 TX8 42, w ∈ wsX8_hangingNow := by decide +kernel
theorem kc_X8_hangingNow_191 : Cond.constant RX8 191 (268435456) ∈ wsX8_hangingNow := by decide +kernel
set_option maxHeartbeats 4000000 in
set_option maxRecDepth 100000 in
theorem ok_X8_hangingNow (l : Launch) {D : va_G} {g : gw_G} {tG : Nat} {ad : Nat → Nat} {A : Nat → Prop} (hD : gw_D A 23 ad) (t0 : gw_S) (v1 : Int32) (r0 : Int32) (tz : gw_S) (hF : fX8_hangingNow v1 t0 = some (r0, tz)) : Met l yX8_hangingNow wsX8_hangingNow rmX8_hangingNow (gw_Pc D g tG (tM g ad) 23 ad A [.ref (ad 0), .int v1] t0) (gw_Qi D (tM g ad) 23 ad A r0 tz) 0 0 A := by
  unfold fX8_hangingNow at hF
  refine gw_met (by decide) rfl hD (Nat.le_of_ble_eq_true rfl) (fun p e s m args below meth c E hr hlocks I ls hl => ?_)
  have hx := E.1.1
  have hb := E.1.2.1
  have hl : lv_has ls 6 [(0, .ref (ad 0)), (1, .int v1)] := hl
  have hJ54 : ∀ (Kx : Int32 → Int32 → Int32 → gw_S → Option (Int32 × gw_S)) (Kh : Int32 → Int32 → Int32 → gw_S → Option (Int32 × gw_S)) (v1 : Int32) (v2 : Int32) (v4 : Int32) (x0 : Int32) (hKx : ∀ (v2 : Int32) (v3 : Int32) (v4 : Int32) (t : gw_S) (H : Heap) (locs : List Loc) (ls : Array Slot), lv_has ls 6 [(0, .ref (ad 0)), (1, .int v1), (2, .int v2), (3, .int v3)] → gw_I D (tM g ad) 23 ad A s.heap t H locs → Kx v2 v3 v4 t = some (r0, tz) → W p l e rmX8_hangingNow s m args below meth c H locs 0 0 (MQ below (gw_Qi D (tM g ad) 23 ad A r0 tz) args s 0 0 A) (F0 m 61 ls [])) (hKh : ∀ (v2 : Int32) (v3 : Int32) (v4 : Int32) (t : gw_S) (H : Heap) (locs : List Loc) (ls : Array Slot), lv_has ls 6 [(0, .ref (ad 0)), (1, .int v1), (2, .int v2), (3, .int v3), (4, .int v4)] → gw_I D (tM g ad) 23 ad A s.heap t H locs → Kh v2 v3 v4 t = some (r0, tz) → W p l e rmX8_hangingNow s m args below meth c H locs 0 0 (MQ below (gw_Qi D (tM g ad) 23 ad A r0 tz) args s 0 0 A) (F0 m 8 ls [])) (t : gw_S) (H : Heap) (locs : List Loc) (ls : Array Slot), lv_has ls 6 [(0, .ref (ad 0)), (1, .int v1), (2, .int v2), (4, .int v4)] → gw_I D (tM g ad) 23 ad A s.heap t H locs → fX8_hangingNow_J54 Kx Kh v1 v2 v4 x0 t = some (r0, tz) → W p l e rmX8_hangingNow s m args below meth c H locs 0 0 (MQ below (gw_Qi D (tM g ad) 23 ad A r0 tz) args s 0 0 A) (F0 m 54 ls [.int x0]) := by
    intro Kx Kh v1 v2 v4 x0 hKx hKh t H locs ls hl I hF
    unfold fX8_hangingNow_J54 at hF
    refine lv_istore_n (lv' := [(3, .int x0), (0, .ref (ad 0)), (1, .int v1), (2, .int v2), (4, .int v4)]) hx hb dX8_hangingNow_54 rfl hl (by decide) rfl (fun ls hl => ?_)
    replace hF := gw_nmE hF
    obtain ⟨v4_55, ev4_55, hF⟩ := hF
    refine lv_iinc (v := v4_55) (lv' := [(4, .int v4_55), (3, .int x0), (0, .ref (ad 0)), (1, .int v1), (2, .int v2)]) hx hb dX8_hangingNow_55 hl (k := 4) rfl (by subst ev4_55; rfl) (by decide) rfl (fun ls hl => ?_)
    refine lv_goto (tgt := 8) hx hb dX8_hangingNow_58 (by decide) ?_
    exact hKh v2 x0 v4_55 t _ _ _ (lv_sub hl [2, 3, 4, 1, 0] rfl) I hF
  have hJ41 : ∀ (Kx : Int32 → Int32 → Int32 → gw_S → Option (Int32 × gw_S)) (Kh : Int32 → Int32 → Int32 → gw_S → Option (Int32 × gw_S)) (v1 : Int32) (v3 : Int32) (v4 : Int32) (v5 : Int32) (x0 : Int32) (hKx : ∀ (v2 : Int32) (v3 : Int32) (v4 : Int32) (t : gw_S) (H : Heap) (locs : List Loc) (ls : Array Slot), lv_has ls 6 [(0, .ref (ad 0)), (1, .int v1), (2, .int v2), (3, .int v3)] → gw_I D (tM g ad) 23 ad A s.heap t H locs → Kx v2 v3 v4 t = some (r0, tz) → W p l e rmX8_hangingNow s m args below meth c H locs 0 0 (MQ below (gw_Qi D (tM g ad) 23 ad A r0 tz) args s 0 0 A) (F0 m 61 ls [])) (hKh : ∀ (v2 : Int32) (v3 : Int32) (v4 : Int32) (t : gw_S) (H : Heap) (locs : List Loc) (ls : Array Slot), lv_has ls 6 [(0, .ref (ad 0)), (1, .int v1), (2, .int v2), (3, .int v3), (4, .int v4)] → gw_I D (tM g ad) 23 ad A s.heap t H locs → Kh v2 v3 v4 t = some (r0, tz) → W p l e rmX8_hangingNow s m args below meth c H locs 0 0 (MQ below (gw_Qi D (tM g ad) 23 ad A r0 tz) args s 0 0 A) (F0 m 8 ls [])) (t : gw_S) (H : Heap) (locs : List Loc) (ls : Array Slot), lv_has ls 6 [(0, .ref (ad 0)), (1, .int v1), (3, .int v3), (4, .int v4), (5, .int v5)] → gw_I D (tM g ad) 23 ad A s.heap t H locs → fX8_hangingNow_J41 Kx Kh v1 v3 v4 v5 x0 t = some (r0, tz) → W p l e rmX8_hangingNow s m args below meth c H locs 0 0 (MQ below (gw_Qi D (tM g ad) 23 ad A r0 tz) args s 0 0 A) (F0 m 41 ls [.int x0]) := by
    intro Kx Kh v1 v3 v4 v5 x0 hKx hKh t H locs ls hl I hF
    unfold fX8_hangingNow_J41 at hF
    refine lv_istore_n (lv' := [(2, .int x0), (0, .ref (ad 0)), (1, .int v1), (3, .int v3), (4, .int v4), (5, .int v5)]) hx hb dX8_hangingNow_41 rfl hl (by decide) rfl (fun ls hl => ?_)
    refine lv_iload hx hb dX8_hangingNow_42 (lv_at hl 5 rfl) ?_
    refine lv_iload_n hx hb dX8_hangingNow_44 rfl (lv_at hl 3 rfl) ?_
    refine lv_icmp_ge (tgt := 53) hx hb dX8_hangingNow_45 (by decide) (fun c45 => ?_) (fun c45 => ?_)
    · replace hF := gw_if1 c45 hF
      refine lv_iload_n hx hb dX8_hangingNow_53 rfl (lv_at hl 3 rfl) ?_
      exact hJ54 Kx Kh v1 x0 v4 v3 hKx hKh t _ _ _ (lv_sub hl [1, 2, 0, 4] rfl) I hF
    · replace hF := gw_if0 c45 hF
      refine lv_iload hx hb dX8_hangingNow_48 (lv_at hl 5 rfl) ?_
      refine lv_goto (tgt := 54) hx hb dX8_hangingNow_50 (by decide) ?_
      exact hJ54 Kx Kh v1 x0 v4 v5 hKx hKh t _ _ _ (lv_sub hl [1, 2, 0, 4] rfl) I hF
  have hL8 : ∀ (Kx : Int32 → Int32 → Int32 → gw_S → Option (Int32 × gw_S)) (v1 : Int32), (∀ (v2 : Int32) (v3 : Int32) (v4 : Int32) (t : gw_S) (H : Heap) (locs : List Loc) (ls : Array Slot), lv_has ls 6 [(0, .ref (ad 0)), (1, .int v1), (2, .int v2), (3, .int v3)] → gw_I D (tM g ad) 23 ad A s.heap t H locs → Kx v2 v3 v4 t = some (r0, tz) → W p l e rmX8_hangingNow s m args below meth c H locs 0 0 (MQ below (gw_Qi D (tM g ad) 23 ad A r0 tz) args s 0 0 A) (F0 m 61 ls [])) → ∀ (n : Nat) (v2 : Int32) (v3 : Int32) (v4 : Int32) (t : gw_S) (H : Heap) (locs : List Loc) (ls : Array Slot), lv_has ls 6 [(0, .ref (ad 0)), (1, .int v1), (2, .int v2), (3, .int v3), (4, .int v4)] → gw_I D (tM g ad) 23 ad A s.heap t H locs → fX8_hangingNow_L8 Kx v1 n v2 v3 v4 t = some (r0, tz) → W p l e rmX8_hangingNow s m args below meth c H locs 0 0 (MQ below (gw_Qi D (tM g ad) 23 ad A r0 tz) args s 0 0 A) (F0 m 8 ls []) := by
    intro Kx v1 hKx n
    induction n with
    | zero =>
      intro v2 v3 v4 t H locs ls hl I hF
      rw [fX8_hangingNow_L8] at hF
      cases hF
    | succ n ih =>
      intro v2 v3 v4 t H locs ls hl I hF
      rw [fX8_hangingNow_L8] at hF
      refine lv_iload hx hb dX8_hangingNow_8 (lv_at hl 4 rfl) ?_
      refine lv_aload_n hx hb dX8_hangingNow_10 rfl (lv_at hl 0 rfl) ?_
      replace hF := gw_bdE hF
      obtain ⟨r11, e11, hF⟩ := hF
      refine gw_calli I (gw_runV E I (ok_X8_ways l hD t _ e11) (cwV 0 E.1.2.2.2.2 gX8_hangingNow_X8_ways rfl rfl rfl (by decide +kernel) ⟨Nat.le_of_ble_eq_true rfl, Nat.le_of_ble_eq_true rfl⟩) (by decide) rfl rfl rfl hl.1 rfl (Nat.le_of_ble_eq_true rfl) dX8_hangingNow_11) (fun H locs I => ?_)
      refine lv_icmp_ge (tgt := 61) hx hb dX8_hangingNow_14 (by decide) (fun c14 => ?_) (fun c14 => ?_)
      · replace hF := gw_if1 c14 hF
        exact hKx v2 v3 v4 t _ _ _ (lv_sub hl [0, 1, 2, 3] rfl) I hF
      · replace hF := gw_if0 c14 hF
        refine lv_aload_n hx hb dX8_hangingNow_17 rfl (lv_at hl 0 rfl) ?_
        refine lv_iload hx hb dX8_hangingNow_18 (lv_at hl 4 rfl) ?_
        replace hF := gw_bdE hF
        obtain ⟨t_20, e20, hF⟩ := hF
        refine gw_callv I (gw_runV E I (ok_X8_hangBy l hD t v4 _ e20) (cwV 1 E.1.2.2.2.2 gX8_hangingNow_X8_hangBy rfl rfl rfl (by decide +kernel) ⟨Nat.le_of_ble_eq_true rfl, Nat.le_of_ble_eq_true rfl⟩) (by decide) rfl rfl rfl hl.1 rfl (Nat.le_of_ble_eq_true rfl) dX8_hangingNow_20) (fun H locs I => ?_)
        refine lv_aload_n hx hb dX8_hangingNow_23 rfl (lv_at hl 0 rfl) ?_
        replace hF := gw_bdE hF
        obtain ⟨r24, e24, hF⟩ := hF
        refine gw_calli I (gw_runV E I (ok_X8_takesBy l hD t_20 _ e24) (cwV 0 E.1.2.2.2.2 gX8_hangingNow_X8_takesBy rfl rfl rfl (by decide +kernel) ⟨Nat.le_of_ble_eq_true rfl, Nat.le_of_ble_eq_true rfl⟩) (by decide) rfl rfl rfl hl.1 rfl (Nat.le_of_ble_eq_true rfl) dX8_hangingNow_24) (fun H locs I => ?_)
        refine lv_istore (lv' := [(5, .int r24), (0, .ref (ad 0)), (1, .int v1), (2, .int v2), (3, .int v3), (4, .int v4)]) hx hb dX8_hangingNow_27 hl (by decide) rfl (fun ls hl => ?_)
        refine lv_iload hx hb dX8_hangingNow_29 (lv_at hl 0 rfl) ?_
        refine lv_iload_n hx hb dX8_hangingNow_31 rfl (lv_at hl 4 rfl) ?_
        refine lv_icmp_ge (tgt := 40) hx hb dX8_hangingNow_32 (by decide) (fun c32 => ?_) (fun c32 => ?_)
        · replace hF := gw_if1 c32 hF
          refine lv_iload_n hx hb dX8_hangingNow_40 rfl (lv_at hl 3 rfl) ?_
          exact hJ41 Kx (fX8_hangingNow_L8 Kx v1 n) v1 v3 v4 r24 v2 hKx ih t_20 _ _ _ (lv_sub hl [1, 2, 4, 5, 0] rfl) I hF
        · replace hF := gw_if0 c32 hF
          refine lv_iload hx hb dX8_hangingNow_35 (lv_at hl 5 rfl) ?_
          refine lv_goto (tgt := 41) hx hb dX8_hangingNow_37 (by decide) ?_
          exact hJ41 Kx (fX8_hangingNow_L8 Kx v1 n) v1 v3 v4 r24 v4 hKx ih t_20 _ _ _ (lv_sub hl [1, 2, 4, 5, 0] rfl) I hF
  refine lv_iconst (v := (-1)) hx hb dX8_hangingNow_0 (by decide) ?_
  refine lv_istore_n (lv' := [(2, .int (-1)), (0, .ref (ad 0)), (1, .int v1)]) hx hb dX8_hangingNow_1 rfl hl (by decide) rfl (fun ls hl => ?_)
  refine lv_ldc hx hb E.1.2.2.2.1 (E.1.2.2.2.2 _ kc_X8_hangingNow_191) dX8_hangingNow_2 ?_
  refine lv_istore_n (lv' := [(3, .int 268435456), (2, .int (-1)), (0, .ref (ad 0)), (1, .int v1)]) hx hb dX8_hangingNow_4 rfl hl (by decide) rfl (fun ls hl => ?_)
  refine lv_iconst (v := 0) hx hb dX8_hangingNow_5 (by decide) ?_
  refine lv_istore (lv' := [(4, .int 0), (3, .int 268435456), (2, .int (-1)), (0, .ref (ad 0)), (1, .int v1)]) hx hb dX8_hangingNow_6 hl (by decide) rfl (fun ls hl => ?_)
  refine hL8 _ v1 (fun v2_x8 v3_x8 v4_x8 t_x8 H locs ls hl I hF => ?_) 2000 (-1) 268435456 0 t0 _ _ _ (lv_sub hl [3, 4, 2, 1, 0] rfl) I hF
  refine lv_aload_n hx hb dX8_hangingNow_61 rfl (lv_at hl 0 rfl) ?_
  refine lv_iload_n hx hb dX8_hangingNow_62 rfl (lv_at hl 2 rfl) ?_
  replace hF := gw_bdE hF
  obtain ⟨t_63, e63, hF⟩ := hF
  refine gw_callv I (gw_runV E I (ok_X8_hangBy l hD t_x8 v2_x8 _ e63) (cwV 1 E.1.2.2.2.2 gX8_hangingNow_X8_hangBy rfl rfl rfl (by decide +kernel) ⟨Nat.le_of_ble_eq_true rfl, Nat.le_of_ble_eq_true rfl⟩) (by decide) rfl rfl rfl hl.1 rfl (Nat.le_of_ble_eq_true rfl) dX8_hangingNow_63) (fun H locs I => ?_)
  refine lv_iload_n hx hb dX8_hangingNow_66 rfl (lv_at hl 1 rfl) ?_
  refine lv_iconst (v := 2) hx hb dX8_hangingNow_67 (by decide) ?_
  refine lv_icmp_ge (tgt := 84) hx hb dX8_hangingNow_68 (by decide) (fun c68 => ?_) (fun c68 => ?_)
  · replace hF := gw_if1 c68 hF
    refine lv_iload_n hx hb dX8_hangingNow_84 rfl (lv_at hl 1 rfl) ?_
    refine lv_bipush (v := 10) hx hb dX8_hangingNow_85 (by decide) ?_
    refine lv_isub hx hb dX8_hangingNow_87 ?_
    refine lv_aload_n hx hb dX8_hangingNow_88 rfl (lv_at hl 0 rfl) ?_
    refine gf_M_0_1 E I in_X8_hangingNow_X8 lk_X8_hangingNow_109 dX8_hangingNow_89 ?_
    refine lv_icmp_ge (tgt := 110) hx hb dX8_hangingNow_92 (by decide) (fun c92 => ?_) (fun c92 => ?_)
    · replace hF := gw_if1 c92 hF
      refine lv_iconst (v := (-1)) hx hb dX8_hangingNow_110 (by decide) ?_
      exact gw_iret E I hr hlocks rfl (Prod.mk.inj (Option.some.inj hF)).1 (Prod.mk.inj (Option.some.inj hF)).2 dX8_hangingNow_111
    · replace hF := gw_if0 c92 hF
      refine lv_aload_n hx hb dX8_hangingNow_95 rfl (lv_at hl 0 rfl) ?_
      refine gf_M_0_5 E I in_X8_hangingNow_X8 lk_X8_hangingNow_19 dX8_hangingNow_96 ?_
      refine lv_bipush (v := 6) hx hb dX8_hangingNow_99 (by decide) ?_
      refine lv_iload_n hx hb dX8_hangingNow_101 rfl (lv_at hl 1 rfl) ?_
      refine lv_iadd hx hb dX8_hangingNow_102 ?_
      refine lv_bipush (v := 10) hx hb dX8_hangingNow_103 (by decide) ?_
      refine lv_isub hx hb dX8_hangingNow_105 ?_
      replace hF := gw_ifn hF
      obtain ⟨hz106, hF⟩ := hF
      refine gw_iald E I 4 (by decide) rfl hz106 dX8_hangingNow_106 ?_
      refine lv_goto (tgt := 111) hx hb dX8_hangingNow_107 (by decide) ?_
      exact gw_iret E I hr hlocks rfl (Prod.mk.inj (Option.some.inj hF)).1 (Prod.mk.inj (Option.some.inj hF)).2 dX8_hangingNow_111
  · replace hF := gw_if0 c68 hF
    refine lv_iload_n hx hb dX8_hangingNow_71 rfl (lv_at hl 1 rfl) ?_
    refine lv_if_ne (tgt := 79) hx hb dX8_hangingNow_72 (by decide) (fun c72 => ?_) (fun c72 => ?_)
    · replace hF := gw_if0 c72 hF
      refine lv_aload_n hx hb dX8_hangingNow_79 rfl (lv_at hl 0 rfl) ?_
      replace hF := gw_bdE hF
      obtain ⟨r80, e80, hF⟩ := hF
      refine gw_calli I (gw_runV E I (ok_X8_exchanges l hD t_63 _ e80) (cwV 0 E.1.2.2.2.2 gX8_hangingNow_X8_exchanges rfl rfl rfl (by decide +kernel) ⟨Nat.le_of_ble_eq_true rfl, Nat.le_of_ble_eq_true rfl⟩) (by decide) rfl rfl rfl hl.1 rfl (Nat.le_of_ble_eq_true rfl) dX8_hangingNow_80) (fun H locs I => ?_)
      exact gw_iret E I hr hlocks rfl (Prod.mk.inj (Option.some.inj hF)).1 (Prod.mk.inj (Option.some.inj hF)).2 dX8_hangingNow_83
    · replace hF := gw_if1 c72 hF
      refine lv_iload_n hx hb dX8_hangingNow_75 rfl (lv_at hl 3 rfl) ?_
      refine lv_goto (tgt := 83) hx hb dX8_hangingNow_76 (by decide) ?_
      exact gw_iret E I hr hlocks rfl (Prod.mk.inj (Option.some.inj hF)).1 (Prod.mk.inj (Option.some.inj hF)).2 dX8_hangingNow_83
abbrev rmX8_hanging : Room := { frames := 6, cells := 0, slots := 0, locals := 134 }
theorem lk_X8_hanging_109 : Cond.fieldLink RX8 109 "ThrownSacksModel" "hooks" "I" ∈ wsX8_hanging := by decide +kernel
theorem in_X8_hanging_X8 : ∀ w ∈ u_ws RX8 TX8 42, w ∈ wsX8_hanging := by decide +kernel
set_option maxHeartbeats 4000000 in
set_option maxRecDepth 100000 in
theorem ok_X8_hanging (l : Launch) {D : va_G} {g : gw_G} {tG : Nat} {ad : Nat → Nat} {A : Nat → Prop} (hD : gw_D A 23 ad) (t0 : gw_S) (v1 : Int32) (r0 : Int32) (tz : gw_S) (hF : fX8_hanging v1 t0 = some (r0, tz)) : Met l yX8_hanging wsX8_hanging rmX8_hanging (gw_Pc D g tG (tM g ad) 23 ad A [.ref (ad 0), .int v1] t0) (gw_Qi D (tM g ad) 23 ad A r0 tz) 0 0 A := by
  unfold fX8_hanging at hF
  refine gw_met (by decide) rfl hD (Nat.le_of_ble_eq_true rfl) (fun p e s m args below meth c E hr hlocks I ls hl => ?_)
  have hx := E.1.1
  have hb := E.1.2.1
  have hl : lv_has ls 2 [(0, .ref (ad 0)), (1, .int v1)] := hl
  have hJ23 : ∀ (v1 : Int32) (t : gw_S) (H : Heap) (locs : List Loc) (ls : Array Slot), lv_has ls 2 [(0, .ref (ad 0)), (1, .int v1)] → gw_I D (tM g ad) 23 ad A s.heap t H locs → fX8_hanging_J23 v1 t = some (r0, tz) → W p l e rmX8_hanging s m args below meth c H locs 0 0 (MQ below (gw_Qi D (tM g ad) 23 ad A r0 tz) args s 0 0 A) (F0 m 23 ls []) := by
    intro v1 t H locs ls hl I hF
    unfold fX8_hanging_J23 at hF
    refine lv_aload_n hx hb dX8_hanging_23 rfl (lv_at hl 0 rfl) ?_
    refine gf_M_0_1 E I in_X8_hanging_X8 lk_X8_hanging_109 dX8_hanging_24 ?_
    refine lv_if_ne (tgt := 35) hx hb dX8_hanging_27 (by decide) (fun c27 => ?_) (fun c27 => ?_)
    · replace hF := gw_if0 c27 hF
      refine lv_aload_n hx hb dX8_hanging_35 rfl (lv_at hl 0 rfl) ?_
      refine lv_iload_n hx hb dX8_hanging_36 rfl (lv_at hl 1 rfl) ?_
      replace hF := gw_b2E hF
      obtain ⟨r37, t_37, e37, hF⟩ := hF
      refine gw_calli I (gw_runV E I (ok_X8_hangingNow l hD t v1 _ _ e37) (cwV 1 E.1.2.2.2.2 gX8_hanging_X8_hangingNow rfl rfl rfl (by decide +kernel) ⟨Nat.le_of_ble_eq_true rfl, Nat.le_of_ble_eq_true rfl⟩) (by decide) rfl rfl rfl hl.1 rfl (Nat.le_of_ble_eq_true rfl) dX8_hanging_37) (fun H locs I => ?_)
      exact gw_iret E I hr hlocks rfl (Prod.mk.inj (Option.some.inj hF)).1 (Prod.mk.inj (Option.some.inj hF)).2 dX8_hanging_40
    · replace hF := gw_if1 c27 hF
      refine lv_bipush (v := (-103)) hx hb dX8_hanging_30 (by decide) ?_
      refine lv_goto (tgt := 40) hx hb dX8_hanging_32 (by decide) ?_
      exact gw_iret E I hr hlocks rfl (Prod.mk.inj (Option.some.inj hF)).1 (Prod.mk.inj (Option.some.inj hF)).2 dX8_hanging_40
  refine lv_iload_n hx hb dX8_hanging_0 rfl (lv_at hl 1 rfl) ?_
  refine lv_iconst (v := 0) hx hb dX8_hanging_1 (by decide) ?_
  refine lv_iconst (v := 1) hx hb dX8_hanging_2 (by decide) ?_
  refine gw_calli I (gw_runS E I (ok_X8_within l hD t0 v1 0 1 _ rfl) (va_cwS 3 E.1.2.2.2.2 gX8_hanging_X8_within rfl rfl rfl (by decide +kernel) ⟨Nat.le_of_ble_eq_true rfl, Nat.le_of_ble_eq_true rfl⟩) rfl hl.1 rfl (Nat.le_of_ble_eq_true rfl) dX8_hanging_3) (fun H locs I => ?_)
  refine lv_if_ne (tgt := 23) hx hb dX8_hanging_6 (by decide) (fun c6 => ?_) (fun c6 => ?_)
  · replace hF := gw_if0 c6 hF
    exact hJ23 v1 t0 _ _ _ (lv_sub hl [0, 1] rfl) I hF
  · replace hF := gw_if1 c6 hF
    refine lv_iload_n hx hb dX8_hanging_9 rfl (lv_at hl 1 rfl) ?_
    refine lv_bipush (v := 10) hx hb dX8_hanging_10 (by decide) ?_
    refine lv_bipush (v := 15) hx hb dX8_hanging_12 (by decide) ?_
    refine gw_calli I (gw_runS E I (ok_X8_within l hD t0 v1 10 15 _ rfl) (va_cwS 3 E.1.2.2.2.2 gX8_hanging_X8_within rfl rfl rfl (by decide +kernel) ⟨Nat.le_of_ble_eq_true rfl, Nat.le_of_ble_eq_true rfl⟩) rfl hl.1 rfl (Nat.le_of_ble_eq_true rfl) dX8_hanging_14) (fun H locs I => ?_)
    refine lv_if_ne (tgt := 23) hx hb dX8_hanging_17 (by decide) (fun c17 => ?_) (fun c17 => ?_)
    · replace hF := gw_if0 c17 hF
      exact hJ23 v1 t0 _ _ _ (lv_sub hl [0, 1] rfl) I hF
    · replace hF := gw_if1 c17 hF
      refine lv_bipush (v := (-102)) hx hb dX8_hanging_20 (by decide) ?_
      exact gw_iret E I hr hlocks rfl (Prod.mk.inj (Option.some.inj hF)).1 (Prod.mk.inj (Option.some.inj hF)).2 dX8_hanging_22
abbrev rmX8_found : Room := { frames := 2, cells := 0, slots := 0, locals := 43 }
theorem lk_X8_found_40 : Cond.fieldLink RX8 40 "ThrownSacksModel" "foundTown" "[I" ∈ wsX8_found := by decide +kernel
theorem lk_X8_found_43 : Cond.fieldLink RX8 43 "ThrownSacksModel" "foundIn" "[I" ∈ wsX8_found := by decide +kernel
theorem lk_X8_found_127 : Cond.fieldLink RX8 127 "ThrownSacksModel" "found" "I" ∈ wsX8_found := by decide +kernel
theorem in_X8_found_X8 : ∀ w ∈ u_ws RX8 TX8 42, w ∈ wsX8_found := by decide +kernel
set_option maxHeartbeats 4000000 in
set_option maxRecDepth 100000 in
theorem ok_X8_found (l : Launch) {D : va_G} {g : gw_G} {tG : Nat} {ad : Nat → Nat} {A : Nat → Prop} (hD : gw_D A 23 ad) (t0 : gw_S) (v1 : Int32) (v2 : Int32) (r0 : Int32) (tz : gw_S) (hF : fX8_found v1 v2 t0 = some (r0, tz)) : Met l yX8_found wsX8_found rmX8_found (gw_Pc D g tG (tM g ad) 23 ad A [.ref (ad 0), .int v1, .int v2] t0) (gw_Qi D (tM g ad) 23 ad A r0 tz) 0 0 A := by
  unfold fX8_found at hF
  refine gw_met (by decide) rfl hD (Nat.le_of_ble_eq_true rfl) (fun p e s m args below meth c E hr hlocks I ls hl => ?_)
  have hx := E.1.1
  have hb := E.1.2.1
  have hl : lv_has ls 3 [(0, .ref (ad 0)), (1, .int v1), (2, .int v2)] := hl
  refine lv_aload_n hx hb dX8_found_0 rfl (lv_at hl 0 rfl) ?_
  refine lv_iload_n hx hb dX8_found_1 rfl (lv_at hl 1 rfl) ?_
  replace hF := gw_bdE hF
  obtain ⟨r2, e2, hF⟩ := hF
  refine gw_calli I (gw_runV E I (ok_X8_isHook l hD t0 v1 _ e2) (cwV 1 E.1.2.2.2.2 gX8_found_X8_isHook rfl rfl rfl (by decide +kernel) ⟨Nat.le_of_ble_eq_true rfl, Nat.le_of_ble_eq_true rfl⟩) (by decide) rfl rfl rfl hl.1 rfl (Nat.le_of_ble_eq_true rfl) dX8_found_2) (fun H locs I => ?_)
  refine lv_if_eq (tgt := 21) hx hb dX8_found_5 (by decide) (fun c5 => ?_) (fun c5 => ?_)
  · replace hF := gw_if1 c5 hF
    refine lv_bipush (v := (-101)) hx hb dX8_found_21 (by decide) ?_
    exact gw_iret E I hr hlocks rfl (Prod.mk.inj (Option.some.inj hF)).1 (Prod.mk.inj (Option.some.inj hF)).2 dX8_found_23
  · replace hF := gw_if0 c5 hF
    refine lv_aload_n hx hb dX8_found_8 rfl (lv_at hl 0 rfl) ?_
    refine lv_iload_n hx hb dX8_found_9 rfl (lv_at hl 2 rfl) ?_
    replace hF := gw_bdE hF
    obtain ⟨r10, e10, hF⟩ := hF
    refine gw_calli I (gw_runV E I (ok_X8_isHook l hD t0 v2 _ e10) (cwV 1 E.1.2.2.2.2 gX8_found_X8_isHook rfl rfl rfl (by decide +kernel) ⟨Nat.le_of_ble_eq_true rfl, Nat.le_of_ble_eq_true rfl⟩) (by decide) rfl rfl rfl hl.1 rfl (Nat.le_of_ble_eq_true rfl) dX8_found_10) (fun H locs I => ?_)
    refine lv_if_eq (tgt := 21) hx hb dX8_found_13 (by decide) (fun c13 => ?_) (fun c13 => ?_)
    · replace hF := gw_if1 c13 hF
      refine lv_bipush (v := (-101)) hx hb dX8_found_21 (by decide) ?_
      exact gw_iret E I hr hlocks rfl (Prod.mk.inj (Option.some.inj hF)).1 (Prod.mk.inj (Option.some.inj hF)).2 dX8_found_23
    · replace hF := gw_if0 c13 hF
      refine lv_iload_n hx hb dX8_found_16 rfl (lv_at hl 1 rfl) ?_
      refine lv_iload_n hx hb dX8_found_17 rfl (lv_at hl 2 rfl) ?_
      refine lv_icmp_ne (tgt := 24) hx hb dX8_found_18 (by decide) (fun c18 => ?_) (fun c18 => ?_)
      · replace hF := gw_if0 c18 hF
        refine lv_aload_n hx hb dX8_found_24 rfl (lv_at hl 0 rfl) ?_
        refine gf_M_0_15 E I in_X8_found_X8 lk_X8_found_127 dX8_found_25 ?_
        refine lv_bipush (v := 8) hx hb dX8_found_28 (by decide) ?_
        refine lv_icmp_ne (tgt := 36) hx hb dX8_found_30 (by decide) (fun c30 => ?_) (fun c30 => ?_)
        · replace hF := gw_if0 c30 hF
          refine lv_aload_n hx hb dX8_found_36 rfl (lv_at hl 0 rfl) ?_
          refine gf_M_0_16 E I in_X8_found_X8 lk_X8_found_40 dX8_found_37 ?_
          refine lv_aload_n hx hb dX8_found_40 rfl (lv_at hl 0 rfl) ?_
          refine gf_M_0_15 E I in_X8_found_X8 lk_X8_found_127 dX8_found_41 ?_
          refine lv_iload_n hx hb dX8_found_44 rfl (lv_at hl 1 rfl) ?_
          replace hF := gw_ifn hF
          obtain ⟨hz45, hF⟩ := hF
          replace hF := gw_nmE hF
          obtain ⟨t_45, et_45, hF⟩ := hF
          refine gw_iast E I 11 (by decide) (fun _ => rfl) hz45 et_45 dX8_found_45 (fun H locs I => ?_)
          refine lv_aload_n hx hb dX8_found_46 rfl (lv_at hl 0 rfl) ?_
          refine gf_M_0_17 E I in_X8_found_X8 lk_X8_found_43 dX8_found_47 ?_
          refine lv_aload_n hx hb dX8_found_50 rfl (lv_at hl 0 rfl) ?_
          refine gf_M_0_15 E I in_X8_found_X8 lk_X8_found_127 dX8_found_51 ?_
          refine lv_iload_n hx hb dX8_found_54 rfl (lv_at hl 2 rfl) ?_
          replace hF := gw_ifn hF
          obtain ⟨hz55, hF⟩ := hF
          replace hF := gw_nmE hF
          obtain ⟨t_55, et_55, hF⟩ := hF
          refine gw_iast E I 12 (by decide) (fun _ => rfl) hz55 et_55 dX8_found_55 (fun H locs I => ?_)
          refine lv_aload_n hx hb dX8_found_56 rfl (lv_at hl 0 rfl) ?_
          refine lv_dup hx hb dX8_found_57 rfl ?_
          refine gf_M_0_15 E I in_X8_found_X8 lk_X8_found_127 dX8_found_58 ?_
          refine lv_iconst (v := 1) hx hb dX8_found_61 (by decide) ?_
          refine lv_iadd hx hb dX8_found_62 ?_
          replace hF := gw_nmE hF
          obtain ⟨t_63, et_63, hF⟩ := hF
          refine gp_M_0_15 E I in_X8_found_X8 lk_X8_found_127 et_63 dX8_found_63 (fun H locs I => ?_)
          refine lv_aload_n hx hb dX8_found_66 rfl (lv_at hl 0 rfl) ?_
          refine gf_M_0_15 E I in_X8_found_X8 lk_X8_found_127 dX8_found_67 ?_
          exact gw_iret E I hr hlocks rfl (Prod.mk.inj (Option.some.inj hF)).1 (Prod.mk.inj (Option.some.inj hF)).2 dX8_found_70
        · replace hF := gw_if1 c30 hF
          refine lv_bipush (v := (-104)) hx hb dX8_found_33 (by decide) ?_
          exact gw_iret E I hr hlocks rfl (Prod.mk.inj (Option.some.inj hF)).1 (Prod.mk.inj (Option.some.inj hF)).2 dX8_found_35
      · replace hF := gw_if1 c18 hF
        refine lv_bipush (v := (-101)) hx hb dX8_found_21 (by decide) ?_
        exact gw_iret E I hr hlocks rfl (Prod.mk.inj (Option.some.inj hF)).1 (Prod.mk.inj (Option.some.inj hF)).2 dX8_found_23
abbrev rmX8_forget : Room := { frames := 0, cells := 0, slots := 0, locals := 0 }
theorem lk_X8_forget_127 : Cond.fieldLink RX8 127 "ThrownSacksModel" "found" "I" ∈ wsX8_forget := by decide +kernel
theorem in_X8_forget_X8 : ∀ w ∈ u_ws RX8 TX8 42, w ∈ wsX8_forget := by decide +kernel
set_option maxHeartbeats 4000000 in
set_option maxRecDepth 100000 in
theorem ok_X8_forget (l : Launch) {D : va_G} {g : gw_G} {tG : Nat} {ad : Nat → Nat} {A : Nat → Prop} (hD : gw_D A 23 ad) (t0 : gw_S) (r0 : Int32) (tz : gw_S) (hF : fX8_forget t0 = some (r0, tz)) : Met l yX8_forget wsX8_forget rmX8_forget (gw_Pc D g tG (tM g ad) 23 ad A [.ref (ad 0)] t0) (gw_Qi D (tM g ad) 23 ad A r0 tz) 0 0 A := by
  unfold fX8_forget at hF
  refine gw_met (by decide) rfl hD (Nat.le_of_ble_eq_true rfl) (fun p e s m args below meth c E hr hlocks I ls hl => ?_)
  have hx := E.1.1
  have hb := E.1.2.1
  have hl : lv_has ls 2 [(0, .ref (ad 0))] := hl
  refine lv_aload_n hx hb dX8_forget_0 rfl (lv_at hl 0 rfl) ?_
  refine gf_M_0_15 E I in_X8_forget_X8 lk_X8_forget_127 dX8_forget_1 ?_
  replace hF := gw_nmE hF
  obtain ⟨v1_4, ev1_4, hF⟩ := hF
  refine gw_topi ev1_4 ?_
  refine lv_istore_n (lv' := [(1, .int v1_4), (0, .ref (ad 0))]) hx hb dX8_forget_4 rfl hl (by decide) rfl (fun ls hl => ?_)
  refine lv_aload_n hx hb dX8_forget_5 rfl (lv_at hl 1 rfl) ?_
  refine lv_iconst (v := 0) hx hb dX8_forget_6 (by decide) ?_
  replace hF := gw_nmE hF
  obtain ⟨t_7, et_7, hF⟩ := hF
  refine gp_M_0_15 E I in_X8_forget_X8 lk_X8_forget_127 et_7 dX8_forget_7 (fun H locs I => ?_)
  refine lv_iload_n hx hb dX8_forget_10 rfl (lv_at hl 0 rfl) ?_
  exact gw_iret E I hr hlocks rfl (Prod.mk.inj (Option.some.inj hF)).1 (Prod.mk.inj (Option.some.inj hF)).2 dX8_forget_11
abbrev rmX8_couldHang : Room := { frames := 1, cells := 0, slots := 0, locals := 24 }
theorem lk_X8_couldHang_40 : Cond.fieldLink RX8 40 "ThrownSacksModel" "foundTown" "[I" ∈ wsX8_couldHang := by decide +kernel
theorem lk_X8_couldHang_43 : Cond.fieldLink RX8 43 "ThrownSacksModel" "foundIn" "[I" ∈ wsX8_couldHang := by decide +kernel
theorem lk_X8_couldHang_127 : Cond.fieldLink RX8 127 "ThrownSacksModel" "found" "I" ∈ wsX8_couldHang := by decide +kernel
theorem in_X8_couldHang_X8 : ∀ w ∈ u_ws RX8 TX8 42, w ∈ wsX8_couldHang := by decide +kernel
set_option maxHeartbeats 4000000 in
set_option maxRecDepth 100000 in
theorem ok_X8_couldHang (l : Launch) {D : va_G} {g : gw_G} {tG : Nat} {ad : Nat → Nat} {A : Nat → Prop} (hD : gw_D A 23 ad) (t0 : gw_S) (r0 : Int32) (hF : fX8_couldHang t0 = some r0) : Met l yX8_couldHang wsX8_couldHang rmX8_couldHang (gw_Pc D g tG (tM g ad) 23 ad A [.ref (ad 0)] t0) (gw_Qi D (tM g ad) 23 ad A r0 t0) 0 0 A := by
  unfold fX8_couldHang at hF
  refine gw_met (by decide) rfl hD (Nat.le_of_ble_eq_true rfl) (fun p e s m args below meth c E hr hlocks I ls hl => ?_)
  have hx := E.1.1
  have hb := E.1.2.1
  have hl : lv_has ls 3 [(0, .ref (ad 0))] := hl
  have hJ52 : ∀ (Kx : Int32 → Int32 → Option (Int32)) (Kh : Int32 → Int32 → Option (Int32)) (v2 : Int32) (x0 : Int32) (hKx : ∀ (v1 : Int32) (v2 : Int32) (H : Heap) (locs : List Loc) (ls : Array Slot), lv_has ls 3 [(1, .int v1)] → gw_I D (tM g ad) 23 ad A s.heap t0 H locs → Kx v1 v2 = some r0 → W p l e rmX8_couldHang s m args below meth c H locs 0 0 (MQ below (gw_Qi D (tM g ad) 23 ad A r0 t0) args s 0 0 A) (F0 m 59 ls [])) (hKh : ∀ (v1 : Int32) (v2 : Int32) (H : Heap) (locs : List Loc) (ls : Array Slot), lv_has ls 3 [(0, .ref (ad 0)), (1, .int v1), (2, .int v2)] → gw_I D (tM g ad) 23 ad A s.heap t0 H locs → Kh v1 v2 = some r0 → W p l e rmX8_couldHang s m args below meth c H locs 0 0 (MQ below (gw_Qi D (tM g ad) 23 ad A r0 t0) args s 0 0 A) (F0 m 4 ls [])) (H : Heap) (locs : List Loc) (ls : Array Slot), lv_has ls 3 [(0, .ref (ad 0)), (2, .int v2)] → gw_I D (tM g ad) 23 ad A s.heap t0 H locs → fX8_couldHang_J52 Kx Kh v2 x0 t0 = some r0 → W p l e rmX8_couldHang s m args below meth c H locs 0 0 (MQ below (gw_Qi D (tM g ad) 23 ad A r0 t0) args s 0 0 A) (F0 m 52 ls [.int x0]) := by
    intro Kx Kh v2 x0 hKx hKh H locs ls hl I hF
    unfold fX8_couldHang_J52 at hF
    refine lv_istore_n (lv' := [(1, .int x0), (0, .ref (ad 0)), (2, .int v2)]) hx hb dX8_couldHang_52 rfl hl (by decide) rfl (fun ls hl => ?_)
    replace hF := gw_nmE hF
    obtain ⟨v2_53, ev2_53, hF⟩ := hF
    refine lv_iinc (v := v2_53) (lv' := [(2, .int v2_53), (1, .int x0), (0, .ref (ad 0))]) hx hb dX8_couldHang_53 hl (k := 2) rfl (by subst ev2_53; rfl) (by decide) rfl (fun ls hl => ?_)
    refine lv_goto (tgt := 4) hx hb dX8_couldHang_56 (by decide) ?_
    exact hKh x0 v2_53 _ _ _ (lv_sub hl [2, 1, 0] rfl) I hF
  have hJ51 : ∀ (Kx : Int32 → Int32 → Option (Int32)) (Kh : Int32 → Int32 → Option (Int32)) (v2 : Int32) (hKx : ∀ (v1 : Int32) (v2 : Int32) (H : Heap) (locs : List Loc) (ls : Array Slot), lv_has ls 3 [(1, .int v1)] → gw_I D (tM g ad) 23 ad A s.heap t0 H locs → Kx v1 v2 = some r0 → W p l e rmX8_couldHang s m args below meth c H locs 0 0 (MQ below (gw_Qi D (tM g ad) 23 ad A r0 t0) args s 0 0 A) (F0 m 59 ls [])) (hKh : ∀ (v1 : Int32) (v2 : Int32) (H : Heap) (locs : List Loc) (ls : Array Slot), lv_has ls 3 [(0, .ref (ad 0)), (1, .int v1), (2, .int v2)] → gw_I D (tM g ad) 23 ad A s.heap t0 H locs → Kh v1 v2 = some r0 → W p l e rmX8_couldHang s m args below meth c H locs 0 0 (MQ below (gw_Qi D (tM g ad) 23 ad A r0 t0) args s 0 0 A) (F0 m 4 ls [])) (H : Heap) (locs : List Loc) (ls : Array Slot), lv_has ls 3 [(0, .ref (ad 0)), (2, .int v2)] → gw_I D (tM g ad) 23 ad A s.heap t0 H locs → fX8_couldHang_J51 Kx Kh v2 t0 = some r0 → W p l e rmX8_couldHang s m args below meth c H locs 0 0 (MQ below (gw_Qi D (tM g ad) 23 ad A r0 t0) args s 0 0 A) (F0 m 51 ls []) := by
    intro Kx Kh v2 hKx hKh H locs ls hl I hF
    unfold fX8_couldHang_J51 at hF
    refine lv_iconst (v := 0) hx hb dX8_couldHang_51 (by decide) ?_
    exact hJ52 Kx Kh v2 0 hKx hKh _ _ _ (lv_sub hl [0, 1] rfl) I hF
  have hL4 : ∀ (Kx : Int32 → Int32 → Option (Int32)), (∀ (v1 : Int32) (v2 : Int32) (H : Heap) (locs : List Loc) (ls : Array Slot), lv_has ls 3 [(1, .int v1)] → gw_I D (tM g ad) 23 ad A s.heap t0 H locs → Kx v1 v2 = some r0 → W p l e rmX8_couldHang s m args below meth c H locs 0 0 (MQ below (gw_Qi D (tM g ad) 23 ad A r0 t0) args s 0 0 A) (F0 m 59 ls [])) → ∀ (n : Nat) (v1 : Int32) (v2 : Int32) (H : Heap) (locs : List Loc) (ls : Array Slot), lv_has ls 3 [(0, .ref (ad 0)), (1, .int v1), (2, .int v2)] → gw_I D (tM g ad) 23 ad A s.heap t0 H locs → fX8_couldHang_L4 Kx t0 n v1 v2 = some r0 → W p l e rmX8_couldHang s m args below meth c H locs 0 0 (MQ below (gw_Qi D (tM g ad) 23 ad A r0 t0) args s 0 0 A) (F0 m 4 ls []) := by
    intro Kx hKx n
    induction n with
    | zero =>
      intro v1 v2 H locs ls hl I hF
      rw [fX8_couldHang_L4] at hF
      cases hF
    | succ n ih =>
      intro v1 v2 H locs ls hl I hF
      rw [fX8_couldHang_L4] at hF
      refine lv_iload_n hx hb dX8_couldHang_4 rfl (lv_at hl 2 rfl) ?_
      refine lv_aload_n hx hb dX8_couldHang_5 rfl (lv_at hl 0 rfl) ?_
      refine gf_M_0_15 E I in_X8_couldHang_X8 lk_X8_couldHang_127 dX8_couldHang_6 ?_
      refine lv_icmp_ge (tgt := 59) hx hb dX8_couldHang_9 (by decide) (fun c9 => ?_) (fun c9 => ?_)
      · replace hF := gw_if1 c9 hF
        exact hKx v1 v2 _ _ _ (lv_sub hl [1] rfl) I hF
      · replace hF := gw_if0 c9 hF
        refine lv_iload_n hx hb dX8_couldHang_12 rfl (lv_at hl 1 rfl) ?_
        refine lv_if_eq (tgt := 51) hx hb dX8_couldHang_13 (by decide) (fun c13 => ?_) (fun c13 => ?_)
        · replace hF := gw_if1 c13 hF
          exact hJ51 Kx (fX8_couldHang_L4 Kx t0 n) v2 hKx ih _ _ _ (lv_sub hl [0, 2] rfl) I hF
        · replace hF := gw_if0 c13 hF
          refine lv_aload_n hx hb dX8_couldHang_16 rfl (lv_at hl 0 rfl) ?_
          refine lv_bipush (v := 6) hx hb dX8_couldHang_17 (by decide) ?_
          refine lv_aload_n hx hb dX8_couldHang_19 rfl (lv_at hl 0 rfl) ?_
          refine gf_M_0_17 E I in_X8_couldHang_X8 lk_X8_couldHang_43 dX8_couldHang_20 ?_
          refine lv_iload_n hx hb dX8_couldHang_23 rfl (lv_at hl 2 rfl) ?_
          replace hF := gw_ifn hF
          obtain ⟨hz24, hF⟩ := hF
          refine gw_iald E I 12 (by decide) rfl hz24 dX8_couldHang_24 ?_
          replace hF := gw_bdE hF
          obtain ⟨r25, e25, hF⟩ := hF
          refine gw_calli I (gw_runV E I (ok_X8_hookOf l hD t0 6 (rdI t0 12 (Int32.toNatClampNeg v2)) _ e25) (cwV 2 E.1.2.2.2.2 gX8_couldHang_X8_hookOf rfl rfl rfl (by decide +kernel) ⟨Nat.le_of_ble_eq_true rfl, Nat.le_of_ble_eq_true rfl⟩) (by decide) rfl rfl rfl hl.1 rfl (Nat.le_of_ble_eq_true rfl) dX8_couldHang_25) (fun H locs I => ?_)
          refine lv_aload_n hx hb dX8_couldHang_28 rfl (lv_at hl 0 rfl) ?_
          refine lv_aload_n hx hb dX8_couldHang_29 rfl (lv_at hl 0 rfl) ?_
          refine lv_bipush (v := 6) hx hb dX8_couldHang_30 (by decide) ?_
          refine lv_aload_n hx hb dX8_couldHang_32 rfl (lv_at hl 0 rfl) ?_
          refine gf_M_0_16 E I in_X8_couldHang_X8 lk_X8_couldHang_40 dX8_couldHang_33 ?_
          refine lv_iload_n hx hb dX8_couldHang_36 rfl (lv_at hl 2 rfl) ?_
          replace hF := gw_ifn hF
          obtain ⟨hz37, hF⟩ := hF
          refine gw_iald E I 11 (by decide) rfl hz37 dX8_couldHang_37 ?_
          replace hF := gw_bdE hF
          obtain ⟨r38, e38, hF⟩ := hF
          refine gw_calli I (gw_runV E I (ok_X8_hookOf l hD t0 6 (rdI t0 11 (Int32.toNatClampNeg v2)) _ e38) (cwV 2 E.1.2.2.2.2 gX8_couldHang_X8_hookOf rfl rfl rfl (by decide +kernel) ⟨Nat.le_of_ble_eq_true rfl, Nat.le_of_ble_eq_true rfl⟩) (by decide) rfl rfl rfl hl.1 rfl (Nat.le_of_ble_eq_true rfl) dX8_couldHang_38) (fun H locs I => ?_)
          refine gw_calli I (gw_runV E I (ok_X8_nextOf l hD t0 r38 _ rfl) (cwV 1 E.1.2.2.2.2 gX8_couldHang_X8_nextOf rfl rfl rfl (by decide +kernel) ⟨Nat.le_of_ble_eq_true rfl, Nat.le_of_ble_eq_true rfl⟩) (by decide) rfl rfl rfl hl.1 rfl (Nat.le_of_ble_eq_true rfl) dX8_couldHang_41) (fun H locs I => ?_)
          refine lv_icmp_ne (tgt := 51) hx hb dX8_couldHang_44 (by decide) (fun c44 => ?_) (fun c44 => ?_)
          · replace hF := gw_if0 c44 hF
            exact hJ51 Kx (fX8_couldHang_L4 Kx t0 n) v2 hKx ih _ _ _ (lv_sub hl [0, 2] rfl) I hF
          · replace hF := gw_if1 c44 hF
            refine lv_iconst (v := 1) hx hb dX8_couldHang_47 (by decide) ?_
            refine lv_goto (tgt := 52) hx hb dX8_couldHang_48 (by decide) ?_
            exact hJ52 Kx (fX8_couldHang_L4 Kx t0 n) v2 1 hKx ih _ _ _ (lv_sub hl [0, 2] rfl) I hF
  refine lv_iconst (v := 1) hx hb dX8_couldHang_0 (by decide) ?_
  refine lv_istore_n (lv' := [(1, .int 1), (0, .ref (ad 0))]) hx hb dX8_couldHang_1 rfl hl (by decide) rfl (fun ls hl => ?_)
  refine lv_iconst (v := 0) hx hb dX8_couldHang_2 (by decide) ?_
  refine lv_istore_n (lv' := [(2, .int 0), (1, .int 1), (0, .ref (ad 0))]) hx hb dX8_couldHang_3 rfl hl (by decide) rfl (fun ls hl => ?_)
  refine hL4 _  (fun v1_x4 v2_x4 H locs ls hl I hF => ?_) 2000 1 0 _ _ _ (lv_sub hl [2, 1, 0] rfl) I hF
  refine lv_iload_n hx hb dX8_couldHang_59 rfl (lv_at hl 0 rfl) ?_
  replace hF := gw_ifn hF
  obtain ⟨hz60, hF⟩ := hF
  exact gw_iret E I hr hlocks (gw_nar hz60) (Option.some.inj hF) rfl dX8_couldHang_60
abbrev rmX8_hungNow : Room := { frames := 2, cells := 0, slots := 0, locals := 49 }
set_option maxHeartbeats 4000000 in
set_option maxRecDepth 100000 in
theorem ok_X8_hungNow (l : Launch) {D : va_G} {g : gw_G} {tG : Nat} {ad : Nat → Nat} {A : Nat → Prop} (hD : gw_D A 23 ad) (t0 : gw_S) (r0 : Int32) (tz : gw_S) (hF : fX8_hungNow t0 = some (r0, tz)) : Met l yX8_hungNow wsX8_hungNow rmX8_hungNow (gw_Pc D g tG (tM g ad) 23 ad A [.ref (ad 0)] t0) (gw_Qi D (tM g ad) 23 ad A r0 tz) 0 0 A := by
  unfold fX8_hungNow at hF
  refine gw_met (by decide) rfl hD (Nat.le_of_ble_eq_true rfl) (fun p e s m args below meth c E hr hlocks I ls hl => ?_)
  have hx := E.1.1
  have hb := E.1.2.1
  have hl : lv_has ls 3 [(0, .ref (ad 0))] := hl
  have hJ30 : ∀ (Kx : Int32 → Int32 → gw_S → Option (Int32 × gw_S)) (Kh : Int32 → Int32 → gw_S → Option (Int32 × gw_S)) (v2 : Int32) (x0 : Int32) (x1 : Int32) (hKx : ∀ (v1 : Int32) (v2 : Int32) (t : gw_S) (H : Heap) (locs : List Loc) (ls : Array Slot), lv_has ls 3 [(1, .int v1)] → gw_I D (tM g ad) 23 ad A s.heap t H locs → Kx v1 v2 t = some (r0, tz) → W p l e rmX8_hungNow s m args below meth c H locs 0 0 (MQ below (gw_Qi D (tM g ad) 23 ad A r0 tz) args s 0 0 A) (F0 m 38 ls [])) (hKh : ∀ (v1 : Int32) (v2 : Int32) (t : gw_S) (H : Heap) (locs : List Loc) (ls : Array Slot), lv_has ls 3 [(0, .ref (ad 0)), (1, .int v1), (2, .int v2)] → gw_I D (tM g ad) 23 ad A s.heap t H locs → Kh v1 v2 t = some (r0, tz) → W p l e rmX8_hungNow s m args below meth c H locs 0 0 (MQ below (gw_Qi D (tM g ad) 23 ad A r0 tz) args s 0 0 A) (F0 m 4 ls [])) (t : gw_S) (H : Heap) (locs : List Loc) (ls : Array Slot), lv_has ls 3 [(0, .ref (ad 0)), (2, .int v2)] → gw_I D (tM g ad) 23 ad A s.heap t H locs → fX8_hungNow_J30 Kx Kh v2 x0 x1 t = some (r0, tz) → W p l e rmX8_hungNow s m args below meth c H locs 0 0 (MQ below (gw_Qi D (tM g ad) 23 ad A r0 tz) args s 0 0 A) (F0 m 30 ls [.int x1, .int x0]) := by
    intro Kx Kh v2 x0 x1 hKx hKh t H locs ls hl I hF
    unfold fX8_hungNow_J30 at hF
    refine lv_iadd hx hb dX8_hungNow_30 ?_
    replace hF := gw_nmE hF
    obtain ⟨v1_31, ev1_31, hF⟩ := hF
    refine gw_topi ev1_31 ?_
    refine lv_istore_n (lv' := [(1, .int v1_31), (0, .ref (ad 0)), (2, .int v2)]) hx hb dX8_hungNow_31 rfl hl (by decide) rfl (fun ls hl => ?_)
    replace hF := gw_nmE hF
    obtain ⟨v2_32, ev2_32, hF⟩ := hF
    refine lv_iinc (v := v2_32) (lv' := [(2, .int v2_32), (1, .int v1_31), (0, .ref (ad 0))]) hx hb dX8_hungNow_32 hl (k := 2) rfl (by subst ev2_32; rfl) (by decide) rfl (fun ls hl => ?_)
    refine lv_goto (tgt := 4) hx hb dX8_hungNow_35 (by decide) ?_
    exact hKh v1_31 v2_32 t _ _ _ (lv_sub hl [2, 1, 0] rfl) I hF
  have hL4 : ∀ (Kx : Int32 → Int32 → gw_S → Option (Int32 × gw_S)), (∀ (v1 : Int32) (v2 : Int32) (t : gw_S) (H : Heap) (locs : List Loc) (ls : Array Slot), lv_has ls 3 [(1, .int v1)] → gw_I D (tM g ad) 23 ad A s.heap t H locs → Kx v1 v2 t = some (r0, tz) → W p l e rmX8_hungNow s m args below meth c H locs 0 0 (MQ below (gw_Qi D (tM g ad) 23 ad A r0 tz) args s 0 0 A) (F0 m 38 ls [])) → ∀ (n : Nat) (v1 : Int32) (v2 : Int32) (t : gw_S) (H : Heap) (locs : List Loc) (ls : Array Slot), lv_has ls 3 [(0, .ref (ad 0)), (1, .int v1), (2, .int v2)] → gw_I D (tM g ad) 23 ad A s.heap t H locs → fX8_hungNow_L4 Kx n v1 v2 t = some (r0, tz) → W p l e rmX8_hungNow s m args below meth c H locs 0 0 (MQ below (gw_Qi D (tM g ad) 23 ad A r0 tz) args s 0 0 A) (F0 m 4 ls []) := by
    intro Kx hKx n
    induction n with
    | zero =>
      intro v1 v2 t H locs ls hl I hF
      rw [fX8_hungNow_L4] at hF
      cases hF
    | succ n ih =>
      intro v1 v2 t H locs ls hl I hF
      rw [fX8_hungNow_L4] at hF
      refine lv_iload_n hx hb dX8_hungNow_4 rfl (lv_at hl 2 rfl) ?_
      refine lv_aload_n hx hb dX8_hungNow_5 rfl (lv_at hl 0 rfl) ?_
      replace hF := gw_bdE hF
      obtain ⟨r6, e6, hF⟩ := hF
      refine gw_calli I (gw_runV E I (ok_X8_ways l hD t _ e6) (cwV 0 E.1.2.2.2.2 gX8_hungNow_X8_ways rfl rfl rfl (by decide +kernel) ⟨Nat.le_of_ble_eq_true rfl, Nat.le_of_ble_eq_true rfl⟩) (by decide) rfl rfl rfl hl.1 rfl (Nat.le_of_ble_eq_true rfl) dX8_hungNow_6) (fun H locs I => ?_)
      refine lv_icmp_ge (tgt := 38) hx hb dX8_hungNow_9 (by decide) (fun c9 => ?_) (fun c9 => ?_)
      · replace hF := gw_if1 c9 hF
        exact hKx v1 v2 t _ _ _ (lv_sub hl [1] rfl) I hF
      · replace hF := gw_if0 c9 hF
        refine lv_aload_n hx hb dX8_hungNow_12 rfl (lv_at hl 0 rfl) ?_
        refine lv_iload_n hx hb dX8_hungNow_13 rfl (lv_at hl 2 rfl) ?_
        replace hF := gw_bdE hF
        obtain ⟨t_14, e14, hF⟩ := hF
        refine gw_callv I (gw_runV E I (ok_X8_hangBy l hD t v2 _ e14) (cwV 1 E.1.2.2.2.2 gX8_hungNow_X8_hangBy rfl rfl rfl (by decide +kernel) ⟨Nat.le_of_ble_eq_true rfl, Nat.le_of_ble_eq_true rfl⟩) (by decide) rfl rfl rfl hl.1 rfl (Nat.le_of_ble_eq_true rfl) dX8_hungNow_14) (fun H locs I => ?_)
        refine lv_iload_n hx hb dX8_hungNow_17 rfl (lv_at hl 1 rfl) ?_
        refine lv_aload_n hx hb dX8_hungNow_18 rfl (lv_at hl 0 rfl) ?_
        replace hF := gw_bdE hF
        obtain ⟨r19, e19, hF⟩ := hF
        refine gw_calli I (gw_runV E I (ok_X8_couldHang l hD t_14 _ e19) (cwV 0 E.1.2.2.2.2 gX8_hungNow_X8_couldHang rfl rfl rfl (by decide +kernel) ⟨Nat.le_of_ble_eq_true rfl, Nat.le_of_ble_eq_true rfl⟩) (by decide) rfl rfl rfl hl.1 rfl (Nat.le_of_ble_eq_true rfl) dX8_hungNow_19) (fun H locs I => ?_)
        refine lv_if_eq (tgt := 29) hx hb dX8_hungNow_22 (by decide) (fun c22 => ?_) (fun c22 => ?_)
        · replace hF := gw_if1 c22 hF
          refine lv_iconst (v := 0) hx hb dX8_hungNow_29 (by decide) ?_
          exact hJ30 Kx (fX8_hungNow_L4 Kx n) v2 v1 0 hKx ih t_14 _ _ _ (lv_sub hl [0, 2] rfl) I hF
        · replace hF := gw_if0 c22 hF
          refine lv_iconst (v := 1) hx hb dX8_hungNow_25 (by decide) ?_
          refine lv_goto (tgt := 30) hx hb dX8_hungNow_26 (by decide) ?_
          exact hJ30 Kx (fX8_hungNow_L4 Kx n) v2 v1 1 hKx ih t_14 _ _ _ (lv_sub hl [0, 2] rfl) I hF
  refine lv_iconst (v := 0) hx hb dX8_hungNow_0 (by decide) ?_
  refine lv_istore_n (lv' := [(1, .int 0), (0, .ref (ad 0))]) hx hb dX8_hungNow_1 rfl hl (by decide) rfl (fun ls hl => ?_)
  refine lv_iconst (v := 0) hx hb dX8_hungNow_2 (by decide) ?_
  refine lv_istore_n (lv' := [(2, .int 0), (1, .int 0), (0, .ref (ad 0))]) hx hb dX8_hungNow_3 rfl hl (by decide) rfl (fun ls hl => ?_)
  refine hL4 _  (fun v1_x4 v2_x4 t_x4 H locs ls hl I hF => ?_) 2000 0 0 t0 _ _ _ (lv_sub hl [2, 1, 0] rfl) I hF
  refine lv_iload_n hx hb dX8_hungNow_38 rfl (lv_at hl 0 rfl) ?_
  exact gw_iret E I hr hlocks rfl (Prod.mk.inj (Option.some.inj hF)).1 (Prod.mk.inj (Option.some.inj hF)).2 dX8_hungNow_39
abbrev rmX8_hung : Room := { frames := 3, cells := 0, slots := 0, locals := 71 }
theorem lk_X8_hung_109 : Cond.fieldLink RX8 109 "ThrownSacksModel" "hooks" "I" ∈ wsX8_hung := by decide +kernel
theorem in_X8_hung_X8 : ∀ w ∈ u_ws RX8 TX8 42, w ∈ wsX8_hung := by decide +kernel
set_option maxHeartbeats 4000000 in
set_option maxRecDepth 100000 in
theorem ok_X8_hung (l : Launch) {D : va_G} {g : gw_G} {tG : Nat} {ad : Nat → Nat} {A : Nat → Prop} (hD : gw_D A 23 ad) (t0 : gw_S) (r0 : Int32) (tz : gw_S) (hF : fX8_hung t0 = some (r0, tz)) : Met l yX8_hung wsX8_hung rmX8_hung (gw_Pc D g tG (tM g ad) 23 ad A [.ref (ad 0)] t0) (gw_Qi D (tM g ad) 23 ad A r0 tz) 0 0 A := by
  unfold fX8_hung at hF
  refine gw_met (by decide) rfl hD (Nat.le_of_ble_eq_true rfl) (fun p e s m args below meth c E hr hlocks I ls hl => ?_)
  have hx := E.1.1
  have hb := E.1.2.1
  have hl : lv_has ls 1 [(0, .ref (ad 0))] := hl
  refine lv_aload_n hx hb dX8_hung_0 rfl (lv_at hl 0 rfl) ?_
  refine gf_M_0_1 E I in_X8_hung_X8 lk_X8_hung_109 dX8_hung_1 ?_
  refine lv_if_ne (tgt := 12) hx hb dX8_hung_4 (by decide) (fun c4 => ?_) (fun c4 => ?_)
  · replace hF := gw_if0 c4 hF
    refine lv_aload_n hx hb dX8_hung_12 rfl (lv_at hl 0 rfl) ?_
    replace hF := gw_b2E hF
    obtain ⟨r13, t_13, e13, hF⟩ := hF
    refine gw_calli I (gw_runV E I (ok_X8_hungNow l hD t0 _ _ e13) (cwV 0 E.1.2.2.2.2 gX8_hung_X8_hungNow rfl rfl rfl (by decide +kernel) ⟨Nat.le_of_ble_eq_true rfl, Nat.le_of_ble_eq_true rfl⟩) (by decide) rfl rfl rfl hl.1 rfl (Nat.le_of_ble_eq_true rfl) dX8_hung_13) (fun H locs I => ?_)
    exact gw_iret E I hr hlocks rfl (Prod.mk.inj (Option.some.inj hF)).1 (Prod.mk.inj (Option.some.inj hF)).2 dX8_hung_16
  · replace hF := gw_if1 c4 hF
    refine lv_bipush (v := (-103)) hx hb dX8_hung_7 (by decide) ?_
    refine lv_goto (tgt := 16) hx hb dX8_hung_9 (by decide) ?_
    exact gw_iret E I hr hlocks rfl (Prod.mk.inj (Option.some.inj hF)).1 (Prod.mk.inj (Option.some.inj hF)).2 dX8_hung_16
abbrev rmX8_whereNow : Room := { frames := 2, cells := 0, slots := 0, locals := 49 }
set_option maxHeartbeats 4000000 in
set_option maxRecDepth 100000 in
theorem ok_X8_whereNow (l : Launch) {D : va_G} {g : gw_G} {tG : Nat} {ad : Nat → Nat} {A : Nat → Prop} (hD : gw_D A 23 ad) (t0 : gw_S) (v1 : Int32) (r0 : Int32) (tz : gw_S) (hF : fX8_whereNow v1 t0 = some (r0, tz)) : Met l yX8_whereNow wsX8_whereNow rmX8_whereNow (gw_Pc D g tG (tM g ad) 23 ad A [.ref (ad 0), .int v1] t0) (gw_Qi D (tM g ad) 23 ad A r0 tz) 0 0 A := by
  unfold fX8_whereNow at hF
  refine gw_met (by decide) rfl hD (Nat.le_of_ble_eq_true rfl) (fun p e s m args below meth c E hr hlocks I ls hl => ?_)
  have hx := E.1.1
  have hb := E.1.2.1
  have hl : lv_has ls 4 [(0, .ref (ad 0)), (1, .int v1)] := hl
  have hJ38 : ∀ (Kx : Int32 → Int32 → gw_S → Option (Int32 × gw_S)) (Kh : Int32 → Int32 → gw_S → Option (Int32 × gw_S)) (v1 : Int32) (v3 : Int32) (x0 : Int32) (x1 : Int32) (hKx : ∀ (v2 : Int32) (v3 : Int32) (t : gw_S) (H : Heap) (locs : List Loc) (ls : Array Slot), lv_has ls 4 [(2, .int v2)] → gw_I D (tM g ad) 23 ad A s.heap t H locs → Kx v2 v3 t = some (r0, tz) → W p l e rmX8_whereNow s m args below meth c H locs 0 0 (MQ below (gw_Qi D (tM g ad) 23 ad A r0 tz) args s 0 0 A) (F0 m 46 ls [])) (hKh : ∀ (v2 : Int32) (v3 : Int32) (t : gw_S) (H : Heap) (locs : List Loc) (ls : Array Slot), lv_has ls 4 [(0, .ref (ad 0)), (1, .int v1), (2, .int v2), (3, .int v3)] → gw_I D (tM g ad) 23 ad A s.heap t H locs → Kh v2 v3 t = some (r0, tz) → W p l e rmX8_whereNow s m args below meth c H locs 0 0 (MQ below (gw_Qi D (tM g ad) 23 ad A r0 tz) args s 0 0 A) (F0 m 4 ls [])) (t : gw_S) (H : Heap) (locs : List Loc) (ls : Array Slot), lv_has ls 4 [(0, .ref (ad 0)), (1, .int v1), (3, .int v3)] → gw_I D (tM g ad) 23 ad A s.heap t H locs → fX8_whereNow_J38 Kx Kh v1 v3 x0 x1 t = some (r0, tz) → W p l e rmX8_whereNow s m args below meth c H locs 0 0 (MQ below (gw_Qi D (tM g ad) 23 ad A r0 tz) args s 0 0 A) (F0 m 38 ls [.int x1, .int x0]) := by
    intro Kx Kh v1 v3 x0 x1 hKx hKh t H locs ls hl I hF
    unfold fX8_whereNow_J38 at hF
    refine lv_ior hx hb dX8_whereNow_38 ?_
    replace hF := gw_nmE hF
    obtain ⟨v2_39, ev2_39, hF⟩ := hF
    refine gw_topi ev2_39 ?_
    refine lv_istore_n (lv' := [(2, .int v2_39), (0, .ref (ad 0)), (1, .int v1), (3, .int v3)]) hx hb dX8_whereNow_39 rfl hl (by decide) rfl (fun ls hl => ?_)
    replace hF := gw_nmE hF
    obtain ⟨v3_40, ev3_40, hF⟩ := hF
    refine lv_iinc (v := v3_40) (lv' := [(3, .int v3_40), (2, .int v2_39), (0, .ref (ad 0)), (1, .int v1)]) hx hb dX8_whereNow_40 hl (k := 3) rfl (by subst ev3_40; rfl) (by decide) rfl (fun ls hl => ?_)
    refine lv_goto (tgt := 4) hx hb dX8_whereNow_43 (by decide) ?_
    exact hKh v2_39 v3_40 t _ _ _ (lv_sub hl [2, 3, 1, 0] rfl) I hF
  have hL4 : ∀ (Kx : Int32 → Int32 → gw_S → Option (Int32 × gw_S)) (v1 : Int32), (∀ (v2 : Int32) (v3 : Int32) (t : gw_S) (H : Heap) (locs : List Loc) (ls : Array Slot), lv_has ls 4 [(2, .int v2)] → gw_I D (tM g ad) 23 ad A s.heap t H locs → Kx v2 v3 t = some (r0, tz) → W p l e rmX8_whereNow s m args below meth c H locs 0 0 (MQ below (gw_Qi D (tM g ad) 23 ad A r0 tz) args s 0 0 A) (F0 m 46 ls [])) → ∀ (n : Nat) (v2 : Int32) (v3 : Int32) (t : gw_S) (H : Heap) (locs : List Loc) (ls : Array Slot), lv_has ls 4 [(0, .ref (ad 0)), (1, .int v1), (2, .int v2), (3, .int v3)] → gw_I D (tM g ad) 23 ad A s.heap t H locs → fX8_whereNow_L4 Kx v1 n v2 v3 t = some (r0, tz) → W p l e rmX8_whereNow s m args below meth c H locs 0 0 (MQ below (gw_Qi D (tM g ad) 23 ad A r0 tz) args s 0 0 A) (F0 m 4 ls []) := by
    intro Kx v1 hKx n
    induction n with
    | zero =>
      intro v2 v3 t H locs ls hl I hF
      rw [fX8_whereNow_L4] at hF
      cases hF
    | succ n ih =>
      intro v2 v3 t H locs ls hl I hF
      rw [fX8_whereNow_L4] at hF
      refine lv_iload_n hx hb dX8_whereNow_4 rfl (lv_at hl 3 rfl) ?_
      refine lv_aload_n hx hb dX8_whereNow_5 rfl (lv_at hl 0 rfl) ?_
      replace hF := gw_bdE hF
      obtain ⟨r6, e6, hF⟩ := hF
      refine gw_calli I (gw_runV E I (ok_X8_ways l hD t _ e6) (cwV 0 E.1.2.2.2.2 gX8_whereNow_X8_ways rfl rfl rfl (by decide +kernel) ⟨Nat.le_of_ble_eq_true rfl, Nat.le_of_ble_eq_true rfl⟩) (by decide) rfl rfl rfl hl.1 rfl (Nat.le_of_ble_eq_true rfl) dX8_whereNow_6) (fun H locs I => ?_)
      refine lv_icmp_ge (tgt := 46) hx hb dX8_whereNow_9 (by decide) (fun c9 => ?_) (fun c9 => ?_)
      · replace hF := gw_if1 c9 hF
        exact hKx v2 v3 t _ _ _ (lv_sub hl [2] rfl) I hF
      · replace hF := gw_if0 c9 hF
        refine lv_aload_n hx hb dX8_whereNow_12 rfl (lv_at hl 0 rfl) ?_
        refine lv_iload_n hx hb dX8_whereNow_13 rfl (lv_at hl 3 rfl) ?_
        replace hF := gw_bdE hF
        obtain ⟨t_14, e14, hF⟩ := hF
        refine gw_callv I (gw_runV E I (ok_X8_hangBy l hD t v3 _ e14) (cwV 1 E.1.2.2.2.2 gX8_whereNow_X8_hangBy rfl rfl rfl (by decide +kernel) ⟨Nat.le_of_ble_eq_true rfl, Nat.le_of_ble_eq_true rfl⟩) (by decide) rfl rfl rfl hl.1 rfl (Nat.le_of_ble_eq_true rfl) dX8_whereNow_14) (fun H locs I => ?_)
        refine lv_iload_n hx hb dX8_whereNow_17 rfl (lv_at hl 2 rfl) ?_
        refine lv_aload_n hx hb dX8_whereNow_18 rfl (lv_at hl 0 rfl) ?_
        replace hF := gw_bdE hF
        obtain ⟨r19, e19, hF⟩ := hF
        refine gw_calli I (gw_runV E I (ok_X8_couldHang l hD t_14 _ e19) (cwV 0 E.1.2.2.2.2 gX8_whereNow_X8_couldHang rfl rfl rfl (by decide +kernel) ⟨Nat.le_of_ble_eq_true rfl, Nat.le_of_ble_eq_true rfl⟩) (by decide) rfl rfl rfl hl.1 rfl (Nat.le_of_ble_eq_true rfl) dX8_whereNow_19) (fun H locs I => ?_)
        refine lv_if_eq (tgt := 37) hx hb dX8_whereNow_22 (by decide) (fun c22 => ?_) (fun c22 => ?_)
        · replace hF := gw_if1 c22 hF
          refine lv_iconst (v := 0) hx hb dX8_whereNow_37 (by decide) ?_
          exact hJ38 Kx (fX8_whereNow_L4 Kx v1 n) v1 v3 v2 0 hKx ih t_14 _ _ _ (lv_sub hl [0, 1, 3] rfl) I hF
        · replace hF := gw_if0 c22 hF
          refine lv_iconst (v := 1) hx hb dX8_whereNow_25 (by decide) ?_
          refine lv_aload_n hx hb dX8_whereNow_26 rfl (lv_at hl 0 rfl) ?_
          refine lv_bipush (v := 6) hx hb dX8_whereNow_27 (by decide) ?_
          refine lv_iload_n hx hb dX8_whereNow_29 rfl (lv_at hl 1 rfl) ?_
          replace hF := gw_bdE hF
          obtain ⟨r30, e30, hF⟩ := hF
          refine gw_calli I (gw_runV E I (ok_X8_hookOf l hD t_14 6 v1 _ e30) (cwV 2 E.1.2.2.2.2 gX8_whereNow_X8_hookOf rfl rfl rfl (by decide +kernel) ⟨Nat.le_of_ble_eq_true rfl, Nat.le_of_ble_eq_true rfl⟩) (by decide) rfl rfl rfl hl.1 rfl (Nat.le_of_ble_eq_true rfl) dX8_whereNow_30) (fun H locs I => ?_)
          refine lv_ishl hx hb dX8_whereNow_33 ?_
          refine lv_goto (tgt := 38) hx hb dX8_whereNow_34 (by decide) ?_
          exact hJ38 Kx (fX8_whereNow_L4 Kx v1 n) v1 v3 v2 (1 <<< (r30 &&& 31)) hKx ih t_14 _ _ _ (lv_sub hl [0, 1, 3] rfl) I hF
  refine lv_iconst (v := 0) hx hb dX8_whereNow_0 (by decide) ?_
  refine lv_istore_n (lv' := [(2, .int 0), (0, .ref (ad 0)), (1, .int v1)]) hx hb dX8_whereNow_1 rfl hl (by decide) rfl (fun ls hl => ?_)
  refine lv_iconst (v := 0) hx hb dX8_whereNow_2 (by decide) ?_
  refine lv_istore_n (lv' := [(3, .int 0), (2, .int 0), (0, .ref (ad 0)), (1, .int v1)]) hx hb dX8_whereNow_3 rfl hl (by decide) rfl (fun ls hl => ?_)
  refine hL4 _ v1 (fun v2_x4 v3_x4 t_x4 H locs ls hl I hF => ?_) 2000 0 0 t0 _ _ _ (lv_sub hl [2, 3, 1, 0] rfl) I hF
  refine lv_iload_n hx hb dX8_whereNow_46 rfl (lv_at hl 0 rfl) ?_
  exact gw_iret E I hr hlocks rfl (Prod.mk.inj (Option.some.inj hF)).1 (Prod.mk.inj (Option.some.inj hF)).2 dX8_whereNow_47
abbrev rmX8_where : Room := { frames := 3, cells := 0, slots := 0, locals := 72 }
set_option maxHeartbeats 4000000 in
set_option maxRecDepth 100000 in
theorem ok_X8_where (l : Launch) {D : va_G} {g : gw_G} {tG : Nat} {ad : Nat → Nat} {A : Nat → Prop} (hD : gw_D A 23 ad) (t0 : gw_S) (v1 : Int32) (r0 : Int32) (tz : gw_S) (hF : fX8_where v1 t0 = some (r0, tz)) : Met l yX8_where wsX8_where rmX8_where (gw_Pc D g tG (tM g ad) 23 ad A [.ref (ad 0), .int v1] t0) (gw_Qi D (tM g ad) 23 ad A r0 tz) 0 0 A := by
  unfold fX8_where at hF
  refine gw_met (by decide) rfl hD (Nat.le_of_ble_eq_true rfl) (fun p e s m args below meth c E hr hlocks I ls hl => ?_)
  have hx := E.1.1
  have hb := E.1.2.1
  have hl : lv_has ls 2 [(0, .ref (ad 0)), (1, .int v1)] := hl
  refine lv_aload_n hx hb dX8_where_0 rfl (lv_at hl 0 rfl) ?_
  refine lv_iload_n hx hb dX8_where_1 rfl (lv_at hl 1 rfl) ?_
  replace hF := gw_bdE hF
  obtain ⟨r2, e2, hF⟩ := hF
  refine gw_calli I (gw_runV E I (ok_X8_isHook l hD t0 v1 _ e2) (cwV 1 E.1.2.2.2.2 gX8_where_X8_isHook rfl rfl rfl (by decide +kernel) ⟨Nat.le_of_ble_eq_true rfl, Nat.le_of_ble_eq_true rfl⟩) (by decide) rfl rfl rfl hl.1 rfl (Nat.le_of_ble_eq_true rfl) dX8_where_2) (fun H locs I => ?_)
  refine lv_if_eq (tgt := 16) hx hb dX8_where_5 (by decide) (fun c5 => ?_) (fun c5 => ?_)
  · replace hF := gw_if1 c5 hF
    refine lv_bipush (v := (-101)) hx hb dX8_where_16 (by decide) ?_
    exact gw_iret E I hr hlocks rfl (Prod.mk.inj (Option.some.inj hF)).1 (Prod.mk.inj (Option.some.inj hF)).2 dX8_where_18
  · replace hF := gw_if0 c5 hF
    refine lv_aload_n hx hb dX8_where_8 rfl (lv_at hl 0 rfl) ?_
    refine lv_iload_n hx hb dX8_where_9 rfl (lv_at hl 1 rfl) ?_
    replace hF := gw_b2E hF
    obtain ⟨r10, t_10, e10, hF⟩ := hF
    refine gw_calli I (gw_runV E I (ok_X8_whereNow l hD t0 v1 _ _ e10) (cwV 1 E.1.2.2.2.2 gX8_where_X8_whereNow rfl rfl rfl (by decide +kernel) ⟨Nat.le_of_ble_eq_true rfl, Nat.le_of_ble_eq_true rfl⟩) (by decide) rfl rfl rfl hl.1 rfl (Nat.le_of_ble_eq_true rfl) dX8_where_10) (fun H locs I => ?_)
    refine lv_goto (tgt := 18) hx hb dX8_where_13 (by decide) ?_
    exact gw_iret E I hr hlocks rfl (Prod.mk.inj (Option.some.inj hF)).1 (Prod.mk.inj (Option.some.inj hF)).2 dX8_where_18
abbrev rmX8_draw : Room := { frames := 0, cells := 0, slots := 0, locals := 0 }
theorem lk_X8_draw_216 : Cond.fieldLink RX8 216 "ThrownSacksModel" "seedNow" "J" ∈ wsX8_draw := by decide +kernel
theorem in_X8_draw_X8 : ∀ w ∈ u_ws RX8 TX8 42, w ∈ wsX8_draw := by decide +kernel
theorem kc_X8_draw_214 : Cond.constantLong RX8 214 (1103515245) ∈ wsX8_draw := by decide +kernel
theorem kc_X8_draw_220 : Cond.constantLong RX8 220 (12345) ∈ wsX8_draw := by decide +kernel
theorem kc_X8_draw_222 : Cond.constantLong RX8 222 (2147483647) ∈ wsX8_draw := by decide +kernel
theorem kc_X8_draw_224 : Cond.constantLong RX8 224 (65536) ∈ wsX8_draw := by decide +kernel
set_option maxHeartbeats 4000000 in
set_option maxRecDepth 100000 in
theorem ok_X8_draw (l : Launch) {D : va_G} {g : gw_G} {tG : Nat} {ad : Nat → Nat} {A : Nat → Prop} (hD : gw_D A 23 ad) (t0 : gw_S) (v1 : Int32) (r0 : Int32) (tz : gw_S) (hF : fX8_draw v1 t0 = some (r0, tz)) : Met l yX8_draw wsX8_draw rmX8_draw (gw_Pc D g tG (tM g ad) 23 ad A [.ref (ad 0), .int v1] t0) (gw_Qi D (tM g ad) 23 ad A r0 tz) 0 0 A := by
  unfold fX8_draw at hF
  refine gw_met (by decide) rfl hD (Nat.le_of_ble_eq_true rfl) (fun p e s m args below meth c E hr hlocks I ls hl => ?_)
  have hx := E.1.1
  have hb := E.1.2.1
  have hl : lv_has ls 2 [(0, .ref (ad 0)), (1, .int v1)] := hl
  refine lv_aload_n hx hb dX8_draw_0 rfl (lv_at hl 0 rfl) ?_
  refine lv_ldc2 hx hb E.1.2.2.2.1 (E.1.2.2.2.2 _ kc_X8_draw_214) dX8_draw_1 ?_
  refine lv_aload_n hx hb dX8_draw_4 rfl (lv_at hl 0 rfl) ?_
  refine gf_M_0_23 E I in_X8_draw_X8 lk_X8_draw_216 dX8_draw_5 ?_
  refine lv_lmul hx hb dX8_draw_8 ?_
  refine lv_ldc2 hx hb E.1.2.2.2.1 (E.1.2.2.2.2 _ kc_X8_draw_220) dX8_draw_9 ?_
  refine lv_ladd hx hb dX8_draw_12 ?_
  refine lv_ldc2 hx hb E.1.2.2.2.1 (E.1.2.2.2.2 _ kc_X8_draw_222) dX8_draw_13 ?_
  refine lv_land hx hb dX8_draw_16 ?_
  replace hF := gw_nmE hF
  obtain ⟨t_17, et_17, hF⟩ := hF
  refine gp_M_0_23 E I in_X8_draw_X8 lk_X8_draw_216 et_17 dX8_draw_17 (fun H locs I => ?_)
  refine lv_aload_n hx hb dX8_draw_20 rfl (lv_at hl 0 rfl) ?_
  refine gf_M_0_23 E I in_X8_draw_X8 lk_X8_draw_216 dX8_draw_21 ?_
  refine lv_ldc2 hx hb E.1.2.2.2.1 (E.1.2.2.2.2 _ kc_X8_draw_224) dX8_draw_24 ?_
  refine lv_ldiv hx hb dX8_draw_27 (by decide) ?_
  refine lv_iload_n hx hb dX8_draw_28 rfl (lv_at hl 1 rfl) ?_
  refine lv_i2l hx hb dX8_draw_29 rfl ?_
  replace hF := gw_ifz hF
  obtain ⟨hz30, hF⟩ := hF
  refine lv_lrem hx hb dX8_draw_30 hz30 ?_
  refine lv_l2i hx hb dX8_draw_31 rfl ?_
  exact gw_iret E I hr hlocks rfl (Prod.mk.inj (Option.some.inj hF)).1 (Prod.mk.inj (Option.some.inj hF)).2 dX8_draw_32
abbrev rmX8_wouldBeFull : Room := { frames := 0, cells := 0, slots := 0, locals := 0 }
theorem lk_X8_wouldBeFull_13 : Cond.fieldLink RX8 13 "ThrownSacksModel" "roomOf" "[I" ∈ wsX8_wouldBeFull := by decide +kernel
theorem lk_X8_wouldBeFull_19 : Cond.fieldLink RX8 19 "ThrownSacksModel" "hangsOn" "[I" ∈ wsX8_wouldBeFull := by decide +kernel
theorem lk_X8_wouldBeFull_22 : Cond.fieldLink RX8 22 "ThrownSacksModel" "manyIn" "[I" ∈ wsX8_wouldBeFull := by decide +kernel
theorem in_X8_wouldBeFull_X8 : ∀ w ∈ u_ws RX8 TX8 42, w ∈ wsX8_wouldBeFull := by decide +kernel
set_option maxHeartbeats 4000000 in
set_option maxRecDepth 100000 in
theorem ok_X8_wouldBeFull (l : Launch) {D : va_G} {g : gw_G} {tG : Nat} {ad : Nat → Nat} {A : Nat → Prop} (hD : gw_D A 23 ad) (t0 : gw_S) (v1 : Int32) (r0 : Int32) (hF : fX8_wouldBeFull v1 t0 = some r0) : Met l yX8_wouldBeFull wsX8_wouldBeFull rmX8_wouldBeFull (gw_Pc D g tG (tM g ad) 23 ad A [.ref (ad 0), .int v1] t0) (gw_Qi D (tM g ad) 23 ad A r0 t0) 0 0 A := by
  unfold fX8_wouldBeFull at hF
  refine gw_met (by decide) rfl hD (Nat.le_of_ble_eq_true rfl) (fun p e s m args below meth c E hr hlocks I ls hl => ?_)
  have hx := E.1.1
  have hb := E.1.2.1
  have hl : lv_has ls 2 [(0, .ref (ad 0)), (1, .int v1)] := hl
  refine lv_aload_n hx hb dX8_wouldBeFull_0 rfl (lv_at hl 0 rfl) ?_
  refine gf_M_0_6 E I in_X8_wouldBeFull_X8 lk_X8_wouldBeFull_22 dX8_wouldBeFull_1 ?_
  refine lv_bipush (v := 6) hx hb dX8_wouldBeFull_4 (by decide) ?_
  refine lv_aload_n hx hb dX8_wouldBeFull_6 rfl (lv_at hl 0 rfl) ?_
  refine gf_M_0_5 E I in_X8_wouldBeFull_X8 lk_X8_wouldBeFull_19 dX8_wouldBeFull_7 ?_
  refine lv_iload_n hx hb dX8_wouldBeFull_10 rfl (lv_at hl 1 rfl) ?_
  replace hF := gw_ifn hF
  obtain ⟨hz11, hF⟩ := hF
  refine gw_iald E I 4 (by decide) rfl hz11 dX8_wouldBeFull_11 ?_
  refine lv_iadd hx hb dX8_wouldBeFull_12 ?_
  replace hF := gw_ifn hF
  obtain ⟨hz13, hF⟩ := hF
  refine gw_iald E I 5 (by decide) rfl hz13 dX8_wouldBeFull_13 ?_
  refine lv_aload_n hx hb dX8_wouldBeFull_14 rfl (lv_at hl 0 rfl) ?_
  refine gf_M_0_3 E I in_X8_wouldBeFull_X8 lk_X8_wouldBeFull_13 dX8_wouldBeFull_15 ?_
  refine lv_iload_n hx hb dX8_wouldBeFull_18 rfl (lv_at hl 1 rfl) ?_
  replace hF := gw_ifn hF
  obtain ⟨hz19, hF⟩ := hF
  refine gw_iald E I 2 (by decide) rfl hz19 dX8_wouldBeFull_19 ?_
  refine lv_icmp_lt (tgt := 27) hx hb dX8_wouldBeFull_20 (by decide) (fun c20 => ?_) (fun c20 => ?_)
  · replace hF := gw_if1 c20 hF
    refine lv_iconst (v := 0) hx hb dX8_wouldBeFull_27 (by decide) ?_
    exact gw_iret E I hr hlocks rfl (Option.some.inj hF) rfl dX8_wouldBeFull_28
  · replace hF := gw_if0 c20 hF
    refine lv_iconst (v := 1) hx hb dX8_wouldBeFull_23 (by decide) ?_
    refine lv_goto (tgt := 28) hx hb dX8_wouldBeFull_24 (by decide) ?_
    exact gw_iret E I hr hlocks rfl (Option.some.inj hF) rfl dX8_wouldBeFull_28
