/-! The law's loop, and its start. -/
theorem lw_end {L idx : Nat} (hL : L ≤ 2048) (hi : idx ≤ L) (h : ¬ Int32.ofNat L - 4 < nI idx) : idx + 4 ≤ L := by
  have h : ¬ nI L - nI 4 < nI idx := h
  by_cases h4 : 4 ≤ L
  · rw [z_sub h4] at h
    rw [z_lt (by omega) (by omega)] at h
    omega
  · have hn : nI L - nI 4 < 0 := by
      rcases (show L = 0 ∨ L = 1 ∨ L = 2 ∨ L = 3 by omega) with rfl | rfl | rfl | rfl <;> decide
    exact absurd (Int32.lt_of_lt_of_le hn (Int32.not_lt.mp (z_neg0 (show idx < 2147483648 by omega)))) h
theorem lw_case (v : Int32) (h : ¬ (v.toInt < 0 ∨ 22 < v.toInt)) : ∃ k, k < 23 ∧ v = nI k := by
  have h0 : ¬ v < 0 := fun q => by
    rw [Int32.lt_iff_toInt_lt, Int32.toInt_zero] at q
    exact h (Or.inl q)
  obtain ⟨j, hj, rfl⟩ := z_of h0
  rw [nI_toInt hj] at h
  exact ⟨j, by omega, rfl⟩
set_option maxHeartbeats 4000000 in
set_option maxRecDepth 100000 in
theorem lw_loop {p : Program} {l : Launch} {e : Env} {s : State} {m : MethodId} {below : List Frame} {meth : Method} {c : Code} {D : va_G} {g : gw_G} {tG : Nat} {adC adM : Nat → Nat} {b L : Nat} {xs : Nat → Int32} (hL : L ≤ 2048) (hr : meth.sig.returnType = ret) (hlocks : meth.locks = false) (V : lw_Ev p s m #[Value.ref b] c D g tG adC adM b L xs) :
    ∀ (n idx j : Nat), idx ≤ L → L < idx + n → j ≤ idx → ∀ (cC cM : gw_S) (H : Heap) (locs : List Loc), lw_In D g s adC adM j cC cM H locs → ∀ ls : Array Slot, lv_has ls 4 [(3, .int (nI idx)), (2, .ref (adM 0)), (1, .ref (adC 0)), (0, .ref b)] → W p l e room_1 s m #[Value.ref b] below meth c H locs 106 896 (lw_Z below #[Value.ref b] s) (F0 m 18 ls []) := by
  obtain ⟨F, hG, hDC, hDM, hap, hX, hbl⟩ := id V
  have hx := F.1
  have hb := F.2.1
  have hbA : ¬ (fun q : Nat => s.heap.size ≤ q) b := Nat.not_le.mpr hbl
  intro n
  induction n with
  | zero =>
    intro idx j h1 h2
    exact absurd h2 (by omega)
  | succ n ih =>
    intro idx j hi hn hj cC cM H locs I ls hl
    have hS := I.2.2.1
    refine lv_iload_n hx hb dL_law_18 rfl (lv_at hl 0 rfl) ?_
    refine lv_aload_n hx hb dL_law_19 rfl (lv_at hl 3 rfl) ?_
    refine va_slen hx hb hX hbl hbA hS dL_law_20 ?_
    refine lv_iconst (v := 4) hx hb dL_law_21 (by decide) ?_
    refine lv_isub hx hb dL_law_22 ?_
    refine lv_icmp_gt (tgt := 706) hx hb dL_law_23 (by decide) (fun _ => ?_) (fun c23 => ?_)
    · refine lv_iconst (v := 1) hx hb dL_law_706 (by decide) ?_
      refine va_forget (fun q hq => hS.2.2 q hq) ?_
      refine W.widen (k := 600000) (n := 7302250) (Nat.le_of_ble_eq_true rfl) (Nat.le_of_ble_eq_true rfl) ?_
      exact lw_ret hx hb hr hlocks dL_law_707
    · have h4 : idx + 4 ≤ L := lw_end hL hi c23
      refine lv_aload_n hx hb dL_law_26 rfl (lv_at hl 3 rfl) ?_
      refine lv_iload_n hx hb dL_law_27 rfl (lv_at hl 0 rfl) ?_
      refine va_sld hx hb hX hbl hbA hS (vp_in_nI (show idx < L by omega) (by omega)) dL_law_28 ?_
      refine lv_bipush (v := 31) hx hb dL_law_29 (by decide) ?_
      refine lv_iand hx hb dL_law_31 ?_
      generalize xs (Int32.toNatClampNeg (nI idx)) &&& 31 = v
      have back : ∀ (H1 : Heap) (locs1 : List Loc) (cC1 cM1 : gw_S), lw_In D g s adC adM (j + 1) cC1 cM1 H1 locs1 → W p l e room_1 s m #[Value.ref b] below meth c H1 locs1 106 896 (lw_Z below #[Value.ref b] s) (F0 m 700 ls []) := by
        intro H1 locs1 cC1 cM1 I1
        refine lv_iinc (v := nI (idx + 4)) (lv' := [(3, .int (nI (idx + 4))), (2, .ref (adM 0)), (1, .ref (adC 0)), (0, .ref b)]) hx hb dL_law_700 hl (k := 0) rfl (z_add idx 4) (by decide) rfl (fun ls hl => ?_)
        refine lv_goto (tgt := 18) hx hb dL_law_703 (by decide) ?_
        exact ih (idx + 4) (j + 1) h4 (by omega) (by omega) cC1 cM1 H1 locs1 I1 ls hl
      by_cases hv : v.toInt < 0 ∨ 22 < v.toInt
      · refine lv_tableOut (tgt := 700) hx hb dL_law_32 hv (by decide) ?_
        exact back H locs cC cM ⟨I.1, I.2.1, I.2.2.1, I.2.2.2.mono (by omega)⟩
      · obtain ⟨k, hk, rfl⟩ := lw_case v hv
        have hj2 : j ≤ 2048 := by omega
        clear hv
        rcases (show k = 0 ∨ k = 1 ∨ k = 2 ∨ k = 3 ∨ k = 4 ∨ k = 5 ∨ k = 6 ∨ k = 7 ∨ k = 8 ∨ k = 9 ∨ k = 10 ∨ k = 11 ∨ k = 12 ∨ k = 13 ∨ k = 14 ∨ k = 15 ∨ k = 16 ∨ k = 17 ∨ k = 18 ∨ k = 19 ∨ k = 20 ∨ k = 21 ∨ k = 22 by omega) with rfl | rfl | rfl | rfl | rfl | rfl | rfl | rfl | rfl | rfl | rfl | rfl | rfl | rfl | rfl | rfl | rfl | rfl | rfl | rfl | rfl | rfl | rfl
        · exact lv_tableIn (off := 108) (tgt := 140) hx hb dL_law_32 (by decide) (by decide) (by decide) (by decide) (lwc_letter V hL h4 hj2 I hl back)
        · exact lv_tableIn (off := 131) (tgt := 163) hx hb dL_law_32 (by decide) (by decide) (by decide) (by decide) (lwc_blank V hL h4 hj2 I hl back)
        · exact lv_tableIn (off := 144) (tgt := 176) hx hb dL_law_32 (by decide) (by decide) (by decide) (by decide) (lwc_fault V hL h4 hj2 I hl back)
        · exact lv_tableIn (off := 157) (tgt := 189) hx hb dL_law_32 (by decide) (by decide) (by decide) (by decide) (lwc_floor V hL h4 hj2 I hl back)
        · exact lv_tableIn (off := 170) (tgt := 202) hx hb dL_law_32 (by decide) (by decide) (by decide) (by decide) (lwc_hook V hL h4 hj2 I hl back)
        · exact lv_tableIn (off := 203) (tgt := 235) hx hb dL_law_32 (by decide) (by decide) (by decide) (by decide) (lwc_parcel V hL h4 hj2 I hl back)
        · exact lv_tableIn (off := 236) (tgt := 268) hx hb dL_law_32 (by decide) (by decide) (by decide) (by decide) (lwc_belt V hL h4 hj2 I hl back)
        · exact lv_tableIn (off := 269) (tgt := 301) hx hb dL_law_32 (by decide) (by decide) (by decide) (by decide) (lwc_as V hL h4 hj2 I hl back)
        · exact lv_tableIn (off := 302) (tgt := 334) hx hb dL_law_32 (by decide) (by decide) (by decide) (by decide) (lwc_toss V hL h4 hj2 I hl back)
        · exact lv_tableIn (off := 335) (tgt := 367) hx hb dL_law_32 (by decide) (by decide) (by decide) (by decide) (lwc_carry V hL h4 hj2 I hl back)
        · exact lv_tableIn (off := 358) (tgt := 390) hx hb dL_law_32 (by decide) (by decide) (by decide) (by decide) (lwc_change V hL h4 hj2 I hl back)
        · exact lv_tableIn (off := 381) (tgt := 413) hx hb dL_law_32 (by decide) (by decide) (by decide) (by decide) (lwc_exchange V hL h4 hj2 I hl back)
        · exact lv_tableIn (off := 414) (tgt := 446) hx hb dL_law_32 (by decide) (by decide) (by decide) (by decide) (lwc_odds V hL h4 hj2 I hl back)
        · exact lv_tableIn (off := 457) (tgt := 489) hx hb dL_law_32 (by decide) (by decide) (by decide) (by decide) (lwc_hanging V hL h4 hj2 I hl back)
        · exact lv_tableIn (off := 480) (tgt := 512) hx hb dL_law_32 (by decide) (by decide) (by decide) (by decide) (lwc_found V hL h4 hj2 I hl back)
        · exact lv_tableIn (off := 513) (tgt := 545) hx hb dL_law_32 (by decide) (by decide) (by decide) (by decide) (lwc_forget V hL h4 hj2 I hl back)
        · exact lv_tableIn (off := 526) (tgt := 558) hx hb dL_law_32 (by decide) (by decide) (by decide) (by decide) (lwc_hung V hL h4 hj2 I hl back)
        · exact lv_tableIn (off := 539) (tgt := 571) hx hb dL_law_32 (by decide) (by decide) (by decide) (by decide) (lwc_where V hL h4 hj2 I hl back)
        · exact lv_tableIn (off := 562) (tgt := 594) hx hb dL_law_32 (by decide) (by decide) (by decide) (by decide) (lwc_shifts V hL h4 hj2 I hl back)
        · exact lv_tableIn (off := 605) (tgt := 637) hx hb dL_law_32 (by decide) (by decide) (by decide) (by decide) (lwc_image V hL h4 hj2 I hl back)
        · exact lv_tableIn (off := 618) (tgt := 650) hx hb dL_law_32 (by decide) (by decide) (by decide) (by decide) (lwc_restore V hL h4 hj2 I hl back)
        · exact lv_tableIn (off := 631) (tgt := 663) hx hb dL_law_32 (by decide) (by decide) (by decide) (by decide) (lwc_count V hL h4 hj2 I hl back)
        · exact lv_tableIn (off := 654) (tgt := 686) hx hb dL_law_32 (by decide) (by decide) (by decide) (by decide) (lwc_digest V hL h4 hj2 I hl back)
theorem hfs_X7 : ∀ j, j < 9 → defaultValue (tyX7 j) = vp_V [.null, .null, .null, .null, .null, .null, .null, .int 0, .int 0] j := fun j hj => match j, hj with | 0, _ => rfl | 1, _ => rfl | 2, _ => rfl | 3, _ => rfl | 4, _ => rfl | 5, _ => rfl | 6, _ => rfl | 7, _ => rfl | 8, _ => rfl | _ + 9, h => absurd h (by omega)
theorem hfs_X8 : ∀ j, j < 42 → defaultValue (tyX8 j) = vp_V [.int 0, .int 0, .null, .null, .null, .null, .null, .null, .null, .null, .int 0, .null, .null, .int 0, .int 0, .int 0, .null, .null, .int 0, .null, .int 0, .int 0, .int 0, .long 0, .int 0, .int 0, .int 0, .int 0, .int 0, .int 0, .int 0, .int 0, .null, .null, .null, .null, .null, .null, .null, .null, .null, .long 0] j := by
  intro j hj
  rcases (show j = 0 ∨ j = 1 ∨ j = 2 ∨ j = 3 ∨ j = 4 ∨ j = 5 ∨ j = 6 ∨ j = 7 ∨ j = 8 ∨ j = 9 ∨ j = 10 ∨ j = 11 ∨ j = 12 ∨ j = 13 ∨ j = 14 ∨ j = 15 ∨ j = 16 ∨ j = 17 ∨ j = 18 ∨ j = 19 ∨ j = 20 ∨ j = 21 ∨ j = 22 ∨ j = 23 ∨ j = 24 ∨ j = 25 ∨ j = 26 ∨ j = 27 ∨ j = 28 ∨ j = 29 ∨ j = 30 ∨ j = 31 ∨ j = 32 ∨ j = 33 ∨ j = 34 ∨ j = 35 ∨ j = 36 ∨ j = 37 ∨ j = 38 ∨ j = 39 ∨ j = 40 ∨ j = 41 by omega) with rfl | rfl | rfl | rfl | rfl | rfl | rfl | rfl | rfl | rfl | rfl | rfl | rfl | rfl | rfl | rfl | rfl | rfl | rfl | rfl | rfl | rfl | rfl | rfl | rfl | rfl | rfl | rfl | rfl | rfl | rfl | rfl | rfl | rfl | rfl | rfl | rfl | rfl | rfl | rfl | rfl | rfl <;> rfl
set_option maxHeartbeats 4000000 in
set_option maxRecDepth 100000 in
theorem whole_start {p : Program} {e : Env} {s : State} {m : MethodId} {below : List Frame} {meth : Method} {c : Code} (l : Launch) (hflags : l.flags = flags0) {b L : Nat} {xs : Nat → Int32} (hL : L ≤ 2048) (C0 : lw_At p s m meth c b L xs) : W p l e room_1 s m #[Value.ref b] below meth c s.heap [] 0 0 (lw_Z below #[Value.ref b] s) (entryFrame m ([Value.ref b] : List Value).toArray 4) := by
  obtain ⟨hx, hb, hr, hml, hown, hts, hX, hbl, hlocks, hgv⟩ := id C0
  obtain ⟨D, g, tG, hG, hGx⟩ := lg_given hts hgv
  have htw : ∀ w ∈ wsL_law, w.before #[Value.ref b] s = true := fun w h => hts w (wsL_law_in w h)
  have hl := lv_entry ([.ref b]) (n := 4) (Nat.le_of_ble_eq_true rfl)
  rw [lg_entry_eq]
  generalize (lg_sl ([.ref b]) ++ List.replicate (4 - (lg_sl ([.ref b])).length) Slot.unset).toArray = ls at hl ⊢
  have hl : lv_has ls 4 [(0, .ref b)] := hl
  have E : gx_E p s m #[Value.ref b] c cL_law 4 lw_tbl RL D g (fun q : Nat => s.heap.size ≤ q) := ⟨⟨hx, hb, hml, hown, hts⟩, hGx, fun _ h => h⟩
  have I : gx_I D (fun q : Nat => s.heap.size ≤ q) s.heap [] s.heap [] := ⟨fun k q h => by simp at h, ⟨fun i j p q h => by simp at h, fun k q h => by simp at h⟩, va_S.rf⟩
  refine gx_born E I (C := RX7) (TC := TX7) (NC := 9) (ciC := 7) rfl inX7 tyX7 tyX7_ok hfs_X7 (ix := 7) tw_c7 tw_i7 tw_n7 (mc := 82) (ms := 667) (Nat.le_of_ble_eq_true rfl) (Nat.le_of_ble_eq_true rfl) (Sh := shX7 g) (fun q H locs I => gx_runI E I rfl (ok_X7_init l q H.size) (cwI 0 htw gL_law_X7_init rfl rfl rfl (hts _ tw_n7) (hts _ tw_m7) (hts _ tw_o7) rfl (by decide +kernel) ⟨Nat.le_of_ble_eq_true rfl, Nat.le_of_ble_eq_true rfl⟩) hl.1 (Nat.le_of_ble_eq_true rfl) (Nat.le_of_ble_eq_true rfl) (Nat.le_of_ble_eq_true rfl) dL_law_4) dL_law_0 dL_law_3 (fun qc wC H locs hwC I => ?_)
  refine lv_astore_n (lv' := [(1, .ref qc), (0, .ref b)]) hx hb dL_law_7 rfl hl (by decide) rfl (fun ls hl => ?_)
  refine gx_born E I (C := RX8) (TC := TX8) (NC := 42) (ciC := 8) rfl inX8 tyX8 tyX8_ok hfs_X8 (ix := 10) tw_c8 tw_i8 tw_n8 (mc := 22) (ms := 178) (Nat.le_of_ble_eq_true rfl) (Nat.le_of_ble_eq_true rfl) (Sh := shX8 g) (fun q H locs I => gx_runI E I rfl (ok_X8_init l q H.size) (cwI 0 htw gL_law_X8_init rfl rfl rfl (hts _ tw_n8) (hts _ tw_m8) (hts _ tw_o8) rfl (by decide +kernel) ⟨Nat.le_of_ble_eq_true rfl, Nat.le_of_ble_eq_true rfl⟩) hl.1 (Nat.le_of_ble_eq_true rfl) (Nat.le_of_ble_eq_true rfl) (Nat.le_of_ble_eq_true rfl) dL_law_12) dL_law_8 dL_law_11 (fun qm wM H locs hwM I => ?_)
  refine lv_astore_n (lv' := [(2, .ref qm), (1, .ref qc), (0, .ref b)]) hx hb dL_law_15 rfl hl (by decide) rfl (fun ls hl => ?_)
  obtain ⟨hP, hD, hS⟩ := I
  rw [List.nil_append] at hP hD
  have inL : ∀ (k : Nat) (q : Nat × va_E), wC[k]? = some q → (wC ++ wM)[k]? = some q := fun k q h => by
    rw [List.getElem?_append_left (List.getElem?_eq_some_iff.mp h).1]; exact h
  have inR : ∀ (k : Nat) (q : Nat × va_E), wM[k]? = some q → (wC ++ wM)[wC.length + k]? = some q := fun k q h => by
    rw [List.getElem?_append_right (by omega), Nat.add_sub_cancel_left]; exact h
  have hP1 : va_P D vwCl wC H := fun k q h => hP k q (inL k q h)
  have hP2 : va_P D vwCl wM H := fun k q h => hP _ q (inR k q h)
  have hD1 : va_D (fun q : Nat => s.heap.size ≤ q) wC := ⟨fun i j x y hi hj e => hD.1 i j x y (inL i x hi) (inL j y hj) e, fun k q h => hD.2 k q (inL k q h)⟩
  have hD2 : va_D (fun q : Nat => s.heap.size ≤ q) wM := ⟨fun i j x y hi hj e => by have := hD.1 _ _ x y (inR i x hi) (inR j y hj) e; omega, fun k q h => hD.2 _ q (inR k q h)⟩
  obtain ⟨adC, rfl, hPC, hDC, hgC⟩ := gx_toC hwC hP1 hD1
  obtain ⟨adM, rfl, hPM, hDM, hgM⟩ := gx_toM hwM hP2 hD2
  have hap : lw_ap 83 23 adC adM := fun i j hi hj e => by
    obtain ⟨k, x, h1⟩ := hgC i hi
    obtain ⟨k2, x2, h2⟩ := hgM j hj
    have h3 := hD.1 _ _ _ _ (inL k _ h1) (inR k2 _ h2) e
    have h5 := (List.getElem?_eq_some_iff.mp h1).1
    omega
  refine lv_iconst (v := nI 0) hx hb dL_law_16 (by decide) ?_
  refine lv_istore_n (lv' := [(3, .int (nI 0)), (2, .ref (adM 0)), (1, .ref (adC 0)), (0, .ref b)]) hx hb dL_law_17 rfl hl (by decide) rfl (fun ls hl => ?_)
  refine W.widen (k := 106) (n := 896) (Nat.le_of_ble_eq_true rfl) (Nat.le_of_ble_eq_true rfl) ?_
  exact lw_loop hL hr hlocks ⟨⟨hx, hb, hml, hown, htw⟩, hG, hDC, hDM, hap, hX, hbl⟩ (L + 1) 0 0 (Nat.zero_le L) (by omega) (Nat.le_refl 0) gx_sC gx_sM H locs ⟨hPC, hPM, hS, zOK_start⟩ ls hl
