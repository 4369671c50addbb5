/-! The law's cases: written by wip/whole/gen60.py. -/
section LWC
variable {p : Program} {l : Launch} {e : Env} {s : State} {m : MethodId} {args : Array Value} {below : List Frame} {meth : Method} {c : Code} {Q : State → Prop} {D : va_G} {g : gw_G} {tG : Nat} {adC adM : Nat → Nat} {b L : Nat} {xs : Nat → Int32}
set_option maxHeartbeats 1000000 in
theorem lwc_letter (V : lw_Ev p s m args c D g tG adC adM b L xs) {idx j : Nat} (hL : L ≤ 2048) (hi : idx + 4 ≤ L) (hj : j ≤ 2048) {cC cM : gw_S} {H : Heap} {locs : List Loc} (I : lw_In D g s adC adM j cC cM H locs) {ls : Array Slot} (hl : lv_has ls 4 [(3, .int (nI idx)), (2, .ref (adM 0)), (1, .ref (adC 0)), (0, .ref b)]) (kk : ∀ (H1 : Heap) (locs1 : List Loc) (cC1 cM1 : gw_S), lw_In D g s adC adM (j + 1) cC1 cM1 H1 locs1 → W p l e room_1 s m args below meth c H1 locs1 106 896 Q (F0 m 700 ls [])) : W p l e room_1 s m args below meth c H locs 106 896 Q (F0 m 140 ls []) := by
  obtain ⟨F, hG, hDC, hDM, hap, hX, hbl⟩ := V
  obtain ⟨hP, hP2, hS, hz⟩ := I
  have hx := F.1
  have hb := F.2.1
  have hbA : ¬ (fun q : Nat => s.heap.size ≤ q) b := Nat.not_le.mpr hbl
  obtain ⟨r, c1, m1, e1, e2, hz1⟩ := st_letter hz (xs (idx + 1))
  refine lv_aload_n hx hb dL_law_140 rfl (lv_at hl 2 rfl) ?_
  refine lw_arg hx hb hX hbl hbA hS hl 1 (by decide) (by omega) hL dL_law_141 dL_law_142 dL_law_143 dL_law_144 dL_law_145 ?_
  refine lw_calli (T := tC g adC) (T2 := tM g adM) (N := 83) (N2 := 23) (As := [.int (xs (idx + 1))]) (rest := []) F hG hDC hap (by decide) rfl rfl hP hP2 hS (ok_X7_letter l (lw_onD hDC) _ _ _ _ e1) (cwV 1 F.2.2.2.2 gL_law_X7_letter rfl rfl rfl (by decide +kernel) ⟨Nat.le_of_ble_eq_true rfl, Nat.le_of_ble_eq_true rfl⟩) rfl hl.1 rfl (Nat.le_of_ble_eq_true rfl) (Nat.le_of_ble_eq_true rfl) (Nat.le_of_ble_eq_true rfl) dL_law_146 (fun H locs hP hP2 hS => ?_)
  refine lv_aload_n hx hb dL_law_149 rfl (lv_at hl 1 rfl) ?_
  refine lw_arg hx hb hX hbl hbA hS hl 1 (by decide) (by omega) hL dL_law_150 dL_law_151 dL_law_152 dL_law_153 dL_law_154 ?_
  refine lw_calli (T := tM g adM) (T2 := tC g adC) (N := 23) (N2 := 83) (As := [.int (xs (idx + 1))]) (rest := [.int r]) F hG hDM hap.symm (by decide) rfl rfl hP2 hP hS (ok_X8_letter l (lw_onD hDM) _ _ _ _ e2) (cwV 1 F.2.2.2.2 gL_law_X8_letter rfl rfl rfl (by decide +kernel) ⟨Nat.le_of_ble_eq_true rfl, Nat.le_of_ble_eq_true rfl⟩) rfl hl.1 rfl (Nat.le_of_ble_eq_true rfl) (Nat.le_of_ble_eq_true rfl) (Nat.le_of_ble_eq_true rfl) dL_law_155 (fun H locs hP2 hP hS => ?_)
  exact lv_icmp_eq (tgt := 700) hx hb dL_law_158 (by decide) (fun _ => kk _ _ _ _ ⟨hP, hP2, hS, hz1⟩) (fun h => absurd rfl h)
set_option maxHeartbeats 1000000 in
theorem lwc_blank (V : lw_Ev p s m args c D g tG adC adM b L xs) {idx j : Nat} (hL : L ≤ 2048) (hi : idx + 4 ≤ L) (hj : j ≤ 2048) {cC cM : gw_S} {H : Heap} {locs : List Loc} (I : lw_In D g s adC adM j cC cM H locs) {ls : Array Slot} (hl : lv_has ls 4 [(3, .int (nI idx)), (2, .ref (adM 0)), (1, .ref (adC 0)), (0, .ref b)]) (kk : ∀ (H1 : Heap) (locs1 : List Loc) (cC1 cM1 : gw_S), lw_In D g s adC adM (j + 1) cC1 cM1 H1 locs1 → W p l e room_1 s m args below meth c H1 locs1 106 896 Q (F0 m 700 ls [])) : W p l e room_1 s m args below meth c H locs 106 896 Q (F0 m 163 ls []) := by
  obtain ⟨F, hG, hDC, hDM, hap, hX, hbl⟩ := V
  obtain ⟨hP, hP2, hS, hz⟩ := I
  have hx := F.1
  have hb := F.2.1
  have hbA : ¬ (fun q : Nat => s.heap.size ≤ q) b := Nat.not_le.mpr hbl
  obtain ⟨r, c1, m1, e1, e2, hz1⟩ := st_blank hz
  refine lv_aload_n hx hb dL_law_163 rfl (lv_at hl 2 rfl) ?_
  refine lw_calli (T := tC g adC) (T2 := tM g adM) (N := 83) (N2 := 23) (As := []) (rest := []) F hG hDC hap (by decide) rfl rfl hP hP2 hS (ok_X7_blank l (lw_onD hDC) _ _ _ e1) (cwV 0 F.2.2.2.2 gL_law_X7_blank rfl rfl rfl (by decide +kernel) ⟨Nat.le_of_ble_eq_true rfl, Nat.le_of_ble_eq_true rfl⟩) rfl hl.1 rfl (Nat.le_of_ble_eq_true rfl) (Nat.le_of_ble_eq_true rfl) (Nat.le_of_ble_eq_true rfl) dL_law_164 (fun H locs hP hP2 hS => ?_)
  refine lv_aload_n hx hb dL_law_167 rfl (lv_at hl 1 rfl) ?_
  refine lw_calli (T := tM g adM) (T2 := tC g adC) (N := 23) (N2 := 83) (As := []) (rest := [.int r]) F hG hDM hap.symm (by decide) rfl rfl hP2 hP hS (ok_X8_blank l (lw_onD hDM) _ _ _ e2) (cwV 0 F.2.2.2.2 gL_law_X8_blank rfl rfl rfl (by decide +kernel) ⟨Nat.le_of_ble_eq_true rfl, Nat.le_of_ble_eq_true rfl⟩) rfl hl.1 rfl (Nat.le_of_ble_eq_true rfl) (Nat.le_of_ble_eq_true rfl) (Nat.le_of_ble_eq_true rfl) dL_law_168 (fun H locs hP2 hP hS => ?_)
  exact lv_icmp_eq (tgt := 700) hx hb dL_law_171 (by decide) (fun _ => kk _ _ _ _ ⟨hP, hP2, hS, hz1⟩) (fun h => absurd rfl h)
set_option maxHeartbeats 1000000 in
theorem lwc_fault (V : lw_Ev p s m args c D g tG adC adM b L xs) {idx j : Nat} (hL : L ≤ 2048) (hi : idx + 4 ≤ L) (hj : j ≤ 2048) {cC cM : gw_S} {H : Heap} {locs : List Loc} (I : lw_In D g s adC adM j cC cM H locs) {ls : Array Slot} (hl : lv_has ls 4 [(3, .int (nI idx)), (2, .ref (adM 0)), (1, .ref (adC 0)), (0, .ref b)]) (kk : ∀ (H1 : Heap) (locs1 : List Loc) (cC1 cM1 : gw_S), lw_In D g s adC adM (j + 1) cC1 cM1 H1 locs1 → W p l e room_1 s m args below meth c H1 locs1 106 896 Q (F0 m 700 ls [])) : W p l e room_1 s m args below meth c H locs 106 896 Q (F0 m 176 ls []) := by
  obtain ⟨F, hG, hDC, hDM, hap, hX, hbl⟩ := V
  obtain ⟨hP, hP2, hS, hz⟩ := I
  have hx := F.1
  have hb := F.2.1
  have hbA : ¬ (fun q : Nat => s.heap.size ≤ q) b := Nat.not_le.mpr hbl
  obtain ⟨r, c1, m1, e1, e2, hz1⟩ := st_fault hz
  obtain ⟨e1, rfl⟩ := e1
  refine lv_aload_n hx hb dL_law_176 rfl (lv_at hl 2 rfl) ?_
  refine lw_calli (T := tC g adC) (T2 := tM g adM) (N := 83) (N2 := 23) (As := []) (rest := []) F hG hDC hap (by decide) rfl rfl hP hP2 hS (ok_X7_fault l (lw_onD hDC) _ _ e1) (cwV 0 F.2.2.2.2 gL_law_X7_fault rfl rfl rfl (by decide +kernel) ⟨Nat.le_of_ble_eq_true rfl, Nat.le_of_ble_eq_true rfl⟩) rfl hl.1 rfl (Nat.le_of_ble_eq_true rfl) (Nat.le_of_ble_eq_true rfl) (Nat.le_of_ble_eq_true rfl) dL_law_177 (fun H locs hP hP2 hS => ?_)
  refine lv_aload_n hx hb dL_law_180 rfl (lv_at hl 1 rfl) ?_
  refine lw_calli (T := tM g adM) (T2 := tC g adC) (N := 23) (N2 := 83) (As := []) (rest := [.int r]) F hG hDM hap.symm (by decide) rfl rfl hP2 hP hS (ok_X8_fault l (lw_onD hDM) _ _ _ e2) (cwV 0 F.2.2.2.2 gL_law_X8_fault rfl rfl rfl (by decide +kernel) ⟨Nat.le_of_ble_eq_true rfl, Nat.le_of_ble_eq_true rfl⟩) rfl hl.1 rfl (Nat.le_of_ble_eq_true rfl) (Nat.le_of_ble_eq_true rfl) (Nat.le_of_ble_eq_true rfl) dL_law_181 (fun H locs hP2 hP hS => ?_)
  exact lv_icmp_eq (tgt := 700) hx hb dL_law_184 (by decide) (fun _ => kk _ _ _ _ ⟨hP, hP2, hS, hz1⟩) (fun h => absurd rfl h)
set_option maxHeartbeats 1000000 in
theorem lwc_floor (V : lw_Ev p s m args c D g tG adC adM b L xs) {idx j : Nat} (hL : L ≤ 2048) (hi : idx + 4 ≤ L) (hj : j ≤ 2048) {cC cM : gw_S} {H : Heap} {locs : List Loc} (I : lw_In D g s adC adM j cC cM H locs) {ls : Array Slot} (hl : lv_has ls 4 [(3, .int (nI idx)), (2, .ref (adM 0)), (1, .ref (adC 0)), (0, .ref b)]) (kk : ∀ (H1 : Heap) (locs1 : List Loc) (cC1 cM1 : gw_S), lw_In D g s adC adM (j + 1) cC1 cM1 H1 locs1 → W p l e room_1 s m args below meth c H1 locs1 106 896 Q (F0 m 700 ls [])) : W p l e room_1 s m args below meth c H locs 106 896 Q (F0 m 189 ls []) := by
  obtain ⟨F, hG, hDC, hDM, hap, hX, hbl⟩ := V
  obtain ⟨hP, hP2, hS, hz⟩ := I
  have hx := F.1
  have hb := F.2.1
  have hbA : ¬ (fun q : Nat => s.heap.size ≤ q) b := Nat.not_le.mpr hbl
  obtain ⟨r, c1, m1, e1, e2, hz1⟩ := st_floor hz (by omega)
  refine lv_aload_n hx hb dL_law_189 rfl (lv_at hl 2 rfl) ?_
  refine lw_calli (T := tC g adC) (T2 := tM g adM) (N := 83) (N2 := 23) (As := []) (rest := []) F hG hDC hap (by decide) rfl rfl hP hP2 hS (ok_X7_floor l (lw_onD hDC) _ _ _ e1) (cwV 0 F.2.2.2.2 gL_law_X7_floor rfl rfl rfl (by decide +kernel) ⟨Nat.le_of_ble_eq_true rfl, Nat.le_of_ble_eq_true rfl⟩) rfl hl.1 rfl (Nat.le_of_ble_eq_true rfl) (Nat.le_of_ble_eq_true rfl) (Nat.le_of_ble_eq_true rfl) dL_law_190 (fun H locs hP hP2 hS => ?_)
  refine lv_aload_n hx hb dL_law_193 rfl (lv_at hl 1 rfl) ?_
  refine lw_calli (T := tM g adM) (T2 := tC g adC) (N := 23) (N2 := 83) (As := []) (rest := [.int r]) F hG hDM hap.symm (by decide) rfl rfl hP2 hP hS (ok_X8_floor l (lw_onD hDM) _ _ _ e2) (cwV 0 F.2.2.2.2 gL_law_X8_floor rfl rfl rfl (by decide +kernel) ⟨Nat.le_of_ble_eq_true rfl, Nat.le_of_ble_eq_true rfl⟩) rfl hl.1 rfl (Nat.le_of_ble_eq_true rfl) (Nat.le_of_ble_eq_true rfl) (Nat.le_of_ble_eq_true rfl) dL_law_194 (fun H locs hP2 hP hS => ?_)
  exact lv_icmp_eq (tgt := 700) hx hb dL_law_197 (by decide) (fun _ => kk _ _ _ _ ⟨hP, hP2, hS, hz1⟩) (fun h => absurd rfl h)
set_option maxHeartbeats 1000000 in
theorem lwc_hook (V : lw_Ev p s m args c D g tG adC adM b L xs) {idx j : Nat} (hL : L ≤ 2048) (hi : idx + 4 ≤ L) (hj : j ≤ 2048) {cC cM : gw_S} {H : Heap} {locs : List Loc} (I : lw_In D g s adC adM j cC cM H locs) {ls : Array Slot} (hl : lv_has ls 4 [(3, .int (nI idx)), (2, .ref (adM 0)), (1, .ref (adC 0)), (0, .ref b)]) (kk : ∀ (H1 : Heap) (locs1 : List Loc) (cC1 cM1 : gw_S), lw_In D g s adC adM (j + 1) cC1 cM1 H1 locs1 → W p l e room_1 s m args below meth c H1 locs1 106 896 Q (F0 m 700 ls [])) : W p l e room_1 s m args below meth c H locs 106 896 Q (F0 m 202 ls []) := by
  obtain ⟨F, hG, hDC, hDM, hap, hX, hbl⟩ := V
  obtain ⟨hP, hP2, hS, hz⟩ := I
  have hx := F.1
  have hb := F.2.1
  have hbA : ¬ (fun q : Nat => s.heap.size ≤ q) b := Nat.not_le.mpr hbl
  obtain ⟨r, c1, m1, e1, e2, hz1⟩ := st_hook hz (xs (idx + 1)) (xs (idx + 2))
  obtain ⟨e1, rfl⟩ := e1
  obtain ⟨e2, rfl⟩ := e2
  refine lv_aload_n hx hb dL_law_202 rfl (lv_at hl 2 rfl) ?_
  refine lw_arg hx hb hX hbl hbA hS hl 1 (by decide) (by omega) hL dL_law_203 dL_law_204 dL_law_205 dL_law_206 dL_law_207 ?_
  refine lw_arg hx hb hX hbl hbA hS hl 2 (by decide) (by omega) hL dL_law_208 dL_law_209 dL_law_210 dL_law_211 dL_law_212 ?_
  refine lw_calli (T := tC g adC) (T2 := tM g adM) (N := 83) (N2 := 23) (As := [.int (xs (idx + 1)), .int (xs (idx + 2))]) (rest := []) F hG hDC hap (by decide) rfl rfl hP hP2 hS (ok_X7_hook l (lw_onD hDC) _ _ _ _ e1) (cwV 2 F.2.2.2.2 gL_law_X7_hook rfl rfl rfl (by decide +kernel) ⟨Nat.le_of_ble_eq_true rfl, Nat.le_of_ble_eq_true rfl⟩) rfl hl.1 rfl (Nat.le_of_ble_eq_true rfl) (Nat.le_of_ble_eq_true rfl) (Nat.le_of_ble_eq_true rfl) dL_law_213 (fun H locs hP hP2 hS => ?_)
  refine lv_aload_n hx hb dL_law_216 rfl (lv_at hl 1 rfl) ?_
  refine lw_arg hx hb hX hbl hbA hS hl 1 (by decide) (by omega) hL dL_law_217 dL_law_218 dL_law_219 dL_law_220 dL_law_221 ?_
  refine lw_arg hx hb hX hbl hbA hS hl 2 (by decide) (by omega) hL dL_law_222 dL_law_223 dL_law_224 dL_law_225 dL_law_226 ?_
  refine lw_calli (T := tM g adM) (T2 := tC g adC) (N := 23) (N2 := 83) (As := [.int (xs (idx + 1)), .int (xs (idx + 2))]) (rest := [.int r]) F hG hDM hap.symm (by decide) rfl rfl hP2 hP hS (ok_X8_hook l (lw_onD hDM) _ _ _ _ e2) (cwV 2 F.2.2.2.2 gL_law_X8_hook rfl rfl rfl (by decide +kernel) ⟨Nat.le_of_ble_eq_true rfl, Nat.le_of_ble_eq_true rfl⟩) rfl hl.1 rfl (Nat.le_of_ble_eq_true rfl) (Nat.le_of_ble_eq_true rfl) (Nat.le_of_ble_eq_true rfl) dL_law_227 (fun H locs hP2 hP hS => ?_)
  exact lv_icmp_eq (tgt := 700) hx hb dL_law_230 (by decide) (fun _ => kk _ _ _ _ ⟨hP, hP2, hS, hz1⟩) (fun h => absurd rfl h)
set_option maxHeartbeats 1000000 in
theorem lwc_parcel (V : lw_Ev p s m args c D g tG adC adM b L xs) {idx j : Nat} (hL : L ≤ 2048) (hi : idx + 4 ≤ L) (hj : j ≤ 2048) {cC cM : gw_S} {H : Heap} {locs : List Loc} (I : lw_In D g s adC adM j cC cM H locs) {ls : Array Slot} (hl : lv_has ls 4 [(3, .int (nI idx)), (2, .ref (adM 0)), (1, .ref (adC 0)), (0, .ref b)]) (kk : ∀ (H1 : Heap) (locs1 : List Loc) (cC1 cM1 : gw_S), lw_In D g s adC adM (j + 1) cC1 cM1 H1 locs1 → W p l e room_1 s m args below meth c H1 locs1 106 896 Q (F0 m 700 ls [])) : W p l e room_1 s m args below meth c H locs 106 896 Q (F0 m 235 ls []) := by
  obtain ⟨F, hG, hDC, hDM, hap, hX, hbl⟩ := V
  obtain ⟨hP, hP2, hS, hz⟩ := I
  have hx := F.1
  have hb := F.2.1
  have hbA : ¬ (fun q : Nat => s.heap.size ≤ q) b := Nat.not_le.mpr hbl
  obtain ⟨r, c1, m1, e1, e2, hz1⟩ := st_parcel hz (xs (idx + 1)) (xs (idx + 2))
  refine lv_aload_n hx hb dL_law_235 rfl (lv_at hl 2 rfl) ?_
  refine lw_arg hx hb hX hbl hbA hS hl 1 (by decide) (by omega) hL dL_law_236 dL_law_237 dL_law_238 dL_law_239 dL_law_240 ?_
  refine lw_arg hx hb hX hbl hbA hS hl 2 (by decide) (by omega) hL dL_law_241 dL_law_242 dL_law_243 dL_law_244 dL_law_245 ?_
  refine lw_calli (T := tC g adC) (T2 := tM g adM) (N := 83) (N2 := 23) (As := [.int (xs (idx + 1)), .int (xs (idx + 2))]) (rest := []) F hG hDC hap (by decide) rfl rfl hP hP2 hS (ok_X7_parcel l (lw_onD hDC) _ _ _ _ _ e1) (cwV 2 F.2.2.2.2 gL_law_X7_parcel rfl rfl rfl (by decide +kernel) ⟨Nat.le_of_ble_eq_true rfl, Nat.le_of_ble_eq_true rfl⟩) rfl hl.1 rfl (Nat.le_of_ble_eq_true rfl) (Nat.le_of_ble_eq_true rfl) (Nat.le_of_ble_eq_true rfl) dL_law_246 (fun H locs hP hP2 hS => ?_)
  refine lv_aload_n hx hb dL_law_249 rfl (lv_at hl 1 rfl) ?_
  refine lw_arg hx hb hX hbl hbA hS hl 1 (by decide) (by omega) hL dL_law_250 dL_law_251 dL_law_252 dL_law_253 dL_law_254 ?_
  refine lw_arg hx hb hX hbl hbA hS hl 2 (by decide) (by omega) hL dL_law_255 dL_law_256 dL_law_257 dL_law_258 dL_law_259 ?_
  refine lw_calli (T := tM g adM) (T2 := tC g adC) (N := 23) (N2 := 83) (As := [.int (xs (idx + 1)), .int (xs (idx + 2))]) (rest := [.int r]) F hG hDM hap.symm (by decide) rfl rfl hP2 hP hS (ok_X8_parcel l (lw_onD hDM) _ _ _ _ _ e2) (cwV 2 F.2.2.2.2 gL_law_X8_parcel rfl rfl rfl (by decide +kernel) ⟨Nat.le_of_ble_eq_true rfl, Nat.le_of_ble_eq_true rfl⟩) rfl hl.1 rfl (Nat.le_of_ble_eq_true rfl) (Nat.le_of_ble_eq_true rfl) (Nat.le_of_ble_eq_true rfl) dL_law_260 (fun H locs hP2 hP hS => ?_)
  exact lv_icmp_eq (tgt := 700) hx hb dL_law_263 (by decide) (fun _ => kk _ _ _ _ ⟨hP, hP2, hS, hz1⟩) (fun h => absurd rfl h)
set_option maxHeartbeats 1000000 in
theorem lwc_belt (V : lw_Ev p s m args c D g tG adC adM b L xs) {idx j : Nat} (hL : L ≤ 2048) (hi : idx + 4 ≤ L) (hj : j ≤ 2048) {cC cM : gw_S} {H : Heap} {locs : List Loc} (I : lw_In D g s adC adM j cC cM H locs) {ls : Array Slot} (hl : lv_has ls 4 [(3, .int (nI idx)), (2, .ref (adM 0)), (1, .ref (adC 0)), (0, .ref b)]) (kk : ∀ (H1 : Heap) (locs1 : List Loc) (cC1 cM1 : gw_S), lw_In D g s adC adM (j + 1) cC1 cM1 H1 locs1 → W p l e room_1 s m args below meth c H1 locs1 106 896 Q (F0 m 700 ls [])) : W p l e room_1 s m args below meth c H locs 106 896 Q (F0 m 268 ls []) := by
  obtain ⟨F, hG, hDC, hDM, hap, hX, hbl⟩ := V
  obtain ⟨hP, hP2, hS, hz⟩ := I
  have hx := F.1
  have hb := F.2.1
  have hbA : ¬ (fun q : Nat => s.heap.size ≤ q) b := Nat.not_le.mpr hbl
  obtain ⟨r, c1, m1, e1, e2, hz1⟩ := st_belt hz (xs (idx + 1)) (xs (idx + 2))
  obtain ⟨e1, rfl⟩ := e1
  obtain ⟨e2, rfl⟩ := e2
  refine lv_aload_n hx hb dL_law_268 rfl (lv_at hl 2 rfl) ?_
  refine lw_arg hx hb hX hbl hbA hS hl 1 (by decide) (by omega) hL dL_law_269 dL_law_270 dL_law_271 dL_law_272 dL_law_273 ?_
  refine lw_arg hx hb hX hbl hbA hS hl 2 (by decide) (by omega) hL dL_law_274 dL_law_275 dL_law_276 dL_law_277 dL_law_278 ?_
  refine lw_calli (T := tC g adC) (T2 := tM g adM) (N := 83) (N2 := 23) (As := [.int (xs (idx + 1)), .int (xs (idx + 2))]) (rest := []) F hG hDC hap (by decide) rfl rfl hP hP2 hS (ok_X7_belt l (lw_onD hDC) _ _ _ _ e1) (cwV 2 F.2.2.2.2 gL_law_X7_belt rfl rfl rfl (by decide +kernel) ⟨Nat.le_of_ble_eq_true rfl, Nat.le_of_ble_eq_true rfl⟩) rfl hl.1 rfl (Nat.le_of_ble_eq_true rfl) (Nat.le_of_ble_eq_true rfl) (Nat.le_of_ble_eq_true rfl) dL_law_279 (fun H locs hP hP2 hS => ?_)
  refine lv_aload_n hx hb dL_law_282 rfl (lv_at hl 1 rfl) ?_
  refine lw_arg hx hb hX hbl hbA hS hl 1 (by decide) (by omega) hL dL_law_283 dL_law_284 dL_law_285 dL_law_286 dL_law_287 ?_
  refine lw_arg hx hb hX hbl hbA hS hl 2 (by decide) (by omega) hL dL_law_288 dL_law_289 dL_law_290 dL_law_291 dL_law_292 ?_
  refine lw_calli (T := tM g adM) (T2 := tC g adC) (N := 23) (N2 := 83) (As := [.int (xs (idx + 1)), .int (xs (idx + 2))]) (rest := [.int r]) F hG hDM hap.symm (by decide) rfl rfl hP2 hP hS (ok_X8_belt l (lw_onD hDM) _ _ _ _ e2) (cwV 2 F.2.2.2.2 gL_law_X8_belt rfl rfl rfl (by decide +kernel) ⟨Nat.le_of_ble_eq_true rfl, Nat.le_of_ble_eq_true rfl⟩) rfl hl.1 rfl (Nat.le_of_ble_eq_true rfl) (Nat.le_of_ble_eq_true rfl) (Nat.le_of_ble_eq_true rfl) dL_law_293 (fun H locs hP2 hP hS => ?_)
  exact lv_icmp_eq (tgt := 700) hx hb dL_law_296 (by decide) (fun _ => kk _ _ _ _ ⟨hP, hP2, hS, hz1⟩) (fun h => absurd rfl h)
set_option maxHeartbeats 1000000 in
theorem lwc_as (V : lw_Ev p s m args c D g tG adC adM b L xs) {idx j : Nat} (hL : L ≤ 2048) (hi : idx + 4 ≤ L) (hj : j ≤ 2048) {cC cM : gw_S} {H : Heap} {locs : List Loc} (I : lw_In D g s adC adM j cC cM H locs) {ls : Array Slot} (hl : lv_has ls 4 [(3, .int (nI idx)), (2, .ref (adM 0)), (1, .ref (adC 0)), (0, .ref b)]) (kk : ∀ (H1 : Heap) (locs1 : List Loc) (cC1 cM1 : gw_S), lw_In D g s adC adM (j + 1) cC1 cM1 H1 locs1 → W p l e room_1 s m args below meth c H1 locs1 106 896 Q (F0 m 700 ls [])) : W p l e room_1 s m args below meth c H locs 106 896 Q (F0 m 301 ls []) := by
  obtain ⟨F, hG, hDC, hDM, hap, hX, hbl⟩ := V
  obtain ⟨hP, hP2, hS, hz⟩ := I
  have hx := F.1
  have hb := F.2.1
  have hbA : ¬ (fun q : Nat => s.heap.size ≤ q) b := Nat.not_le.mpr hbl
  obtain ⟨r, c1, m1, e1, e2, hz1⟩ := st_as hz (xs (idx + 1)) (xs (idx + 2))
  obtain ⟨e1, rfl⟩ := e1
  obtain ⟨e2, rfl⟩ := e2
  refine lv_aload_n hx hb dL_law_301 rfl (lv_at hl 2 rfl) ?_
  refine lw_arg hx hb hX hbl hbA hS hl 1 (by decide) (by omega) hL dL_law_302 dL_law_303 dL_law_304 dL_law_305 dL_law_306 ?_
  refine lw_arg hx hb hX hbl hbA hS hl 2 (by decide) (by omega) hL dL_law_307 dL_law_308 dL_law_309 dL_law_310 dL_law_311 ?_
  refine lw_calli (T := tC g adC) (T2 := tM g adM) (N := 83) (N2 := 23) (As := [.int (xs (idx + 1)), .int (xs (idx + 2))]) (rest := []) F hG hDC hap (by decide) rfl rfl hP hP2 hS (ok_X7_as l (lw_onD hDC) _ _ _ _ e1) (cwV 2 F.2.2.2.2 gL_law_X7_as rfl rfl rfl (by decide +kernel) ⟨Nat.le_of_ble_eq_true rfl, Nat.le_of_ble_eq_true rfl⟩) rfl hl.1 rfl (Nat.le_of_ble_eq_true rfl) (Nat.le_of_ble_eq_true rfl) (Nat.le_of_ble_eq_true rfl) dL_law_312 (fun H locs hP hP2 hS => ?_)
  refine lv_aload_n hx hb dL_law_315 rfl (lv_at hl 1 rfl) ?_
  refine lw_arg hx hb hX hbl hbA hS hl 1 (by decide) (by omega) hL dL_law_316 dL_law_317 dL_law_318 dL_law_319 dL_law_320 ?_
  refine lw_arg hx hb hX hbl hbA hS hl 2 (by decide) (by omega) hL dL_law_321 dL_law_322 dL_law_323 dL_law_324 dL_law_325 ?_
  refine lw_calli (T := tM g adM) (T2 := tC g adC) (N := 23) (N2 := 83) (As := [.int (xs (idx + 1)), .int (xs (idx + 2))]) (rest := [.int r]) F hG hDM hap.symm (by decide) rfl rfl hP2 hP hS (ok_X8_as l (lw_onD hDM) _ _ _ _ e2) (cwV 2 F.2.2.2.2 gL_law_X8_as rfl rfl rfl (by decide +kernel) ⟨Nat.le_of_ble_eq_true rfl, Nat.le_of_ble_eq_true rfl⟩) rfl hl.1 rfl (Nat.le_of_ble_eq_true rfl) (Nat.le_of_ble_eq_true rfl) (Nat.le_of_ble_eq_true rfl) dL_law_326 (fun H locs hP2 hP hS => ?_)
  exact lv_icmp_eq (tgt := 700) hx hb dL_law_329 (by decide) (fun _ => kk _ _ _ _ ⟨hP, hP2, hS, hz1⟩) (fun h => absurd rfl h)
set_option maxHeartbeats 1000000 in
theorem lwc_toss (V : lw_Ev p s m args c D g tG adC adM b L xs) {idx j : Nat} (hL : L ≤ 2048) (hi : idx + 4 ≤ L) (hj : j ≤ 2048) {cC cM : gw_S} {H : Heap} {locs : List Loc} (I : lw_In D g s adC adM j cC cM H locs) {ls : Array Slot} (hl : lv_has ls 4 [(3, .int (nI idx)), (2, .ref (adM 0)), (1, .ref (adC 0)), (0, .ref b)]) (kk : ∀ (H1 : Heap) (locs1 : List Loc) (cC1 cM1 : gw_S), lw_In D g s adC adM (j + 1) cC1 cM1 H1 locs1 → W p l e room_1 s m args below meth c H1 locs1 106 896 Q (F0 m 700 ls [])) : W p l e room_1 s m args below meth c H locs 106 896 Q (F0 m 334 ls []) := by
  obtain ⟨F, hG, hDC, hDM, hap, hX, hbl⟩ := V
  obtain ⟨hP, hP2, hS, hz⟩ := I
  have hx := F.1
  have hb := F.2.1
  have hbA : ¬ (fun q : Nat => s.heap.size ≤ q) b := Nat.not_le.mpr hbl
  obtain ⟨r, c1, m1, e1, e2, hz1⟩ := st_toss hz (xs (idx + 1)) (xs (idx + 2))
  refine lv_aload_n hx hb dL_law_334 rfl (lv_at hl 2 rfl) ?_
  refine lw_arg hx hb hX hbl hbA hS hl 1 (by decide) (by omega) hL dL_law_335 dL_law_336 dL_law_337 dL_law_338 dL_law_339 ?_
  refine lw_arg hx hb hX hbl hbA hS hl 2 (by decide) (by omega) hL dL_law_340 dL_law_341 dL_law_342 dL_law_343 dL_law_344 ?_
  refine lw_calli (T := tC g adC) (T2 := tM g adM) (N := 83) (N2 := 23) (As := [.int (xs (idx + 1)), .int (xs (idx + 2))]) (rest := []) F hG hDC hap (by decide) rfl rfl hP hP2 hS (ok_X7_toss l (lw_onD hDC) _ _ _ _ _ e1) (cwV 2 F.2.2.2.2 gL_law_X7_toss rfl rfl rfl (by decide +kernel) ⟨Nat.le_of_ble_eq_true rfl, Nat.le_of_ble_eq_true rfl⟩) rfl hl.1 rfl (Nat.le_of_ble_eq_true rfl) (Nat.le_of_ble_eq_true rfl) (Nat.le_of_ble_eq_true rfl) dL_law_345 (fun H locs hP hP2 hS => ?_)
  refine lv_aload_n hx hb dL_law_348 rfl (lv_at hl 1 rfl) ?_
  refine lw_arg hx hb hX hbl hbA hS hl 1 (by decide) (by omega) hL dL_law_349 dL_law_350 dL_law_351 dL_law_352 dL_law_353 ?_
  refine lw_arg hx hb hX hbl hbA hS hl 2 (by decide) (by omega) hL dL_law_354 dL_law_355 dL_law_356 dL_law_357 dL_law_358 ?_
  refine lw_calli (T := tM g adM) (T2 := tC g adC) (N := 23) (N2 := 83) (As := [.int (xs (idx + 1)), .int (xs (idx + 2))]) (rest := [.int r]) F hG hDM hap.symm (by decide) rfl rfl hP2 hP hS (ok_X8_toss l (lw_onD hDM) _ _ _ _ _ e2) (cwV 2 F.2.2.2.2 gL_law_X8_toss rfl rfl rfl (by decide +kernel) ⟨Nat.le_of_ble_eq_true rfl, Nat.le_of_ble_eq_true rfl⟩) rfl hl.1 rfl (Nat.le_of_ble_eq_true rfl) (Nat.le_of_ble_eq_true rfl) (Nat.le_of_ble_eq_true rfl) dL_law_359 (fun H locs hP2 hP hS => ?_)
  exact lv_icmp_eq (tgt := 700) hx hb dL_law_362 (by decide) (fun _ => kk _ _ _ _ ⟨hP, hP2, hS, hz1⟩) (fun h => absurd rfl h)
set_option maxHeartbeats 1000000 in
theorem lwc_carry (V : lw_Ev p s m args c D g tG adC adM b L xs) {idx j : Nat} (hL : L ≤ 2048) (hi : idx + 4 ≤ L) (hj : j ≤ 2048) {cC cM : gw_S} {H : Heap} {locs : List Loc} (I : lw_In D g s adC adM j cC cM H locs) {ls : Array Slot} (hl : lv_has ls 4 [(3, .int (nI idx)), (2, .ref (adM 0)), (1, .ref (adC 0)), (0, .ref b)]) (kk : ∀ (H1 : Heap) (locs1 : List Loc) (cC1 cM1 : gw_S), lw_In D g s adC adM (j + 1) cC1 cM1 H1 locs1 → W p l e room_1 s m args below meth c H1 locs1 106 896 Q (F0 m 700 ls [])) : W p l e room_1 s m args below meth c H locs 106 896 Q (F0 m 367 ls []) := by
  obtain ⟨F, hG, hDC, hDM, hap, hX, hbl⟩ := V
  obtain ⟨hP, hP2, hS, hz⟩ := I
  have hx := F.1
  have hb := F.2.1
  have hbA : ¬ (fun q : Nat => s.heap.size ≤ q) b := Nat.not_le.mpr hbl
  obtain ⟨r, c1, m1, e1, e2, hz1⟩ := st_carry hz (xs (idx + 1))
  refine lv_aload_n hx hb dL_law_367 rfl (lv_at hl 2 rfl) ?_
  refine lw_arg hx hb hX hbl hbA hS hl 1 (by decide) (by omega) hL dL_law_368 dL_law_369 dL_law_370 dL_law_371 dL_law_372 ?_
  refine lw_calli (T := tC g adC) (T2 := tM g adM) (N := 83) (N2 := 23) (As := [.int (xs (idx + 1))]) (rest := []) F hG hDC hap (by decide) rfl rfl hP hP2 hS (ok_X7_carry l (lw_onD hDC) _ _ _ _ e1) (cwV 1 F.2.2.2.2 gL_law_X7_carry rfl rfl rfl (by decide +kernel) ⟨Nat.le_of_ble_eq_true rfl, Nat.le_of_ble_eq_true rfl⟩) rfl hl.1 rfl (Nat.le_of_ble_eq_true rfl) (Nat.le_of_ble_eq_true rfl) (Nat.le_of_ble_eq_true rfl) dL_law_373 (fun H locs hP hP2 hS => ?_)
  refine lv_aload_n hx hb dL_law_376 rfl (lv_at hl 1 rfl) ?_
  refine lw_arg hx hb hX hbl hbA hS hl 1 (by decide) (by omega) hL dL_law_377 dL_law_378 dL_law_379 dL_law_380 dL_law_381 ?_
  refine lw_calli (T := tM g adM) (T2 := tC g adC) (N := 23) (N2 := 83) (As := [.int (xs (idx + 1))]) (rest := [.int r]) F hG hDM hap.symm (by decide) rfl rfl hP2 hP hS (ok_X8_carry l (lw_onD hDM) _ _ _ _ e2) (cwV 1 F.2.2.2.2 gL_law_X8_carry rfl rfl rfl (by decide +kernel) ⟨Nat.le_of_ble_eq_true rfl, Nat.le_of_ble_eq_true rfl⟩) rfl hl.1 rfl (Nat.le_of_ble_eq_true rfl) (Nat.le_of_ble_eq_true rfl) (Nat.le_of_ble_eq_true rfl) dL_law_382 (fun H locs hP2 hP hS => ?_)
  exact lv_icmp_eq (tgt := 700) hx hb dL_law_385 (by decide) (fun _ => kk _ _ _ _ ⟨hP, hP2, hS, hz1⟩) (fun h => absurd rfl h)
set_option maxHeartbeats 1000000 in
theorem lwc_change (V : lw_Ev p s m args c D g tG adC adM b L xs) {idx j : Nat} (hL : L ≤ 2048) (hi : idx + 4 ≤ L) (hj : j ≤ 2048) {cC cM : gw_S} {H : Heap} {locs : List Loc} (I : lw_In D g s adC adM j cC cM H locs) {ls : Array Slot} (hl : lv_has ls 4 [(3, .int (nI idx)), (2, .ref (adM 0)), (1, .ref (adC 0)), (0, .ref b)]) (kk : ∀ (H1 : Heap) (locs1 : List Loc) (cC1 cM1 : gw_S), lw_In D g s adC adM (j + 1) cC1 cM1 H1 locs1 → W p l e room_1 s m args below meth c H1 locs1 106 896 Q (F0 m 700 ls [])) : W p l e room_1 s m args below meth c H locs 106 896 Q (F0 m 390 ls []) := by
  obtain ⟨F, hG, hDC, hDM, hap, hX, hbl⟩ := V
  obtain ⟨hP, hP2, hS, hz⟩ := I
  have hx := F.1
  have hb := F.2.1
  have hbA : ¬ (fun q : Nat => s.heap.size ≤ q) b := Nat.not_le.mpr hbl
  obtain ⟨r, c1, m1, e1, e2, hz1⟩ := st_change hz (xs (idx + 1))
  refine lv_aload_n hx hb dL_law_390 rfl (lv_at hl 2 rfl) ?_
  refine lw_arg hx hb hX hbl hbA hS hl 1 (by decide) (by omega) hL dL_law_391 dL_law_392 dL_law_393 dL_law_394 dL_law_395 ?_
  refine lw_calli (T := tC g adC) (T2 := tM g adM) (N := 83) (N2 := 23) (As := [.int (xs (idx + 1))]) (rest := []) F hG hDC hap (by decide) rfl rfl hP hP2 hS (ok_X7_change l (lw_onD hDC) _ _ _ _ e1) (cwV 1 F.2.2.2.2 gL_law_X7_change rfl rfl rfl (by decide +kernel) ⟨Nat.le_of_ble_eq_true rfl, Nat.le_of_ble_eq_true rfl⟩) rfl hl.1 rfl (Nat.le_of_ble_eq_true rfl) (Nat.le_of_ble_eq_true rfl) (Nat.le_of_ble_eq_true rfl) dL_law_396 (fun H locs hP hP2 hS => ?_)
  refine lv_aload_n hx hb dL_law_399 rfl (lv_at hl 1 rfl) ?_
  refine lw_arg hx hb hX hbl hbA hS hl 1 (by decide) (by omega) hL dL_law_400 dL_law_401 dL_law_402 dL_law_403 dL_law_404 ?_
  refine lw_calli (T := tM g adM) (T2 := tC g adC) (N := 23) (N2 := 83) (As := [.int (xs (idx + 1))]) (rest := [.int r]) F hG hDM hap.symm (by decide) rfl rfl hP2 hP hS (ok_X8_change l (lw_onD hDM) _ _ _ _ e2) (cwV 1 F.2.2.2.2 gL_law_X8_change rfl rfl rfl (by decide +kernel) ⟨Nat.le_of_ble_eq_true rfl, Nat.le_of_ble_eq_true rfl⟩) rfl hl.1 rfl (Nat.le_of_ble_eq_true rfl) (Nat.le_of_ble_eq_true rfl) (Nat.le_of_ble_eq_true rfl) dL_law_405 (fun H locs hP2 hP hS => ?_)
  exact lv_icmp_eq (tgt := 700) hx hb dL_law_408 (by decide) (fun _ => kk _ _ _ _ ⟨hP, hP2, hS, hz1⟩) (fun h => absurd rfl h)
set_option maxHeartbeats 1000000 in
theorem lwc_exchange (V : lw_Ev p s m args c D g tG adC adM b L xs) {idx j : Nat} (hL : L ≤ 2048) (hi : idx + 4 ≤ L) (hj : j ≤ 2048) {cC cM : gw_S} {H : Heap} {locs : List Loc} (I : lw_In D g s adC adM j cC cM H locs) {ls : Array Slot} (hl : lv_has ls 4 [(3, .int (nI idx)), (2, .ref (adM 0)), (1, .ref (adC 0)), (0, .ref b)]) (kk : ∀ (H1 : Heap) (locs1 : List Loc) (cC1 cM1 : gw_S), lw_In D g s adC adM (j + 1) cC1 cM1 H1 locs1 → W p l e room_1 s m args below meth c H1 locs1 106 896 Q (F0 m 700 ls [])) : W p l e room_1 s m args below meth c H locs 106 896 Q (F0 m 413 ls []) := by
  obtain ⟨F, hG, hDC, hDM, hap, hX, hbl⟩ := V
  obtain ⟨hP, hP2, hS, hz⟩ := I
  have hx := F.1
  have hb := F.2.1
  have hbA : ¬ (fun q : Nat => s.heap.size ≤ q) b := Nat.not_le.mpr hbl
  obtain ⟨r, c1, m1, e1, e2, hz1⟩ := st_exchange hz (xs (idx + 1)) (xs (idx + 2))
  refine lv_aload_n hx hb dL_law_413 rfl (lv_at hl 2 rfl) ?_
  refine lw_arg hx hb hX hbl hbA hS hl 1 (by decide) (by omega) hL dL_law_414 dL_law_415 dL_law_416 dL_law_417 dL_law_418 ?_
  refine lw_arg hx hb hX hbl hbA hS hl 2 (by decide) (by omega) hL dL_law_419 dL_law_420 dL_law_421 dL_law_422 dL_law_423 ?_
  refine lw_calli (T := tC g adC) (T2 := tM g adM) (N := 83) (N2 := 23) (As := [.int (xs (idx + 1)), .int (xs (idx + 2))]) (rest := []) F hG hDC hap (by decide) rfl rfl hP hP2 hS (ok_X7_exchange l (lw_onD hDC) _ _ _ _ _ e1) (cwV 2 F.2.2.2.2 gL_law_X7_exchange rfl rfl rfl (by decide +kernel) ⟨Nat.le_of_ble_eq_true rfl, Nat.le_of_ble_eq_true rfl⟩) rfl hl.1 rfl (Nat.le_of_ble_eq_true rfl) (Nat.le_of_ble_eq_true rfl) (Nat.le_of_ble_eq_true rfl) dL_law_424 (fun H locs hP hP2 hS => ?_)
  refine lv_aload_n hx hb dL_law_427 rfl (lv_at hl 1 rfl) ?_
  refine lw_arg hx hb hX hbl hbA hS hl 1 (by decide) (by omega) hL dL_law_428 dL_law_429 dL_law_430 dL_law_431 dL_law_432 ?_
  refine lw_arg hx hb hX hbl hbA hS hl 2 (by decide) (by omega) hL dL_law_433 dL_law_434 dL_law_435 dL_law_436 dL_law_437 ?_
  refine lw_calli (T := tM g adM) (T2 := tC g adC) (N := 23) (N2 := 83) (As := [.int (xs (idx + 1)), .int (xs (idx + 2))]) (rest := [.int r]) F hG hDM hap.symm (by decide) rfl rfl hP2 hP hS (ok_X8_exchange l (lw_onD hDM) _ _ _ _ _ e2) (cwV 2 F.2.2.2.2 gL_law_X8_exchange rfl rfl rfl (by decide +kernel) ⟨Nat.le_of_ble_eq_true rfl, Nat.le_of_ble_eq_true rfl⟩) rfl hl.1 rfl (Nat.le_of_ble_eq_true rfl) (Nat.le_of_ble_eq_true rfl) (Nat.le_of_ble_eq_true rfl) dL_law_438 (fun H locs hP2 hP hS => ?_)
  exact lv_icmp_eq (tgt := 700) hx hb dL_law_441 (by decide) (fun _ => kk _ _ _ _ ⟨hP, hP2, hS, hz1⟩) (fun h => absurd rfl h)
set_option maxHeartbeats 1000000 in
theorem lwc_odds (V : lw_Ev p s m args c D g tG adC adM b L xs) {idx j : Nat} (hL : L ≤ 2048) (hi : idx + 4 ≤ L) (hj : j ≤ 2048) {cC cM : gw_S} {H : Heap} {locs : List Loc} (I : lw_In D g s adC adM j cC cM H locs) {ls : Array Slot} (hl : lv_has ls 4 [(3, .int (nI idx)), (2, .ref (adM 0)), (1, .ref (adC 0)), (0, .ref b)]) (kk : ∀ (H1 : Heap) (locs1 : List Loc) (cC1 cM1 : gw_S), lw_In D g s adC adM (j + 1) cC1 cM1 H1 locs1 → W p l e room_1 s m args below meth c H1 locs1 106 896 Q (F0 m 700 ls [])) : W p l e room_1 s m args below meth c H locs 106 896 Q (F0 m 446 ls []) := by
  obtain ⟨F, hG, hDC, hDM, hap, hX, hbl⟩ := V
  obtain ⟨hP, hP2, hS, hz⟩ := I
  have hx := F.1
  have hb := F.2.1
  have hbA : ¬ (fun q : Nat => s.heap.size ≤ q) b := Nat.not_le.mpr hbl
  obtain ⟨r, c1, m1, e1, e2, hz1⟩ := st_odds hz (xs (idx + 1)) (xs (idx + 2)) (xs (idx + 3))
  obtain ⟨e1, rfl⟩ := e1
  obtain ⟨e2, rfl⟩ := e2
  refine lv_aload_n hx hb dL_law_446 rfl (lv_at hl 2 rfl) ?_
  refine lw_arg hx hb hX hbl hbA hS hl 1 (by decide) (by omega) hL dL_law_447 dL_law_448 dL_law_449 dL_law_450 dL_law_451 ?_
  refine lw_arg hx hb hX hbl hbA hS hl 2 (by decide) (by omega) hL dL_law_452 dL_law_453 dL_law_454 dL_law_455 dL_law_456 ?_
  refine lw_arg hx hb hX hbl hbA hS hl 3 (by decide) (by omega) hL dL_law_457 dL_law_458 dL_law_459 dL_law_460 dL_law_461 ?_
  refine lw_calli (T := tC g adC) (T2 := tM g adM) (N := 83) (N2 := 23) (As := [.int (xs (idx + 1)), .int (xs (idx + 2)), .int (xs (idx + 3))]) (rest := []) F hG hDC hap (by decide) rfl rfl hP hP2 hS (ok_X7_odds l (lw_onD hDC) _ _ _ _ _ e1) (cwV 3 F.2.2.2.2 gL_law_X7_odds rfl rfl rfl (by decide +kernel) ⟨Nat.le_of_ble_eq_true rfl, Nat.le_of_ble_eq_true rfl⟩) rfl hl.1 rfl (Nat.le_of_ble_eq_true rfl) (Nat.le_of_ble_eq_true rfl) (Nat.le_of_ble_eq_true rfl) dL_law_462 (fun H locs hP hP2 hS => ?_)
  refine lv_aload_n hx hb dL_law_465 rfl (lv_at hl 1 rfl) ?_
  refine lw_arg hx hb hX hbl hbA hS hl 1 (by decide) (by omega) hL dL_law_466 dL_law_467 dL_law_468 dL_law_469 dL_law_470 ?_
  refine lw_arg hx hb hX hbl hbA hS hl 2 (by decide) (by omega) hL dL_law_471 dL_law_472 dL_law_473 dL_law_474 dL_law_475 ?_
  refine lw_arg hx hb hX hbl hbA hS hl 3 (by decide) (by omega) hL dL_law_476 dL_law_477 dL_law_478 dL_law_479 dL_law_480 ?_
  refine lw_calli (T := tM g adM) (T2 := tC g adC) (N := 23) (N2 := 83) (As := [.int (xs (idx + 1)), .int (xs (idx + 2)), .int (xs (idx + 3))]) (rest := [.int r]) F hG hDM hap.symm (by decide) rfl rfl hP2 hP hS (ok_X8_odds l (lw_onD hDM) _ _ _ _ _ e2) (cwV 3 F.2.2.2.2 gL_law_X8_odds rfl rfl rfl (by decide +kernel) ⟨Nat.le_of_ble_eq_true rfl, Nat.le_of_ble_eq_true rfl⟩) rfl hl.1 rfl (Nat.le_of_ble_eq_true rfl) (Nat.le_of_ble_eq_true rfl) (Nat.le_of_ble_eq_true rfl) dL_law_481 (fun H locs hP2 hP hS => ?_)
  exact lv_icmp_eq (tgt := 700) hx hb dL_law_484 (by decide) (fun _ => kk _ _ _ _ ⟨hP, hP2, hS, hz1⟩) (fun h => absurd rfl h)
set_option maxHeartbeats 1000000 in
theorem lwc_hanging (V : lw_Ev p s m args c D g tG adC adM b L xs) {idx j : Nat} (hL : L ≤ 2048) (hi : idx + 4 ≤ L) (hj : j ≤ 2048) {cC cM : gw_S} {H : Heap} {locs : List Loc} (I : lw_In D g s adC adM j cC cM H locs) {ls : Array Slot} (hl : lv_has ls 4 [(3, .int (nI idx)), (2, .ref (adM 0)), (1, .ref (adC 0)), (0, .ref b)]) (kk : ∀ (H1 : Heap) (locs1 : List Loc) (cC1 cM1 : gw_S), lw_In D g s adC adM (j + 1) cC1 cM1 H1 locs1 → W p l e room_1 s m args below meth c H1 locs1 106 896 Q (F0 m 700 ls [])) : W p l e room_1 s m args below meth c H locs 106 896 Q (F0 m 489 ls []) := by
  obtain ⟨F, hG, hDC, hDM, hap, hX, hbl⟩ := V
  obtain ⟨hP, hP2, hS, hz⟩ := I
  have hx := F.1
  have hb := F.2.1
  have hbA : ¬ (fun q : Nat => s.heap.size ≤ q) b := Nat.not_le.mpr hbl
  obtain ⟨r, c1, m1, e1, e2, hz1⟩ := st_hanging hz (xs (idx + 1))
  obtain ⟨e1, rfl⟩ := e1
  refine lv_aload_n hx hb dL_law_489 rfl (lv_at hl 2 rfl) ?_
  refine lw_arg hx hb hX hbl hbA hS hl 1 (by decide) (by omega) hL dL_law_490 dL_law_491 dL_law_492 dL_law_493 dL_law_494 ?_
  refine lw_calli (T := tC g adC) (T2 := tM g adM) (N := 83) (N2 := 23) (As := [.int (xs (idx + 1))]) (rest := []) F hG hDC hap (by decide) rfl rfl hP hP2 hS (ok_X7_hanging l (lw_onD hDC) _ _ _ e1) (cwV 1 F.2.2.2.2 gL_law_X7_hanging rfl rfl rfl (by decide +kernel) ⟨Nat.le_of_ble_eq_true rfl, Nat.le_of_ble_eq_true rfl⟩) rfl hl.1 rfl (Nat.le_of_ble_eq_true rfl) (Nat.le_of_ble_eq_true rfl) (Nat.le_of_ble_eq_true rfl) dL_law_495 (fun H locs hP hP2 hS => ?_)
  refine lv_aload_n hx hb dL_law_498 rfl (lv_at hl 1 rfl) ?_
  refine lw_arg hx hb hX hbl hbA hS hl 1 (by decide) (by omega) hL dL_law_499 dL_law_500 dL_law_501 dL_law_502 dL_law_503 ?_
  refine lw_calli (T := tM g adM) (T2 := tC g adC) (N := 23) (N2 := 83) (As := [.int (xs (idx + 1))]) (rest := [.int r]) F hG hDM hap.symm (by decide) rfl rfl hP2 hP hS (ok_X8_hanging l (lw_onD hDM) _ _ _ _ e2) (cwV 1 F.2.2.2.2 gL_law_X8_hanging rfl rfl rfl (by decide +kernel) ⟨Nat.le_of_ble_eq_true rfl, Nat.le_of_ble_eq_true rfl⟩) rfl hl.1 rfl (Nat.le_of_ble_eq_true rfl) (Nat.le_of_ble_eq_true rfl) (Nat.le_of_ble_eq_true rfl) dL_law_504 (fun H locs hP2 hP hS => ?_)
  exact lv_icmp_eq (tgt := 700) hx hb dL_law_507 (by decide) (fun _ => kk _ _ _ _ ⟨hP, hP2, hS, hz1⟩) (fun h => absurd rfl h)
set_option maxHeartbeats 1000000 in
theorem lwc_found (V : lw_Ev p s m args c D g tG adC adM b L xs) {idx j : Nat} (hL : L ≤ 2048) (hi : idx + 4 ≤ L) (hj : j ≤ 2048) {cC cM : gw_S} {H : Heap} {locs : List Loc} (I : lw_In D g s adC adM j cC cM H locs) {ls : Array Slot} (hl : lv_has ls 4 [(3, .int (nI idx)), (2, .ref (adM 0)), (1, .ref (adC 0)), (0, .ref b)]) (kk : ∀ (H1 : Heap) (locs1 : List Loc) (cC1 cM1 : gw_S), lw_In D g s adC adM (j + 1) cC1 cM1 H1 locs1 → W p l e room_1 s m args below meth c H1 locs1 106 896 Q (F0 m 700 ls [])) : W p l e room_1 s m args below meth c H locs 106 896 Q (F0 m 512 ls []) := by
  obtain ⟨F, hG, hDC, hDM, hap, hX, hbl⟩ := V
  obtain ⟨hP, hP2, hS, hz⟩ := I
  have hx := F.1
  have hb := F.2.1
  have hbA : ¬ (fun q : Nat => s.heap.size ≤ q) b := Nat.not_le.mpr hbl
  obtain ⟨r, c1, m1, e1, e2, hz1⟩ := st_found hz (xs (idx + 1)) (xs (idx + 2))
  refine lv_aload_n hx hb dL_law_512 rfl (lv_at hl 2 rfl) ?_
  refine lw_arg hx hb hX hbl hbA hS hl 1 (by decide) (by omega) hL dL_law_513 dL_law_514 dL_law_515 dL_law_516 dL_law_517 ?_
  refine lw_arg hx hb hX hbl hbA hS hl 2 (by decide) (by omega) hL dL_law_518 dL_law_519 dL_law_520 dL_law_521 dL_law_522 ?_
  refine lw_calli (T := tC g adC) (T2 := tM g adM) (N := 83) (N2 := 23) (As := [.int (xs (idx + 1)), .int (xs (idx + 2))]) (rest := []) F hG hDC hap (by decide) rfl rfl hP hP2 hS (ok_X7_found l (lw_onD hDC) _ _ _ _ _ e1) (cwV 2 F.2.2.2.2 gL_law_X7_found rfl rfl rfl (by decide +kernel) ⟨Nat.le_of_ble_eq_true rfl, Nat.le_of_ble_eq_true rfl⟩) rfl hl.1 rfl (Nat.le_of_ble_eq_true rfl) (Nat.le_of_ble_eq_true rfl) (Nat.le_of_ble_eq_true rfl) dL_law_523 (fun H locs hP hP2 hS => ?_)
  refine lv_aload_n hx hb dL_law_526 rfl (lv_at hl 1 rfl) ?_
  refine lw_arg hx hb hX hbl hbA hS hl 1 (by decide) (by omega) hL dL_law_527 dL_law_528 dL_law_529 dL_law_530 dL_law_531 ?_
  refine lw_arg hx hb hX hbl hbA hS hl 2 (by decide) (by omega) hL dL_law_532 dL_law_533 dL_law_534 dL_law_535 dL_law_536 ?_
  refine lw_calli (T := tM g adM) (T2 := tC g adC) (N := 23) (N2 := 83) (As := [.int (xs (idx + 1)), .int (xs (idx + 2))]) (rest := [.int r]) F hG hDM hap.symm (by decide) rfl rfl hP2 hP hS (ok_X8_found l (lw_onD hDM) _ _ _ _ _ e2) (cwV 2 F.2.2.2.2 gL_law_X8_found rfl rfl rfl (by decide +kernel) ⟨Nat.le_of_ble_eq_true rfl, Nat.le_of_ble_eq_true rfl⟩) rfl hl.1 rfl (Nat.le_of_ble_eq_true rfl) (Nat.le_of_ble_eq_true rfl) (Nat.le_of_ble_eq_true rfl) dL_law_537 (fun H locs hP2 hP hS => ?_)
  exact lv_icmp_eq (tgt := 700) hx hb dL_law_540 (by decide) (fun _ => kk _ _ _ _ ⟨hP, hP2, hS, hz1⟩) (fun h => absurd rfl h)
set_option maxHeartbeats 1000000 in
theorem lwc_forget (V : lw_Ev p s m args c D g tG adC adM b L xs) {idx j : Nat} (hL : L ≤ 2048) (hi : idx + 4 ≤ L) (hj : j ≤ 2048) {cC cM : gw_S} {H : Heap} {locs : List Loc} (I : lw_In D g s adC adM j cC cM H locs) {ls : Array Slot} (hl : lv_has ls 4 [(3, .int (nI idx)), (2, .ref (adM 0)), (1, .ref (adC 0)), (0, .ref b)]) (kk : ∀ (H1 : Heap) (locs1 : List Loc) (cC1 cM1 : gw_S), lw_In D g s adC adM (j + 1) cC1 cM1 H1 locs1 → W p l e room_1 s m args below meth c H1 locs1 106 896 Q (F0 m 700 ls [])) : W p l e room_1 s m args below meth c H locs 106 896 Q (F0 m 545 ls []) := by
  obtain ⟨F, hG, hDC, hDM, hap, hX, hbl⟩ := V
  obtain ⟨hP, hP2, hS, hz⟩ := I
  have hx := F.1
  have hb := F.2.1
  have hbA : ¬ (fun q : Nat => s.heap.size ≤ q) b := Nat.not_le.mpr hbl
  obtain ⟨r, c1, m1, e1, e2, hz1⟩ := st_forget hz
  refine lv_aload_n hx hb dL_law_545 rfl (lv_at hl 2 rfl) ?_
  refine lw_calli (T := tC g adC) (T2 := tM g adM) (N := 83) (N2 := 23) (As := []) (rest := []) F hG hDC hap (by decide) rfl rfl hP hP2 hS (ok_X7_forget l (lw_onD hDC) _ _ _ e1) (cwV 0 F.2.2.2.2 gL_law_X7_forget rfl rfl rfl (by decide +kernel) ⟨Nat.le_of_ble_eq_true rfl, Nat.le_of_ble_eq_true rfl⟩) rfl hl.1 rfl (Nat.le_of_ble_eq_true rfl) (Nat.le_of_ble_eq_true rfl) (Nat.le_of_ble_eq_true rfl) dL_law_546 (fun H locs hP hP2 hS => ?_)
  refine lv_aload_n hx hb dL_law_549 rfl (lv_at hl 1 rfl) ?_
  refine lw_calli (T := tM g adM) (T2 := tC g adC) (N := 23) (N2 := 83) (As := []) (rest := [.int r]) F hG hDM hap.symm (by decide) rfl rfl hP2 hP hS (ok_X8_forget l (lw_onD hDM) _ _ _ e2) (cwV 0 F.2.2.2.2 gL_law_X8_forget rfl rfl rfl (by decide +kernel) ⟨Nat.le_of_ble_eq_true rfl, Nat.le_of_ble_eq_true rfl⟩) rfl hl.1 rfl (Nat.le_of_ble_eq_true rfl) (Nat.le_of_ble_eq_true rfl) (Nat.le_of_ble_eq_true rfl) dL_law_550 (fun H locs hP2 hP hS => ?_)
  exact lv_icmp_eq (tgt := 700) hx hb dL_law_553 (by decide) (fun _ => kk _ _ _ _ ⟨hP, hP2, hS, hz1⟩) (fun h => absurd rfl h)
set_option maxHeartbeats 1000000 in
theorem lwc_hung (V : lw_Ev p s m args c D g tG adC adM b L xs) {idx j : Nat} (hL : L ≤ 2048) (hi : idx + 4 ≤ L) (hj : j ≤ 2048) {cC cM : gw_S} {H : Heap} {locs : List Loc} (I : lw_In D g s adC adM j cC cM H locs) {ls : Array Slot} (hl : lv_has ls 4 [(3, .int (nI idx)), (2, .ref (adM 0)), (1, .ref (adC 0)), (0, .ref b)]) (kk : ∀ (H1 : Heap) (locs1 : List Loc) (cC1 cM1 : gw_S), lw_In D g s adC adM (j + 1) cC1 cM1 H1 locs1 → W p l e room_1 s m args below meth c H1 locs1 106 896 Q (F0 m 700 ls [])) : W p l e room_1 s m args below meth c H locs 106 896 Q (F0 m 558 ls []) := by
  obtain ⟨F, hG, hDC, hDM, hap, hX, hbl⟩ := V
  obtain ⟨hP, hP2, hS, hz⟩ := I
  have hx := F.1
  have hb := F.2.1
  have hbA : ¬ (fun q : Nat => s.heap.size ≤ q) b := Nat.not_le.mpr hbl
  obtain ⟨r, c1, m1, e1, e2, hz1⟩ := st_hung hz
  refine lv_aload_n hx hb dL_law_558 rfl (lv_at hl 2 rfl) ?_
  refine lw_calli (T := tC g adC) (T2 := tM g adM) (N := 83) (N2 := 23) (As := []) (rest := []) F hG hDC hap (by decide) rfl rfl hP hP2 hS (ok_X7_hung l (lw_onD hDC) _ _ _ e1) (cwV 0 F.2.2.2.2 gL_law_X7_hung rfl rfl rfl (by decide +kernel) ⟨Nat.le_of_ble_eq_true rfl, Nat.le_of_ble_eq_true rfl⟩) rfl hl.1 rfl (Nat.le_of_ble_eq_true rfl) (Nat.le_of_ble_eq_true rfl) (Nat.le_of_ble_eq_true rfl) dL_law_559 (fun H locs hP hP2 hS => ?_)
  refine lv_aload_n hx hb dL_law_562 rfl (lv_at hl 1 rfl) ?_
  refine lw_calli (T := tM g adM) (T2 := tC g adC) (N := 23) (N2 := 83) (As := []) (rest := [.int r]) F hG hDM hap.symm (by decide) rfl rfl hP2 hP hS (ok_X8_hung l (lw_onD hDM) _ _ _ e2) (cwV 0 F.2.2.2.2 gL_law_X8_hung rfl rfl rfl (by decide +kernel) ⟨Nat.le_of_ble_eq_true rfl, Nat.le_of_ble_eq_true rfl⟩) rfl hl.1 rfl (Nat.le_of_ble_eq_true rfl) (Nat.le_of_ble_eq_true rfl) (Nat.le_of_ble_eq_true rfl) dL_law_563 (fun H locs hP2 hP hS => ?_)
  exact lv_icmp_eq (tgt := 700) hx hb dL_law_566 (by decide) (fun _ => kk _ _ _ _ ⟨hP, hP2, hS, hz1⟩) (fun h => absurd rfl h)
set_option maxHeartbeats 1000000 in
theorem lwc_where (V : lw_Ev p s m args c D g tG adC adM b L xs) {idx j : Nat} (hL : L ≤ 2048) (hi : idx + 4 ≤ L) (hj : j ≤ 2048) {cC cM : gw_S} {H : Heap} {locs : List Loc} (I : lw_In D g s adC adM j cC cM H locs) {ls : Array Slot} (hl : lv_has ls 4 [(3, .int (nI idx)), (2, .ref (adM 0)), (1, .ref (adC 0)), (0, .ref b)]) (kk : ∀ (H1 : Heap) (locs1 : List Loc) (cC1 cM1 : gw_S), lw_In D g s adC adM (j + 1) cC1 cM1 H1 locs1 → W p l e room_1 s m args below meth c H1 locs1 106 896 Q (F0 m 700 ls [])) : W p l e room_1 s m args below meth c H locs 106 896 Q (F0 m 571 ls []) := by
  obtain ⟨F, hG, hDC, hDM, hap, hX, hbl⟩ := V
  obtain ⟨hP, hP2, hS, hz⟩ := I
  have hx := F.1
  have hb := F.2.1
  have hbA : ¬ (fun q : Nat => s.heap.size ≤ q) b := Nat.not_le.mpr hbl
  obtain ⟨r, c1, m1, e1, e2, hz1⟩ := st_where hz (xs (idx + 1))
  refine lv_aload_n hx hb dL_law_571 rfl (lv_at hl 2 rfl) ?_
  refine lw_arg hx hb hX hbl hbA hS hl 1 (by decide) (by omega) hL dL_law_572 dL_law_573 dL_law_574 dL_law_575 dL_law_576 ?_
  refine lw_calli (T := tC g adC) (T2 := tM g adM) (N := 83) (N2 := 23) (As := [.int (xs (idx + 1))]) (rest := []) F hG hDC hap (by decide) rfl rfl hP hP2 hS (ok_X7_where l (lw_onD hDC) _ _ _ _ e1) (cwV 1 F.2.2.2.2 gL_law_X7_where rfl rfl rfl (by decide +kernel) ⟨Nat.le_of_ble_eq_true rfl, Nat.le_of_ble_eq_true rfl⟩) rfl hl.1 rfl (Nat.le_of_ble_eq_true rfl) (Nat.le_of_ble_eq_true rfl) (Nat.le_of_ble_eq_true rfl) dL_law_577 (fun H locs hP hP2 hS => ?_)
  refine lv_aload_n hx hb dL_law_580 rfl (lv_at hl 1 rfl) ?_
  refine lw_arg hx hb hX hbl hbA hS hl 1 (by decide) (by omega) hL dL_law_581 dL_law_582 dL_law_583 dL_law_584 dL_law_585 ?_
  refine lw_calli (T := tM g adM) (T2 := tC g adC) (N := 23) (N2 := 83) (As := [.int (xs (idx + 1))]) (rest := [.int r]) F hG hDM hap.symm (by decide) rfl rfl hP2 hP hS (ok_X8_where l (lw_onD hDM) _ _ _ _ e2) (cwV 1 F.2.2.2.2 gL_law_X8_where rfl rfl rfl (by decide +kernel) ⟨Nat.le_of_ble_eq_true rfl, Nat.le_of_ble_eq_true rfl⟩) rfl hl.1 rfl (Nat.le_of_ble_eq_true rfl) (Nat.le_of_ble_eq_true rfl) (Nat.le_of_ble_eq_true rfl) dL_law_586 (fun H locs hP2 hP hS => ?_)
  exact lv_icmp_eq (tgt := 700) hx hb dL_law_589 (by decide) (fun _ => kk _ _ _ _ ⟨hP, hP2, hS, hz1⟩) (fun h => absurd rfl h)
set_option maxHeartbeats 1000000 in
theorem lwc_shifts (V : lw_Ev p s m args c D g tG adC adM b L xs) {idx j : Nat} (hL : L ≤ 2048) (hi : idx + 4 ≤ L) (hj : j ≤ 2048) {cC cM : gw_S} {H : Heap} {locs : List Loc} (I : lw_In D g s adC adM j cC cM H locs) {ls : Array Slot} (hl : lv_has ls 4 [(3, .int (nI idx)), (2, .ref (adM 0)), (1, .ref (adC 0)), (0, .ref b)]) (kk : ∀ (H1 : Heap) (locs1 : List Loc) (cC1 cM1 : gw_S), lw_In D g s adC adM (j + 1) cC1 cM1 H1 locs1 → W p l e room_1 s m args below meth c H1 locs1 106 896 Q (F0 m 700 ls [])) : W p l e room_1 s m args below meth c H locs 106 896 Q (F0 m 594 ls []) := by
  obtain ⟨F, hG, hDC, hDM, hap, hX, hbl⟩ := V
  obtain ⟨hP, hP2, hS, hz⟩ := I
  have hx := F.1
  have hb := F.2.1
  have hbA : ¬ (fun q : Nat => s.heap.size ≤ q) b := Nat.not_le.mpr hbl
  obtain ⟨r, c1, m1, e1, e2, hz1⟩ := st_shifts hz (xs (idx + 1)) (xs (idx + 2)) (xs (idx + 3))
  refine lv_aload_n hx hb dL_law_594 rfl (lv_at hl 2 rfl) ?_
  refine lw_arg hx hb hX hbl hbA hS hl 1 (by decide) (by omega) hL dL_law_595 dL_law_596 dL_law_597 dL_law_598 dL_law_599 ?_
  refine lw_arg hx hb hX hbl hbA hS hl 2 (by decide) (by omega) hL dL_law_600 dL_law_601 dL_law_602 dL_law_603 dL_law_604 ?_
  refine lw_arg hx hb hX hbl hbA hS hl 3 (by decide) (by omega) hL dL_law_605 dL_law_606 dL_law_607 dL_law_608 dL_law_609 ?_
  refine lw_calli (T := tC g adC) (T2 := tM g adM) (N := 83) (N2 := 23) (As := [.int (xs (idx + 1)), .int (xs (idx + 2)), .int (xs (idx + 3))]) (rest := []) F hG hDC hap (by decide) rfl rfl hP hP2 hS (ok_X7_shifts l (lw_onD hDC) _ _ _ _ _ _ e1) (cwV 3 F.2.2.2.2 gL_law_X7_shifts rfl rfl rfl (by decide +kernel) ⟨Nat.le_of_ble_eq_true rfl, Nat.le_of_ble_eq_true rfl⟩) rfl hl.1 rfl (Nat.le_of_ble_eq_true rfl) (Nat.le_of_ble_eq_true rfl) (Nat.le_of_ble_eq_true rfl) dL_law_610 (fun H locs hP hP2 hS => ?_)
  refine lv_aload_n hx hb dL_law_613 rfl (lv_at hl 1 rfl) ?_
  refine lw_arg hx hb hX hbl hbA hS hl 1 (by decide) (by omega) hL dL_law_614 dL_law_615 dL_law_616 dL_law_617 dL_law_618 ?_
  refine lw_arg hx hb hX hbl hbA hS hl 2 (by decide) (by omega) hL dL_law_619 dL_law_620 dL_law_621 dL_law_622 dL_law_623 ?_
  refine lw_arg hx hb hX hbl hbA hS hl 3 (by decide) (by omega) hL dL_law_624 dL_law_625 dL_law_626 dL_law_627 dL_law_628 ?_
  refine lw_calli (T := tM g adM) (T2 := tC g adC) (N := 23) (N2 := 83) (As := [.int (xs (idx + 1)), .int (xs (idx + 2)), .int (xs (idx + 3))]) (rest := [.int r]) F hG hDM hap.symm (by decide) rfl rfl hP2 hP hS (ok_X8_shifts l (lw_onD hDM) _ _ _ _ _ _ e2) (cwV 3 F.2.2.2.2 gL_law_X8_shifts rfl rfl rfl (by decide +kernel) ⟨Nat.le_of_ble_eq_true rfl, Nat.le_of_ble_eq_true rfl⟩) rfl hl.1 rfl (Nat.le_of_ble_eq_true rfl) (Nat.le_of_ble_eq_true rfl) (Nat.le_of_ble_eq_true rfl) dL_law_629 (fun H locs hP2 hP hS => ?_)
  exact lv_icmp_eq (tgt := 700) hx hb dL_law_632 (by decide) (fun _ => kk _ _ _ _ ⟨hP, hP2, hS, hz1⟩) (fun h => absurd rfl h)
set_option maxHeartbeats 1000000 in
theorem lwc_image (V : lw_Ev p s m args c D g tG adC adM b L xs) {idx j : Nat} (hL : L ≤ 2048) (hi : idx + 4 ≤ L) (hj : j ≤ 2048) {cC cM : gw_S} {H : Heap} {locs : List Loc} (I : lw_In D g s adC adM j cC cM H locs) {ls : Array Slot} (hl : lv_has ls 4 [(3, .int (nI idx)), (2, .ref (adM 0)), (1, .ref (adC 0)), (0, .ref b)]) (kk : ∀ (H1 : Heap) (locs1 : List Loc) (cC1 cM1 : gw_S), lw_In D g s adC adM (j + 1) cC1 cM1 H1 locs1 → W p l e room_1 s m args below meth c H1 locs1 106 896 Q (F0 m 700 ls [])) : W p l e room_1 s m args below meth c H locs 106 896 Q (F0 m 637 ls []) := by
  obtain ⟨F, hG, hDC, hDM, hap, hX, hbl⟩ := V
  obtain ⟨hP, hP2, hS, hz⟩ := I
  have hx := F.1
  have hb := F.2.1
  have hbA : ¬ (fun q : Nat => s.heap.size ≤ q) b := Nat.not_le.mpr hbl
  obtain ⟨r, c1, m1, e1, e2, hz1⟩ := st_image hz
  refine lv_aload_n hx hb dL_law_637 rfl (lv_at hl 2 rfl) ?_
  refine lw_calli (T := tC g adC) (T2 := tM g adM) (N := 83) (N2 := 23) (As := []) (rest := []) F hG hDC hap (by decide) rfl rfl hP hP2 hS (ok_X7_image l (lw_onD hDC) _ _ _ e1) (cwV 0 F.2.2.2.2 gL_law_X7_image rfl rfl rfl (by decide +kernel) ⟨Nat.le_of_ble_eq_true rfl, Nat.le_of_ble_eq_true rfl⟩) rfl hl.1 rfl (Nat.le_of_ble_eq_true rfl) (Nat.le_of_ble_eq_true rfl) (Nat.le_of_ble_eq_true rfl) dL_law_638 (fun H locs hP hP2 hS => ?_)
  refine lv_aload_n hx hb dL_law_641 rfl (lv_at hl 1 rfl) ?_
  refine lw_calli (T := tM g adM) (T2 := tC g adC) (N := 23) (N2 := 83) (As := []) (rest := [.int r]) F hG hDM hap.symm (by decide) rfl rfl hP2 hP hS (ok_X8_image l (lw_onD hDM) _ _ _ e2) (cwV 0 F.2.2.2.2 gL_law_X8_image rfl rfl rfl (by decide +kernel) ⟨Nat.le_of_ble_eq_true rfl, Nat.le_of_ble_eq_true rfl⟩) rfl hl.1 rfl (Nat.le_of_ble_eq_true rfl) (Nat.le_of_ble_eq_true rfl) (Nat.le_of_ble_eq_true rfl) dL_law_642 (fun H locs hP2 hP hS => ?_)
  exact lv_icmp_eq (tgt := 700) hx hb dL_law_645 (by decide) (fun _ => kk _ _ _ _ ⟨hP, hP2, hS, hz1⟩) (fun h => absurd rfl h)
set_option maxHeartbeats 1000000 in
theorem lwc_restore (V : lw_Ev p s m args c D g tG adC adM b L xs) {idx j : Nat} (hL : L ≤ 2048) (hi : idx + 4 ≤ L) (hj : j ≤ 2048) {cC cM : gw_S} {H : Heap} {locs : List Loc} (I : lw_In D g s adC adM j cC cM H locs) {ls : Array Slot} (hl : lv_has ls 4 [(3, .int (nI idx)), (2, .ref (adM 0)), (1, .ref (adC 0)), (0, .ref b)]) (kk : ∀ (H1 : Heap) (locs1 : List Loc) (cC1 cM1 : gw_S), lw_In D g s adC adM (j + 1) cC1 cM1 H1 locs1 → W p l e room_1 s m args below meth c H1 locs1 106 896 Q (F0 m 700 ls [])) : W p l e room_1 s m args below meth c H locs 106 896 Q (F0 m 650 ls []) := by
  obtain ⟨F, hG, hDC, hDM, hap, hX, hbl⟩ := V
  obtain ⟨hP, hP2, hS, hz⟩ := I
  have hx := F.1
  have hb := F.2.1
  have hbA : ¬ (fun q : Nat => s.heap.size ≤ q) b := Nat.not_le.mpr hbl
  obtain ⟨r, c1, m1, e1, e2, hz1⟩ := st_restore hz
  refine lv_aload_n hx hb dL_law_650 rfl (lv_at hl 2 rfl) ?_
  refine lw_calli (T := tC g adC) (T2 := tM g adM) (N := 83) (N2 := 23) (As := []) (rest := []) F hG hDC hap (by decide) rfl rfl hP hP2 hS (ok_X7_restore l (lw_onD hDC) _ _ _ e1) (cwV 0 F.2.2.2.2 gL_law_X7_restore rfl rfl rfl (by decide +kernel) ⟨Nat.le_of_ble_eq_true rfl, Nat.le_of_ble_eq_true rfl⟩) rfl hl.1 rfl (Nat.le_of_ble_eq_true rfl) (Nat.le_of_ble_eq_true rfl) (Nat.le_of_ble_eq_true rfl) dL_law_651 (fun H locs hP hP2 hS => ?_)
  refine lv_aload_n hx hb dL_law_654 rfl (lv_at hl 1 rfl) ?_
  refine lw_calli (T := tM g adM) (T2 := tC g adC) (N := 23) (N2 := 83) (As := []) (rest := [.int r]) F hG hDM hap.symm (by decide) rfl rfl hP2 hP hS (ok_X8_restore l (lw_onD hDM) _ _ _ e2) (cwV 0 F.2.2.2.2 gL_law_X8_restore rfl rfl rfl (by decide +kernel) ⟨Nat.le_of_ble_eq_true rfl, Nat.le_of_ble_eq_true rfl⟩) rfl hl.1 rfl (Nat.le_of_ble_eq_true rfl) (Nat.le_of_ble_eq_true rfl) (Nat.le_of_ble_eq_true rfl) dL_law_655 (fun H locs hP2 hP hS => ?_)
  exact lv_icmp_eq (tgt := 700) hx hb dL_law_658 (by decide) (fun _ => kk _ _ _ _ ⟨hP, hP2, hS, hz1⟩) (fun h => absurd rfl h)
set_option maxHeartbeats 1000000 in
theorem lwc_count (V : lw_Ev p s m args c D g tG adC adM b L xs) {idx j : Nat} (hL : L ≤ 2048) (hi : idx + 4 ≤ L) (hj : j ≤ 2048) {cC cM : gw_S} {H : Heap} {locs : List Loc} (I : lw_In D g s adC adM j cC cM H locs) {ls : Array Slot} (hl : lv_has ls 4 [(3, .int (nI idx)), (2, .ref (adM 0)), (1, .ref (adC 0)), (0, .ref b)]) (kk : ∀ (H1 : Heap) (locs1 : List Loc) (cC1 cM1 : gw_S), lw_In D g s adC adM (j + 1) cC1 cM1 H1 locs1 → W p l e room_1 s m args below meth c H1 locs1 106 896 Q (F0 m 700 ls [])) : W p l e room_1 s m args below meth c H locs 106 896 Q (F0 m 663 ls []) := by
  obtain ⟨F, hG, hDC, hDM, hap, hX, hbl⟩ := V
  obtain ⟨hP, hP2, hS, hz⟩ := I
  have hx := F.1
  have hb := F.2.1
  have hbA : ¬ (fun q : Nat => s.heap.size ≤ q) b := Nat.not_le.mpr hbl
  obtain ⟨r, c1, m1, e1, e2, hz1⟩ := st_count hz (xs (idx + 1))
  obtain ⟨e1, rfl⟩ := e1
  obtain ⟨e2, rfl⟩ := e2
  refine lv_aload_n hx hb dL_law_663 rfl (lv_at hl 2 rfl) ?_
  refine lw_arg hx hb hX hbl hbA hS hl 1 (by decide) (by omega) hL dL_law_664 dL_law_665 dL_law_666 dL_law_667 dL_law_668 ?_
  refine lw_calli (T := tC g adC) (T2 := tM g adM) (N := 83) (N2 := 23) (As := [.int (xs (idx + 1))]) (rest := []) F hG hDC hap (by decide) rfl rfl hP hP2 hS (ok_X7_count l (lw_onD hDC) _ _ _ e1) (cwV 1 F.2.2.2.2 gL_law_X7_count rfl rfl rfl (by decide +kernel) ⟨Nat.le_of_ble_eq_true rfl, Nat.le_of_ble_eq_true rfl⟩) rfl hl.1 rfl (Nat.le_of_ble_eq_true rfl) (Nat.le_of_ble_eq_true rfl) (Nat.le_of_ble_eq_true rfl) dL_law_669 (fun H locs hP hP2 hS => ?_)
  refine lv_aload_n hx hb dL_law_672 rfl (lv_at hl 1 rfl) ?_
  refine lw_arg hx hb hX hbl hbA hS hl 1 (by decide) (by omega) hL dL_law_673 dL_law_674 dL_law_675 dL_law_676 dL_law_677 ?_
  refine lw_calli (T := tM g adM) (T2 := tC g adC) (N := 23) (N2 := 83) (As := [.int (xs (idx + 1))]) (rest := [.int r]) F hG hDM hap.symm (by decide) rfl rfl hP2 hP hS (ok_X8_count l (lw_onD hDM) _ _ _ e2) (cwV 1 F.2.2.2.2 gL_law_X8_count rfl rfl rfl (by decide +kernel) ⟨Nat.le_of_ble_eq_true rfl, Nat.le_of_ble_eq_true rfl⟩) rfl hl.1 rfl (Nat.le_of_ble_eq_true rfl) (Nat.le_of_ble_eq_true rfl) (Nat.le_of_ble_eq_true rfl) dL_law_678 (fun H locs hP2 hP hS => ?_)
  exact lv_icmp_eq (tgt := 700) hx hb dL_law_681 (by decide) (fun _ => kk _ _ _ _ ⟨hP, hP2, hS, hz1⟩) (fun h => absurd rfl h)
set_option maxHeartbeats 1000000 in
theorem lwc_digest (V : lw_Ev p s m args c D g tG adC adM b L xs) {idx j : Nat} (hL : L ≤ 2048) (hi : idx + 4 ≤ L) (hj : j ≤ 2048) {cC cM : gw_S} {H : Heap} {locs : List Loc} (I : lw_In D g s adC adM j cC cM H locs) {ls : Array Slot} (hl : lv_has ls 4 [(3, .int (nI idx)), (2, .ref (adM 0)), (1, .ref (adC 0)), (0, .ref b)]) (kk : ∀ (H1 : Heap) (locs1 : List Loc) (cC1 cM1 : gw_S), lw_In D g s adC adM (j + 1) cC1 cM1 H1 locs1 → W p l e room_1 s m args below meth c H1 locs1 106 896 Q (F0 m 700 ls [])) : W p l e room_1 s m args below meth c H locs 106 896 Q (F0 m 686 ls []) := by
  obtain ⟨F, hG, hDC, hDM, hap, hX, hbl⟩ := V
  obtain ⟨hP, hP2, hS, hz⟩ := I
  have hx := F.1
  have hb := F.2.1
  have hbA : ¬ (fun q : Nat => s.heap.size ≤ q) b := Nat.not_le.mpr hbl
  obtain ⟨r, c1, m1, e1, e2, hz1⟩ := st_digest hz
  refine lv_aload_n hx hb dL_law_686 rfl (lv_at hl 2 rfl) ?_
  refine lw_calll (T := tC g adC) (T2 := tM g adM) (N := 83) (N2 := 23) (As := []) (rest := []) F hG hDC hap (by decide) rfl rfl hP hP2 hS (ok_X7_digest l (lw_onD hDC) _ _ _ e1) (cwV 0 F.2.2.2.2 gL_law_X7_digest rfl rfl rfl (by decide +kernel) ⟨Nat.le_of_ble_eq_true rfl, Nat.le_of_ble_eq_true rfl⟩) rfl hl.1 rfl (Nat.le_of_ble_eq_true rfl) (Nat.le_of_ble_eq_true rfl) (Nat.le_of_ble_eq_true rfl) dL_law_687 (fun H locs hP hP2 hS => ?_)
  refine lv_aload_n hx hb dL_law_690 rfl (lv_at hl 1 rfl) ?_
  refine lw_calll (T := tM g adM) (T2 := tC g adC) (N := 23) (N2 := 83) (As := []) (rest := [.long r]) F hG hDM hap.symm (by decide) rfl rfl hP2 hP hS (ok_X8_digest l (lw_onD hDM) _ _ _ e2) (cwV 0 F.2.2.2.2 gL_law_X8_digest rfl rfl rfl (by decide +kernel) ⟨Nat.le_of_ble_eq_true rfl, Nat.le_of_ble_eq_true rfl⟩) rfl hl.1 rfl (Nat.le_of_ble_eq_true rfl) (Nat.le_of_ble_eq_true rfl) (Nat.le_of_ble_eq_true rfl) dL_law_691 (fun H locs hP2 hP hS => ?_)
  refine W.lcmp hx hb dL_law_694 ?_
  exact lv_if_eq (tgt := 700) hx hb dL_law_695 (by decide) (fun _ => kk _ _ _ _ ⟨hP, hP2, hS, hz1⟩) (fun h => absurd (lg_cmp_self r) h)
end LWC
