section
/-! Digest: the reference's side. -/
variable {P : List Nat} {n : Nat} {Y R O : Nat → Nat} {fl : Nat} {a : zS} {k : Option zS}
/-- the reference as it stands, its long at v -/
def rmH (P : List Nat) (n : Nat) (Y R O : Nat → Nat) (fl : Nat) (a : zS) (k : Option zS) (v : Int64) (m : gw_S) : Prop := rmAll m P n Y R O fl a k ∧ rdL m 0 41 = v
theorem z_loopN {β : Type} (W : Nat → Int32 → gw_S → β) (K : gw_S → β) (F : Nat → Int64 → Int64) (Inv : Int64 → gw_S → Prop) (lo e : Nat) (hs : ∀ f s h c, lo ≤ s → s < e → Inv h c → ∃ c', Inv (F s h) c' ∧ W (f + 1) (nI s) c = W f (nI (s + 1)) c') (he : ∀ f h c, Inv h c → W (f + 1) (nI e) c = K c) : ∀ k f s h c, lo ≤ s → s + k = e → k < f → Inv h c → ∃ c', Inv (zIter F k s h) c' ∧ W f (nI s) c = K c' := by
  intro k
  induction k with
  | zero =>
    intro f s h c _ hk hf hc
    obtain ⟨f, rfl⟩ : ∃ g, f = g + 1 := ⟨f - 1, by omega⟩
    have : s = e := by omega
    subst this
    exact ⟨c, hc, he f h c hc⟩
  | succ k ih =>
    intro f s h c hlo hk hf hc
    obtain ⟨f, rfl⟩ : ∃ g, f = g + 1 := ⟨f - 1, by omega⟩
    obtain ⟨d, d1, d2⟩ := hs f s h c hlo (by omega) hc
    obtain ⟨g, g1, g2⟩ := ih f (s + 1) (F s h) d (by omega) (by omega) (by omega) d1
    exact ⟨g, g1, d2.trans g2⟩
theorem pM_mix (hI : zInv P n Y R O fl a k) {v : Int64} {m : gw_S} (hm : rmH P n Y R O fl a k v m) (r : Int32) : ∃ d, fX8_mix (Int32.toInt64 r) m = some d ∧ rmH P n Y R O fl a k (z31 v r) d := by
  refine ⟨wrL m 0 41 ((31 * (rdL m 0 41)) + Int32.toInt64 r), rfl, hm.1.scr hI rmScr.wrL, ?_⟩
  rw [rL_wr, if_pos ⟨rfl, rfl⟩, hm.2]
  rfl
theorem rmH.ag (hI : zInv P n Y R O fl a k) {v : Int64} {m d : gw_S} (hm : rmH P n Y R O fl a k v m) (h : agH m d) : rmH P n Y R O fl a k v d := ⟨hm.1.scr hI h.scr, (h.L 0 41).trans hm.2⟩
theorem pM_mixHook (hI : zInv P n Y R O fl a k) {v : Int64} {m : gw_S} (hm : rmH P n Y R O fl a k v m) {i : Nat} (hi : i < n) : ∃ d, fX8_mixHook (nI i) m = some d ∧ rmH P n Y R O fl a k (zDHook n Y R O a i v) d := by
  have hn := hI.n6
  have hT := hI.2.2.2.1.1
  have hl := hI.2.2.2.1.2.2.2.1
  unfold fX8_mixHook
  generalize hK1 : (fun (v2_x27 : Int32) (t_x27 : gw_S) => (fX8_oddsNow 3 (nI i) 3 t_x27).bind (fun r56 => (fX8_mix (Int32.toInt64 r56) t_x27).bind (fun t_60 => some t_60))) = K1
  generalize hK2 : (fun (v2_x2 : Int32) (t_x2 : gw_S) => fX8_mixHook_L27 K1 (nI i) 2000 0 t_x2) = K2
  obtain ⟨d1, h1, e1⟩ := z_loopM (fun f w c => fX8_mixHook_L2 K2 (nI i) f w c) (fun c => K2 (nI 7) c) (fun w h => z31 h (aHook n Y R O a (nI i) (nI w))) (rmH P n Y R O fl a k) 7 (fun f s h c hs hc => by
    obtain ⟨d, d1, d2⟩ := pM_mix hI hc (aHook n Y R O a (nI i) (nI s))
    refine ⟨d, d2, ?_⟩
    show fX8_mixHook_L2 _ (nI i) (f + 1) (nI s) c = _
    rw [fX8_mixHook_L2, if_neg (show ¬ (7 : Int32) ≤ nI s from z_in (e := 7) hs (by omega)), pM_hookNow hc.1.2.1 hc.1.2.2.1 hn hT hi (nI s) (by rw [zK_nI (by omega) (by omega)]; exact decide_eq_true hs), Option.bind_some, d1, Option.bind_some]
    simp only [zNm]
    rw [show nI s + 1 = nI (s + 1) from z_add s 1]) (fun f h c _ => by
    show fX8_mixHook_L2 _ (nI i) (f + 1) (nI 7) c = _
    rw [fX8_mixHook_L2, if_pos (show (7 : Int32) ≤ nI 7 by decide)]) 7 2000 0 v m (by omega) (by omega) hm
  have e1 : fX8_mixHook_L2 K2 (nI i) 2000 0 m = K2 (nI 7) d1 := e1
  obtain ⟨d2, h2, e2⟩ := z_loopM (fun f w c => fX8_mixHook_L27 K1 (nI i) f w c) (fun c => K1 (nI 6) c) (fun w h => z31 h (aOdds n Y R a (nI 0) (nI i) (nI w))) (rmH P n Y R O fl a k) 6 (fun f s h c hs hc => by
    obtain ⟨d, d1, d2⟩ := pM_mix hI hc (aOdds n Y R a (nI 0) (nI i) (nI s))
    refine ⟨d, d2, ?_⟩
    show fX8_mixHook_L27 _ (nI i) (f + 1) (nI s) c = _
    rw [fX8_mixHook_L27, if_neg (show ¬ (6 : Int32) ≤ nI s from z_in (e := 6) hs (by omega)), show (fX8_oddsNow 0 (nI i) (nI s) c) = some (aOdds n Y R a (nI 0) (nI i) (nI s)) from pM_oddsNow (k := 0) hc.1.2.1 hc.1.2.2.1 hI.2.1 hT hl (by omega) hi (nI s) (by rw [zK_nI (by omega) (by omega)]; exact decide_eq_true hs), Option.bind_some, d1, Option.bind_some]
    simp only [zNm]
    rw [show nI s + 1 = nI (s + 1) from z_add s 1]) (fun f h c _ => by
    show fX8_mixHook_L27 _ (nI i) (f + 1) (nI 6) c = _
    rw [fX8_mixHook_L27, if_pos (show (6 : Int32) ≤ nI 6 by decide)]) 6 2000 0 _ d1 (by omega) (by omega) h1
  have e2 : fX8_mixHook_L27 K1 (nI i) 2000 0 d1 = K1 (nI 6) d2 := e2
  obtain ⟨d3, e3, h3⟩ := pM_mix hI h2 (aOdds n Y R a (nI 3) (nI i) (nI 3))
  refine ⟨d3, ?_, h3⟩
  rw [e1, ← hK2]
  show fX8_mixHook_L27 K1 (nI i) 2000 0 d1 = _
  rw [e2, ← hK1]
  show (fX8_oddsNow (nI 3) (nI i) (nI 3) d2).bind (fun r56 => (fX8_mix (Int32.toInt64 r56) d2).bind (fun t_60 => some t_60)) = _
  rw [pM_oddsNow (k := 3) h2.1.2.1 h2.1.2.2.1 hI.2.1 hT hl (by omega) hi (nI 3) (by decide), Option.bind_some, e3, Option.bind_some]
theorem aHanging_J (h0 : 0 < n) {j : Nat} (hj : j < 2 ∨ (10 ≤ j ∧ j ≤ 15)) : aHanging n Y O a (nI j) = aHangJ n Y O a j := by
  unfold aHanging
  rw [if_pos ?_, if_neg (by omega), z_cl (by omega)]
  rcases hj with hj | hj
  · left
    rw [zK_nI (by omega) (by omega)]
    exact decide_eq_true hj
  · right
    exact ⟨fun q => by have := (z_lt (a := j) (b := 10) (by omega) (by omega)).mp q; omega, fun q => by have := (z_lt (a := 15) (b := j) (by omega) (by omega)).mp q; omega⟩
theorem aWhere_t {t : Nat} (ht : t < n) (hn : n ≤ 6) : aWhere n a (nI t) = zBits t (zWays n (zFound a)) := by
  unfold aWhere
  rw [zK_nI (by omega) (by omega), if_pos (decide_eq_true ht), z_cl (by omega)]
theorem pM_mixHang (hI : zInv P n Y R O fl a k) (h0 : 0 < n) {v : Int64} {m : gw_S} (hm : rmH P n Y R O fl a k v m) {j : Nat} (hj : j < 2 ∨ (10 ≤ j ∧ j ≤ 15)) : ∃ d g, fX8_hangingNow (nI j) m = some (aHanging n Y O a (nI j), d) ∧ fX8_mix (Int32.toInt64 (aHanging n Y O a (nI j))) d = some g ∧ rmH P n Y R O fl a k (z31 v (aHanging n Y O a (nI j))) g := by
  obtain ⟨d, d1, d2⟩ := pM_hangingNow hm.1 hI h0 hj
  obtain ⟨g, g1, g2⟩ := pM_mix hI (rmH.ag hI hm d2) (aHanging n Y O a (nI j))
  exact ⟨d, g, by rw [aHanging_J h0 hj]; exact d1, g1, g2⟩
theorem pM_mixFloor (hI : zInv P n Y R O fl a k) (h0 : 0 < n) {v : Int64} {m : gw_S} (hm : rmH P n Y R O fl a k v m) : ∃ d, fX8_mixFloor m = some d ∧ rmH P n Y R O fl a k (zDHang n Y O a v) d := by
  have hn := hI.n6
  unfold fX8_mixFloor
  generalize hK1 : (fun (v1_x56 : Int32) (t_x56 : gw_S) => some t_x56) = K1
  generalize hK2 : (fun (v1_x23 : Int32) (t_x23 : gw_S) => gw_b2 (fX8_hungNow t_x23) (fun r47 t_47 => (fX8_mix (Int32.toInt64 r47) t_47).bind (fun t_51 => fX8_mixFloor_L56 K1 2000 0 t_51))) = K2
  obtain ⟨a1, b1, a2, a3, a4⟩ := pM_mixHang hI h0 hm (j := 0) (by omega)
  obtain ⟨c1, d1, c2, c3, c4⟩ := pM_mixHang hI h0 a4 (j := 1) (by omega)
  obtain ⟨g, h1, e1⟩ := z_loopN (fun f w c => fX8_mixFloor_L23 K2 f w c) (fun c => K2 (nI 16) c) (fun w h => z31 h (aHanging n Y O a (nI w))) (rmH P n Y R O fl a k) 10 16 (fun f s h c hlo hs hc => by
    obtain ⟨q, q1, q2, q3, q4⟩ := pM_mixHang hI h0 hc (j := s) (by omega)
    refine ⟨q1, q4, ?_⟩
    show fX8_mixFloor_L23 _ (f + 1) (nI s) c = _
    rw [fX8_mixFloor_L23, if_neg (show ¬ (16 : Int32) ≤ nI s from z_in (e := 16) hs (by omega)), q2]
    show (fX8_mix (Int32.toInt64 (aHanging n Y O a (nI s))) q).bind (fun t_36 => gw_nm (nI s + 1) (fun v1_39 => fX8_mixFloor_L23 K2 f v1_39 t_36)) = _
    rw [q3, Option.bind_some]
    simp only [zNm]
    rw [show nI s + 1 = nI (s + 1) from z_add s 1]) (fun f h c _ => by
    show fX8_mixFloor_L23 _ (f + 1) (nI 16) c = _
    rw [fX8_mixFloor_L23, if_pos (show (16 : Int32) ≤ nI 16 by decide)]) 6 2000 10 _ d1 (by omega) (by omega) (by omega) c4
  have e1 : fX8_mixFloor_L23 K2 2000 10 d1 = K2 (nI 16) g := e1
  obtain ⟨g2, u1, u2⟩ := pM_hungNow h1.1 hI h0
  obtain ⟨g3, u3, u4⟩ := pM_mix hI (rmH.ag hI h1 u2) (aHung n a)
  obtain ⟨g4, h2, e2⟩ := z_loopM (fun f w c => fX8_mixFloor_L56 K1 f w c) (fun c => K1 (nI n) c) (fun t h => z31 h (aWhere n a (nI t))) (rmH P n Y R O fl a k) n (fun f s h c hs hc => by
    obtain ⟨q, q1, q2⟩ := pM_whereNow hc.1 hI hs
    obtain ⟨r, r1, r2⟩ := pM_mix hI (rmH.ag hI hc q2) (aWhere n a (nI s))
    refine ⟨r, r2, ?_⟩
    show fX8_mixFloor_L56 _ (f + 1) (nI s) c = _
    rw [fX8_mixFloor_L56, hc.1.2.1.1, if_neg (z_in hs (by omega)), q1, ← aWhere_t hs hn]
    show (fX8_mix (Int32.toInt64 (aWhere n a (nI s))) q).bind (fun t_71 => gw_nm (nI s + 1) (fun v1_74 => fX8_mixFloor_L56 K1 f v1_74 t_71)) = _
    rw [r1, Option.bind_some]
    simp only [zNm]
    rw [show nI s + 1 = nI (s + 1) from z_add s 1]) (fun f h c hc => by
    show fX8_mixFloor_L56 _ (f + 1) (nI n) c = _
    rw [fX8_mixFloor_L56, hc.1.2.1.1, if_pos (z_out n)]) n 2000 0 _ g3 (by omega) (by omega) u4
  have e2 : fX8_mixFloor_L56 K1 2000 0 g3 = K1 (nI n) g4 := e2
  refine ⟨g4, ?_, h2⟩
  show gw_b2 (fX8_hangingNow (nI 0) m) (fun r3 t_3 => (fX8_mix (Int32.toInt64 r3) t_3).bind (fun t_7 => gw_b2 (fX8_hangingNow (nI 1) t_7) (fun r13 t_13 => (fX8_mix (Int32.toInt64 r13) t_13).bind (fun t_17 => fX8_mixFloor_L23 K2 2000 10 t_17)))) = _
  rw [a2]
  show (fX8_mix (Int32.toInt64 (aHanging n Y O a (nI 0))) a1).bind (fun t_7 => gw_b2 (fX8_hangingNow (nI 1) t_7) (fun r13 t_13 => (fX8_mix (Int32.toInt64 r13) t_13).bind (fun t_17 => fX8_mixFloor_L23 K2 2000 10 t_17))) = _
  rw [a3, Option.bind_some, c2]
  show (fX8_mix (Int32.toInt64 (aHanging n Y O a (nI 1))) c1).bind (fun t_17 => fX8_mixFloor_L23 K2 2000 10 t_17) = _
  rw [c3, Option.bind_some, e1, ← hK2]
  show gw_b2 (fX8_hungNow g) (fun r47 t_47 => (fX8_mix (Int32.toInt64 r47) t_47).bind (fun t_51 => fX8_mixFloor_L56 K1 2000 0 t_51)) = _
  rw [u1]
  show (fX8_mix (Int32.toInt64 (aHung n a)) g2).bind (fun t_51 => fX8_mixFloor_L56 K1 2000 0 t_51) = _
  rw [u3, Option.bind_some, e2, ← hK1]
theorem pM_digestTail (hI : zInv P n Y R O fl a k) {v : Int64} {m : gw_S} (hm : rmH P n Y R O fl a k v m) : ∃ d, fX8_digest_J79 m = some (zDTail P n fl a v, d) ∧ rmH P n Y R O fl a k (zDTail P n fl a v) d := by
  have h24 := hI.1.1
  unfold fX8_digest_J79
  generalize hK1 : (fun (v1_x108 : Int32) (t_x108 : gw_S) => some ((rdL t_x108 0 41), t_x108)) = K1
  generalize hK2 : (fun (v1_x81 : Int32) (t_x81 : gw_S) => fX8_digest_L108 K1 2000 0 t_x81) = K2
  obtain ⟨d1, h1, e1⟩ := z_loopM (fun f w c => fX8_digest_L81 K2 f w c) (fun c => K2 (nI P.length) c) (fun p h => z31 h (nI (P.getD p 0))) (rmH P n Y R O fl a k) P.length (fun f s h c hs hc => by
    obtain ⟨d, d1, d2⟩ := pM_mix hI hc (nI (P.getD s 0))
    refine ⟨d, d2, ?_⟩
    obtain ⟨w, hw⟩ := z_get hs
    have ew : P.getD s 0 = w := by rw [List.getD_eq_getElem?_getD, hw]; rfl
    show fX8_digest_L81 _ (f + 1) (nI s) c = _
    rw [fX8_digest_L81, hc.1.1.1, if_neg (z_in hs (by omega)), z_ix (by omega), if_pos (decide_eq_true (show s < 24 by omega)), z_cl (by omega), hc.1.1.2 s w hw, ← ew, d1, Option.bind_some]
    simp only [zNm]
    rw [show nI s + 1 = nI (s + 1) from z_add s 1]) (fun f h c hc => by
    show fX8_digest_L81 _ (f + 1) (nI P.length) c = _
    rw [fX8_digest_L81, hc.1.1.1, if_pos (z_out P.length)]) P.length 2000 0 v m (by omega) (by omega) hm
  have e1 : fX8_digest_L81 K2 2000 0 m = K2 (nI P.length) d1 := e1
  obtain ⟨d2, h2, e2⟩ := z_loopM (fun f w c => fX8_digest_L108 K1 f w c) (fun c => K1 (nI 9) c) (fun w h => z31 h (aCount P n fl a (nI w))) (rmH P n Y R O fl a k) 9 (fun f s h c hs hc => by
    obtain ⟨d, d1, d2⟩ := pM_mix hI hc (aCount P n fl a (nI s))
    refine ⟨d, d2, ?_⟩
    show fX8_digest_L108 _ (f + 1) (nI s) c = _
    rw [fX8_digest_L108, if_neg (show ¬ (9 : Int32) ≤ nI s from z_in (e := 9) hs (by omega)), pM_howMany hc.1 hI, Option.bind_some, d1, Option.bind_some]
    simp only [zNm]
    rw [show nI s + 1 = nI (s + 1) from z_add s 1]) (fun f h c _ => by
    show fX8_digest_L108 _ (f + 1) (nI 9) c = _
    rw [fX8_digest_L108, if_pos (show (9 : Int32) ≤ nI 9 by decide)]) 9 2000 0 _ d1 (by omega) (by omega) h1
  have e2 : fX8_digest_L108 K1 2000 0 d1 = K1 (nI 9) d2 := e2
  refine ⟨d2, ?_, h2⟩
  rw [e1, ← hK2]
  show fX8_digest_L108 K1 2000 0 d1 = _
  rw [e2, ← hK1]
  show some (rdL d2 0 41, d2) = _
  rw [h2.2]
  rfl
theorem pM_digest {m : gw_S} (h : rmAll m P n Y R O fl a k) (hI : zInv P n Y R O fl a k) : ∃ d, fX8_digest m = some (aDigest P n Y R O fl a, d) ∧ rmAll d P n Y R O fl a k := by
  have hn := hI.n6
  have h8 := hI.2.2.2.1.2.2.2.2.2.1
  have h5 := hI.2.2.2.1.2.2.2.2.2.2.1
  unfold fX8_digest
  simp only [zNm]
  generalize hK2 : (fun (v1_x30 : Int32) (t_x30 : gw_S) => if (rdI t_x30 0 1) ≤ 0 then (fX8_digest_J79 t_x30) else ((fX8_mixFloor t_x30).bind (fun t_76 => fX8_digest_J79 t_76))) = K2
  generalize hK1 : (fun (v1_x9 : Int32) (t_x9 : gw_S) => fX8_digest_L30 K2 2000 0 t_x9) = K1
  have hm : rmH P n Y R O fl a k 827 (wrL m 0 41 827) := ⟨h.scr hI rmScr.wrL, by rw [rL_wr, if_pos ⟨rfl, rfl⟩]⟩
  obtain ⟨d1, h1, e1⟩ := z_loopM (fun f w c => fX8_digest_L9 K1 f w c) (fun c => K1 (nI n) c) (zDHook n Y R O a) (rmH P n Y R O fl a k) n (fun f s h c hs hc => by
    obtain ⟨d, d1, d2⟩ := pM_mixHook hI hc hs
    refine ⟨d, d2, ?_⟩
    show fX8_digest_L9 _ (f + 1) (nI s) c = _
    rw [fX8_digest_L9, hc.1.2.1.1, if_neg (z_in hs (by omega)), d1, Option.bind_some]
    simp only [zNm]
    rw [show nI s + 1 = nI (s + 1) from z_add s 1]) (fun f h c hc => by
    show fX8_digest_L9 _ (f + 1) (nI n) c = _
    rw [fX8_digest_L9, hc.1.2.1.1, if_pos (z_out n)]) n 2000 0 827 _ (by omega) (by omega) hm
  have e1 : fX8_digest_L9 K1 2000 0 (wrL m 0 41 827) = K1 (nI n) d1 := e1
  obtain ⟨d2, h2, e2⟩ := z_loopM (fun f w c => fX8_digest_L30 K2 f w c) (fun c => K2 (nI (zBelt a).length) c) (zDBelt a) (rmH P n Y R O fl a k) (zBelt a).length (fun f s h c hs hc => by
    generalize hK3 : (fun (v2_x40 : Int32) (t_x40 : gw_S) => gw_nm (nI s + 1) (fun v1_62 => (fX8_digest_L30 K2 f) v1_62 t_x40)) = K3
    obtain ⟨g, g1, g2⟩ := z_loopM (fun f w c => fX8_digest_L40 K3 (nI s) f w c) (fun c => K3 (nI 3) c) (fun w h => z31 h (aBelt (zBelt a) (nI s) (nI w))) (rmH P n Y R O fl a k) 3 (fun f' s' h c hs' hc => by
      obtain ⟨d, d1, d2⟩ := pM_mix hI hc (aBelt (zBelt a) (nI s) (nI s'))
      refine ⟨d, d2, ?_⟩
      show fX8_digest_L40 _ (nI s) (f' + 1) (nI s') c = _
      rw [fX8_digest_L40, if_neg (show ¬ (3 : Int32) ≤ nI s' from z_in (e := 3) hs' (by omega)), pM_beltNow hc.1.2.2.1 h8 h5 hs (nI s') (by rw [zK_nI (by omega) (by omega)]; exact decide_eq_true hs'), Option.bind_some, d1, Option.bind_some]
      simp only [zNm]
      rw [show nI s' + 1 = nI (s' + 1) from z_add s' 1]) (fun f' h c _ => by
      show fX8_digest_L40 _ (nI s) (f' + 1) (nI 3) c = _
      rw [fX8_digest_L40, if_pos (show (3 : Int32) ≤ nI 3 by decide)]) 3 2000 0 h c (by omega) (by omega) hc
    have g2 : fX8_digest_L40 K3 (nI s) 2000 0 c = K3 (nI 3) g := g2
    refine ⟨g, g1, ?_⟩
    show fX8_digest_L30 _ (f + 1) (nI s) c = _
    rw [fX8_digest_L30, hc.1.2.2.1.2.2.1, if_neg (z_in hs (by omega)), hK3, g2, ← hK3]
    simp only [zNm]
    rw [show nI s + 1 = nI (s + 1) from z_add s 1]) (fun f h c hc => by
    show fX8_digest_L30 _ (f + 1) (nI (zBelt a).length) c = _
    rw [fX8_digest_L30, hc.1.2.2.1.2.2.1, if_pos (z_out _)]) (zBelt a).length 2000 0 _ d1 (by omega) (by omega) h1
  have e2 : fX8_digest_L30 K2 2000 0 d1 = K2 (nI (zBelt a).length) d2 := e2
  have e3 : fX8_digest_L9 K1 2000 0 (wrL m 0 41 827) = if (rdI d2 0 1) ≤ 0 then (fX8_digest_J79 d2) else ((fX8_mixFloor d2).bind (fun t_76 => fX8_digest_J79 t_76)) := by
    rw [e1, ← hK1]
    show fX8_digest_L30 K2 2000 0 d1 = _
    rw [e2, ← hK2]
  have h2 : rmH P n Y R O fl a k (zDMid n Y R O a) d2 := h2
  rw [h2.1.2.1.1] at e3
  unfold aDigest
  by_cases h0 : n = 0
  · obtain ⟨d, u1, u2⟩ := pM_digestTail hI h2
    refine ⟨d, ?_, u2.1⟩
    rw [if_pos h0]
    rw [if_pos (show nI n ≤ (0 : Int32) by rw [h0]; decide), u1] at e3
    exact e3
  · obtain ⟨g, g1, g2⟩ := pM_mixFloor hI (by omega) h2
    obtain ⟨d, u1, u2⟩ := pM_digestTail hI g2
    refine ⟨d, ?_, u2.1⟩
    rw [if_neg h0]
    rw [if_neg (show ¬ nI n ≤ (0 : Int32) from fun q => by have := (z_le (a := n) (b := 0) (by omega) (by omega)).mp q; omega), g1, Option.bind_some, u1] at e3
    exact e3
end
