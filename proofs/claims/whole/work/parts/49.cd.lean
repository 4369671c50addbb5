/-! Digest: the class's side. -/
def zIter (F : Nat → Int64 → Int64) : Nat → Nat → Int64 → Int64
  | 0, _, h => h
  | k + 1, s, h => zIter F k (s + 1) (F s h)
def z31 (h : Int64) (v : Int32) : Int64 := 31 * h + Int32.toInt64 v
theorem z_loopL {β : Type} (W : Nat → Int64 → Int32 → gw_S → β) (K : Int64 → gw_S → β) (F : Nat → Int64 → Int64) (Inv : gw_S → Prop) (e : Nat) (hs : ∀ f s h c, s < e → Inv c → ∃ c', Inv c' ∧ W (f + 1) h (nI s) c = W f (F s h) (nI (s + 1)) c') (he : ∀ f h c, Inv c → W (f + 1) h (nI e) c = K h c) : ∀ k f s h c, s + k = e → k < f → Inv c → ∃ c', Inv c' ∧ W f h (nI s) c = K (zIter F k s h) c' := by
  intro k
  induction k with
  | zero =>
    intro f s h c hk hf hc
    obtain ⟨f, rfl⟩ : ∃ g, f = g + 1 := ⟨f - 1, by omega⟩
    have : s = e := by omega
    subst this
    exact ⟨c, hc, he f h c hc⟩
  | succ k ih =>
    intro f s h c hk hf hc
    obtain ⟨f, rfl⟩ : ∃ g, f = g + 1 := ⟨f - 1, by omega⟩
    obtain ⟨d, d1, d2⟩ := hs f s h c (by omega) hc
    obtain ⟨g, g1, g2⟩ := ih f (s + 1) (F s h) d (by omega) (by omega) d1
    exact ⟨g, g1, d2.trans g2⟩
theorem z_loopM {β : Type} (W : Nat → Int32 → gw_S → β) (K : gw_S → β) (F : Nat → Int64 → Int64) (Inv : Int64 → gw_S → Prop) (e : Nat) (hs : ∀ f s h c, s < e → Inv h c → ∃ c', Inv (F s h) c' ∧ W (f + 1) (nI s) c = W f (nI (s + 1)) c') (he : ∀ f h c, Inv h c → W (f + 1) (nI e) c = K c) : ∀ k f s h c, s + k = e → k < f → Inv h c → ∃ c', Inv (zIter F k s h) c' ∧ W f (nI s) c = K c' := by
  intro k
  induction k with
  | zero =>
    intro f s h c hk hf hc
    obtain ⟨f, rfl⟩ : ∃ g, f = g + 1 := ⟨f - 1, by omega⟩
    have : s = e := by omega
    subst this
    exact ⟨c, hc, he f h c hc⟩
  | succ k ih =>
    intro f s h c hk hf hc
    obtain ⟨f, rfl⟩ : ∃ g, f = g + 1 := ⟨f - 1, by omega⟩
    obtain ⟨d, d1, d2⟩ := hs f s h c (by omega) hc
    obtain ⟨g, g1, g2⟩ := ih f (s + 1) (F s h) d (by omega) (by omega) d1
    exact ⟨g, g1, d2.trans g2⟩
def zDHook (n : Nat) (Y R O : Nat → Nat) (a : zS) (i : Nat) (h : Int64) : Int64 :=
  z31 (zIter (fun w h => z31 h (aOdds n Y R a (nI 0) (nI i) (nI w))) 6 0 (zIter (fun w h => z31 h (aHook n Y R O a (nI i) (nI w))) 7 0 h)) (aOdds n Y R a (nI 3) (nI i) (nI 3))
def zDBelt (a : zS) (p : Nat) (h : Int64) : Int64 := zIter (fun w h => z31 h (aBelt (zBelt a) (nI p) (nI w))) 3 0 h
def zDHang (n : Nat) (Y O : Nat → Nat) (a : zS) (h : Int64) : Int64 :=
  zIter (fun t h => z31 h (aWhere n a (nI t))) n 0 (z31 (zIter (fun w h => z31 h (aHanging n Y O a (nI w))) 6 10 (z31 (z31 h (aHanging n Y O a (nI 0))) (aHanging n Y O a (nI 1)))) (aHung n a))
def zDTail (P : List Nat) (n fl : Nat) (a : zS) (h : Int64) : Int64 := zIter (fun w h => z31 h (aCount P n fl a (nI w))) 9 0 (zIter (fun p h => z31 h (nI (P.getD p 0))) P.length 0 h)
def zDMid (n : Nat) (Y R O : Nat → Nat) (a : zS) : Int64 := zIter (zDBelt a) (zBelt a).length 0 (zIter (zDHook n Y R O a) n 0 827)
def aDigest (P : List Nat) (n : Nat) (Y R O : Nat → Nat) (fl : Nat) (a : zS) : Int64 := zDTail P n fl a (if n = 0 then zDMid n Y R O a else zDHang n Y O a (zDMid n Y R O a))
theorem z_in {s e : Nat} (h : s < e) (he : e < 1000) : ¬ nI e ≤ nI s := fun q => by have := (z_le (a := e) (b := s) (by omega) (by omega)).mp q; omega
theorem z_out (e : Nat) : nI e ≤ nI e := Int32.le_refl _
theorem z_in1 {s e : Nat} (h : s < e + 1) (he : e < 1000) : ¬ nI e < nI s := fun q => by have := (z_lt (a := e) (b := s) (by omega) (by omega)).mp q; omega
theorem z_out1 {e : Nat} (he : e < 1000) : nI e < nI (e + 1) := (z_lt (a := e) (b := e + 1) (by omega) (by omega)).mpr (by omega)
theorem pC_withHook {P : List Nat} {n : Nat} {Y R O : Nat → Nat} {fl : Nat} {a : zS} {k : Option zS} {c : gw_S} (h : rcAll c P n Y R O fl a k) (hI : zInv P n Y R O fl a k) {i : Nat} (v : Int64) : fX7_withHook v (nI i) c = some (zDHook n Y R O a i v) := by
  unfold fX7_withHook
  obtain ⟨-, -, e1⟩ := z_loopL (fun f v w c' => fX7_withHook_L6 (fun v4_x6 v6_x6 => fX7_withHook_L39 (fun v4_x39 v6_x39 => (fX7_odds 3 (nI i) 3 c).bind (fun r79 => some ((31 * v4_x39) + (Int32.toInt64 r79)))) (nI i) c 2000 v4_x6 0) (nI i) c f v w) (fun v _ => fX7_withHook_L39 (fun v4_x39 v6_x39 => (fX7_odds 3 (nI i) 3 c).bind (fun r79 => some ((31 * v4_x39) + (Int32.toInt64 r79)))) (nI i) c 2000 v 0) (fun w h => z31 h (aHook n Y R O a (nI i) (nI w))) (fun _ => True) 7 (fun f s v c' hs _ => ⟨c', trivial, by
    show fX7_withHook_L6 _ (nI i) c (f + 1) v (nI s) = _
    rw [fX7_withHook_L6, if_neg (show ¬ (6 : Int32) < nI s from z_in1 (e := 6) hs (by omega)), pC_hook h hI, Option.bind_some]
    simp only [zNm]
    rw [show nI s + 1 = nI (s + 1) from z_add s 1]
    rfl⟩) (fun f v c' _ => by
    show fX7_withHook_L6 _ (nI i) c (f + 1) v (nI 7) = _
    rw [fX7_withHook_L6, if_pos (show (6 : Int32) < nI 7 by decide)]) 7 2000 0 v c (by omega) (by omega) trivial
  have e1 : fX7_withHook_L6 (fun v4_x6 v6_x6 => fX7_withHook_L39 (fun v4_x39 v6_x39 => (fX7_odds 3 (nI i) 3 c).bind (fun r79 => some ((31 * v4_x39) + (Int32.toInt64 r79)))) (nI i) c 2000 v4_x6 0) (nI i) c 2000 v (nI 0) = _ := e1
  rw [← zl0] at e1
  rw [e1]
  obtain ⟨-, -, e2⟩ := z_loopL (fun f v w c' => fX7_withHook_L39 (fun v4_x39 v6_x39 => (fX7_odds 3 (nI i) 3 c).bind (fun r79 => some ((31 * v4_x39) + (Int32.toInt64 r79)))) (nI i) c f v w) (fun v _ => (fX7_odds 3 (nI i) 3 c).bind (fun r79 => some ((31 * v) + (Int32.toInt64 r79)))) (fun w h => z31 h (aOdds n Y R a (nI 0) (nI i) (nI w))) (fun _ => True) 6 (fun f s v c' hs _ => ⟨c', trivial, by
    show fX7_withHook_L39 _ (nI i) c (f + 1) v (nI s) = _
    rw [fX7_withHook_L39, if_neg (show ¬ (5 : Int32) < nI s from z_in1 (e := 5) hs (by omega)), pC_odds h hI, Option.bind_some]
    simp only [zNm]
    rw [show nI s + 1 = nI (s + 1) from z_add s 1]
    rfl⟩) (fun f v c' _ => by
    show fX7_withHook_L39 _ (nI i) c (f + 1) v (nI 6) = _
    rw [fX7_withHook_L39, if_pos (show (5 : Int32) < nI 6 by decide)]) 6 2000 0 (zIter (fun w h => z31 h (aHook n Y R O a (nI i) (nI w))) 7 0 v) c (by omega) (by omega) trivial
  have e2 : fX7_withHook_L39 (fun v4_x39 v6_x39 => (fX7_odds 3 (nI i) 3 c).bind (fun r79 => some ((31 * v4_x39) + (Int32.toInt64 r79)))) (nI i) c 2000 (zIter (fun w h => z31 h (aHook n Y R O a (nI i) (nI w))) 7 0 v) (nI 0) = (fX7_odds 3 (nI i) 3 c).bind (fun r79 => some ((31 * (zIter (fun w h => z31 h (aOdds n Y R a (nI 0) (nI i) (nI w))) 6 0 (zIter (fun w h => z31 h (aHook n Y R O a (nI i) (nI w))) 7 0 v))) + (Int32.toInt64 r79))) := e2
  have e3 := pC_odds h hI 3 (nI i) 3
  rw [← zl0] at e2
  refine Eq.trans e2 ?_
  rw [e3]
  rfl
/-- hanging, as the digest tells of it -/
theorem pC_withHanging {P : List Nat} {n : Nat} {Y R O : Nat → Nat} {fl : Nat} {a : zS} {k : Option zS} {c : gw_S} (h : rcAll c P n Y R O fl a k) (hI : zInv P n Y R O fl a k) (v : Int64) : ∃ d, fX7_withHanging v c = some (zDHang n Y O a v, d) ∧ rcAll d P n Y R O fl a k := by
  have hn := hI.n6
  unfold fX7_withHanging
  rw [show (0 : Int32) = nI 0 from rfl, show (1 : Int32) = nI 1 from rfl, pC_hanging h hI, pC_hanging h hI, Option.bind_some]
  simp only [zNm]
  rw [Option.bind_some]
  generalize hv1 : 31 * (31 * v + Int32.toInt64 (aHanging n Y O a (nI 0))) + Int32.toInt64 (aHanging n Y O a (nI 1)) = v1
  have hv1 : z31 (z31 v (aHanging n Y O a (nI 0))) (aHanging n Y O a (nI 1)) = v1 := hv1
  generalize hK : (fun (v3_x30 : Int64) (v5_x30 : Int32) (t_x30 : gw_S) => gw_b2 (fX7_hung t_x30) (fun r63 t_63 => fX7_withHanging_L72 (fun v3_x72 v5_x72 t_x72 => some (v3_x72, t_x72)) 2000 (31 * v3_x30 + Int32.toInt64 r63) (nI 0) t_63)) = K
  obtain ⟨-, -, e1⟩ := z_loopL (fun f v w c' => fX7_withHanging_L30 K f v w c) (fun v _ => K v (nI 16) c) (fun w h => z31 h (aHanging n Y O a (nI w))) (fun _ => True) 16 (fun f s v c' hs _ => ⟨c', trivial, by
    show fX7_withHanging_L30 K (f + 1) v (nI s) c = _
    rw [fX7_withHanging_L30, if_neg (show ¬ (16 : Int32) ≤ nI s from z_in (e := 16) hs (by omega)), pC_hanging h hI, Option.bind_some]
    simp only [zNm]
    rw [show nI s + 1 = nI (s + 1) from z_add s 1]
    rfl⟩) (fun f v c' _ => by
    show fX7_withHanging_L30 K (f + 1) v (nI 16) c = _
    rw [fX7_withHanging_L30, if_pos (show (16 : Int32) ≤ nI 16 by decide)]) 6 2000 10 v1 c (by omega) (by omega) trivial
  have e1 : fX7_withHanging_L30 K 2000 v1 10 c = K (zIter (fun w h => z31 h (aHanging n Y O a (nI w))) 6 10 v1) (nI 16) c := e1
  rw [e1, ← hK]
  obtain ⟨d, d1, d2⟩ := pC_hung h hI
  show ∃ d, gw_b2 (fX7_hung c) _ = some (zDHang n Y O a v, d) ∧ _
  rw [d1]
  show ∃ d', fX7_withHanging_L72 (fun v3_x72 v5_x72 t_x72 => some (v3_x72, t_x72)) 2000 (z31 (zIter (fun w h => z31 h (aHanging n Y O a (nI w))) 6 10 v1) (aHung n a)) (nI 0) d = some (zDHang n Y O a v, d') ∧ _
  obtain ⟨g, g1, g2⟩ := z_loopL (fun f v w c' => fX7_withHanging_L72 (fun v3_x72 v5_x72 t_x72 => some (v3_x72, t_x72)) f v w c') (fun v c' => some (v, c')) (fun t h => z31 h (aWhere n a (nI t))) (fun c' => rcAll c' P n Y R O fl a k) n (fun f s v c' hs hc => by
    obtain ⟨q, q1, q2⟩ := pC_where hc hI (nI s)
    refine ⟨q, q2, ?_⟩
    show fX7_withHanging_L72 _ (f + 1) v (nI s) c' = _
    rw [fX7_withHanging_L72, hc.2.1.1, if_neg (z_in hs (by omega)), q1]
    show gw_nm _ (fun v3_97 => gw_nm (nI s + 1) (fun v5_98 => fX7_withHanging_L72 _ f v3_97 v5_98 q)) = _
    simp only [zNm]
    rw [show nI s + 1 = nI (s + 1) from z_add s 1]
    rfl) (fun f v c' hc => by
    show fX7_withHanging_L72 _ (f + 1) v (nI n) c' = _
    rw [fX7_withHanging_L72, hc.2.1.1, if_pos (z_out n)]) n 2000 0 (z31 (zIter (fun w h => z31 h (aHanging n Y O a (nI w))) 6 10 v1) (aHung n a)) d (by omega) (by omega) d2
  refine ⟨g, ?_, g1⟩
  rw [← hv1] at g2
  rw [← hv1]
  exact g2
theorem pC_digestTail {P : List Nat} {n : Nat} {Y R O : Nat → Nat} {fl : Nat} {a : zS} {k : Option zS} {c : gw_S} (h : rcAll c P n Y R O fl a k) (hI : zInv P n Y R O fl a k) (v : Int64) : fX7_digest_J98 v c = some (zDTail P n fl a v, c) := by
  have h24 := h.1.2.1
  unfold fX7_digest_J98
  obtain ⟨-, -, e1⟩ := z_loopL (fun f v w c' => fX7_digest_L100 (fun v1_x100 v3_x100 t_x100 => fX7_digest_L135 (fun v1_x135 v3_x135 t_x135 => some (v1_x135, t_x135)) 2000 v1_x100 0 t_x100) f v w c) (fun v _ => fX7_digest_L135 (fun v1_x135 v3_x135 t_x135 => some (v1_x135, t_x135)) 2000 v 0 c) (fun p h => z31 h (nI (P.getD p 0))) (fun _ => True) P.length (fun f s v c' hs _ => ⟨c', trivial, by
    show fX7_digest_L100 _ (f + 1) v (nI s) c = _
    rw [fX7_digest_L100, h.1.1, if_neg (z_in hs (by omega)), pC_codeAt h.1 (by omega), Option.bind_some]
    simp only [zNm]
    rw [show nI s + 1 = nI (s + 1) from z_add s 1]
    rfl⟩) (fun f v c' _ => by
    show fX7_digest_L100 _ (f + 1) v (nI P.length) c = _
    rw [fX7_digest_L100, h.1.1, if_pos (z_out P.length)]) P.length 2000 0 v c (by omega) (by omega) trivial
  refine Eq.trans e1 ?_
  obtain ⟨-, -, e2⟩ := z_loopL (fun f v w c' => fX7_digest_L135 (fun v1_x135 v3_x135 t_x135 => some (v1_x135, t_x135)) f v w c) (fun v _ => some (v, c)) (fun w h => z31 h (aCount P n fl a (nI w))) (fun _ => True) 9 (fun f s v c' hs _ => ⟨c', trivial, by
    show fX7_digest_L135 _ (f + 1) v (nI s) c = _
    rw [fX7_digest_L135, if_neg (show ¬ (8 : Int32) < nI s from z_in1 (e := 8) hs (by omega)), pC_count h hI, Option.bind_some]
    simp only [zNm]
    rw [show nI s + 1 = nI (s + 1) from z_add s 1]
    rfl⟩) (fun f v c' _ => by
    show fX7_digest_L135 _ (f + 1) v (nI 9) c = _
    rw [fX7_digest_L135, if_pos (show (8 : Int32) < nI 9 by decide)]) 9 2000 0 (zIter (fun p h => z31 h (nI (P.getD p 0))) P.length 0 v) c (by omega) (by omega) trivial
  exact e2
theorem pC_dgHook {P : List Nat} {n : Nat} {Y R O : Nat → Nat} {fl : Nat} {a : zS} {k : Option zS} {c : gw_S} (h : rcAll c P n Y R O fl a k) (hI : zInv P n Y R O fl a k) (K : Int64 → Int32 → gw_S → Option (Int64 × gw_S)) (v : Int64) : fX7_digest_L6 K 2000 v (nI 0) c = K (zIter (zDHook n Y R O a) n 0 v) (nI n) c := by
  have hn := hI.n6
  obtain ⟨-, -, e1⟩ := z_loopL (fun f v w c' => fX7_digest_L6 K f v w c) (fun v _ => K v (nI n) c) (zDHook n Y R O a) (fun _ => True) n (fun f s v c' hs _ => ⟨c', trivial, by
    show fX7_digest_L6 _ (f + 1) v (nI s) c = _
    rw [fX7_digest_L6, h.2.1.1, if_neg (z_in hs (by omega)), pC_withHook h hI, Option.bind_some]
    simp only [zNm]
    rw [show nI s + 1 = nI (s + 1) from z_add s 1]⟩) (fun f v c' _ => by
    show fX7_digest_L6 _ (f + 1) v (nI n) c = _
    rw [fX7_digest_L6, h.2.1.1, if_pos (z_out n)]) n 2000 0 v c (by omega) (by omega) trivial
  exact e1
theorem pC_dgBelt1 {P : List Nat} {n : Nat} {Y R O : Nat → Nat} {fl : Nat} {a : zS} {k : Option zS} {c : gw_S} (h : rcAll c P n Y R O fl a k) (hI : zInv P n Y R O fl a k) (K : Int64 → Int32 → gw_S → Option (Int64 × gw_S)) (s : Nat) (v : Int64) : fX7_digest_L49 K (nI s) 2000 v (nI 0) c = K (zDBelt a s v) (nI 3) c := by
  obtain ⟨-, -, e3⟩ := z_loopL (fun f' v w c' => fX7_digest_L49 K (nI s) f' v w c) (fun v _ => K v (nI 3) c) (fun w h => z31 h (aBelt (zBelt a) (nI s) (nI w))) (fun _ => True) 3 (fun f' s' v c' hs' _ => ⟨c', trivial, by
      show fX7_digest_L49 _ (nI s) (f' + 1) v (nI s') c = _
      rw [fX7_digest_L49, if_neg (show ¬ (2 : Int32) < nI s' from z_in1 (e := 2) hs' (by omega)), pC_belt h hI, Option.bind_some]
      simp only [zNm]
      rw [show nI s' + 1 = nI (s' + 1) from z_add s' 1]
      rfl⟩) (fun f' v c' _ => by
      show fX7_digest_L49 _ (nI s) (f' + 1) v (nI 3) c = _
      rw [fX7_digest_L49, if_pos (show (2 : Int32) < nI 3 by decide)]) 3 2000 0 v c (by omega) (by omega) trivial
  exact e3
theorem pC_dgBelt {P : List Nat} {n : Nat} {Y R O : Nat → Nat} {fl : Nat} {a : zS} {k : Option zS} {c : gw_S} (h : rcAll c P n Y R O fl a k) (hI : zInv P n Y R O fl a k) (K : Int64 → Int32 → gw_S → Option (Int64 × gw_S)) (v : Int64) : fX7_digest_L32 K 2000 v (nI 0) c = K (zIter (zDBelt a) (zBelt a).length 0 v) (nI (zBelt a).length) c := by
  have h8 := hI.2.2.2.1.2.2.2.2.2.1
  have eb : rdI c 27 3 = nI (zBelt a).length := h.2.2.2.2.1.2.2.1.1
  obtain ⟨-, -, e2⟩ := z_loopL (fun f v w c' => fX7_digest_L32 K f v w c) (fun v _ => K v (nI (zBelt a).length) c) (zDBelt a) (fun _ => True) (zBelt a).length (fun f s v c' hs _ => ⟨c', trivial, by
    generalize hK3 : (fun (v1_x49 : Int64) (v4_x49 : Int32) (t_x49 : gw_S) => gw_nm (nI s + 1) (fun v3_76 => (fX7_digest_L32 K f) v1_x49 v3_76 t_x49)) = K3
    have e3 := pC_dgBelt1 h hI K3 s v
    rw [← zl0] at e3
    show fX7_digest_L32 K (f + 1) v (nI s) c = _
    rw [fX7_digest_L32, eb, if_neg (z_in hs (by omega)), hK3, e3, ← hK3]
    simp only [zNm]
    rw [show nI s + 1 = nI (s + 1) from z_add s 1]⟩) (fun f v c' _ => by
    show fX7_digest_L32 K (f + 1) v (nI (zBelt a).length) c = _
    rw [fX7_digest_L32, eb, if_pos (z_out _)]) (zBelt a).length 2000 0 v c (by omega) (by omega) trivial
  exact e2
def zDK2 : Int64 → Int32 → gw_S → Option (Int64 × gw_S) := fun v1_x32 v3_x32 t_x32 => if (rdI t_x32 3 3) ≤ 0 then (fX7_digest_J98 v1_x32 t_x32) else (gw_b2 (fX7_withHanging v1_x32 t_x32) (fun r94 t_94 => fX7_digest_J98 r94 t_94))
def zDK1 : Int64 → Int32 → gw_S → Option (Int64 × gw_S) := fun v1_x6 _ t_x6 => fX7_digest_L32 zDK2 2000 v1_x6 0 t_x6
theorem pC_dg0 (c : gw_S) : fX7_digest c = fX7_digest_L6 zDK1 2000 827 0 c := rfl
theorem pC_dg1 {P : List Nat} {n : Nat} {Y R O : Nat → Nat} {fl : Nat} {a : zS} {k : Option zS} {c : gw_S} (h : rcAll c P n Y R O fl a k) (hI : zInv P n Y R O fl a k) : fX7_digest_L6 zDK1 2000 827 0 c = zDK1 (zIter (zDHook n Y R O a) n 0 827) (nI n) c := by
  have e1 := pC_dgHook h hI zDK1 827
  rw [← zl0] at e1
  exact e1
theorem pC_dg2 {P : List Nat} {n : Nat} {Y R O : Nat → Nat} {fl : Nat} {a : zS} {k : Option zS} {c : gw_S} (h : rcAll c P n Y R O fl a k) (hI : zInv P n Y R O fl a k) (x : Int32) (v : Int64) : zDK1 v x c = zDK2 (zIter (zDBelt a) (zBelt a).length 0 v) (nI (zBelt a).length) c := by
  unfold zDK1
  have e2 := pC_dgBelt h hI zDK2 v
  rw [← zl0] at e2
  exact e2
/-- (a kernel that unfolds gw_b2 last would run through the loops) -/
theorem zB2 {α β γ : Type} (x : α) (y : β) (f : α → β → Option γ) : gw_b2 (some (x, y)) f = f x y := id rfl
theorem pC_dg3 {P : List Nat} {n : Nat} {Y R O : Nat → Nat} {fl : Nat} {a : zS} {k : Option zS} {c : gw_S} (h : rcAll c P n Y R O fl a k) (hI : zInv P n Y R O fl a k) (x : Int32) (v : Int64) : ∃ d, zDK2 v x c = some (zDTail P n fl a (if n = 0 then v else zDHang n Y O a v), d) ∧ rcAll d P n Y R O fl a k := by
  have hn := hI.n6
  unfold zDK2
  rw [h.2.1.1]
  by_cases h0 : n = 0
  · rw [if_pos h0, if_pos (show nI n ≤ (0 : Int32) by rw [h0]; decide)]
    exact ⟨c, pC_digestTail h hI _, h⟩
  · rw [if_neg h0, if_neg (show ¬ nI n ≤ (0 : Int32) from fun q => by have := (z_le (a := n) (b := 0) (by omega) (by omega)).mp q; omega)]
    obtain ⟨d, d1, d2⟩ := pC_withHanging h hI v
    rw [d1, zB2, pC_digestTail d2 hI]
    exact ⟨d, rfl, d2⟩
theorem pC_digest {P : List Nat} {n : Nat} {Y R O : Nat → Nat} {fl : Nat} {a : zS} {k : Option zS} {c : gw_S} (h : rcAll c P n Y R O fl a k) (hI : zInv P n Y R O fl a k) : ∃ d, fX7_digest c = some (aDigest P n Y R O fl a, d) ∧ rcAll d P n Y R O fl a k := by
  obtain ⟨d, d1, d2⟩ := pC_dg3 h hI (nI (zBelt a).length) (zDMid n Y R O a)
  refine ⟨d, ?_, d2⟩
  rw [pC_dg0, pC_dg1 h hI, pC_dg2 h hI]
  exact d1
