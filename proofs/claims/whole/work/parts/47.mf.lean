/-! The reference: reading a page, fault, floor. -/
def agR (e d : gw_S) : Prop := ∀ x y, ¬ (x = 0 ∧ 20 ≤ y ∧ y ≤ 22) → rdI d x y = rdI e x y
theorem agR.refl (e : gw_S) : agR e e := fun _ _ _ => rfl
theorem agR.trans {e d g : gw_S} (h1 : agR e d) (h2 : agR d g) : agR e g := fun x y h => (h2 x y h).trans (h1 x y h)
theorem agR.scr {e d : gw_S} (h : agR e d) : rmScr e d := fun x y a _ _ => h x y (by omega)
theorem agR.wr {e : gw_S} {j : Nat} {v : Int32} (h : 20 ≤ j ∧ j ≤ 22) : agR e (wrI e 0 j v) := by
  intro x y a
  rw [rd_wr, if_neg (by omega)]
theorem agR.pg {e d : gw_S} {P : List Nat} (h : agR e d) (hp : rmPage e P) : rmPage d P := hp.fr (h _ _ (by omega)) (fun j => h _ _ (by omega))
theorem zScan_stop {P : List Nat} {p : Nat} (h : P.length ≤ p ∨ zTell p (P.getD p 0) = false) : zScan (P.drop p) 0 p = p ∧ zEnd (P.drop p) 0 p = 0 := by
  by_cases w : P.length ≤ p
  · rw [List.drop_eq_nil_of_le w]
    exact ⟨rfl, rfl⟩
  · have h : zTell p (P.getD p 0) = false := by
      rcases h with h | h
      · exact absurd h w
      · exact h
    rw [z_dropD (by omega)]
    unfold zScan zEnd
    rw [if_neg (show ¬ 0 < 0 from Nat.lt_irrefl 0), if_neg (show ¬ 0 < 0 from Nat.lt_irrefl 0), h]
    exact ⟨rfl, rfl⟩
theorem zScan_go {P : List Nat} {p : Nat} (hp : p < P.length) (h : zTell p (P.getD p 0) = true) (hc : P.getD p 0 ≠ 59) : zScan (P.drop p) 0 p = zScan (P.drop (p + 1)) 0 (p + 1) ∧ zEnd (P.drop p) 0 p = zEnd (P.drop (p + 1)) 0 (p + 1) := by
  rw [z_dropD hp]
  rw [zScan, zEnd, if_neg (show ¬ 0 < 0 from Nat.lt_irrefl 0), if_neg (show ¬ 0 < 0 from Nat.lt_irrefl 0), if_pos h, if_pos h, if_neg hc]
  exact ⟨rfl, rfl⟩
theorem zScan_semi {P : List Nat} {p : Nat} (hp : p < P.length) (h : zTell p (P.getD p 0) = true) (hc : P.getD p 0 = 59) : zScan (P.drop p) 0 p = zScan (P.drop (p + 1)) ((p + 1) / 3) (p + 1) ∧ zEnd (P.drop p) 0 p = zEnd (P.drop (p + 1)) ((p + 1) / 3) (p + 1) := by
  rw [z_dropD hp]
  rw [zScan, zEnd, if_neg (show ¬ 0 < 0 from Nat.lt_irrefl 0), if_neg (show ¬ 0 < 0 from Nat.lt_irrefl 0), if_pos h, if_pos h, if_pos hc]
  exact ⟨rfl, rfl⟩
theorem pM_within18 : ∀ c, c < 127 → fX8_within (nI c - 48) 1 8 gw_z0 = zb (decide (49 ≤ c ∧ c ≤ 56)) := by decide +kernel
theorem pM_within19 : ∀ c, c < 127 → fX8_within (nI c - 48) 1 9 gw_z0 = zb (decide (49 ≤ c ∧ c ≤ 57)) := by decide +kernel
theorem pM_within09 : ∀ c, c < 127 → fX8_within (nI c - 48) 0 9 gw_z0 = zb (decide (48 ≤ c ∧ c ≤ 57)) := by decide +kernel
theorem pM_fig {m : gw_S} {P : List Nat} (h : rmPage m P) (hP : zCodes P) {lo hi : Int32} {g : Nat → Bool} (w : ∀ c, c < 127 → fX8_within (nI c - 48) lo hi gw_z0 = zb (g c)) {j : Nat} (hj : j < 1000) : fX8_isFigure (nI j) lo hi m = some (zb (decide (j < P.length) && g (P.getD j 0))) := by
  have h24 := hP.1
  unfold fX8_isFigure
  rw [h.1]
  by_cases q : j < P.length
  · obtain ⟨v, hv⟩ := z_get q
    have e : P.getD j 0 = v := by rw [List.getD_eq_getElem?_getD, hv]; rfl
    have hv2 := zCodes_get hP j
    rw [e] at hv2 ⊢
    rw [if_neg (fun z => by have := (z_le (a := P.length) (b := j) (by omega) (by omega)).mp z; omega), z_ix (by omega), decide_eq_true (show j < 24 by omega), if_pos rfl, z_cl (by omega), h.2 j v hv, decide_eq_true q, Bool.true_and, show fX8_within (nI v - 48) lo hi m = fX8_within (nI v - 48) lo hi gw_z0 from rfl, w v hv2]
    cases g v with
    | false => rfl
    | true => rfl
  · rw [if_pos ((z_le (a := P.length) (b := j) (by omega) (by omega)).mpr (by omega)), decide_eq_false q, Bool.false_and]
    rfl
theorem pM_sign {m : gw_S} {P : List Nat} (h : rmPage m P) (hP : zCodes P) {s : Nat} (hs : s < 1000) {j : Nat} (hj : j < 1000) : fX8_isSign (nI j) (nI s) m = some (zb (decide (j < P.length) && decide (P.getD j 0 = s))) := by
  have h24 := hP.1
  unfold fX8_isSign
  rw [h.1]
  by_cases q : j < P.length
  · obtain ⟨v, hv⟩ := z_get q
    have e : P.getD j 0 = v := by rw [List.getD_eq_getElem?_getD, hv]; rfl
    have hv2 := zCodes_get hP j
    rw [e] at hv2 ⊢
    rw [if_neg (fun z => by have := (z_le (a := P.length) (b := j) (by omega) (by omega)).mp z; omega), z_ix (by omega), decide_eq_true (show j < 24 by omega), if_pos rfl, z_cl (by omega), h.2 j v hv, decide_eq_true q, Bool.true_and]
    by_cases w : v = s
    · rw [if_pos (congrArg nI w), decide_eq_true w]; rfl
    · rw [if_neg (fun z => w ((z_eq (by omega) (by omega)).mp z)), decide_eq_false w]; rfl
  · rw [if_pos ((z_le (a := P.length) (b := j) (by omega) (by omega)).mpr (by omega)), decide_eq_false q, Bool.false_and]
    rfl
theorem pM_often_L {P : List Nat} {h : Nat} {t : gw_S} (hP : zCodes P) (hh : 1 ≤ h ∧ h ≤ 6) (hp : rmPage t P) (h22 : rdI t 0 22 = nI h) (Kx : Int32 → gw_S → Option gw_S) : ∀ k f p, p + k = 4 * h → k < f → fX8_readOften_L2 Kx (nI (3 * h)) f (nI p) t = Kx (nI (zScan (P.drop p) h p)) t := by
  intro k
  induction k with
  | zero =>
    intro f p hk hf
    obtain ⟨f, rfl⟩ : ∃ g, f = g + 1 := ⟨f - 1, by omega⟩
    rw [fX8_readOften_L2, h22, z_add, if_pos ((z_le (by omega) (by omega)).mpr (by omega))]
    have : zScan (P.drop p) h p = p := by
      by_cases w : P.length ≤ p
      · rw [List.drop_eq_nil_of_le w]; rfl
      · rw [z_dropD (by omega), zScan, if_pos (show 0 < h by omega), if_pos (Or.inl (by omega))]
    rw [this]
  | succ k ih =>
    intro f p hk hf
    obtain ⟨f, rfl⟩ : ∃ g, f = g + 1 := ⟨f - 1, by omega⟩
    rw [fX8_readOften_L2, h22, z_add, if_neg (fun z => by have := (z_le (by omega) (by omega)).mp z; omega), pM_fig hp hP pM_within09 (by omega), Option.bind_some]
    simp only [zNm]
    by_cases w : p < P.length
    · rw [decide_eq_true w, Bool.true_and, z_dropD w, zScan, if_pos (show 0 < h by omega)]
      by_cases q : 48 ≤ P.getD p 0 ∧ P.getD p 0 ≤ 57
      · rw [decide_eq_true q, if_neg (show ¬ zb true = 0 by decide), if_neg (show ¬ (4 * h ≤ p ∨ P.getD p 0 < 48 ∨ 57 < P.getD p 0) by omega), show nI p + 1 = nI (p + 1) from z_add p 1]
        exact ih f (p + 1) (by omega) (by omega)
      · rw [decide_eq_false q, if_pos (show zb false = 0 from rfl), if_pos (show 4 * h ≤ p ∨ P.getD p 0 < 48 ∨ 57 < P.getD p 0 by omega)]
    · rw [decide_eq_false w, Bool.false_and, if_pos (show zb false = 0 from rfl), List.drop_eq_nil_of_le (by omega)]
      rfl
theorem pM_often {P : List Nat} {h : Nat} {t : gw_S} (hP : zCodes P) (hh : 1 ≤ h ∧ h ≤ 6) (hp : rmPage t P) (h22 : rdI t 0 22 = nI h) : fX8_readOften (nI (3 * h)) t = some (wrI (wrI t 0 20 (nI (zScan (P.drop (3 * h)) h (3 * h)))) 0 21 (zb (decide (zScan (P.drop (3 * h)) h (3 * h) = 4 * h) && decide (zScan (P.drop (3 * h)) h (3 * h) = P.length)))) := by
  have h24 := hP.1
  have hle := zScan_le (P.drop (3 * h)) h (3 * h)
  rw [List.length_drop] at hle
  unfold fX8_readOften fX8_readOften_J57 fX8_readOften_J58
  simp only [zNm]
  rw [pM_often_L hP hh hp h22 _ h 2000 (3 * h) (by omega) (by omega), rd_nj (show (22 : Nat) ≠ 20 by omega), rd_nj (show (18 : Nat) ≠ 20 by omega), h22, hp.1, z_add]
  generalize zScan (P.drop (3 * h)) h (3 * h) = s at hle
  rw [if_pos (show gw_bl 1 = true from zb_bl true), if_pos (show gw_bl 0 = true from zb_bl false)]
  by_cases q1 : s = 4 * h
  · rw [if_pos (show nI s = nI (3 * h + h) by rw [q1]; congr 1; omega), decide_eq_true q1, Bool.true_and]
    by_cases q2 : s = P.length
    · rw [if_pos (congrArg nI q2), decide_eq_true q2]; rfl
    · rw [if_neg (fun z => q2 ((z_eq (by omega) (by omega)).mp z)), decide_eq_false q2]; rfl
  · rw [if_neg (fun z => q1 (by have := (z_eq (by omega) (by omega)).mp z; omega)), decide_eq_false q1, Bool.false_and]; rfl
def rmRead (P : List Nat) (p : Nat) (t d : gw_S) : Prop := agR t d ∧ rdI d 0 20 = nI (zScan (P.drop p) 0 p) ∧ rdI d 0 21 = zb (decide (0 < zEnd (P.drop p) 0 p ∧ zScan (P.drop p) 0 p = P.length ∧ P.length = 4 * zEnd (P.drop p) 0 p)) ∧ (0 < zEnd (P.drop p) 0 p → rdI d 0 22 = nI (zEnd (P.drop p) 0 p))
theorem rmRead.stop {P : List Nat} {p : Nat} {t d : gw_S} (h1 : agR t d) (h2 : zEnd (P.drop p) 0 p = 0) (h3 : rdI d 0 20 = nI (zScan (P.drop p) 0 p)) (h4 : rdI d 0 21 = 0) : rmRead P p t d := by
  refine ⟨h1, h3, ?_, fun q => by omega⟩
  rw [h4, h2, decide_eq_false (by omega)]
  rfl
theorem zTell_0 {p c : Nat} (h : p % 3 = 0) : zTell p c = decide (49 ≤ c ∧ c ≤ 56) := by unfold zTell; rw [if_pos h]
theorem zTell_1 {p c : Nat} (h : p % 3 = 1) : zTell p c = decide (49 ≤ c ∧ c ≤ 57) := by unfold zTell; rw [if_neg (by omega), if_pos h]
theorem zTell_2 {p c : Nat} (h : p % 3 = 2) : zTell p c = if c = 44 then decide ((p + 1) / 3 < 6) else decide (c = 59 ∧ 3 ≤ (p + 1) / 3) := by unfold zTell; rw [if_neg (by omega), if_neg (by omega)]
theorem pM_read_step {P : List Nat} (hP : zCodes P) (Kx : Int32 → Int32 → gw_S → Option gw_S) {f j : Nat} {t : gw_S} (hj : j ≤ 5) (hp : rmPage t P) (h22 : rdI t 0 22 = nI j) (h21 : rdI t 0 21 = 0) : (∃ d v, fX8_read_L14 Kx (f + 1) (nI (3 * j)) 1 t = fX8_read_L14 Kx f v 0 d ∧ rmRead P (3 * j) t d) ∨ (j < 5 ∧ ∃ d, fX8_read_L14 Kx (f + 1) (nI (3 * j)) 1 t = fX8_read_L14 Kx f (nI (3 * (j + 1))) 1 d ∧ agR t d ∧ rdI d 0 22 = nI (j + 1) ∧ rdI d 0 21 = 0 ∧ zScan (P.drop (3 * j)) 0 (3 * j) = zScan (P.drop (3 * (j + 1))) 0 (3 * (j + 1)) ∧ zEnd (P.drop (3 * j)) 0 (3 * j) = zEnd (P.drop (3 * (j + 1))) 0 (3 * (j + 1))) := by
  have h24 := hP.1
  have t1 : agR t (wrI t 0 20 (nI (3 * j))) := agR.wr ⟨by omega, by omega⟩
  rw [fX8_read_L14, if_neg (show ¬ (1 : Int32) = 0 by decide)]
  unfold fX8_read_J54 fX8_read_J106 fX8_read_J129 fX8_read_J130
  simp only [zNm]
  rw [pM_fig (t1.pg hp) hP pM_within18 (show 3 * j < 1000 by omega), Option.bind_some]
  by_cases b1 : 3 * j < P.length ∧ 49 ≤ P.getD (3 * j) 0 ∧ P.getD (3 * j) 0 ≤ 56
  · have T0 : zTell (3 * j) (P.getD (3 * j) 0) = true := by rw [zTell_0 (by omega)]; exact decide_eq_true b1.2
    obtain ⟨s1, s2⟩ := zScan_go b1.1 T0 (by omega)
    have t2 : agR t (wrI (wrI t 0 20 (nI (3 * j))) 0 20 (nI (3 * j + 1))) := t1.trans (agR.wr ⟨by omega, by omega⟩)
    rw [decide_eq_true b1.1, decide_eq_true b1.2, Bool.true_and, if_neg (show ¬ zb true = 0 by decide), show nI (3 * j) + 1 = nI (3 * j + 1) from z_add (3 * j) 1, pM_fig (t2.pg hp) hP pM_within19 (show 3 * j + 1 < 1000 by omega), Option.bind_some]
    by_cases b2 : 3 * j + 1 < P.length ∧ 49 ≤ P.getD (3 * j + 1) 0 ∧ P.getD (3 * j + 1) 0 ≤ 57
    · have T1 : zTell (3 * j + 1) (P.getD (3 * j + 1) 0) = true := by rw [zTell_1 (by omega)]; exact decide_eq_true b2.2
      obtain ⟨s3, s4⟩ := zScan_go b2.1 T1 (by omega)
      generalize hg : wrI (wrI (wrI (wrI t 0 20 (nI (3 * j))) 0 20 (nI (3 * j + 1))) 0 22 (nI (j + 1))) 0 20 (nI (3 * j + 2)) = g
      have ag : agR t g := by
        rw [← hg]
        exact t2.trans ((agR.wr ⟨by omega, by omega⟩).trans (agR.wr ⟨by omega, by omega⟩))
      have g22 : rdI g 0 22 = nI (j + 1) := by rw [← hg, rd_nj (by omega), rd_eq]
      have g21 : rdI g 0 21 = 0 := by rw [← hg, rd_nj (by omega), rd_nj (by omega), rd_nj (by omega), rd_nj (by omega)]; exact h21
      have g20 : rdI g 0 20 = nI (3 * j + 2) := by rw [← hg, rd_eq]
      have er : rdI (wrI (wrI t 0 20 (nI (3 * j))) 0 20 (nI (3 * j + 1))) 0 22 = nI j := by rw [rd_nj (by omega), rd_nj (by omega)]; exact h22
      rw [decide_eq_true b2.1, decide_eq_true b2.2, Bool.true_and, if_neg (show ¬ zb true = 0 by decide), er, show nI j + 1 = nI (j + 1) from z_add j 1, show nI (3 * j) + 2 = nI (3 * j + 2) from z_add (3 * j) 2, hg, g22, show (59 : Int32) = nI 59 from rfl, show (44 : Int32) = nI 44 from rfl, pM_sign (ag.pg hp) hP (by omega) (show 3 * j + 2 < 1000 by omega), pM_sign (ag.pg hp) hP (by omega) (show 3 * j + 2 < 1000 by omega), Option.bind_some, Option.bind_some, show nI (3 * j + 2) + 1 = nI (3 * j + 3) from z_add (3 * j + 2) 1]
      have stop : zTell (3 * j + 2) (P.getD (3 * j + 2) 0) = false ∨ P.length ≤ 3 * j + 2 → ∃ d v, fX8_read_L14 Kx f (nI (3 * j + 3)) 0 g = fX8_read_L14 Kx f v 0 d ∧ rmRead P (3 * j) t d := by
        intro q
        obtain ⟨s5, s6⟩ := zScan_stop (P := P) (p := 3 * j + 2) q.symm
        exact ⟨g, _, rfl, rmRead.stop ag (by rw [s2, s4, s6]) (by rw [s1, s3, s5]; exact g20) g21⟩
      have comma : (if (6 : Int32) ≤ nI (j + 1) then fX8_read_L14 Kx f (nI (3 * j + 3)) 0 g else if zb (decide (3 * j + 2 < P.length) && decide (P.getD (3 * j + 2) 0 = 44)) = 0 then fX8_read_L14 Kx f (nI (3 * j + 3)) 0 g else fX8_read_L14 Kx f (nI (3 * j + 3)) 1 g) = (if j < 5 ∧ 3 * j + 2 < P.length ∧ P.getD (3 * j + 2) 0 = 44 then fX8_read_L14 Kx f (nI (3 * (j + 1))) 1 g else fX8_read_L14 Kx f (nI (3 * j + 3)) 0 g) := by
        by_cases w1 : j < 5
        · rw [if_neg (show ¬ (6 : Int32) ≤ nI (j + 1) from fun z => by have := (z_le (a := 6) (b := j + 1) (by omega) (by omega)).mp z; omega)]
          by_cases w2 : 3 * j + 2 < P.length
          · by_cases w3 : P.getD (3 * j + 2) 0 = 44
            · rw [decide_eq_true w2, decide_eq_true w3, Bool.true_and, if_neg (show ¬ zb true = 0 by decide), if_pos ⟨w1, w2, w3⟩]
              rfl
            · rw [decide_eq_false w3, Bool.and_false, if_pos (show zb false = 0 from rfl), if_neg (fun z => w3 z.2.2)]
          · rw [decide_eq_false w2, Bool.false_and, if_pos (show zb false = 0 from rfl), if_neg (fun z => w2 z.2.1)]
        · rw [if_pos (show (6 : Int32) ≤ nI (j + 1) from (z_le (a := 6) (b := j + 1) (by omega) (by omega)).mpr (by omega)), if_neg (fun z => w1 z.1)]
      rw [comma]
      have nocomma : ¬ (j < 5 ∧ 3 * j + 2 < P.length ∧ P.getD (3 * j + 2) 0 = 44) → (P.getD (3 * j + 2) 0 = 59 → j < 2 ∨ P.length ≤ 3 * j + 2) → zTell (3 * j + 2) (P.getD (3 * j + 2) 0) = false ∨ P.length ≤ 3 * j + 2 := by
        intro q1 q2
        by_cases w : P.length ≤ 3 * j + 2
        · exact Or.inr w
        · left
          rw [zTell_2 (by omega)]
          by_cases w3 : P.getD (3 * j + 2) 0 = 44
          · rw [if_pos w3]
            exact decide_eq_false (by omega)
          · rw [if_neg w3]
            refine decide_eq_false (fun z => ?_)
            have := q2 z.1
            omega
      have go : j < 5 ∧ 3 * j + 2 < P.length ∧ P.getD (3 * j + 2) 0 = 44 → zScan (P.drop (3 * j)) 0 (3 * j) = zScan (P.drop (3 * (j + 1))) 0 (3 * (j + 1)) ∧ zEnd (P.drop (3 * j)) 0 (3 * j) = zEnd (P.drop (3 * (j + 1))) 0 (3 * (j + 1)) := by
        intro q
        have T2 : zTell (3 * j + 2) (P.getD (3 * j + 2) 0) = true := by
          rw [zTell_2 (by omega), if_pos q.2.2]
          exact decide_eq_true (by omega)
        obtain ⟨s5, s6⟩ := zScan_go q.2.1 T2 (by omega)
        rw [s1, s3, s5, s2, s4, s6]
        exact ⟨rfl, rfl⟩
      by_cases w0 : j + 1 ≤ 2
      · rw [if_pos (show nI (j + 1) ≤ (2 : Int32) from (z_le (a := j + 1) (b := 2) (by omega) (by omega)).mpr w0)]
        by_cases w1 : j < 5 ∧ 3 * j + 2 < P.length ∧ P.getD (3 * j + 2) 0 = 44
        · rw [if_pos w1]
          exact Or.inr ⟨w1.1, g, rfl, ag, g22, g21, go w1⟩
        · rw [if_neg w1]
          exact Or.inl (stop (nocomma w1 (fun _ => by omega)))
      · rw [if_neg (show ¬ nI (j + 1) ≤ (2 : Int32) from fun z => w0 ((z_le (a := j + 1) (b := 2) (by omega) (by omega)).mp z))]
        by_cases w2 : 3 * j + 2 < P.length ∧ P.getD (3 * j + 2) 0 = 59
        · rw [decide_eq_true w2.1, decide_eq_true w2.2, Bool.true_and, if_neg (show ¬ zb true = 0 by decide)]
          have T2 : zTell (3 * j + 2) (P.getD (3 * j + 2) 0) = true := by
            rw [zTell_2 (by omega), if_neg (by omega)]
            exact decide_eq_true (by omega)
          obtain ⟨s5, s6⟩ := zScan_semi w2.1 T2 w2.2
          rw [show (3 * j + 2 + 1) / 3 = j + 1 by omega, show 3 * j + 2 + 1 = 3 * (j + 1) by omega] at s5 s6
          rw [zEnd_pos (P.drop (3 * (j + 1))) (j + 1) (3 * (j + 1)) (by omega)] at s6
          have O := pM_often (h := j + 1) hP (by omega) (ag.pg hp) g22
          rw [show 3 * j + 3 = 3 * (j + 1) by omega, O, Option.bind_some]
          refine Or.inl ⟨_, _, rfl, ag.trans ((agR.wr ⟨by omega, by omega⟩).trans (agR.wr ⟨by omega, by omega⟩)), ?_, ?_, fun _ => ?_⟩
          · rw [rd_nj (by omega), rd_eq, s1, s3, s5]
          · rw [rd_eq, s1, s3, s5, s2, s4, s6]
            congr 1
            by_cases q1 : zScan (P.drop (3 * (j + 1))) (j + 1) (3 * (j + 1)) = P.length
            · rw [decide_eq_true q1, Bool.and_true]
              apply decide_eq_decide.mpr
              omega
            · rw [decide_eq_false q1, Bool.and_false, decide_eq_false (fun z => q1 z.2.1)]
          · rw [rd_nj (by omega), rd_nj (by omega), g22, s2, s4, s6]
        · have e0 : (decide (3 * j + 2 < P.length) && decide (P.getD (3 * j + 2) 0 = 59)) = false := by
            rw [← Bool.decide_and]
            exact decide_eq_false w2
          rw [e0, if_pos (show zb false = 0 from rfl)]
          by_cases w1 : j < 5 ∧ 3 * j + 2 < P.length ∧ P.getD (3 * j + 2) 0 = 44
          · rw [if_pos w1]
            exact Or.inr ⟨w1.1, g, rfl, ag, g22, g21, go w1⟩
          · rw [if_neg w1]
            exact Or.inl (stop (nocomma w1 (fun z => by omega)))
    · have e0 : (decide (3 * j + 1 < P.length) && decide (49 ≤ P.getD (3 * j + 1) 0 ∧ P.getD (3 * j + 1) 0 ≤ 57)) = false := by
        rw [← Bool.decide_and]
        exact decide_eq_false b2
      rw [e0, if_pos (show zb false = 0 from rfl)]
      have q : P.length ≤ 3 * j + 1 ∨ zTell (3 * j + 1) (P.getD (3 * j + 1) 0) = false := by
        by_cases w : P.length ≤ 3 * j + 1
        · exact Or.inl w
        · rw [zTell_1 (by omega)]
          exact Or.inr (decide_eq_false (fun z => b2 ⟨by omega, z⟩))
      obtain ⟨s5, s6⟩ := zScan_stop q
      refine Or.inl ⟨_, _, rfl, rmRead.stop t2 (by rw [s2, s6]) ?_ ?_⟩
      · rw [rd_eq, s1, s5]
      · rw [rd_nj (by omega), rd_nj (by omega)]; exact h21
  · have e0 : (decide (3 * j < P.length) && decide (49 ≤ P.getD (3 * j) 0 ∧ P.getD (3 * j) 0 ≤ 56)) = false := by
      rw [← Bool.decide_and]
      exact decide_eq_false b1
    rw [e0, if_pos (show zb false = 0 from rfl), if_pos (show zb false = 0 from rfl)]
    have q : P.length ≤ 3 * j ∨ zTell (3 * j) (P.getD (3 * j) 0) = false := by
      by_cases w : P.length ≤ 3 * j
      · exact Or.inl w
      · rw [zTell_0 (by omega)]
        exact Or.inr (decide_eq_false (fun z => b1 ⟨by omega, z⟩))
    obtain ⟨s5, s6⟩ := zScan_stop q
    refine Or.inl ⟨_, _, rfl, rmRead.stop t1 s6 ?_ ?_⟩
    · rw [rd_eq, s5]
    · rw [rd_nj (by omega)]; exact h21
theorem pM_read_L {P : List Nat} (hP : zCodes P) (Kx : Int32 → Int32 → gw_S → Option gw_S) : ∀ k f j t, j + k = 5 → k + 1 < f → rmPage t P → rdI t 0 22 = nI j → rdI t 0 21 = 0 → ∃ d v, fX8_read_L14 Kx f (nI (3 * j)) 1 t = Kx v 0 d ∧ rmRead P (3 * j) t d := by
  intro k
  induction k with
  | zero =>
    intro f j t hj hf hp h22 h21
    obtain ⟨f, rfl⟩ : ∃ g, f = g + 2 := ⟨f - 2, by omega⟩
    rcases pM_read_step hP Kx (f := f + 1) (show j ≤ 5 by omega) hp h22 h21 with ⟨d, v, e1, e2⟩ | ⟨w, -⟩
    · exact ⟨d, v, by rw [e1, fX8_read_L14, if_pos rfl], e2⟩
    · omega
  | succ k ih =>
    intro f j t hj hf hp h22 h21
    obtain ⟨f, rfl⟩ : ∃ g, f = g + 2 := ⟨f - 2, by omega⟩
    rcases pM_read_step hP Kx (f := f + 1) (show j ≤ 5 by omega) hp h22 h21 with ⟨d, v, e1, e2⟩ | ⟨w, d, e1, e2, e3, e4, e5, e6⟩
    · exact ⟨d, v, by rw [e1, fX8_read_L14, if_pos rfl], e2⟩
    · obtain ⟨g, v, g1, g2⟩ := ih (f + 1) (j + 1) d (by omega) (by omega) (e2.pg hp) e3 e4
      refine ⟨g, v, by rw [e1, g1], ?_⟩
      obtain ⟨a1, a2, a3, a4⟩ := g2
      unfold rmRead
      rw [e5, e6]
      exact ⟨e2.trans a1, a2, a3, a4⟩
theorem pM_read {P : List Nat} (hP : zCodes P) {t : gw_S} (hp : rmPage t P) : ∃ d, fX8_read t = some d ∧ rmRead P 0 t d := by
  have t1 : agR t (wrI t 0 22 0) := agR.wr ⟨by omega, by omega⟩
  have t2 : agR (wrI t 0 22 0) (wrI (wrI t 0 22 0) 0 21 0) := agR.wr ⟨by omega, by omega⟩
  obtain ⟨d, v, d1, d2⟩ := pM_read_L hP (fun v1_x14 v2_x14 t_x14 => some t_x14) 5 2000 0 (wrI (wrI t 0 22 0) 0 21 0) (by omega) (by omega) ((t1.trans t2).pg hp) (by rw [rd_nj (by omega), rd_eq]; rfl) (rd_eq _ _ _ _)
  refine ⟨d, ?_, ?_⟩
  · unfold fX8_read
    simp only [zNm]
    rw [Nat.mul_zero, ← zl0] at d1
    exact d1
  · obtain ⟨a1, a2⟩ := d2
    exact ⟨(t1.trans t2).trans a1, a2⟩
theorem pM_fault {P : List Nat} {n : Nat} {Y R O : Nat → Nat} {fl : Nat} {a : zS} {k : Option zS} {m : gw_S} (h : rmAll m P n Y R O fl a k) (hI : zInv P n Y R O fl a k) : ∃ d, fX8_fault m = some (nI (zScan P 0 0), d) ∧ rmAll d P n Y R O fl a k := by
  obtain ⟨d, d1, d2⟩ := pM_read hI.1 h.1
  refine ⟨d, ?_, h.scr hI d2.1.scr⟩
  unfold fX8_fault
  rw [d1, Option.bind_some, d2.2.1]
  rfl
