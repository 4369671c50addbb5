/-! A page as a floor: the pure reading, and the class's. -/
def zTell (p c : Nat) : Bool :=
  if p % 3 = 0 then decide (49 ≤ c ∧ c ≤ 56) else if p % 3 = 1 then decide (49 ≤ c ∧ c ≤ 57) else if c = 44 then decide ((p + 1) / 3 < 6) else decide (c = 59 ∧ 3 ≤ (p + 1) / 3)
/-- how far a page can be read -/
def zScan : List Nat → Nat → Nat → Nat
  | [], _, p => p
  | c :: l, h, p => if 0 < h then (if 4 * h ≤ p ∨ c < 48 ∨ 57 < c then p else zScan l h (p + 1)) else if zTell p c = true then zScan l (if c = 59 then (p + 1) / 3 else 0) (p + 1) else p
/-- and of how many hooks it tells until there -/
def zEnd : List Nat → Nat → Nat → Nat
  | [], h, _ => h
  | c :: l, h, p => if 0 < h then (if 4 * h ≤ p ∨ c < 48 ∨ 57 < c then h else zEnd l h (p + 1)) else if zTell p c = true then zEnd l (if c = 59 then (p + 1) / 3 else 0) (p + 1) else h
def zTold : List Nat → Nat → Nat
  | [], _ => 0
  | c :: l, p => if c = 59 then (p + 1) / 3 else zTold l (p + 1)
theorem zScan_le : ∀ l h p, zScan l h p ≤ p + l.length := by
  intro l
  induction l with
  | nil => intro h p; exact Nat.le_refl _
  | cons c l ih =>
    intro h p
    unfold zScan
    rw [List.length_cons]
    have h1 := ih h (p + 1)
    have h2 := ih (if c = 59 then (p + 1) / 3 else 0) (p + 1)
    split
    · split <;> omega
    · split <;> omega
theorem zEnd_pos : ∀ l h p, 0 < h → zEnd l h p = h := by
  intro l
  induction l with
  | nil => intro h p _; rfl
  | cons c l ih =>
    intro h p h0
    unfold zEnd
    rw [if_pos h0]
    split
    · rfl
    · exact ih h (p + 1) h0
theorem zTell_59 {p : Nat} (h : zTell p 59 = true) : p % 3 = 2 ∧ 3 ≤ (p + 1) / 3 := by
  unfold zTell at h
  by_cases a : p % 3 = 0
  · rw [if_pos a, decide_eq_true_eq] at h; omega
  · rw [if_neg a] at h
    by_cases b : p % 3 = 1
    · rw [if_pos b, decide_eq_true_eq] at h; omega
    · rw [if_neg b, if_neg (by omega), decide_eq_true_eq] at h
      omega
theorem zTell_not {p c : Nat} (h : zTell p c = true) (hc : c ≠ 59) (hp : p < 18) : p + 1 < 18 ∧ (p % 3 = 0 → 49 ≤ c ∧ c ≤ 56) ∧ (p % 3 = 1 → 49 ≤ c ∧ c ≤ 57) := by
  unfold zTell at h
  by_cases a : p % 3 = 0
  · rw [if_pos a, decide_eq_true_eq] at h; omega
  · rw [if_neg a] at h
    by_cases b : p % 3 = 1
    · rw [if_pos b, decide_eq_true_eq] at h; omega
    · rw [if_neg b] at h
      by_cases d : c = 44
      · rw [if_pos d, decide_eq_true_eq] at h; omega
      · rw [if_neg d, decide_eq_true_eq] at h
        omega
theorem zScan_pos_all : ∀ l h p, 0 < h → zScan l h p = p + l.length → ∀ c, c ∈ l → 48 ≤ c ∧ c ≤ 57 := by
  intro l
  induction l with
  | nil => intro h p _ _ c hc; simp at hc
  | cons a l ih =>
    intro h p h0 hs c hc
    unfold zScan at hs
    rw [if_pos h0, List.length_cons] at hs
    by_cases w : 4 * h ≤ p ∨ a < 48 ∨ 57 < a
    · rw [if_pos w] at hs; omega
    · rw [if_neg w] at hs
      rcases List.mem_cons.mp hc with rfl | hc
      · omega
      · exact ih h (p + 1) h0 (by omega) c hc
theorem zScan_all : ∀ l p, p < 18 → zScan l 0 p = p + l.length → (zEnd l 0 p = zTold l p ∧ (0 < zEnd l 0 p → 3 ≤ zEnd l 0 p ∧ zEnd l 0 p ≤ 6 ∧ ∀ i, i < l.length → (p + i < 3 * zEnd l 0 p → (p + i) % 3 = 0 → 49 ≤ l.getD i 0 ∧ l.getD i 0 ≤ 56) ∧ (p + i < 3 * zEnd l 0 p → (p + i) % 3 = 1 → 49 ≤ l.getD i 0 ∧ l.getD i 0 ≤ 57) ∧ (3 * zEnd l 0 p ≤ p + i → 48 ≤ l.getD i 0 ∧ l.getD i 0 ≤ 57))) := by
  intro l
  induction l with
  | nil =>
    intro p _ _
    exact ⟨rfl, fun h => absurd h (by unfold zEnd; omega)⟩
  | cons c l ih =>
    intro p hp hs
    unfold zScan at hs
    rw [if_neg (by omega), List.length_cons] at hs
    by_cases ht : zTell p c = true
    · rw [if_pos ht] at hs
      unfold zEnd zTold
      rw [if_neg (by omega), if_pos ht]
      by_cases hc : c = 59
      · subst hc
        rw [if_pos rfl] at hs ⊢
        rw [if_pos rfl]
        have t := zTell_59 ht
        rw [zEnd_pos _ _ _ (by omega)]
        refine ⟨rfl, fun _ => ⟨t.2, by omega, fun i hi => ?_⟩⟩
        have D := zScan_pos_all l ((p + 1) / 3) (p + 1) (by omega) (by omega)
        cases i with
        | zero => exact ⟨fun _ _ => by omega, fun _ _ => by omega, fun _ => by omega⟩
        | succ i =>
          rw [List.length_cons] at hi
          refine ⟨fun _ _ => by omega, fun _ _ => by omega, fun _ => ?_⟩
          rw [List.getD_cons_succ]
          refine D _ ?_
          rw [z_getD (by omega)]
          exact List.getElem_mem _
      · rw [if_neg hc] at hs ⊢
        rw [if_neg hc]
        have t := zTell_not ht hc hp
        obtain ⟨i1, i2⟩ := ih (p + 1) t.1 (by omega)
        refine ⟨i1, fun h0 => ?_⟩
        obtain ⟨j1, j2, j3⟩ := i2 h0
        refine ⟨j1, j2, fun i hi => ?_⟩
        cases i with
        | zero =>
          rw [List.getD_cons_zero]
          refine ⟨fun _ q => t.2.1 q, fun _ q => t.2.2 q, fun q => ?_⟩
          have : p + 1 < 18 := t.1
          have q2 : p < 3 * zEnd l 0 (p + 1) := by
            by_cases w : 3 * zEnd l 0 (p + 1) ≤ p
            · -- the sign must still come
              exfalso
              have key : ∀ l p, 0 < zEnd l 0 p → p < 3 * zEnd l 0 p := by
                intro l
                induction l with
                | nil => intro p h; exact absurd h (by unfold zEnd; omega)
                | cons a l ih2 =>
                  intro p h
                  unfold zEnd at h ⊢
                  rw [if_neg (by omega)] at h ⊢
                  by_cases q1 : zTell p a = true
                  · rw [if_pos q1] at h ⊢
                    by_cases q2 : a = 59
                    · subst q2
                      have := zTell_59 q1
                      rw [if_pos rfl, zEnd_pos _ _ _ (by omega)]
                      omega
                    · rw [if_neg q2] at h ⊢
                      have := ih2 (p + 1) h
                      omega
                  · rw [if_neg q1] at h; omega
              have := key l (p + 1) h0
              omega
            · omega
          omega
        | succ i =>
          rw [List.length_cons] at hi
          rw [List.getD_cons_succ, show p + (i + 1) = p + 1 + i by omega]
          exact j3 i (by omega)
    · rw [if_neg ht] at hs; omega
/-- the number of hooks, if the page is a floor -/
def zFloor (P : List Nat) : Option Nat := if 0 < zEnd P 0 0 ∧ zScan P 0 0 = P.length ∧ P.length = 4 * zEnd P 0 0 then some (zEnd P 0 0) else none
def zfY (P : List Nat) : Nat → Nat := fun i => P.getD (3 * i) 0 - 48
def zfR (P : List Nat) : Nat → Nat := fun i => P.getD (3 * i + 1) 0 - 48
def zfO (P : List Nat) (h : Nat) : Nat → Nat := fun i => P.getD (3 * h + i) 0 - 48
def zFresh : zS := (fun h => h, fun _ => [], [], [], 0, 0)
theorem zFloor_facts {P : List Nat} {h : Nat} (hf : zFloor P = some h) : 3 ≤ h ∧ h ≤ 6 ∧ P.length = 4 * h ∧ ∀ i, i < h → (49 ≤ P.getD (3 * i) 0 ∧ P.getD (3 * i) 0 ≤ 56) ∧ (49 ≤ P.getD (3 * i + 1) 0 ∧ P.getD (3 * i + 1) 0 ≤ 57) ∧ (48 ≤ P.getD (3 * h + i) 0 ∧ P.getD (3 * h + i) 0 ≤ 57) := by
  unfold zFloor at hf
  by_cases w : 0 < zEnd P 0 0 ∧ zScan P 0 0 = P.length ∧ P.length = 4 * zEnd P 0 0
  · rw [if_pos w] at hf
    have hf := Option.some.inj hf
    obtain ⟨-, w2⟩ := zScan_all P 0 (by omega) (by omega)
    obtain ⟨a, b, d⟩ := w2 w.1
    rw [hf] at a b d w
    refine ⟨a, b, w.2.2, fun i hi => ⟨?_, ?_, ?_⟩⟩
    · have := (d (3 * i) (by omega)).1
      exact this (by omega) (by omega)
    · have := (d (3 * i + 1) (by omega)).2.1
      exact this (by omega) (by omega)
    · have := (d (3 * h + i) (by omega)).2.2
      exact this (by omega)
  · rw [if_neg w] at hf
    simp at hf
theorem zFloor_inv {P : List Nat} {h : Nat} (hf : zFloor P = some h) : zInvF h (zfY P) (zfR P) (zfO P h) := by
  obtain ⟨a, b, -, d⟩ := zFloor_facts hf
  refine ⟨Or.inr ⟨a, b⟩, fun i hi => ?_⟩
  have := d i hi
  unfold zfY zfR zfO
  omega
theorem zFresh_inv {n : Nat} (hn : n ≤ 6) : zInvS n zFresh := ⟨fun h hh => hh, fun h h' _ _ e => e, fun _ _ _ _ => rfl, fun _ _ => Nat.zero_le _, fun _ _ p hp => by simp [zSack, zFresh] at hp, Nat.zero_le _, fun p hp => by simp [zBelt, zFresh] at hp, Nat.zero_le _, fun p hp => by simp [zFound, zFresh] at hp⟩
theorem zFloor_told {P : List Nat} : (0 < zTold P 0 ∧ P.length = 4 * zTold P 0 ∧ zScan P 0 0 = P.length) ↔ zFloor P = some (zTold P 0) := by
  unfold zFloor
  constructor
  · rintro ⟨a, b, d⟩
    obtain ⟨w1, -⟩ := zScan_all P 0 (by omega) (by omega)
    rw [w1, if_pos ⟨a, d, b⟩]
  · intro q
    by_cases w : 0 < zEnd P 0 0 ∧ zScan P 0 0 = P.length ∧ P.length = 4 * zEnd P 0 0
    · rw [if_pos w] at q
      have q := Option.some.inj q
      rw [q] at w
      exact ⟨w.1, w.2.2, w.2.1⟩
    · rw [if_neg w] at q
      simp at q
theorem zFloor_told2 {P : List Nat} {h : Nat} (hf : zFloor P = some h) : zTold P 0 = h := by
  have hf' := hf
  unfold zFloor at hf
  by_cases w : 0 < zEnd P 0 0 ∧ zScan P 0 0 = P.length ∧ P.length = 4 * zEnd P 0 0
  · rw [if_pos w] at hf
    have hf := Option.some.inj hf
    obtain ⟨w1, -⟩ := zScan_all P 0 (by omega) (by omega)
    rw [← w1]; exact hf
  · rw [if_neg w] at hf
    simp at hf
-- ===== the class
def zCodes (P : List Nat) : Prop := P.length ≤ 24 ∧ ∀ v, v ∈ P → 32 ≤ v ∧ v ≤ 126
theorem zCodes_get {P : List Nat} (h : zCodes P) (j : Nat) : P.getD j 0 < 127 := by
  by_cases w : j < P.length
  · rw [z_getD w]
    have := h.2 _ (List.getElem_mem w)
    omega
  · rw [List.getD_eq_getElem?_getD, List.getElem?_eq_none (by omega)]
    show (0 : Nat) < 127
    omega
theorem pC_codeAt {c : gw_S} {P : List Nat} (h : rcPage c P) {j : Nat} (hj : j < 1000) : fX1_codeAt (nI j) c = some (nI (P.getD j 0)) := by
  have h24 := h.2.1
  unfold fX1_codeAt
  rw [if_neg (z_neg0 (by omega)), h.1]
  by_cases w : j < P.length
  · obtain ⟨v, hv⟩ := z_get w
    rw [if_neg (fun q => by have := (z_le (a := P.length) (b := j) (by omega) (by omega)).mp q; omega), z_ix (by omega), decide_eq_true (show j < 24 by omega), if_pos rfl, z_cl (by omega), h.2.2 j v hv, List.getD_eq_getElem?_getD, hv]
    rfl
  · rw [if_pos ((z_le (a := P.length) (b := j) (by omega) (by omega)).mpr (by omega)), List.getD_eq_getElem?_getD, List.getElem?_eq_none (by omega)]
    rfl
set_option maxRecDepth 20000 in
theorem pC_tell0 : ∀ p, p < 24 → ∀ v, v < 127 → fX1_canTellOfHooks (nI p) (nI v) gw_z0 = zb (zTell p v) := by decide +kernel
theorem pC_tell (c : gw_S) {p v : Nat} (hp : p < 24) (hv : v < 127) : fX1_canTellOfHooks (nI p) (nI v) c = zb (zTell p v) := (show fX1_canTellOfHooks (nI p) (nI v) c = fX1_canTellOfHooks (nI p) (nI v) gw_z0 from rfl).trans (pC_tell0 p hp v hv)
theorem z_dropD {P : List Nat} {p : Nat} (hp : p < P.length) : P.drop p = P.getD p 0 :: P.drop (p + 1) := by rw [List.drop_eq_getElem_cons hp, z_getD hp]
theorem pC_fw_L {c : gw_S} {P : List Nat} (h : rcPage c P) (hP : zCodes P) : ∀ k f p hk, p + k = P.length → k < f → hk ≤ 24 → fX1_firstWrong_L4 (fun v1_x4 v2_x4 => some (nI P.length)) c f (nI hk) (nI p) = some (nI (zScan (P.drop p) hk p)) := by
  have h24 := h.2.1
  intro k
  induction k with
  | zero =>
    intro f p hk hp hf hh
    obtain ⟨f, rfl⟩ : ∃ g, f = g + 1 := ⟨f - 1, by omega⟩
    have : p = P.length := by omega
    rw [fX1_firstWrong_L4, h.1, this, if_pos ((z_le (a := P.length) (b := P.length) (by omega) (by omega)).mpr (Nat.le_refl _)), List.drop_eq_nil_of_le (Nat.le_refl _)]
    rfl
  | succ k ih =>
    intro f p hk hp hf hh
    obtain ⟨f, rfl⟩ : ∃ g, f = g + 1 := ⟨f - 1, by omega⟩
    have hv := zCodes_get hP p
    rw [fX1_firstWrong_L4, h.1, if_neg (show ¬ nI P.length ≤ nI p from fun q => by have := (z_le (a := P.length) (b := p) (by omega) (by omega)).mp q; omega), pC_codeAt h (by omega), Option.bind_some, z_dropD (show p < P.length by omega)]
    generalize hv' : P.getD p 0 = v at hv
    unfold fX1_firstWrong_J65 zScan
    simp only [zNm]
    rw [show nI p + 1 = nI (p + 1) from z_add p 1]
    by_cases h0 : 0 < hk
    · rw [if_neg (show ¬ nI hk ≤ (0 : Int32) from fun q => by have := (z_le (a := hk) (b := 0) (by omega) (by omega)).mp q; omega), if_pos h0, zl4, z_mul]
      by_cases w1 : 4 * hk ≤ p
      · rw [if_pos ((z_le (by omega) (by omega)).mpr w1), if_pos (Or.inl w1)]
      · rw [if_neg (fun q => w1 ((z_le (by omega) (by omega)).mp q))]
        by_cases w2 : v < 48
        · rw [if_pos (show nI v < (48 : Int32) from (z_lt (a := v) (b := 48) (by omega) (by omega)).mpr w2), if_pos (Or.inr (Or.inl w2))]
        · rw [if_neg (show ¬ nI v < (48 : Int32) from fun q => w2 ((z_lt (a := v) (b := 48) (by omega) (by omega)).mp q))]
          by_cases w3 : 57 < v
          · rw [if_neg (show ¬ nI v ≤ (57 : Int32) from fun q => by have := (z_le (a := v) (b := 57) (by omega) (by omega)).mp q; omega), if_pos (Or.inr (Or.inr w3))]
          · rw [if_pos (show nI v ≤ (57 : Int32) from (z_le (a := v) (b := 57) (by omega) (by omega)).mpr (by omega)), if_neg (by omega)]
            exact ih f (p + 1) hk (by omega) (by omega) hh
    · have : hk = 0 := by omega
      subst this
      rw [if_pos (show nI 0 ≤ (0 : Int32) by decide), if_neg h0, pC_tell c (by omega) hv]
      cases ht : zTell p v with
      | false => rw [if_pos (show zb false = 0 from rfl), if_neg Bool.false_ne_true]
      | true =>
        rw [if_neg (show ¬ zb true = 0 by decide), if_pos rfl]
        by_cases w : v = 59
        · rw [if_pos (show nI v = (59 : Int32) by rw [w]; rfl), if_pos w, zl3, pk_div (by omega) (by omega) (by omega)]
          exact ih f (p + 1) ((p + 1) / 3) (by omega) (by omega) (by omega)
        · rw [if_neg (show ¬ nI v = (59 : Int32) from fun q => w ((z_eq (a := v) (b := 59) (by omega) (by omega)).mp q)), if_neg w]
          exact ih f (p + 1) 0 (by omega) (by omega) (by omega)
theorem pC_firstWrong {c : gw_S} {P : List Nat} (h : rcPage c P) (hP : zCodes P) : fX1_firstWrong c = some (nI (zScan P 0 0)) := by
  have L := pC_fw_L h hP P.length 2000 0 0 (by omega) (by have := hP.1; omega) (by omega)
  rw [List.drop_zero, ← zl0] at L
  unfold fX1_firstWrong
  rw [h.1]
  exact L
theorem pC_fault {P : List Nat} {n : Nat} {Y R O : Nat → Nat} {fl : Nat} {a : zS} {k : Option zS} {c : gw_S} (h : rcAll c P n Y R O fl a k) (hI : zInv P n Y R O fl a k) : fX7_fault c = some (nI (zScan P 0 0)) := by
  unfold fX7_fault
  rw [pC_firstWrong h.1 hI.1]
  rfl
theorem pC_told_L {c : gw_S} {P : List Nat} (h : rcPage c P) (hP : zCodes P) : ∀ k f p, p + k = P.length → k < f → fX1_hooksTold_L2 (fun v1_x2 => some 0) c f (nI p) = some (nI (zTold (P.drop p) p)) := by
  have h24 := h.2.1
  intro k
  induction k with
  | zero =>
    intro f p hp hf
    obtain ⟨f, rfl⟩ : ∃ g, f = g + 1 := ⟨f - 1, by omega⟩
    have : p = P.length := by omega
    rw [fX1_hooksTold_L2, h.1, this, if_pos ((z_le (a := P.length) (b := P.length) (by omega) (by omega)).mpr (Nat.le_refl _)), List.drop_eq_nil_of_le (Nat.le_refl _)]
    rfl
  | succ k ih =>
    intro f p hp hf
    obtain ⟨f, rfl⟩ : ∃ g, f = g + 1 := ⟨f - 1, by omega⟩
    have hv := zCodes_get hP p
    rw [fX1_hooksTold_L2, h.1, if_neg (show ¬ nI P.length ≤ nI p from fun q => by have := (z_le (a := P.length) (b := p) (by omega) (by omega)).mp q; omega), pC_codeAt h (by omega), Option.bind_some, z_dropD (show p < P.length by omega)]
    generalize hv' : P.getD p 0 = v at hv
    unfold zTold
    simp only [zNm]
    rw [show nI p + 1 = nI (p + 1) from z_add p 1]
    by_cases w : v = 59
    · rw [if_pos (show nI v = (59 : Int32) by rw [w]; rfl), if_pos w, zl3, pk_div (by omega) (by omega) (by omega)]
    · rw [if_neg (show ¬ nI v = (59 : Int32) from fun q => w ((z_eq (a := v) (b := 59) (by omega) (by omega)).mp q)), if_neg w]
      exact ih f (p + 1) (by omega) (by omega)
theorem pC_told {c : gw_S} {P : List Nat} (h : rcPage c P) (hP : zCodes P) : fX1_hooksTold c = some (nI (zTold P 0)) := by
  have L := pC_told_L h hP P.length 2000 0 (by omega) (by have := hP.1; omega)
  rw [List.drop_zero, ← zl0] at L
  exact L
theorem zTold_le : ∀ l p, 3 * zTold l p ≤ p + l.length := by
  intro l
  induction l with
  | nil => intro p; exact Nat.zero_le _
  | cons c l ih =>
    intro p
    unfold zTold
    rw [List.length_cons]
    have := ih (p + 1)
    split <;> omega
theorem pC_isFloor {c : gw_S} {P : List Nat} (h : rcPage c P) (hP : zCodes P) : fX1_isFloor c = some (zb (zFloor P).isSome) := by
  have h24 := h.2.1
  have ht := zTold_le P 0
  have hs := zScan_le P 0 0
  unfold fX1_isFloor
  rw [pC_told h hP, Option.bind_some, h.1, pC_firstWrong h hP, Option.bind_some, zl4, z_mul]
  have F : ¬ (0 < zTold P 0 ∧ P.length = 4 * zTold P 0 ∧ zScan P 0 0 = P.length) → (zFloor P).isSome = false := by
    intro q
    cases hz : zFloor P with
    | none => rfl
    | some x =>
      have e := zFloor_told2 hz
      exact absurd (zFloor_told.mpr (by rw [hz, e])) q
  by_cases w1 : 0 < zTold P 0
  · rw [if_neg (show ¬ nI (zTold P 0) ≤ (0 : Int32) from fun q => by have := (z_le (a := zTold P 0) (b := 0) (by omega) (by omega)).mp q; omega)]
    by_cases w2 : P.length = 4 * zTold P 0
    · rw [if_pos (show nI P.length = nI (4 * zTold P 0) from congrArg nI w2)]
      by_cases w3 : zScan P 0 0 = P.length
      · rw [if_pos (congrArg nI w3), zFloor_told.mp ⟨w1, w2, w3⟩]
        rfl
      · rw [if_neg (fun q => w3 ((z_eq (by omega) (by omega)).mp q)), F (fun q => w3 q.2.2)]
        rfl
    · rw [if_neg (fun q => w2 ((z_eq (by omega) (by omega)).mp q)), F (fun q => w2 q.2.1)]
      rfl
  · rw [if_pos (show nI (zTold P 0) ≤ (0 : Int32) from (z_le (a := zTold P 0) (b := 0) (by omega) (by omega)).mpr (by omega)), F (fun q => w1 q.1)]
    rfl
