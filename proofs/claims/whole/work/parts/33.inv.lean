/-! what is always so, kept by every order. -/
theorem zInv.nowI {P : List Nat} {n : Nat} {Y R O : Nat → Nat} {fl : Nat} {a a' : zS} {k : Option zS} (h : zInv P n Y R O fl a k) (hs : zInvS n a') : zInv P n Y R O fl a' k :=
  ⟨h.1, h.2.1, h.2.2.1, hs, h.2.2.2.2.1, h.2.2.2.2.2⟩
theorem zInv.pageI {P P' : List Nat} {n : Nat} {Y R O : Nat → Nat} {fl : Nat} {a : zS} {k : Option zS} (h : zInv P n Y R O fl a k) (hp : P'.length ≤ 24 ∧ ∀ v, v ∈ P' → 32 ≤ v ∧ v ≤ 126) : zInv P' n Y R O fl a k :=
  ⟨hp, h.2⟩
theorem iI_letter {P : List Nat} {n : Nat} {Y R O : Nat → Nat} {fl : Nat} {a : zS} {k : Option zS} (h : zInv P n Y R O fl a k) (x : Int32) : zInv (nLetter P x) n Y R O fl a k := by
  refine h.pageI ?_
  unfold nLetter
  by_cases h1 : x < nI 32
  · rw [if_pos h1]; exact h.1
  by_cases h2 : nI 126 < x
  · rw [if_neg h1, if_pos h2]; exact h.1
  obtain ⟨j, j1, j2, rfl⟩ := z_code h1 h2
  rw [if_neg h1, if_neg h2]
  by_cases h3 : P.length < 24
  · rw [if_pos h3, z_cl (show j < 2147483648 by omega)]
    refine ⟨by rw [List.length_append, List.length_singleton]; omega, fun v hv => ?_⟩
    rcases List.mem_append.mp hv with q | q
    · exact h.1.2 v q
    · rw [List.mem_singleton] at q
      omega
  · rw [if_neg h3]; exact h.1
theorem iI_blank {P : List Nat} {n : Nat} {Y R O : Nat → Nat} {fl : Nat} {a : zS} {k : Option zS} (h : zInv P n Y R O fl a k) : zInv [] n Y R O fl a k := h.pageI ⟨by simp, fun v hv => by simp at hv⟩
theorem iS_parcel {n : Nat} {a : zS} (hn : n ≤ 6) (h : zInvS n a) (x y : Int32) : zInvS n (nParcel n a x y) := by
  unfold nParcel
  by_cases h1 : zK 5 x = true
  · by_cases h2 : zK n y = true
    · by_cases h3 : (zBelt a).length < 8
      · rw [if_pos h1, if_pos h2, if_pos h3]
        obtain ⟨i, hi, rfl⟩ := zK_t h1 (by omega)
        obtain ⟨j, hj, rfl⟩ := zK_t h2 (by omega)
        rw [z_cl (show i < 2147483648 by omega), z_cl (show j < 2147483648 by omega)]
        obtain ⟨s1, s2, s3, s4, s5, s6, s7, s8, s9⟩ := h
        refine ⟨s1, s2, s3, s4, s5, ?_, fun p hp => ?_, s8, s9⟩
        · show (zBelt a ++ [(i, j, false)]).length ≤ 8
          rw [List.length_append, List.length_singleton]; omega
        · have hp : p ∈ zBelt a ++ [(i, j, false)] := hp
          rcases List.mem_append.mp hp with q | q
          · exact s7 p q
          · rw [List.mem_singleton] at q
            rw [q]; exact ⟨hi, hj⟩
      · rw [if_pos h1, if_pos h2, if_neg h3]; exact h
    · rw [if_pos h1, if_neg h2]; exact h
  · rw [if_neg h1]; exact h
theorem iS_sack {n : Nat} {a : zS} (h : zInvS n a) (i : Nat) (l : List zP) (s w : Int32) (hl : l.length ≤ 9) (hl2 : ∀ p, p ∈ l → p.1 < 5 ∧ p.2.1 < n) : zInvS n (zTown a, updN (zSack a) i l, zBelt a, zFound a, s, w) := by
  obtain ⟨s1, s2, s3, s4, s5, s6, s7, s8, s9⟩ := h
  refine ⟨s1, s2, s3, fun h hh => ?_, fun h hh => ?_, s6, s7, s8, s9⟩
  · show (updN (zSack a) i l h).length ≤ 9
    by_cases q : h = i
    · rw [q, updN_eq]; exact hl
    · rw [updN_ne q]; exact s4 h hh
  · show ∀ p, p ∈ updN (zSack a) i l h → p.1 < 5 ∧ p.2.1 < n
    by_cases q : h = i
    · rw [q, updN_eq]; exact hl2
    · rw [updN_ne q]; exact s5 h hh
theorem iS_change {n : Nat} {a : zS} (h : zInvS n a) (x : Int32) : zInvS n (nChange n a x) := by
  unfold nChange
  by_cases h1 : zK n x = true
  · rw [if_pos h1]; exact iS_sack h _ _ _ _ (by simp) (fun p hp => by simp at hp)
  · rw [if_neg h1]; exact h
theorem zSwap_1 {α : Type} (f : Nat → α) (i j : Nat) (y : Nat) : zSwap f i j y = if y = j then f i else if y = i then f j else f y := by
  unfold zSwap updN
  rfl
theorem iS_exch {n : Nat} {R : Nat → Nat} {a : zS} (hn : n ≤ 6) (h : zInvS n a) (x y : Int32) : zInvS n (nExch n R a x y) := by
  unfold nExch
  by_cases h1 : zK n x = true
  · by_cases h2 : zK n y = true
    · by_cases h3 : x = y
      · rw [if_pos h1, if_pos h2, if_pos h3]; exact h
      · rw [if_pos h1, if_pos h2, if_neg h3]
        obtain ⟨i, hi, rfl⟩ := zK_t h1 (by omega)
        obtain ⟨j, hj, rfl⟩ := zK_t h2 (by omega)
        have hij : i ≠ j := fun q => h3 (by rw [q])
        dsimp only
        rw [z_cl (show i < 2147483648 by omega), z_cl (show j < 2147483648 by omega)]
        by_cases h4 : R j < (zSack a i).length
        · rw [if_pos h4]; exact h
        · by_cases h5 : R i < (zSack a j).length
          · rw [if_neg h4, if_pos h5]; exact h
          · rw [if_neg h4, if_neg h5]
            obtain ⟨s1, s2, s3, s4, s5, s6, s7, s8, s9⟩ := h
            refine ⟨fun y hy => ?_, fun y y' hy hy' => ?_, fun y hy hy6 h0 => ?_, fun y hy => ?_, fun y hy => ?_, s6, s7, s8, s9⟩
            · show zSwap (zTown a) i j y < n
              rw [zSwap_1]
              split
              · exact s1 i hi
              · split
                · exact s1 j hj
                · exact s1 y hy
            · show zSwap (zTown a) i j y = zSwap (zTown a) i j y' → y = y'
              rw [zSwap_1, zSwap_1]
              intro w
              by_cases q1 : y = j
              · rw [if_pos q1] at w
                by_cases q2 : y' = j
                · omega
                · rw [if_neg q2] at w
                  by_cases q3 : y' = i
                  · rw [if_pos q3] at w; have := s2 i j hi hj w; omega
                  · rw [if_neg q3] at w; have := s2 i y' hi hy' w; omega
              · rw [if_neg q1] at w
                by_cases q4 : y = i
                · rw [if_pos q4] at w
                  by_cases q2 : y' = j
                  · rw [if_pos q2] at w; have := s2 j i hj hi w; omega
                  · rw [if_neg q2] at w
                    by_cases q3 : y' = i
                    · omega
                    · rw [if_neg q3] at w; have := s2 j y' hj hy' w; omega
                · rw [if_neg q4] at w
                  by_cases q2 : y' = j
                  · rw [if_pos q2] at w; have := s2 y i hy hi w; omega
                  · rw [if_neg q2] at w
                    by_cases q3 : y' = i
                    · rw [if_pos q3] at w; have := s2 y j hy hj w; omega
                    · rw [if_neg q3] at w; exact s2 y y' hy hy' w
            · show zSwap (zTown a) i j y = y
              rw [zSwap_1, if_neg (by omega), if_neg (by omega)]
              exact s3 y hy hy6 h0
            · show (zSwap (zSack a) i j y).length ≤ 9
              rw [zSwap_1]
              split
              · exact s4 i (by omega)
              · split
                · exact s4 j (by omega)
                · exact s4 y hy
            · show ∀ p, p ∈ zSwap (zSack a) i j y → p.1 < 5 ∧ p.2.1 < n
              rw [zSwap_1]
              split
              · exact s5 i (by omega)
              · split
                · exact s5 j (by omega)
                · exact s5 y hy
    · rw [if_pos h1, if_neg h2]; exact h
  · rw [if_neg h1]; exact h
theorem iS_found {n : Nat} {a : zS} (hn : n ≤ 6) (h : zInvS n a) (x y : Int32) : zInvS n (nFound n a x y) := by
  unfold nFound
  by_cases h1 : zK n x = true
  · by_cases h2 : zK n y = true
    · by_cases h4 : x = y
      · rw [if_pos h1, if_pos h2, if_pos h4]; exact h
      · by_cases h3 : (zFound a).length < 8
        · rw [if_pos h1, if_pos h2, if_neg h4, if_pos h3]
          obtain ⟨i, hi, rfl⟩ := zK_t h1 (by omega)
          obtain ⟨j, hj, rfl⟩ := zK_t h2 (by omega)
          have hij : i ≠ j := fun q => h4 (by rw [q])
          rw [z_cl (show i < 2147483648 by omega), z_cl (show j < 2147483648 by omega)]
          obtain ⟨s1, s2, s3, s4, s5, s6, s7, s8, s9⟩ := h
          refine ⟨s1, s2, s3, s4, s5, s6, s7, ?_, fun p hp => ?_⟩
          · show (zFound a ++ [(i, j)]).length ≤ 8
            rw [List.length_append, List.length_singleton]; omega
          · have hp : p ∈ zFound a ++ [(i, j)] := hp
            rcases List.mem_append.mp hp with q | q
            · exact s9 p q
            · rw [List.mem_singleton] at q
              rw [q]; exact ⟨hi, hj, hij⟩
        · rw [if_pos h1, if_pos h2, if_neg h4, if_neg h3]; exact h
    · rw [if_pos h1, if_neg h2]; exact h
  · rw [if_neg h1]; exact h
theorem iS_forget {n : Nat} {a : zS} (h : zInvS n a) : zInvS n (nForget a) := by
  obtain ⟨s1, s2, s3, s4, s5, s6, s7, s8, s9⟩ := h
  exact ⟨s1, s2, s3, s4, s5, s6, s7, by show ([] : List (Nat × Nat)).length ≤ 8; simp, fun p hp => by have hp : p ∈ ([] : List (Nat × Nat)) := hp; simp at hp⟩
theorem iS_put {n : Nat} {a : zS} (h : zInvS n a) (i : Nat) (flew : Bool) (hl : (zSack a i).length < 9) (hi : i < 6) : zInvS n (zPut a i flew) := by
  unfold zPut
  cases hb : zBelt a with
  | nil => exact h
  | cons p rest =>
    dsimp only
    have s5 := h.2.2.2.2.1 i hi
    have s6 := h.2.2.2.2.2.1
    have s7 := h.2.2.2.2.2.2.1
    rw [hb] at s6 s7
    have s6 : rest.length + 1 ≤ 8 := s6
    have hh : zInvS n (zTown a, zSack a, rest, zFound a, zSec a, zHarm a) := ⟨h.1, h.2.1, h.2.2.1, h.2.2.2.1, h.2.2.2.2.1, by show rest.length ≤ 8; omega, fun q hq => s7 q (List.mem_cons_of_mem _ hq), h.2.2.2.2.2.2.2⟩
    refine iS_sack hh i _ _ _ ?_ (fun q hq => ?_)
    · rw [List.length_append, List.length_singleton]
      split
      · rw [List.length_map]; exact hl
      · exact hl
    · rcases List.mem_append.mp hq with w | w
      · split at w
        · obtain ⟨r, hr, rfl⟩ := List.mem_map.mp w
          rw [zHz_1, zHz_2]; exact s5 r hr
        · exact s5 q w
      · rw [List.mem_singleton] at w
        rw [w]; exact s7 p (List.mem_cons_self)
theorem iS_toss {n : Nat} {Y R O : Nat → Nat} {a : zS} (hF : zInvF n Y R O) (h : zInvS n a) (x w : Int32) : zInvS n (aToss n Y R a x w).2 := by
  have hn : n ≤ 6 := by have := hF.1; omega
  unfold aToss
  by_cases h1 : zK n x = true
  · by_cases h2 : zK 3 w = true
    · rw [if_pos h1, if_pos h2]
      cases hb : zBelt a with
      | nil => exact h
      | cons p rest =>
        obtain ⟨i, hi, rfl⟩ := zK_t h1 (by omega)
        obtain ⟨j, hj, rfl⟩ := zK_t h2 (by omega)
        dsimp only
        rw [z_cl (show i < 2147483648 by omega), z_cl (show j < 2147483648 by omega)]
        by_cases hf : zFull R a i = true
        · rw [if_pos hf]; exact h
        · by_cases ht : zTen p.1 (Y i) (zFull R a (zHookNext n i)) j = 0
          · rw [if_neg hf, if_pos ht]; exact h
          · rw [if_neg hf, if_neg ht]
            have h3 : 3 ≤ n := by have := hF.1; omega
            have hx := zHookNext_lt hi h3
            have hs : zInvS n (zSecs a (2 + (if j = 2 then nI (2 * Y i + 3) else 0))) := h
            have lt9 : ∀ y, y < n → ¬ zFull R a y = true → (zSack a y).length < 9 := fun y hy q => by
              have := (hF.2 y hy).2.1.2
              unfold zFull at q
              rw [decide_eq_true_iff] at q
              omega
            by_cases hj1 : j = 1
            · rw [if_pos hj1]
              refine iS_put hs _ _ ?_ (by omega)
              refine lt9 _ hx.1 (fun q => ht ?_)
              rw [q, hj1]
              unfold zTen zNx
              simp
            · rw [if_neg hj1]
              exact iS_put hs _ _ (lt9 i hi hf) (by omega)
    · rw [if_pos h1, if_neg h2]; exact h
  · rw [if_neg h1]; exact h
theorem iS_carry {n : Nat} {Y R O : Nat → Nat} {a : zS} (hF : zInvF n Y R O) (h : zInvS n a) (x : Int32) : zInvS n (aCarry n Y R a x).2 := by
  have hn : n ≤ 6 := by have := hF.1; omega
  unfold aCarry
  by_cases h1 : zK n x = true
  · rw [if_pos h1]
    cases hb : zBelt a with
    | nil => exact h
    | cons p rest =>
      obtain ⟨i, hi, rfl⟩ := zK_t h1 (by omega)
      dsimp only
      rw [z_cl (show i < 2147483648 by omega)]
      by_cases hf : zFull R a i = true
      · rw [if_pos hf]; exact h
      · rw [if_neg hf]
        have hs : zInvS n (zSecs a (nI (2 * Y i + 3))) := h
        refine iS_put hs _ _ ?_ (by omega)
        have := (hF.2 i hi).2.1.2
        unfold zFull at hf
        rw [decide_eq_true_iff] at hf
        show (zSack a i).length < 9
        omega
  · rw [if_neg h1]; exact h
theorem iI_image {P : List Nat} {n : Nat} {Y R O : Nat → Nat} {fl : Nat} {a : zS} {k : Option zS} (h : zInv P n Y R O fl a k) : zInv P n Y R O fl a (if n = 0 then k else some a) := by
  by_cases n0 : n = 0
  · rw [if_pos n0]; exact h
  · rw [if_neg n0]
    exact ⟨h.1, h.2.1, h.2.2.1, h.2.2.2.1, fun ka hk => by cases hk; exact h.2.2.2.1, fun q => absurd q n0⟩
theorem iI_restore {P : List Nat} {n : Nat} {Y R O : Nat → Nat} {fl : Nat} {a : zS} {k : Option zS} (h : zInv P n Y R O fl a k) : zInv P n Y R O fl (k.getD a) k := by
  cases k with
  | none => exact h
  | some ka => exact h.nowI (h.2.2.2.2.1 ka rfl)
