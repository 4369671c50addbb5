/-! One call: class and reference answer alike, and stand alike behind it. -/
/-- class c and reference m hold one standing; at most j floors have been read -/
def zOK (j : Nat) (c m : gw_S) : Prop := ∃ (P : List Nat) (n : Nat) (Y R O : Nat → Nat) (fl : Nat) (a : zS) (k : Option zS), rcAll c P n Y R O fl a k ∧ rmAll m P n Y R O fl a k ∧ zInv P n Y R O fl a k ∧ fl ≤ j
theorem zInv.fl' {P : List Nat} {n : Nat} {Y R O : Nat → Nat} {fl fl' : Nat} {a : zS} {k : Option zS} (h : zInv P n Y R O fl a k) (hf : fl' < 1000000) : zInv P n Y R O fl' a k := ⟨h.1, h.2.1, hf, h.2.2.2⟩
theorem st_letter {j : Nat} {c m : gw_S} (hz : zOK j c m) (x : Int32) : ∃ (r : Int32) (c' m' : gw_S), fX7_letter x c = some (r, c') ∧ fX8_letter x m = some (r, m') ∧ zOK (j + 1) c' m' := by
  obtain ⟨P, n, Y, R, O, fl, a, k, h, h2, hI, hj⟩ := hz
  obtain ⟨c', e1, g1⟩ := pC_letter h x
  obtain ⟨m', e2, g2⟩ := pM_letter h2 hI x
  exact ⟨_, c', m', e1, e2, _, _, _, _, _, _, _, _, g1, g2, iI_letter hI x, by omega⟩
theorem st_blank {j : Nat} {c m : gw_S} (hz : zOK j c m) : ∃ (r : Int32) (c' m' : gw_S), fX7_blank c = some (r, c') ∧ fX8_blank m = some (r, m') ∧ zOK (j + 1) c' m' := by
  obtain ⟨P, n, Y, R, O, fl, a, k, h, h2, hI, hj⟩ := hz
  obtain ⟨c', e1, g1⟩ := pC_blank h
  obtain ⟨m', e2, g2⟩ := pM_blank h2 hI
  exact ⟨_, c', m', e1, e2, _, _, _, _, _, _, _, _, g1, g2, iI_blank hI, by omega⟩
theorem st_fault {j : Nat} {c m : gw_S} (hz : zOK j c m) : ∃ (r : Int32) (c' m' : gw_S), (fX7_fault c = some r ∧ c' = c) ∧ fX8_fault m = some (r, m') ∧ zOK (j + 1) c' m' := by
  obtain ⟨P, n, Y, R, O, fl, a, k, h, h2, hI, hj⟩ := hz
  have e1 := pC_fault h hI
  obtain ⟨m', e2, g2⟩ := pM_fault h2 hI
  exact ⟨_, c, m', ⟨e1, rfl⟩, e2, _, _, _, _, _, _, _, _, h, g2, hI, by omega⟩
theorem st_hook {j : Nat} {c m : gw_S} (hz : zOK j c m) (x y : Int32) : ∃ (r : Int32) (c' m' : gw_S), (fX7_hook x y c = some r ∧ c' = c) ∧ (fX8_hook x y m = some r ∧ m' = m) ∧ zOK (j + 1) c' m' := by
  obtain ⟨P, n, Y, R, O, fl, a, k, h, h2, hI, hj⟩ := hz
  have e1 := pC_hook h hI x y
  have e2 := pM_hookC h2 hI x y
  exact ⟨_, c, m, ⟨e1, rfl⟩, ⟨e2, rfl⟩, _, _, _, _, _, _, _, _, h, h2, hI, by omega⟩
theorem st_parcel {j : Nat} {c m : gw_S} (hz : zOK j c m) (x y : Int32) : ∃ (r : Int32) (c' m' : gw_S), fX7_parcel x y c = some (r, c') ∧ fX8_parcel x y m = some (r, m') ∧ zOK (j + 1) c' m' := by
  obtain ⟨P, n, Y, R, O, fl, a, k, h, h2, hI, hj⟩ := hz
  obtain ⟨c', e1, g1⟩ := pC_parcel h hI x y
  obtain ⟨m', e2, g2⟩ := pM_parcel h2 hI x y
  exact ⟨_, c', m', e1, e2, _, _, _, _, _, _, _, _, g1, g2, hI.nowI (iS_parcel hI.n6 hI.2.2.2.1 x y), by omega⟩
theorem st_belt {j : Nat} {c m : gw_S} (hz : zOK j c m) (x y : Int32) : ∃ (r : Int32) (c' m' : gw_S), (fX7_belt x y c = some r ∧ c' = c) ∧ (fX8_belt x y m = some r ∧ m' = m) ∧ zOK (j + 1) c' m' := by
  obtain ⟨P, n, Y, R, O, fl, a, k, h, h2, hI, hj⟩ := hz
  have e1 := pC_belt h hI x y
  have e2 := pM_belt h2 hI x y
  exact ⟨_, c, m, ⟨e1, rfl⟩, ⟨e2, rfl⟩, _, _, _, _, _, _, _, _, h, h2, hI, by omega⟩
theorem st_as {j : Nat} {c m : gw_S} (hz : zOK j c m) (x y : Int32) : ∃ (r : Int32) (c' m' : gw_S), (fX7_as x y c = some r ∧ c' = c) ∧ (fX8_as x y m = some r ∧ m' = m) ∧ zOK (j + 1) c' m' := by
  obtain ⟨P, n, Y, R, O, fl, a, k, h, h2, hI, hj⟩ := hz
  have e1 := pC_as h hI x y
  have e2 := pM_as h2 hI x y
  exact ⟨_, c, m, ⟨e1, rfl⟩, ⟨e2, rfl⟩, _, _, _, _, _, _, _, _, h, h2, hI, by omega⟩
theorem st_toss {j : Nat} {c m : gw_S} (hz : zOK j c m) (x y : Int32) : ∃ (r : Int32) (c' m' : gw_S), fX7_toss x y c = some (r, c') ∧ fX8_toss x y m = some (r, m') ∧ zOK (j + 1) c' m' := by
  obtain ⟨P, n, Y, R, O, fl, a, k, h, h2, hI, hj⟩ := hz
  obtain ⟨c', e1, g1⟩ := pC_toss h hI x y
  obtain ⟨m', e2, g2⟩ := pM_toss h2 hI x y
  exact ⟨_, c', m', e1, e2, _, _, _, _, _, _, _, _, g1, g2, hI.nowI (iS_toss hI.2.1 hI.2.2.2.1 x y), by omega⟩
theorem st_carry {j : Nat} {c m : gw_S} (hz : zOK j c m) (x : Int32) : ∃ (r : Int32) (c' m' : gw_S), fX7_carry x c = some (r, c') ∧ fX8_carry x m = some (r, m') ∧ zOK (j + 1) c' m' := by
  obtain ⟨P, n, Y, R, O, fl, a, k, h, h2, hI, hj⟩ := hz
  obtain ⟨c', e1, g1⟩ := pC_carry h hI x
  obtain ⟨m', e2, g2⟩ := pM_carry h2 hI x
  exact ⟨_, c', m', e1, e2, _, _, _, _, _, _, _, _, g1, g2, hI.nowI (iS_carry hI.2.1 hI.2.2.2.1 x), by omega⟩
theorem st_change {j : Nat} {c m : gw_S} (hz : zOK j c m) (x : Int32) : ∃ (r : Int32) (c' m' : gw_S), fX7_change x c = some (r, c') ∧ fX8_change x m = some (r, m') ∧ zOK (j + 1) c' m' := by
  obtain ⟨P, n, Y, R, O, fl, a, k, h, h2, hI, hj⟩ := hz
  obtain ⟨c', e1, g1⟩ := pC_change h hI x
  obtain ⟨m', e2, g2⟩ := pM_change h2 hI x
  exact ⟨_, c', m', e1, e2, _, _, _, _, _, _, _, _, g1, g2, hI.nowI (iS_change hI.2.2.2.1 x), by omega⟩
theorem st_exchange {j : Nat} {c m : gw_S} (hz : zOK j c m) (x y : Int32) : ∃ (r : Int32) (c' m' : gw_S), fX7_exchange x y c = some (r, c') ∧ fX8_exchange x y m = some (r, m') ∧ zOK (j + 1) c' m' := by
  obtain ⟨P, n, Y, R, O, fl, a, k, h, h2, hI, hj⟩ := hz
  obtain ⟨c', e1, g1⟩ := pC_exch h hI x y
  obtain ⟨m', e2, g2⟩ := pM_exch h2 hI x y
  exact ⟨_, c', m', e1, e2, _, _, _, _, _, _, _, _, g1, g2, hI.nowI (iS_exch hI.n6 hI.2.2.2.1 x y), by omega⟩
theorem st_odds {j : Nat} {c m : gw_S} (hz : zOK j c m) (x y w : Int32) : ∃ (r : Int32) (c' m' : gw_S), (fX7_odds x y w c = some r ∧ c' = c) ∧ (fX8_odds x y w m = some r ∧ m' = m) ∧ zOK (j + 1) c' m' := by
  obtain ⟨P, n, Y, R, O, fl, a, k, h, h2, hI, hj⟩ := hz
  have e1 := pC_odds h hI x y w
  have e2 := pM_odds h2 hI x y w
  exact ⟨_, c, m, ⟨e1, rfl⟩, ⟨e2, rfl⟩, _, _, _, _, _, _, _, _, h, h2, hI, by omega⟩
theorem st_hanging {j : Nat} {c m : gw_S} (hz : zOK j c m) (x : Int32) : ∃ (r : Int32) (c' m' : gw_S), (fX7_hanging x c = some r ∧ c' = c) ∧ fX8_hanging x m = some (r, m') ∧ zOK (j + 1) c' m' := by
  obtain ⟨P, n, Y, R, O, fl, a, k, h, h2, hI, hj⟩ := hz
  have e1 := pC_hanging h hI x
  obtain ⟨m', e2, g2⟩ := pM_hanging h2 hI x
  exact ⟨_, c, m', ⟨e1, rfl⟩, e2, _, _, _, _, _, _, _, _, h, g2, hI, by omega⟩
theorem st_found {j : Nat} {c m : gw_S} (hz : zOK j c m) (x y : Int32) : ∃ (r : Int32) (c' m' : gw_S), fX7_found x y c = some (r, c') ∧ fX8_found x y m = some (r, m') ∧ zOK (j + 1) c' m' := by
  obtain ⟨P, n, Y, R, O, fl, a, k, h, h2, hI, hj⟩ := hz
  obtain ⟨c', e1, g1⟩ := pC_found h hI x y
  obtain ⟨m', e2, g2⟩ := pM_found h2 hI x y
  exact ⟨_, c', m', e1, e2, _, _, _, _, _, _, _, _, g1, g2, hI.nowI (iS_found hI.n6 hI.2.2.2.1 x y), by omega⟩
theorem st_forget {j : Nat} {c m : gw_S} (hz : zOK j c m) : ∃ (r : Int32) (c' m' : gw_S), fX7_forget c = some (r, c') ∧ fX8_forget m = some (r, m') ∧ zOK (j + 1) c' m' := by
  obtain ⟨P, n, Y, R, O, fl, a, k, h, h2, hI, hj⟩ := hz
  obtain ⟨c', e1, g1⟩ := pC_forget h
  obtain ⟨m', e2, g2⟩ := pM_forget h2 hI
  exact ⟨_, c', m', e1, e2, _, _, _, _, _, _, _, _, g1, g2, hI.nowI (iS_forget hI.2.2.2.1), by omega⟩
theorem st_hung {j : Nat} {c m : gw_S} (hz : zOK j c m) : ∃ (r : Int32) (c' m' : gw_S), fX7_hung c = some (r, c') ∧ fX8_hung m = some (r, m') ∧ zOK (j + 1) c' m' := by
  obtain ⟨P, n, Y, R, O, fl, a, k, h, h2, hI, hj⟩ := hz
  obtain ⟨c', e1, g1⟩ := pC_hung h hI
  obtain ⟨m', e2, g2⟩ := pM_hung h2 hI
  exact ⟨_, c', m', e1, e2, _, _, _, _, _, _, _, _, g1, g2, hI, by omega⟩
theorem st_where {j : Nat} {c m : gw_S} (hz : zOK j c m) (x : Int32) : ∃ (r : Int32) (c' m' : gw_S), fX7_where x c = some (r, c') ∧ fX8_where x m = some (r, m') ∧ zOK (j + 1) c' m' := by
  obtain ⟨P, n, Y, R, O, fl, a, k, h, h2, hI, hj⟩ := hz
  obtain ⟨c', e1, g1⟩ := pC_where h hI x
  obtain ⟨m', e2, g2⟩ := pM_where h2 hI x
  exact ⟨_, c', m', e1, e2, _, _, _, _, _, _, _, _, g1, g2, hI, by omega⟩
theorem st_shifts {j : Nat} {c m : gw_S} (hz : zOK j c m) (x y w : Int32) : ∃ (r : Int32) (c' m' : gw_S), fX7_shifts x y w c = some (r, c') ∧ fX8_shifts x y w m = some (r, m') ∧ zOK (j + 1) c' m' := by
  obtain ⟨P, n, Y, R, O, fl, a, k, h, h2, hI, hj⟩ := hz
  obtain ⟨c', e1, g1⟩ := pC_shifts h hI x y w
  obtain ⟨m', e2, g2⟩ := pM_shifts h2 hI x y w
  exact ⟨_, c', m', e1, e2, _, _, _, _, _, _, _, _, g1, g2, hI, by omega⟩
theorem st_image {j : Nat} {c m : gw_S} (hz : zOK j c m) : ∃ (r : Int32) (c' m' : gw_S), fX7_image c = some (r, c') ∧ fX8_image m = some (r, m') ∧ zOK (j + 1) c' m' := by
  obtain ⟨P, n, Y, R, O, fl, a, k, h, h2, hI, hj⟩ := hz
  obtain ⟨c', e1, g1⟩ := pC_image h hI
  obtain ⟨m', e2, g2⟩ := pM_image h2 hI
  exact ⟨_, c', m', e1, e2, _, _, _, _, _, _, _, _, g1, g2, iI_image hI, by omega⟩
theorem st_restore {j : Nat} {c m : gw_S} (hz : zOK j c m) : ∃ (r : Int32) (c' m' : gw_S), fX7_restore c = some (r, c') ∧ fX8_restore m = some (r, m') ∧ zOK (j + 1) c' m' := by
  obtain ⟨P, n, Y, R, O, fl, a, k, h, h2, hI, hj⟩ := hz
  obtain ⟨c', e1, g1⟩ := pC_restore h hI
  obtain ⟨m', e2, g2⟩ := pM_restore h2 hI
  have hI' := iI_restore hI
  cases k with
  | none => exact ⟨-103, c', m', e1, e2, _, _, _, _, _, _, _, _, g1, g2, hI', by omega⟩
  | some ka => exact ⟨zSec ka, c', m', e1, e2, _, _, _, _, _, _, _, _, g1, g2, hI', by omega⟩
theorem st_count {j : Nat} {c m : gw_S} (hz : zOK j c m) (x : Int32) : ∃ (r : Int32) (c' m' : gw_S), (fX7_count x c = some r ∧ c' = c) ∧ (fX8_count x m = some r ∧ m' = m) ∧ zOK (j + 1) c' m' := by
  obtain ⟨P, n, Y, R, O, fl, a, k, h, h2, hI, hj⟩ := hz
  have e1 := pC_count h hI x
  have e2 := pM_count h2 hI x
  exact ⟨_, c, m, ⟨e1, rfl⟩, ⟨e2, rfl⟩, _, _, _, _, _, _, _, _, h, h2, hI, by omega⟩
theorem st_digest {j : Nat} {c m : gw_S} (hz : zOK j c m) : ∃ (r : Int64) (c' m' : gw_S), fX7_digest c = some (r, c') ∧ fX8_digest m = some (r, m') ∧ zOK (j + 1) c' m' := by
  obtain ⟨P, n, Y, R, O, fl, a, k, h, h2, hI, hj⟩ := hz
  obtain ⟨c', e1, g1⟩ := pC_digest h hI
  obtain ⟨m', e2, g2⟩ := pM_digest h2 hI
  exact ⟨_, c', m', e1, e2, _, _, _, _, _, _, _, _, g1, g2, hI, by omega⟩
theorem st_floor {j : Nat} {c m : gw_S} (hz : zOK j c m) (hj : j < 999999) : ∃ (r : Int32) (c' m' : gw_S), fX7_floor c = some (r, c') ∧ fX8_floor m = some (r, m') ∧ zOK (j + 1) c' m' := by
  obtain ⟨P, n, Y, R, O, fl, a, k, h, h2, hI, hjf⟩ := hz
  cases hf : zFloor P with
  | none =>
    obtain ⟨m', e2, g2⟩ := pM_floor_no h2 hI hf
    exact ⟨_, c, m', pC_floor_no h hI hf, e2, _, _, _, _, _, _, _, _, h, g2, hI, by omega⟩
  | some hn =>
    obtain ⟨c', e1, g1⟩ := pC_floor h hI hf
    obtain ⟨m', e2, g2⟩ := pM_floor h2 hI hf
    exact ⟨_, c', m', e1, e2, _, _, _, _, _, _, _, _, g1, g2, iI_floor (n := n) (Y := Y) (R := R) (O := O) (a := a) (k := k) (by omega) hf, by omega⟩
/-- the state at the start -/
def gx_sC : gw_S := (fun _ _ => 0, fun k j => if k = 9 then 31 + 4 * j else if k = 14 then 59 + 4 * j else 0, fun _ _ => 0)
def gx_sM : gw_S := (fun _ _ => 0, fun _ _ => 0, fun _ _ => 0)
theorem gx_row0 (c : gw_S) (q : Nat) (h : rdI c q 3 = 0) : rcRow c q [] := ⟨h, Nat.zero_le _, fun j p hp => by simp at hp⟩
theorem zOK_start : zOK 0 gx_sC gx_sM := by
  refine ⟨[], 0, fun _ => 0, fun _ => 0, fun _ => 0, 0, (fun _ => 0, fun _ => [], [], [], 0, 0), none, ?_, ?_, ?_, Nat.le_refl _⟩
  · refine ⟨⟨rfl, Nat.zero_le _, fun j v hv => by simp at hv⟩, ⟨rfl, fun h hh => by omega⟩, ⟨fun h hh => ⟨h, hh, rfl⟩, fun h h' _ _ e => ?_⟩, ⟨fun h hh => ⟨h, hh, rfl⟩, fun h h' _ _ e => ?_⟩, ⟨fun _ _ => rfl, fun _ _ => gx_row0 _ _ rfl, gx_row0 _ _ rfl, rfl, fun j p hp => by simp [zFound] at hp, rfl, rfl⟩, rfl, fun ka hk => (by cases hk), fun _ => rfl, fun h => absurd h (Nat.lt_irrefl 0), Or.inl rfl⟩
    · have e : 31 + 4 * h = 31 + 4 * h' := e
      omega
    · have e : 59 + 4 * h = 59 + 4 * h' := e
      omega
  · exact ⟨⟨rfl, fun j v hv => by simp at hv⟩, ⟨rfl, fun h hh => by omega⟩, ⟨fun h hh => by omega, fun h hh => by omega, rfl, fun j p hp => by simp [zBelt] at hp, rfl, fun j p hp => by simp [zFound] at hp, rfl, rfl⟩, rfl, fun ka hk => (by cases hk), fun _ => Or.inl rfl⟩
  · exact ⟨⟨Nat.zero_le _, fun v hv => by simp at hv⟩, ⟨Or.inl rfl, fun h hh => by omega⟩, by omega, ⟨fun h hh => by omega, fun h h' hh => by omega, fun _ _ _ h => absurd h (Nat.lt_irrefl 0), fun _ _ => Nat.zero_le _, fun _ _ p hp => by simp [zSack] at hp, Nat.zero_le _, fun p hp => by simp [zBelt] at hp, Nat.zero_le _, fun p hp => by simp [zFound] at hp⟩, fun ka hk => (by cases hk), fun _ => rfl⟩
