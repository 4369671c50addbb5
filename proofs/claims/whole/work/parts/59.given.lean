/-! What the Statement gives of the machine at the law's entry: written by wip/whole/gen59.py. -/
theorem tw_i0 : Cond.instantiable RX0 4 ∈ lw_tbl := List.mem_of_getElem? (i := 178) (by decide +kernel)
theorem tw_i1 : Cond.instantiable RX1 2 ∈ lw_tbl := List.mem_of_getElem? (i := 73) (by decide +kernel)
theorem tw_i2 : Cond.instantiable RX2 4 ∈ lw_tbl := List.mem_of_getElem? (i := 88) (by decide +kernel)
theorem tw_i3 : Cond.instantiable RX3 4 ∈ lw_tbl := List.mem_of_getElem? (i := 122) (by decide +kernel)
theorem tw_i4 : Cond.instantiable RX4 8 ∈ lw_tbl := List.mem_of_getElem? (i := 115) (by decide +kernel)
theorem tw_i5 : Cond.instantiable RX5 4 ∈ lw_tbl := List.mem_of_getElem? (i := 224) (by decide +kernel)
theorem tw_i6 : Cond.instantiable RX6 5 ∈ lw_tbl := List.mem_of_getElem? (i := 199) (by decide +kernel)
theorem tw_i7 : Cond.instantiable RX7 9 ∈ lw_tbl := List.mem_of_getElem? (i := 65) (by decide +kernel)
theorem tw_i8 : Cond.instantiable RX8 42 ∈ lw_tbl := List.mem_of_getElem? (i := 613) (by decide +kernel)
theorem tw_n7 : Cond.initialized RX7 ∈ lw_tbl := List.mem_of_getElem? (i := 52) (by decide +kernel)
theorem tw_n8 : Cond.initialized RX8 ∈ lw_tbl := List.mem_of_getElem? (i := 60) (by decide +kernel)
theorem tw_aint : Cond.arrayClass .int ∈ lw_tbl := List.mem_of_getElem? (i := 86) (by decide +kernel)
theorem tw_aboolean : Cond.arrayClass .boolean ∈ lw_tbl := List.mem_of_getElem? (i := 142) (by decide +kernel)
theorem tw_abyte : Cond.arrayClass .byte ∈ lw_tbl := List.mem_of_getElem? (i := 745) (by decide +kernel)
theorem tw_ao : Cond.arrayOver (.object RX3) ∈ lw_tbl := List.mem_of_getElem? (i := 121) (by decide +kernel)
theorem tw_ls : Cond.laysStatic "ThrownSacks" "GRIPS" "[I" ∈ lw_tbl := List.mem_of_getElem? (i := 343) (by decide +kernel)
theorem tw_x0 : Cond.methodLinkNest RX7 9 yX1_init "ThrownSacks" ∈ lw_tbl := List.mem_of_getElem? (i := 74) (by decide +kernel)
theorem tw_x1 : Cond.methodLinkNest RX7 18 yX2_init "ThrownSacks" ∈ lw_tbl := List.mem_of_getElem? (i := 89) (by decide +kernel)
theorem tw_x2 : Cond.methodLinkNest RX4 21 yX3_init "ThrownSacks" ∈ lw_tbl := List.mem_of_getElem? (i := 123) (by decide +kernel)
theorem tw_x3 : Cond.methodLinkNest RX7 35 yX0_init "ThrownSacks" ∈ lw_tbl := List.mem_of_getElem? (i := 179) (by decide +kernel)
theorem tw_x4 : Cond.methodLinkNest RX7 42 yX6_init "ThrownSacks" ∈ lw_tbl := List.mem_of_getElem? (i := 200) (by decide +kernel)
theorem tw_x5 : Cond.methodLinkNest RX7 49 yX5_init "ThrownSacks" ∈ lw_tbl := List.mem_of_getElem? (i := 225) (by decide +kernel)
theorem tw_x6 : Cond.methodLinkNest RX0 30 yX7_costOf "ThrownSacks" ∈ lw_tbl := List.mem_of_getElem? (i := 333) (by decide +kernel)
theorem tw_x7 : Cond.methodLinkNest RX0 34 yX7_carryTenths "ThrownSacks" ∈ lw_tbl := List.mem_of_getElem? (i := 354) (by decide +kernel)
theorem tw_x8 : Cond.methodLinkNest RX5 45 yX7_nextTo "ThrownSacks" ∈ lw_tbl := List.mem_of_getElem? (i := 554) (by decide +kernel)
theorem tw_x9 : Cond.methodLinkNest RX5 63 yX7_tenthsOf "ThrownSacks" ∈ lw_tbl := List.mem_of_getElem? (i := 560) (by decide +kernel)
theorem tw_c7 : Cond.classLink RL 7 RX7 ∈ lw_tbl := List.mem_of_getElem? (i := 64) (by decide +kernel)
theorem tw_c8 : Cond.classLink RL 10 RX8 ∈ lw_tbl := List.mem_of_getElem? (i := 612) (by decide +kernel)
theorem tw_m7 : Cond.methodLink RL 9 yX7_init ∈ lw_tbl := List.mem_of_getElem? (i := 66) (by decide +kernel)
theorem tw_m8 : Cond.methodLink RL 12 yX8_init ∈ lw_tbl := List.mem_of_getElem? (i := 614) (by decide +kernel)
theorem tw_o7 : Cond.instanceMethod yX7_init ∈ lw_tbl := List.mem_of_getElem? (i := 67) (by decide +kernel)
theorem tw_o8 : Cond.instanceMethod yX8_init ∈ lw_tbl := List.mem_of_getElem? (i := 615) (by decide +kernel)
theorem lg_arrK {s : State} {args : Array Value} {ty : FieldType} (h : (Cond.arrayClass ty).before args s = true) (hp : ∀ C, ty ≠ .object C) : ∃ cA : ClassId, ArrOfT s cA ty ∧ va_RA s cA ty := by
  obtain ⟨cA, kA, comp, h1, h2, h3⟩ := Cond.arrayClass_spec h
  refine ⟨cA, fun n z => ⟨fun k h => (by cases h), kA, h2, comp, h3⟩, ?_⟩
  cases ty with
  | object C => exact absurd rfl (hp C)
  | _ => exact h1
theorem lg_arrQ {s : State} {args : Array Value} {C : String} (h : (Cond.arrayOver (.object C)).before args s = true) : ∃ cA : ClassId, ArrOfT s cA (.object C) ∧ va_RA s cA (.object C) := by
  obtain ⟨comp, c, k, h1, h2, h3, h4, h5⟩ := Cond.arrayOver_spec h
  exact ⟨c, fun n z => ⟨fun k h => (by cases h), k, h3, comp, h4⟩, k, comp, h3, h4, h1, h5⟩
theorem lg_given {s : State} {args : Array Value} (hts : ∀ w ∈ lw_tbl, w.before args s = true) (hgv : (Jvm.Cond.and given_1 narrow_1).before args s = true) : ∃ (D : va_G) (g : gw_G) (tG : Nat), gw_F D g tG (fun q : Nat => s.heap.size ≤ q) s ∧ gx_F D g s := by
  obtain ⟨c0, i0, k0⟩ := u_known (C := RX0) (T := TX0) (N := 4) (n := 4) hts inX0 (hts _ tw_i0)
  obtain ⟨c1, i1, k1⟩ := u_known (C := RX1) (T := TX1) (N := 2) (n := 2) hts inX1 (hts _ tw_i1)
  obtain ⟨c2, i2, k2⟩ := u_known (C := RX2) (T := TX2) (N := 4) (n := 4) hts inX2 (hts _ tw_i2)
  obtain ⟨c3, i3, k3⟩ := u_known (C := RX3) (T := TX3) (N := 4) (n := 4) hts inX3 (hts _ tw_i3)
  obtain ⟨c4, i4, k4⟩ := u_known (C := RX4) (T := TX4) (N := 8) (n := 8) hts inX4 (hts _ tw_i4)
  obtain ⟨c5, i5, k5⟩ := u_known (C := RX5) (T := TX5) (N := 4) (n := 4) hts inX5 (hts _ tw_i5)
  obtain ⟨c6, i6, k6⟩ := u_known (C := RX6) (T := TX6) (N := 5) (n := 5) hts inX6 (hts _ tw_i6)
  obtain ⟨c7, i7, k7⟩ := u_known (C := RX7) (T := TX7) (N := 9) (n := 9) hts inX7 (hts _ tw_i7)
  obtain ⟨c8, i8, k8⟩ := u_known (C := RX8) (T := TX8) (N := 42) (n := 42) hts inX8 (hts _ tw_i8)
  obtain ⟨dC, dI, hKc⟩ : ∃ (dC : Nat → ClassId) (dI : Nat → Nat → Nat), ∀ (k : Nat) (q : vw_C), vwCl[k]? = some q → u_Kn s q.1 q.2.1 q.2.2 (dC k) (dI k) := by
    refine ⟨fun k => [c0, c1, c2, c3, c4, c5, c6, c7, c8].getD k c0, fun k => [i0, i1, i2, i3, i4, i5, i6, i7, i8].getD k i0, ?_⟩
    intro k q hq
    match k, hq with
    | 0, hq => cases hq; exact k0
    | 1, hq => cases hq; exact k1
    | 2, hq => cases hq; exact k2
    | 3, hq => cases hq; exact k3
    | 4, hq => cases hq; exact k4
    | 5, hq => cases hq; exact k5
    | 6, hq => cases hq; exact k6
    | 7, hq => cases hq; exact k7
    | 8, hq => cases hq; exact k8
    | k + 9, hq => simp [vwCl] at hq
  obtain ⟨a0, b0⟩ := lg_arrK (hts _ tw_aint) (fun C h => by cases h)
  obtain ⟨a1, b1⟩ := lg_arrK (hts _ tw_aboolean) (fun C h => by cases h)
  obtain ⟨a2, b2⟩ := lg_arrK (hts _ tw_abyte) (fun C h => by cases h)
  obtain ⟨a3, b3⟩ := lg_arrQ (hts _ tw_ao)
  have hK : va_K (dC, dI) vwCl (gw_tys (a0, a1, a2, a3)) s := by
    refine ⟨hKc, fun k q h => ?_⟩
    match k, h with
    | 0, h => cases h; exact b0
    | 1, h => cases h; exact b1
    | 2, h => cases h; exact b2
    | 3, h => cases h; exact b3
    | k + 4, h => simp at h
  have hf := flat_of_before _ hgv
  have hA : ∀ a : Nat, a < s.heap.size → ¬ (fun q : Nat => s.heap.size ≤ q) a := fun a h q => absurd h (Nat.not_lt.mpr q)
  obtain ⟨tG, e1, hT⟩ := va_Tof (tm := .static "ThrownSacks" "GRIPS" "[I") (ty := .int) (N := 5) (f := gw_grips) (A := fun q : Nat => s.heap.size ≤ q) (by decide) (hf _ (by decide +kernel)) (va_eqt (hf _ (by decide +kernel))) (fun j hj => by
    rcases (show j = 0 ∨ j = 1 ∨ j = 2 ∨ j = 3 ∨ j = 4 by omega) with rfl | rfl | rfl | rfl | rfl
    · exact va_eqt (z := 0) (hf _ (by decide +kernel))
    · exact va_eqt (z := 1) (hf _ (by decide +kernel))
    · exact va_eqt (z := -2) (hf _ (by decide +kernel))
    · exact va_eqt (z := -1) (hf _ (by decide +kernel))
    · exact va_eqt (z := -2) (hf _ (by decide +kernel))) hA
  have hZ := va_Zof (hts _ tw_ls) (hts _ tw_n7) e1 hA
  exact ⟨(dC, dI), (a0, a1, a2, a3), tG, ⟨hK, hZ, hT, va_tabs rfl rfl (hts _ tw_x6), va_tabs rfl rfl (hts _ tw_x7), va_tabs rfl rfl (hts _ tw_x8), va_tabs rfl rfl (hts _ tw_x9)⟩, hK, va_AO.of (hts _ tw_ao), va_tabs rfl rfl (hts _ tw_x0), va_tabs rfl rfl (hts _ tw_x1), va_tabs rfl rfl (hts _ tw_x2), va_tabs rfl rfl (hts _ tw_x3), va_tabs rfl rfl (hts _ tw_x4), va_tabs rfl rfl (hts _ tw_x5)⟩
