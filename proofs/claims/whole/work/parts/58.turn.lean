/-! What the constructors leave, as rows of cells: written by wip/whole/gen58.py. -/
theorem gx_arrV {cA : ClassId} {n : Nat} {f f' : Nat → Value} (h : ∀ j, j < n → f j = f' j) : arrV cA n f = arrV cA n f' := by
  unfold arrV
  congr 1
  apply Array.ext
  · simp
  · intro i h1 h2
    simp only [Array.getElem_ofFn]
    exact h i (by simpa using h1)
/-- cells by places of a list, each once -/
theorem gx_turn {D : va_G} {A : Nat → Prop} {L : va_W} {H : Heap} {T : gw_T} {N : Nat} {ad : Nat → Nat} {st : gw_S} (ps : Nat → Nat) (hinj : ∀ i, i < N → ∀ j, j < N → ps i = ps j → i = j) (hD : va_D A L) (hget : ∀ i, i < N → ∃ e : va_E, L[ps i]? = some (ad i, e)) (hat : ∀ i, i < N → va_at D vwCl (ad i, T i (st.1 i) (st.2.1 i) (st.2.2 i)) H) : va_P D vwCl (gw_w T N ad st) H ∧ gw_D A N ad := by
  refine ⟨fun k q hk => ?_, fun i j hi hj e => ?_, fun i hi => ?_⟩
  · obtain ⟨h1, rfl⟩ := gw_at_inv hk
    exact hat k h1
  · obtain ⟨e1, h1⟩ := hget i hi
    obtain ⟨e2, h2⟩ := hget j hj
    exact hinj i hi j hj (hD.1 _ _ _ _ h1 h2 e)
  · obtain ⟨e1, h1⟩ := hget i hi
    exact hD.2 _ _ h1
def gx_LC (g : gw_G) (h qp p1 qo o1 o2 o3 qn qk qz z1 z2 z3 qy y1 y2 y3 qt t1 : Nat) (n k : Nat → Nat) : va_W := [(h, .inr (7, [.ref qp, .ref qo, .ref qn, .ref qk, .ref qz, .ref qy, .ref qt, .int 0, .int 0])), (qp, .inr (1, [.ref p1, .int 0])), (p1, .inl (g.1, 24, .inl gx_0)), (qo, .inr (2, [.ref o1, .ref o2, .ref o3, .int 0])), (o1, .inl (g.1, 6, .inl gx_0)), (o2, .inl (g.1, 6, .inl gx_0)), (o3, .inl (g.1, 6, .inl gx_0)), (qn, .inr (4, [.ref (n 1), .ref (n 2), .ref (n 3), .ref (n 7), .ref (n 8), .int 0, .int 0, .int 0])), ((n 1), .inl (g.1, 6, .inl gx_0)), ((n 2), .inl (g.2.2.2, 6, .inr (.inr (.inr (.inr (va_up (va_up (va_up (va_up (va_up (va_up (fun _ => none) 0 (some (n 9))) 1 (some (n 13))) 2 (some (n 17))) 3 (some (n 21))) 4 (some (n 25))) 5 (some (n 29)))))))), ((n 3), .inr (3, [.ref (n 4), .ref (n 5), .ref (n 6), .int 0])), ((n 4), .inl (g.1, 9, .inl gx_0)), ((n 5), .inl (g.1, 9, .inl gx_0)), ((n 6), .inl (g.2.1, 9, .inl gx_0)), ((n 7), .inl (g.1, 8, .inl gx_0)), ((n 8), .inl (g.1, 8, .inl gx_0)), ((n 9), .inr (3, [.ref (n 10), .ref (n 11), .ref (n 12), .int 0])), ((n 10), .inl (g.1, 9, .inl gx_0)), ((n 11), .inl (g.1, 9, .inl gx_0)), ((n 12), .inl (g.2.1, 9, .inl gx_0)), ((n 13), .inr (3, [.ref (n 14), .ref (n 15), .ref (n 16), .int 0])), ((n 14), .inl (g.1, 9, .inl gx_0)), ((n 15), .inl (g.1, 9, .inl gx_0)), ((n 16), .inl (g.2.1, 9, .inl gx_0)), ((n 17), .inr (3, [.ref (n 18), .ref (n 19), .ref (n 20), .int 0])), ((n 18), .inl (g.1, 9, .inl gx_0)), ((n 19), .inl (g.1, 9, .inl gx_0)), ((n 20), .inl (g.2.1, 9, .inl gx_0)), ((n 21), .inr (3, [.ref (n 22), .ref (n 23), .ref (n 24), .int 0])), ((n 22), .inl (g.1, 9, .inl gx_0)), ((n 23), .inl (g.1, 9, .inl gx_0)), ((n 24), .inl (g.2.1, 9, .inl gx_0)), ((n 25), .inr (3, [.ref (n 26), .ref (n 27), .ref (n 28), .int 0])), ((n 26), .inl (g.1, 9, .inl gx_0)), ((n 27), .inl (g.1, 9, .inl gx_0)), ((n 28), .inl (g.2.1, 9, .inl gx_0)), ((n 29), .inr (3, [.ref (n 30), .ref (n 31), .ref (n 32), .int 0])), ((n 30), .inl (g.1, 9, .inl gx_0)), ((n 31), .inl (g.1, 9, .inl gx_0)), ((n 32), .inl (g.2.1, 9, .inl gx_0)), (qk, .inr (4, [.ref (k 1), .ref (k 2), .ref (k 3), .ref (k 7), .ref (k 8), .int 0, .int 0, .int 0])), ((k 1), .inl (g.1, 6, .inl gx_0)), ((k 2), .inl (g.2.2.2, 6, .inr (.inr (.inr (.inr (va_up (va_up (va_up (va_up (va_up (va_up (fun _ => none) 0 (some (k 9))) 1 (some (k 13))) 2 (some (k 17))) 3 (some (k 21))) 4 (some (k 25))) 5 (some (k 29)))))))), ((k 3), .inr (3, [.ref (k 4), .ref (k 5), .ref (k 6), .int 0])), ((k 4), .inl (g.1, 9, .inl gx_0)), ((k 5), .inl (g.1, 9, .inl gx_0)), ((k 6), .inl (g.2.1, 9, .inl gx_0)), ((k 7), .inl (g.1, 8, .inl gx_0)), ((k 8), .inl (g.1, 8, .inl gx_0)), ((k 9), .inr (3, [.ref (k 10), .ref (k 11), .ref (k 12), .int 0])), ((k 10), .inl (g.1, 9, .inl gx_0)), ((k 11), .inl (g.1, 9, .inl gx_0)), ((k 12), .inl (g.2.1, 9, .inl gx_0)), ((k 13), .inr (3, [.ref (k 14), .ref (k 15), .ref (k 16), .int 0])), ((k 14), .inl (g.1, 9, .inl gx_0)), ((k 15), .inl (g.1, 9, .inl gx_0)), ((k 16), .inl (g.2.1, 9, .inl gx_0)), ((k 17), .inr (3, [.ref (k 18), .ref (k 19), .ref (k 20), .int 0])), ((k 18), .inl (g.1, 9, .inl gx_0)), ((k 19), .inl (g.1, 9, .inl gx_0)), ((k 20), .inl (g.2.1, 9, .inl gx_0)), ((k 21), .inr (3, [.ref (k 22), .ref (k 23), .ref (k 24), .int 0])), ((k 22), .inl (g.1, 9, .inl gx_0)), ((k 23), .inl (g.1, 9, .inl gx_0)), ((k 24), .inl (g.2.1, 9, .inl gx_0)), ((k 25), .inr (3, [.ref (k 26), .ref (k 27), .ref (k 28), .int 0])), ((k 26), .inl (g.1, 9, .inl gx_0)), ((k 27), .inl (g.1, 9, .inl gx_0)), ((k 28), .inl (g.2.1, 9, .inl gx_0)), ((k 29), .inr (3, [.ref (k 30), .ref (k 31), .ref (k 32), .int 0])), ((k 30), .inl (g.1, 9, .inl gx_0)), ((k 31), .inl (g.1, 9, .inl gx_0)), ((k 32), .inl (g.2.1, 9, .inl gx_0)), (qz, .inr (0, [.ref z1, .ref z2, .ref z3, .int 0])), (z1, .inl (g.1, 6, .inl gx_0)), (z2, .inl (g.1, 6, .inl gx_0)), (z3, .inl (g.1, 64, .inl gx_0)), (qy, .inr (6, [.ref y1, .ref y2, .ref y3, .int 0, .int 0])), (y1, .inl (g.1, 6, .inl gx_0)), (y2, .inl (g.1, 6, .inl gx_0)), (y3, .inl (g.1, 6, .inl gx_0)), (qt, .inr (5, [.ref t1, .int 0, .int 0, .int 0])), (t1, .inl (g.1, 6, .inl gx_0))]
def gx_aC (h qp p1 qo o1 o2 o3 qn qk qz z1 z2 z3 qy y1 y2 y3 qt t1 : Nat) (n k : Nat → Nat) : Nat → Nat := fun i => [h, qp, p1, qo, o1, o2, o3, qn, (n 1), (n 2), (n 7), (n 8), qk, (k 1), (k 2), (k 7), (k 8), qz, z1, z2, z3, qy, y1, y2, y3, qt, t1, (n 3), (n 4), (n 5), (n 6), (n 9), (n 10), (n 11), (n 12), (n 13), (n 14), (n 15), (n 16), (n 17), (n 18), (n 19), (n 20), (n 21), (n 22), (n 23), (n 24), (n 25), (n 26), (n 27), (n 28), (n 29), (n 30), (n 31), (n 32), (k 3), (k 4), (k 5), (k 6), (k 9), (k 10), (k 11), (k 12), (k 13), (k 14), (k 15), (k 16), (k 17), (k 18), (k 19), (k 20), (k 21), (k 22), (k 23), (k 24), (k 25), (k 26), (k 27), (k 28), (k 29), (k 30), (k 31), (k 32)].getD i 0
def gx_pC : Nat → Nat := fun i => [0, 1, 2, 3, 4, 5, 6, 7, 8, 9, 14, 15, 40, 41, 42, 47, 48, 73, 74, 75, 76, 77, 78, 79, 80, 81, 82, 10, 11, 12, 13, 16, 17, 18, 19, 20, 21, 22, 23, 24, 25, 26, 27, 28, 29, 30, 31, 32, 33, 34, 35, 36, 37, 38, 39, 43, 44, 45, 46, 49, 50, 51, 52, 53, 54, 55, 56, 57, 58, 59, 60, 61, 62, 63, 64, 65, 66, 67, 68, 69, 70, 71, 72].getD i 0
theorem gx_pC_inj : ∀ i, i < 83 → ∀ j, j < 83 → gx_pC i = gx_pC j → i = j := by decide +kernel
theorem gx_gC0 (g : gw_G) (h qp p1 qo o1 o2 o3 qn qk qz z1 z2 z3 qy y1 y2 y3 qt t1 : Nat) (n k : Nat → Nat) : ∀ i, 0 ≤ i → i < 10 → ∃ e : va_E, (gx_LC g h qp p1 qo o1 o2 o3 qn qk qz z1 z2 z3 qy y1 y2 y3 qt t1 n k)[gx_pC i]? = some (gx_aC h qp p1 qo o1 o2 o3 qn qk qz z1 z2 z3 qy y1 y2 y3 qt t1 n k i, e) := by
  intro i h1 h2
  rcases (show i = 0 ∨ i = 1 ∨ i = 2 ∨ i = 3 ∨ i = 4 ∨ i = 5 ∨ i = 6 ∨ i = 7 ∨ i = 8 ∨ i = 9 by omega) with rfl | rfl | rfl | rfl | rfl | rfl | rfl | rfl | rfl | rfl <;> exact ⟨_, rfl⟩
theorem gx_tC0 {D : va_G} {H : Heap} (g : gw_G) (h qp p1 qo o1 o2 o3 qn qk qz z1 z2 z3 qy y1 y2 y3 qt t1 : Nat) (n k : Nat → Nat) (hP : va_P D vwCl (gx_LC g h qp p1 qo o1 o2 o3 qn qk qz z1 z2 z3 qy y1 y2 y3 qt t1 n k) H) : ∀ i, 0 ≤ i → i < 10 → va_at D vwCl (gx_aC h qp p1 qo o1 o2 o3 qn qk qz z1 z2 z3 qy y1 y2 y3 qt t1 n k i, tC g (gx_aC h qp p1 qo o1 o2 o3 qn qk qz z1 z2 z3 qy y1 y2 y3 qt t1 n k) i (gx_sC.1 i) (gx_sC.2.1 i) (gx_sC.2.2 i)) H := by
  intro i h1 h2
  rcases (show i = 0 ∨ i = 1 ∨ i = 2 ∨ i = 3 ∨ i = 4 ∨ i = 5 ∨ i = 6 ∨ i = 7 ∨ i = 8 ∨ i = 9 by omega) with rfl | rfl | rfl | rfl | rfl | rfl | rfl | rfl | rfl | rfl
  · exact hP 0 _ rfl
  · exact hP 1 _ rfl
  · exact hP 2 _ rfl
  · exact hP 3 _ rfl
  · exact hP 4 _ rfl
  · exact hP 5 _ rfl
  · exact hP 6 _ rfl
  · exact hP 7 _ rfl
  · exact hP 8 _ rfl
  · show H[gx_aC h qp p1 qo o1 o2 o3 qn qk qz z1 z2 z3 qy y1 y2 y3 qt t1 n k 9]? = some (arrV g.2.2.2 6 (fun j => va_rf (some (gx_aC h qp p1 qo o1 o2 o3 qn qk qz z1 z2 z3 qy y1 y2 y3 qt t1 n k (gx_sC.2.1 9 j)))))
    refine Eq.trans (show H[n 2]? = some (arrV g.2.2.2 6 (fun j => va_rf ((va_up (va_up (va_up (va_up (va_up (va_up (fun _ => none) 0 (some (n 9))) 1 (some (n 13))) 2 (some (n 17))) 3 (some (n 21))) 4 (some (n 25))) 5 (some (n 29))) j))) from hP 9 _ rfl) (congrArg some (gx_arrV (fun j hj => ?_)))
    rcases (show j = 0 ∨ j = 1 ∨ j = 2 ∨ j = 3 ∨ j = 4 ∨ j = 5 by omega) with rfl | rfl | rfl | rfl | rfl | rfl <;> rfl
theorem gx_gC1 (g : gw_G) (h qp p1 qo o1 o2 o3 qn qk qz z1 z2 z3 qy y1 y2 y3 qt t1 : Nat) (n k : Nat → Nat) : ∀ i, 10 ≤ i → i < 20 → ∃ e : va_E, (gx_LC g h qp p1 qo o1 o2 o3 qn qk qz z1 z2 z3 qy y1 y2 y3 qt t1 n k)[gx_pC i]? = some (gx_aC h qp p1 qo o1 o2 o3 qn qk qz z1 z2 z3 qy y1 y2 y3 qt t1 n k i, e) := by
  intro i h1 h2
  rcases (show i = 10 ∨ i = 11 ∨ i = 12 ∨ i = 13 ∨ i = 14 ∨ i = 15 ∨ i = 16 ∨ i = 17 ∨ i = 18 ∨ i = 19 by omega) with rfl | rfl | rfl | rfl | rfl | rfl | rfl | rfl | rfl | rfl <;> exact ⟨_, rfl⟩
theorem gx_tC1 {D : va_G} {H : Heap} (g : gw_G) (h qp p1 qo o1 o2 o3 qn qk qz z1 z2 z3 qy y1 y2 y3 qt t1 : Nat) (n k : Nat → Nat) (hP : va_P D vwCl (gx_LC g h qp p1 qo o1 o2 o3 qn qk qz z1 z2 z3 qy y1 y2 y3 qt t1 n k) H) : ∀ i, 10 ≤ i → i < 20 → va_at D vwCl (gx_aC h qp p1 qo o1 o2 o3 qn qk qz z1 z2 z3 qy y1 y2 y3 qt t1 n k i, tC g (gx_aC h qp p1 qo o1 o2 o3 qn qk qz z1 z2 z3 qy y1 y2 y3 qt t1 n k) i (gx_sC.1 i) (gx_sC.2.1 i) (gx_sC.2.2 i)) H := by
  intro i h1 h2
  rcases (show i = 10 ∨ i = 11 ∨ i = 12 ∨ i = 13 ∨ i = 14 ∨ i = 15 ∨ i = 16 ∨ i = 17 ∨ i = 18 ∨ i = 19 by omega) with rfl | rfl | rfl | rfl | rfl | rfl | rfl | rfl | rfl | rfl
  · exact hP 14 _ rfl
  · exact hP 15 _ rfl
  · exact hP 40 _ rfl
  · exact hP 41 _ rfl
  · show H[gx_aC h qp p1 qo o1 o2 o3 qn qk qz z1 z2 z3 qy y1 y2 y3 qt t1 n k 14]? = some (arrV g.2.2.2 6 (fun j => va_rf (some (gx_aC h qp p1 qo o1 o2 o3 qn qk qz z1 z2 z3 qy y1 y2 y3 qt t1 n k (gx_sC.2.1 14 j)))))
    refine Eq.trans (show H[k 2]? = some (arrV g.2.2.2 6 (fun j => va_rf ((va_up (va_up (va_up (va_up (va_up (va_up (fun _ => none) 0 (some (k 9))) 1 (some (k 13))) 2 (some (k 17))) 3 (some (k 21))) 4 (some (k 25))) 5 (some (k 29))) j))) from hP 42 _ rfl) (congrArg some (gx_arrV (fun j hj => ?_)))
    rcases (show j = 0 ∨ j = 1 ∨ j = 2 ∨ j = 3 ∨ j = 4 ∨ j = 5 by omega) with rfl | rfl | rfl | rfl | rfl | rfl <;> rfl
  · exact hP 47 _ rfl
  · exact hP 48 _ rfl
  · exact hP 73 _ rfl
  · exact hP 74 _ rfl
  · exact hP 75 _ rfl
theorem gx_gC2 (g : gw_G) (h qp p1 qo o1 o2 o3 qn qk qz z1 z2 z3 qy y1 y2 y3 qt t1 : Nat) (n k : Nat → Nat) : ∀ i, 20 ≤ i → i < 30 → ∃ e : va_E, (gx_LC g h qp p1 qo o1 o2 o3 qn qk qz z1 z2 z3 qy y1 y2 y3 qt t1 n k)[gx_pC i]? = some (gx_aC h qp p1 qo o1 o2 o3 qn qk qz z1 z2 z3 qy y1 y2 y3 qt t1 n k i, e) := by
  intro i h1 h2
  rcases (show i = 20 ∨ i = 21 ∨ i = 22 ∨ i = 23 ∨ i = 24 ∨ i = 25 ∨ i = 26 ∨ i = 27 ∨ i = 28 ∨ i = 29 by omega) with rfl | rfl | rfl | rfl | rfl | rfl | rfl | rfl | rfl | rfl <;> exact ⟨_, rfl⟩
theorem gx_tC2 {D : va_G} {H : Heap} (g : gw_G) (h qp p1 qo o1 o2 o3 qn qk qz z1 z2 z3 qy y1 y2 y3 qt t1 : Nat) (n k : Nat → Nat) (hP : va_P D vwCl (gx_LC g h qp p1 qo o1 o2 o3 qn qk qz z1 z2 z3 qy y1 y2 y3 qt t1 n k) H) : ∀ i, 20 ≤ i → i < 30 → va_at D vwCl (gx_aC h qp p1 qo o1 o2 o3 qn qk qz z1 z2 z3 qy y1 y2 y3 qt t1 n k i, tC g (gx_aC h qp p1 qo o1 o2 o3 qn qk qz z1 z2 z3 qy y1 y2 y3 qt t1 n k) i (gx_sC.1 i) (gx_sC.2.1 i) (gx_sC.2.2 i)) H := by
  intro i h1 h2
  rcases (show i = 20 ∨ i = 21 ∨ i = 22 ∨ i = 23 ∨ i = 24 ∨ i = 25 ∨ i = 26 ∨ i = 27 ∨ i = 28 ∨ i = 29 by omega) with rfl | rfl | rfl | rfl | rfl | rfl | rfl | rfl | rfl | rfl
  · exact hP 76 _ rfl
  · exact hP 77 _ rfl
  · exact hP 78 _ rfl
  · exact hP 79 _ rfl
  · exact hP 80 _ rfl
  · exact hP 81 _ rfl
  · exact hP 82 _ rfl
  · exact hP 10 _ rfl
  · exact hP 11 _ rfl
  · exact hP 12 _ rfl
theorem gx_gC3 (g : gw_G) (h qp p1 qo o1 o2 o3 qn qk qz z1 z2 z3 qy y1 y2 y3 qt t1 : Nat) (n k : Nat → Nat) : ∀ i, 30 ≤ i → i < 40 → ∃ e : va_E, (gx_LC g h qp p1 qo o1 o2 o3 qn qk qz z1 z2 z3 qy y1 y2 y3 qt t1 n k)[gx_pC i]? = some (gx_aC h qp p1 qo o1 o2 o3 qn qk qz z1 z2 z3 qy y1 y2 y3 qt t1 n k i, e) := by
  intro i h1 h2
  rcases (show i = 30 ∨ i = 31 ∨ i = 32 ∨ i = 33 ∨ i = 34 ∨ i = 35 ∨ i = 36 ∨ i = 37 ∨ i = 38 ∨ i = 39 by omega) with rfl | rfl | rfl | rfl | rfl | rfl | rfl | rfl | rfl | rfl <;> exact ⟨_, rfl⟩
theorem gx_tC3 {D : va_G} {H : Heap} (g : gw_G) (h qp p1 qo o1 o2 o3 qn qk qz z1 z2 z3 qy y1 y2 y3 qt t1 : Nat) (n k : Nat → Nat) (hP : va_P D vwCl (gx_LC g h qp p1 qo o1 o2 o3 qn qk qz z1 z2 z3 qy y1 y2 y3 qt t1 n k) H) : ∀ i, 30 ≤ i → i < 40 → va_at D vwCl (gx_aC h qp p1 qo o1 o2 o3 qn qk qz z1 z2 z3 qy y1 y2 y3 qt t1 n k i, tC g (gx_aC h qp p1 qo o1 o2 o3 qn qk qz z1 z2 z3 qy y1 y2 y3 qt t1 n k) i (gx_sC.1 i) (gx_sC.2.1 i) (gx_sC.2.2 i)) H := by
  intro i h1 h2
  rcases (show i = 30 ∨ i = 31 ∨ i = 32 ∨ i = 33 ∨ i = 34 ∨ i = 35 ∨ i = 36 ∨ i = 37 ∨ i = 38 ∨ i = 39 by omega) with rfl | rfl | rfl | rfl | rfl | rfl | rfl | rfl | rfl | rfl
  · exact hP 13 _ rfl
  · exact hP 16 _ rfl
  · exact hP 17 _ rfl
  · exact hP 18 _ rfl
  · exact hP 19 _ rfl
  · exact hP 20 _ rfl
  · exact hP 21 _ rfl
  · exact hP 22 _ rfl
  · exact hP 23 _ rfl
  · exact hP 24 _ rfl
theorem gx_gC4 (g : gw_G) (h qp p1 qo o1 o2 o3 qn qk qz z1 z2 z3 qy y1 y2 y3 qt t1 : Nat) (n k : Nat → Nat) : ∀ i, 40 ≤ i → i < 50 → ∃ e : va_E, (gx_LC g h qp p1 qo o1 o2 o3 qn qk qz z1 z2 z3 qy y1 y2 y3 qt t1 n k)[gx_pC i]? = some (gx_aC h qp p1 qo o1 o2 o3 qn qk qz z1 z2 z3 qy y1 y2 y3 qt t1 n k i, e) := by
  intro i h1 h2
  rcases (show i = 40 ∨ i = 41 ∨ i = 42 ∨ i = 43 ∨ i = 44 ∨ i = 45 ∨ i = 46 ∨ i = 47 ∨ i = 48 ∨ i = 49 by omega) with rfl | rfl | rfl | rfl | rfl | rfl | rfl | rfl | rfl | rfl <;> exact ⟨_, rfl⟩
theorem gx_tC4 {D : va_G} {H : Heap} (g : gw_G) (h qp p1 qo o1 o2 o3 qn qk qz z1 z2 z3 qy y1 y2 y3 qt t1 : Nat) (n k : Nat → Nat) (hP : va_P D vwCl (gx_LC g h qp p1 qo o1 o2 o3 qn qk qz z1 z2 z3 qy y1 y2 y3 qt t1 n k) H) : ∀ i, 40 ≤ i → i < 50 → va_at D vwCl (gx_aC h qp p1 qo o1 o2 o3 qn qk qz z1 z2 z3 qy y1 y2 y3 qt t1 n k i, tC g (gx_aC h qp p1 qo o1 o2 o3 qn qk qz z1 z2 z3 qy y1 y2 y3 qt t1 n k) i (gx_sC.1 i) (gx_sC.2.1 i) (gx_sC.2.2 i)) H := by
  intro i h1 h2
  rcases (show i = 40 ∨ i = 41 ∨ i = 42 ∨ i = 43 ∨ i = 44 ∨ i = 45 ∨ i = 46 ∨ i = 47 ∨ i = 48 ∨ i = 49 by omega) with rfl | rfl | rfl | rfl | rfl | rfl | rfl | rfl | rfl | rfl
  · exact hP 25 _ rfl
  · exact hP 26 _ rfl
  · exact hP 27 _ rfl
  · exact hP 28 _ rfl
  · exact hP 29 _ rfl
  · exact hP 30 _ rfl
  · exact hP 31 _ rfl
  · exact hP 32 _ rfl
  · exact hP 33 _ rfl
  · exact hP 34 _ rfl
theorem gx_gC5 (g : gw_G) (h qp p1 qo o1 o2 o3 qn qk qz z1 z2 z3 qy y1 y2 y3 qt t1 : Nat) (n k : Nat → Nat) : ∀ i, 50 ≤ i → i < 60 → ∃ e : va_E, (gx_LC g h qp p1 qo o1 o2 o3 qn qk qz z1 z2 z3 qy y1 y2 y3 qt t1 n k)[gx_pC i]? = some (gx_aC h qp p1 qo o1 o2 o3 qn qk qz z1 z2 z3 qy y1 y2 y3 qt t1 n k i, e) := by
  intro i h1 h2
  rcases (show i = 50 ∨ i = 51 ∨ i = 52 ∨ i = 53 ∨ i = 54 ∨ i = 55 ∨ i = 56 ∨ i = 57 ∨ i = 58 ∨ i = 59 by omega) with rfl | rfl | rfl | rfl | rfl | rfl | rfl | rfl | rfl | rfl <;> exact ⟨_, rfl⟩
theorem gx_tC5 {D : va_G} {H : Heap} (g : gw_G) (h qp p1 qo o1 o2 o3 qn qk qz z1 z2 z3 qy y1 y2 y3 qt t1 : Nat) (n k : Nat → Nat) (hP : va_P D vwCl (gx_LC g h qp p1 qo o1 o2 o3 qn qk qz z1 z2 z3 qy y1 y2 y3 qt t1 n k) H) : ∀ i, 50 ≤ i → i < 60 → va_at D vwCl (gx_aC h qp p1 qo o1 o2 o3 qn qk qz z1 z2 z3 qy y1 y2 y3 qt t1 n k i, tC g (gx_aC h qp p1 qo o1 o2 o3 qn qk qz z1 z2 z3 qy y1 y2 y3 qt t1 n k) i (gx_sC.1 i) (gx_sC.2.1 i) (gx_sC.2.2 i)) H := by
  intro i h1 h2
  rcases (show i = 50 ∨ i = 51 ∨ i = 52 ∨ i = 53 ∨ i = 54 ∨ i = 55 ∨ i = 56 ∨ i = 57 ∨ i = 58 ∨ i = 59 by omega) with rfl | rfl | rfl | rfl | rfl | rfl | rfl | rfl | rfl | rfl
  · exact hP 35 _ rfl
  · exact hP 36 _ rfl
  · exact hP 37 _ rfl
  · exact hP 38 _ rfl
  · exact hP 39 _ rfl
  · exact hP 43 _ rfl
  · exact hP 44 _ rfl
  · exact hP 45 _ rfl
  · exact hP 46 _ rfl
  · exact hP 49 _ rfl
theorem gx_gC6 (g : gw_G) (h qp p1 qo o1 o2 o3 qn qk qz z1 z2 z3 qy y1 y2 y3 qt t1 : Nat) (n k : Nat → Nat) : ∀ i, 60 ≤ i → i < 70 → ∃ e : va_E, (gx_LC g h qp p1 qo o1 o2 o3 qn qk qz z1 z2 z3 qy y1 y2 y3 qt t1 n k)[gx_pC i]? = some (gx_aC h qp p1 qo o1 o2 o3 qn qk qz z1 z2 z3 qy y1 y2 y3 qt t1 n k i, e) := by
  intro i h1 h2
  rcases (show i = 60 ∨ i = 61 ∨ i = 62 ∨ i = 63 ∨ i = 64 ∨ i = 65 ∨ i = 66 ∨ i = 67 ∨ i = 68 ∨ i = 69 by omega) with rfl | rfl | rfl | rfl | rfl | rfl | rfl | rfl | rfl | rfl <;> exact ⟨_, rfl⟩
theorem gx_tC6 {D : va_G} {H : Heap} (g : gw_G) (h qp p1 qo o1 o2 o3 qn qk qz z1 z2 z3 qy y1 y2 y3 qt t1 : Nat) (n k : Nat → Nat) (hP : va_P D vwCl (gx_LC g h qp p1 qo o1 o2 o3 qn qk qz z1 z2 z3 qy y1 y2 y3 qt t1 n k) H) : ∀ i, 60 ≤ i → i < 70 → va_at D vwCl (gx_aC h qp p1 qo o1 o2 o3 qn qk qz z1 z2 z3 qy y1 y2 y3 qt t1 n k i, tC g (gx_aC h qp p1 qo o1 o2 o3 qn qk qz z1 z2 z3 qy y1 y2 y3 qt t1 n k) i (gx_sC.1 i) (gx_sC.2.1 i) (gx_sC.2.2 i)) H := by
  intro i h1 h2
  rcases (show i = 60 ∨ i = 61 ∨ i = 62 ∨ i = 63 ∨ i = 64 ∨ i = 65 ∨ i = 66 ∨ i = 67 ∨ i = 68 ∨ i = 69 by omega) with rfl | rfl | rfl | rfl | rfl | rfl | rfl | rfl | rfl | rfl
  · exact hP 50 _ rfl
  · exact hP 51 _ rfl
  · exact hP 52 _ rfl
  · exact hP 53 _ rfl
  · exact hP 54 _ rfl
  · exact hP 55 _ rfl
  · exact hP 56 _ rfl
  · exact hP 57 _ rfl
  · exact hP 58 _ rfl
  · exact hP 59 _ rfl
theorem gx_gC7 (g : gw_G) (h qp p1 qo o1 o2 o3 qn qk qz z1 z2 z3 qy y1 y2 y3 qt t1 : Nat) (n k : Nat → Nat) : ∀ i, 70 ≤ i → i < 83 → ∃ e : va_E, (gx_LC g h qp p1 qo o1 o2 o3 qn qk qz z1 z2 z3 qy y1 y2 y3 qt t1 n k)[gx_pC i]? = some (gx_aC h qp p1 qo o1 o2 o3 qn qk qz z1 z2 z3 qy y1 y2 y3 qt t1 n k i, e) := by
  intro i h1 h2
  rcases (show i = 70 ∨ i = 71 ∨ i = 72 ∨ i = 73 ∨ i = 74 ∨ i = 75 ∨ i = 76 ∨ i = 77 ∨ i = 78 ∨ i = 79 ∨ i = 80 ∨ i = 81 ∨ i = 82 by omega) with rfl | rfl | rfl | rfl | rfl | rfl | rfl | rfl | rfl | rfl | rfl | rfl | rfl <;> exact ⟨_, rfl⟩
theorem gx_tC7 {D : va_G} {H : Heap} (g : gw_G) (h qp p1 qo o1 o2 o3 qn qk qz z1 z2 z3 qy y1 y2 y3 qt t1 : Nat) (n k : Nat → Nat) (hP : va_P D vwCl (gx_LC g h qp p1 qo o1 o2 o3 qn qk qz z1 z2 z3 qy y1 y2 y3 qt t1 n k) H) : ∀ i, 70 ≤ i → i < 83 → va_at D vwCl (gx_aC h qp p1 qo o1 o2 o3 qn qk qz z1 z2 z3 qy y1 y2 y3 qt t1 n k i, tC g (gx_aC h qp p1 qo o1 o2 o3 qn qk qz z1 z2 z3 qy y1 y2 y3 qt t1 n k) i (gx_sC.1 i) (gx_sC.2.1 i) (gx_sC.2.2 i)) H := by
  intro i h1 h2
  rcases (show i = 70 ∨ i = 71 ∨ i = 72 ∨ i = 73 ∨ i = 74 ∨ i = 75 ∨ i = 76 ∨ i = 77 ∨ i = 78 ∨ i = 79 ∨ i = 80 ∨ i = 81 ∨ i = 82 by omega) with rfl | rfl | rfl | rfl | rfl | rfl | rfl | rfl | rfl | rfl | rfl | rfl | rfl
  · exact hP 60 _ rfl
  · exact hP 61 _ rfl
  · exact hP 62 _ rfl
  · exact hP 63 _ rfl
  · exact hP 64 _ rfl
  · exact hP 65 _ rfl
  · exact hP 66 _ rfl
  · exact hP 67 _ rfl
  · exact hP 68 _ rfl
  · exact hP 69 _ rfl
  · exact hP 70 _ rfl
  · exact hP 71 _ rfl
  · exact hP 72 _ rfl
theorem gx_toC {D : va_G} {g : gw_G} {A : Nat → Prop} {H : Heap} {w : va_W} {q : Nat} (hw : shX7 g q w) (hP : va_P D vwCl w H) (hD : va_D A w) : ∃ ad : Nat → Nat, ad 0 = q ∧ va_P D vwCl (gw_w (tC g ad) 83 ad gx_sC) H ∧ gw_D A 83 ad ∧ ∀ i, i < 83 → ∃ (k : Nat) (e : va_E), w[k]? = some (ad i, e) := by
  obtain ⟨qp, qo, qn, qk, qz, qy, qt, wp, wo, wn, wk, wz, wy, wt, ⟨⟨p1, rfl⟩, ⟨o1, o2, o3, rfl⟩, ⟨n, rfl⟩, ⟨k, rfl⟩, ⟨z1, z2, z3, rfl⟩, ⟨y1, y2, y3, rfl⟩, ⟨t1, rfl⟩⟩, rfl⟩ := hw
  have hP : va_P D vwCl (gx_LC g q qp p1 qo o1 o2 o3 qn qk qz z1 z2 z3 qy y1 y2 y3 qt t1 n k) H := hP
  have hD : va_D A (gx_LC g q qp p1 qo o1 o2 o3 qn qk qz z1 z2 z3 qy y1 y2 y3 qt t1 n k) := hD
  show ∃ ad : Nat → Nat, ad 0 = q ∧ va_P D vwCl (gw_w (tC g ad) 83 ad gx_sC) H ∧ gw_D A 83 ad ∧ ∀ i, i < 83 → ∃ (k' : Nat) (e : va_E), (gx_LC g q qp p1 qo o1 o2 o3 qn qk qz z1 z2 z3 qy y1 y2 y3 qt t1 n k)[k']? = some (ad i, e)
  have hg : ∀ i, i < 83 → ∃ e : va_E, (gx_LC g q qp p1 qo o1 o2 o3 qn qk qz z1 z2 z3 qy y1 y2 y3 qt t1 n k)[gx_pC i]? = some (gx_aC q qp p1 qo o1 o2 o3 qn qk qz z1 z2 z3 qy y1 y2 y3 qt t1 n k i, e) := by
    intro i hi
    rcases (show (0 ≤ i ∧ i < 10) ∨ (10 ≤ i ∧ i < 20) ∨ (20 ≤ i ∧ i < 30) ∨ (30 ≤ i ∧ i < 40) ∨ (40 ≤ i ∧ i < 50) ∨ (50 ≤ i ∧ i < 60) ∨ (60 ≤ i ∧ i < 70) ∨ (70 ≤ i ∧ i < 83) by omega) with ⟨a, b⟩ | ⟨a, b⟩ | ⟨a, b⟩ | ⟨a, b⟩ | ⟨a, b⟩ | ⟨a, b⟩ | ⟨a, b⟩ | ⟨a, b⟩
    · exact gx_gC0 g q qp p1 qo o1 o2 o3 qn qk qz z1 z2 z3 qy y1 y2 y3 qt t1 n k i a b
    · exact gx_gC1 g q qp p1 qo o1 o2 o3 qn qk qz z1 z2 z3 qy y1 y2 y3 qt t1 n k i a b
    · exact gx_gC2 g q qp p1 qo o1 o2 o3 qn qk qz z1 z2 z3 qy y1 y2 y3 qt t1 n k i a b
    · exact gx_gC3 g q qp p1 qo o1 o2 o3 qn qk qz z1 z2 z3 qy y1 y2 y3 qt t1 n k i a b
    · exact gx_gC4 g q qp p1 qo o1 o2 o3 qn qk qz z1 z2 z3 qy y1 y2 y3 qt t1 n k i a b
    · exact gx_gC5 g q qp p1 qo o1 o2 o3 qn qk qz z1 z2 z3 qy y1 y2 y3 qt t1 n k i a b
    · exact gx_gC6 g q qp p1 qo o1 o2 o3 qn qk qz z1 z2 z3 qy y1 y2 y3 qt t1 n k i a b
    · exact gx_gC7 g q qp p1 qo o1 o2 o3 qn qk qz z1 z2 z3 qy y1 y2 y3 qt t1 n k i a b
  have ht : ∀ i, i < 83 → va_at D vwCl (gx_aC q qp p1 qo o1 o2 o3 qn qk qz z1 z2 z3 qy y1 y2 y3 qt t1 n k i, tC g (gx_aC q qp p1 qo o1 o2 o3 qn qk qz z1 z2 z3 qy y1 y2 y3 qt t1 n k) i (gx_sC.1 i) (gx_sC.2.1 i) (gx_sC.2.2 i)) H := by
    intro i hi
    rcases (show (0 ≤ i ∧ i < 10) ∨ (10 ≤ i ∧ i < 20) ∨ (20 ≤ i ∧ i < 30) ∨ (30 ≤ i ∧ i < 40) ∨ (40 ≤ i ∧ i < 50) ∨ (50 ≤ i ∧ i < 60) ∨ (60 ≤ i ∧ i < 70) ∨ (70 ≤ i ∧ i < 83) by omega) with ⟨a, b⟩ | ⟨a, b⟩ | ⟨a, b⟩ | ⟨a, b⟩ | ⟨a, b⟩ | ⟨a, b⟩ | ⟨a, b⟩ | ⟨a, b⟩
    · exact gx_tC0 g q qp p1 qo o1 o2 o3 qn qk qz z1 z2 z3 qy y1 y2 y3 qt t1 n k hP i a b
    · exact gx_tC1 g q qp p1 qo o1 o2 o3 qn qk qz z1 z2 z3 qy y1 y2 y3 qt t1 n k hP i a b
    · exact gx_tC2 g q qp p1 qo o1 o2 o3 qn qk qz z1 z2 z3 qy y1 y2 y3 qt t1 n k hP i a b
    · exact gx_tC3 g q qp p1 qo o1 o2 o3 qn qk qz z1 z2 z3 qy y1 y2 y3 qt t1 n k hP i a b
    · exact gx_tC4 g q qp p1 qo o1 o2 o3 qn qk qz z1 z2 z3 qy y1 y2 y3 qt t1 n k hP i a b
    · exact gx_tC5 g q qp p1 qo o1 o2 o3 qn qk qz z1 z2 z3 qy y1 y2 y3 qt t1 n k hP i a b
    · exact gx_tC6 g q qp p1 qo o1 o2 o3 qn qk qz z1 z2 z3 qy y1 y2 y3 qt t1 n k hP i a b
    · exact gx_tC7 g q qp p1 qo o1 o2 o3 qn qk qz z1 z2 z3 qy y1 y2 y3 qt t1 n k hP i a b
  obtain ⟨r1, r2⟩ := gx_turn gx_pC gx_pC_inj hD hg ht
  exact ⟨gx_aC q qp p1 qo o1 o2 o3 qn qk qz z1 z2 z3 qy y1 y2 y3 qt t1 n k, rfl, r1, r2, fun i hi => ⟨gx_pC i, hg i hi⟩⟩
def gx_aM (h q1 q2 q3 q4 q5 q6 q7 q8 q9 q10 q11 q12 q13 q14 q15 q16 q17 q18 q19 q20 q21 q22 : Nat) : Nat → Nat := fun i => [h, q1, q2, q3, q4, q5, q6, q7, q8, q9, q10, q11, q12, q13, q14, q15, q16, q17, q18, q19, q20, q21, q22].getD i 0
theorem gx_toM {D : va_G} {g : gw_G} {A : Nat → Prop} {H : Heap} {w : va_W} {q : Nat} (hw : shX8 g q w) (hP : va_P D vwCl w H) (hD : va_D A w) : ∃ ad : Nat → Nat, ad 0 = q ∧ va_P D vwCl (gw_w (tM g ad) 23 ad gx_sM) H ∧ gw_D A 23 ad ∧ ∀ i, i < 23 → ∃ (k : Nat) (e : va_E), w[k]? = some (ad i, e) := by
  obtain ⟨q1, q2, q3, q4, q5, q6, q7, q8, q9, q10, q11, q12, q13, q14, q15, q16, q17, q18, q19, q20, q21, q22, rfl⟩ := hw
  have hg : ∀ i, i < 23 → ∃ e : va_E, ([(q, .inr (8, [.int 0, .int 0, .ref q1, .ref q2, .ref q3, .ref q4, .ref q5, .ref q6, .ref q7, .ref q8, .int 0, .ref q9, .ref q10, .int 0, .int 0, .int 0, .ref q11, .ref q12, .int 0, .ref q13, .int 0, .int 0, .int 0, .long 0, .int 0, .int 0, .int 0, .int 0, .int 0, .int 0, .int 0, .int 0, .ref q14, .ref q15, .ref q16, .ref q17, .ref q18, .ref q19, .ref q20, .ref q21, .ref q22, .long 0])), (q1, .inl (g.1, 6, .inl gx_0)), (q2, .inl (g.1, 6, .inl gx_0)), (q3, .inl (g.1, 6, .inl gx_0)), (q4, .inl (g.1, 12, .inl gx_0)), (q5, .inl (g.1, 12, .inl gx_0)), (q6, .inl (g.1, 6, .inl gx_0)), (q7, .inl (g.1, 6, .inl gx_0)), (q8, .inl (g.1, 6, .inl gx_0)), (q9, .inl (g.1, 8, .inl gx_0)), (q10, .inl (g.1, 8, .inl gx_0)), (q11, .inl (g.1, 8, .inl gx_0)), (q12, .inl (g.1, 8, .inl gx_0)), (q13, .inl (g.2.2.1, 24, .inl gx_0)), (q14, .inl (g.1, 6, .inl gx_0)), (q15, .inl (g.1, 6, .inl gx_0)), (q16, .inl (g.1, 6, .inl gx_0)), (q17, .inl (g.1, 6, .inl gx_0)), (q18, .inl (g.1, 6, .inl gx_0)), (q19, .inl (g.1, 8, .inl gx_0)), (q20, .inl (g.1, 8, .inl gx_0)), (q21, .inl (g.1, 8, .inl gx_0)), (q22, .inl (g.1, 8, .inl gx_0))] : va_W)[i]? = some (gx_aM q q1 q2 q3 q4 q5 q6 q7 q8 q9 q10 q11 q12 q13 q14 q15 q16 q17 q18 q19 q20 q21 q22 i, e) := by
    intro i hi
    rcases (show i = 0 ∨ i = 1 ∨ i = 2 ∨ i = 3 ∨ i = 4 ∨ i = 5 ∨ i = 6 ∨ i = 7 ∨ i = 8 ∨ i = 9 ∨ i = 10 ∨ i = 11 ∨ i = 12 ∨ i = 13 ∨ i = 14 ∨ i = 15 ∨ i = 16 ∨ i = 17 ∨ i = 18 ∨ i = 19 ∨ i = 20 ∨ i = 21 ∨ i = 22 by omega) with rfl | rfl | rfl | rfl | rfl | rfl | rfl | rfl | rfl | rfl | rfl | rfl | rfl | rfl | rfl | rfl | rfl | rfl | rfl | rfl | rfl | rfl | rfl <;> exact ⟨_, rfl⟩
  have ht : ∀ i, i < 23 → va_at D vwCl (gx_aM q q1 q2 q3 q4 q5 q6 q7 q8 q9 q10 q11 q12 q13 q14 q15 q16 q17 q18 q19 q20 q21 q22 i, tM g (gx_aM q q1 q2 q3 q4 q5 q6 q7 q8 q9 q10 q11 q12 q13 q14 q15 q16 q17 q18 q19 q20 q21 q22) i (gx_sM.1 i) (gx_sM.2.1 i) (gx_sM.2.2 i)) H := by
    intro i hi
    rcases (show i = 0 ∨ i = 1 ∨ i = 2 ∨ i = 3 ∨ i = 4 ∨ i = 5 ∨ i = 6 ∨ i = 7 ∨ i = 8 ∨ i = 9 ∨ i = 10 ∨ i = 11 ∨ i = 12 ∨ i = 13 ∨ i = 14 ∨ i = 15 ∨ i = 16 ∨ i = 17 ∨ i = 18 ∨ i = 19 ∨ i = 20 ∨ i = 21 ∨ i = 22 by omega) with rfl | rfl | rfl | rfl | rfl | rfl | rfl | rfl | rfl | rfl | rfl | rfl | rfl | rfl | rfl | rfl | rfl | rfl | rfl | rfl | rfl | rfl | rfl
    · exact hP 0 _ rfl
    · exact hP 1 _ rfl
    · exact hP 2 _ rfl
    · exact hP 3 _ rfl
    · exact hP 4 _ rfl
    · exact hP 5 _ rfl
    · exact hP 6 _ rfl
    · exact hP 7 _ rfl
    · exact hP 8 _ rfl
    · exact hP 9 _ rfl
    · exact hP 10 _ rfl
    · exact hP 11 _ rfl
    · exact hP 12 _ rfl
    · exact hP 13 _ rfl
    · exact hP 14 _ rfl
    · exact hP 15 _ rfl
    · exact hP 16 _ rfl
    · exact hP 17 _ rfl
    · exact hP 18 _ rfl
    · exact hP 19 _ rfl
    · exact hP 20 _ rfl
    · exact hP 21 _ rfl
    · exact hP 22 _ rfl
  obtain ⟨r1, r2⟩ := gx_turn (fun i => i) (fun _ _ _ _ e => e) hD hg ht
  exact ⟨gx_aM q q1 q2 q3 q4 q5 q6 q7 q8 q9 q10 q11 q12 q13 q14 q15 q16 q17 q18 q19 q20 q21 q22, rfl, r1, r2, fun i hi => ⟨i, hg i hi⟩⟩
