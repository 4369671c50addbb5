/-! Class and reference as a whole. Best hanging, and the ways to hang, as lists of towns by hooks. -/
/-- all rows of the towns in rem, each once, the first by towns first -/
def zPerms : Nat → List Nat → List (List Nat)
  | 0, _ => [[]]
  | k + 1, rem => rem.flatMap (fun t => (zPerms k (rem.erase t)).map (fun l => t :: l))
def zAll (n : Nat) : List (List Nat) := zPerms n (List.range n)
/-- the less of COST and of CARRYING, at so many YARDS -/
def zLess (y : Nat) : Nat :=
  let i := 10 - y
  let x := (10 - i) / 3
  Nat.min (20 + 60 * x + (2 * y + 3) * (10 - i - x)) (10 * (2 * y + 3))
/-- what a row of towns, from hook h on, takes -/
def zCost (Y O : Nat → Nat) : Nat → List Nat → Nat
  | _, [] => 0
  | h, t :: l => O t * zLess (Y h) + zCost Y O (h + 1) l
/-- the first of those that take least -/
def zMin (f : List Nat → Nat) : List (List Nat) → List Nat
  | [] => []
  | p :: ps => match ps with
    | [] => p
    | _ :: _ => if f (zMin f ps) < f p then zMin f ps else p
def zBest (n : Nat) (Y O : Nat → Nat) : List Nat := zMin (zCost Y O 0) (zAll n)
def zHookNext (n h : Nat) : Nat := if h + 1 < n then h + 1 else h - 1
/-- where a town hangs in a row of towns -/
def zPos (l : List Nat) (t : Nat) : Nat := l.idxOf t
def zCould (n : Nat) (F : List (Nat × Nat)) (l : List Nat) : Bool := F.all (fun p => decide (zPos l p.2 = zHookNext n (zPos l p.1)))
def zWays (n : Nat) (F : List (Nat × Nat)) : List (List Nat) := (zAll n).filter (zCould n F)
def zBits (t : Nat) (w : List (List Nat)) : Int32 := w.foldl (fun b l => b ||| ((1 : Int32) <<< (nI (zPos l t) &&& 31))) 0
def rcBest (c : gw_S) (n : Nat) (Y O : Nat → Nat) : Prop := 0 < n → rdI c 17 3 = nI (zCost Y O 0 (zBest n Y O)) ∧ ∀ h, h < n → rdI c 18 h = nI ((zBest n Y O).getD h 0)
def rcWays (c : gw_S) (n : Nat) (F : List (Nat × Nat)) : Prop := rdI c 21 3 = 0 ∨ (rdI c 21 3 = 1 ∧ (0 < n → rdI c 21 4 = nI (zWays n F).length ∧ ∀ t, t < n → rdI c 24 t = zBits t (zWays n F)))
def rcAll (c : gw_S) (P : List Nat) (n : Nat) (Y R O : Nat → Nat) (fl : Nat) (a : zS) (k : Option zS) : Prop :=
  rcPage c P ∧ rcPlan c n Y R O ∧ rcV c 9 27 ∧ rcV c 14 55 ∧ rcS c 7 27 a ∧ rdI c 0 8 = nI fl ∧ (∀ ka, k = some ka → rdI c 0 7 = 1 ∧ rcS c 12 55 ka) ∧ (k = none → rdI c 0 7 = 0) ∧ rcBest c n Y O ∧ rcWays c n (zFound a)
def rmAll (m : gw_S) (P : List Nat) (n : Nat) (Y R O : Nat → Nat) (fl : Nat) (a : zS) (k : Option zS) : Prop :=
  rmPage m P ∧ rmPlan m n Y R O ∧ rmN m n a ∧ rdI m 0 0 = nI fl ∧ (∀ ka, k = some ka → rdI m 0 26 = 1 ∧ rdI m 0 27 = nI fl ∧ rmK m n ka) ∧ (k = none → rdI m 0 26 = 0 ∨ ∃ f, f < fl ∧ rdI m 0 27 = nI f)
def zInv (P : List Nat) (n : Nat) (Y R O : Nat → Nat) (fl : Nat) (a : zS) (k : Option zS) : Prop :=
  (P.length ≤ 24 ∧ ∀ v, v ∈ P → 32 ≤ v ∧ v ≤ 126) ∧ zInvF n Y R O ∧ fl < 1000000 ∧ zInvS n a ∧ (∀ ka, k = some ka → zInvS n ka) ∧ (n = 0 → k = none)
theorem zInv.n6 {P : List Nat} {n : Nat} {Y R O : Nat → Nat} {fl : Nat} {a : zS} {k : Option zS} (h : zInv P n Y R O fl a k) : n ≤ 6 := by
  have := h.2.1.1; omega
theorem zInv.n3 {P : List Nat} {n : Nat} {Y R O : Nat → Nat} {fl : Nat} {a : zS} {k : Option zS} (h : zInv P n Y R O fl a k) (h0 : 0 < n) : 3 ≤ n := by
  have := h.2.1.1; omega
/-- the page alone is another -/
theorem rcAll.page {c d : gw_S} {P P' : List Nat} {n : Nat} {Y R O : Nat → Nat} {fl : Nat} {a : zS} {k : Option zS} (h : rcAll c P n Y R O fl a k) (hd : agI c d 1 3) (hP : rcPage d P') : rcAll d P' n Y R O fl a k := by
  obtain ⟨h1, h2, h3, h4, h5, h6, h7, h8, h9, h10⟩ := h
  refine ⟨hP, h2.fr (fun i j _ _ => hd.2 _ _ (by omega)), h3.fr (hd.R 9), h4.fr (hd.R 14), h5.fr h3 (hd.R 9) (fun i j _ _ => hd.2 _ _ (by omega)) (fun i j _ _ => hd.2 _ _ (by omega)), by rw [hd.2 _ _ (by omega)]; exact h6, fun ka hk => ?_, fun hk => by rw [hd.2 _ _ (by omega)]; exact h8 hk, fun h0 => ?_, ?_⟩
  · obtain ⟨x, y⟩ := h7 ka hk
    exact ⟨by rw [hd.2 _ _ (by omega)]; exact x, y.fr h4 (hd.R 14) (fun i j _ _ => hd.2 _ _ (by omega)) (fun i j _ _ => hd.2 _ _ (by omega))⟩
  · rw [hd.2 _ _ (by omega)]
    exact ⟨(h9 h0).1, fun x hx => by rw [hd.2 _ _ (by omega)]; exact (h9 h0).2 x hx⟩
  · unfold rcWays
    rw [hd.2 _ _ (by omega), hd.2 _ _ (by omega)]
    rcases h10 with h | ⟨h, h'⟩
    · exact Or.inl h
    · exact Or.inr ⟨h, fun h0 => ⟨(h' h0).1, fun t ht => by rw [hd.2 _ _ (by omega)]; exact (h' h0).2 t ht⟩⟩
/-- the standing alone is another, with the same found -/
theorem rcAll.now {c d : gw_S} {P : List Nat} {n : Nat} {Y R O : Nat → Nat} {fl : Nat} {a a' : zS} {k : Option zS} (h : rcAll c P n Y R O fl a k) (hd : ∀ i j, (i < 7 ∨ (12 ≤ i ∧ i < 27) ∨ 55 ≤ i) → rdI d i j = rdI c i j) (hR : ∀ j, rdR d 14 j = rdR c 14 j) (hv : rcV d 9 27) (hs : rcS d 7 27 a') (hf : zFound a' = zFound a) : rcAll d P n Y R O fl a' k := by
  obtain ⟨h1, h2, h3, h4, h5, h6, h7, h8, h9, h10⟩ := h
  refine ⟨h1.fr (hd _ _ (by omega)) (fun j => hd _ _ (by omega)), h2.fr (fun i j _ _ => hd _ _ (by omega)), hv, h4.fr hR, hs, by rw [hd _ _ (by omega)]; exact h6, fun ka hk => ?_, fun hk => by rw [hd _ _ (by omega)]; exact h8 hk, fun h0 => ?_, ?_⟩
  · obtain ⟨x, y⟩ := h7 ka hk
    exact ⟨by rw [hd _ _ (by omega)]; exact x, y.fr h4 hR (fun i j _ _ => hd _ _ (by omega)) (fun i j _ _ => hd _ _ (by omega))⟩
  · rw [hd _ _ (by omega)]
    exact ⟨(h9 h0).1, fun x hx => by rw [hd _ _ (by omega)]; exact (h9 h0).2 x hx⟩
  · rw [hf]
    unfold rcWays
    rw [hd _ _ (by omega), hd _ _ (by omega)]
    rcases h10 with h | ⟨h, h'⟩
    · exact Or.inl h
    · exact Or.inr ⟨h, fun h0 => ⟨(h' h0).1, fun t ht => by rw [hd _ _ (by omega)]; exact (h' h0).2 t ht⟩⟩
/-- the reference's numbers in passing: nothing is told of them -/
def rmScr (m d : gw_S) : Prop := ∀ i j, ¬ (i = 0 ∧ 20 ≤ j ∧ j ≤ 25) → ¬ (i = 4 ∧ 6 ≤ j) → ¬ (i = 5 ∧ 6 ≤ j) → rdI d i j = rdI m i j
theorem rmScr.refl (m : gw_S) : rmScr m m := fun _ _ _ _ _ => rfl
theorem rmScr.trans {m d e : gw_S} (h1 : rmScr m d) (h2 : rmScr d e) : rmScr m e := fun i j a b c => (h2 i j a b c).trans (h1 i j a b c)
theorem rmScr.wr {m : gw_S} {k j : Nat} {v : Int32} (h : (k = 0 ∧ 20 ≤ j ∧ j ≤ 25) ∨ (k = 4 ∧ 6 ≤ j) ∨ (k = 5 ∧ 6 ≤ j)) : rmScr m (wrI m k j v) := by
  intro x y a b c
  rw [rd_wr, if_neg]
  intro ⟨e1, e2⟩
  subst e1; subst e2
  rcases h with h | h | h
  · exact a h
  · exact b h
  · exact c h
theorem rmScr.wrL {m : gw_S} {k j : Nat} {v : Int64} : rmScr m (wrL m k j v) := fun _ _ _ _ _ => rfl
theorem rmAll.scr {m d : gw_S} {P : List Nat} {n : Nat} {Y R O : Nat → Nat} {fl : Nat} {a : zS} {k : Option zS} (h : rmAll m P n Y R O fl a k) (hI : zInv P n Y R O fl a k) (hd : rmScr m d) : rmAll d P n Y R O fl a k := by
  obtain ⟨h1, h2, h3, h4, h5, h6⟩ := h
  have hn := hI.n6
  refine ⟨h1.fr (hd _ _ (by omega) (by omega) (by omega)) (fun j => hd _ _ (by omega) (by omega) (by omega)), h2.fr (hd _ _ (by omega) (by omega) (by omega)) (fun i j _ _ => hd _ _ (by omega) (by omega) (by omega)), ?_, by rw [hd _ _ (by omega) (by omega) (by omega)]; exact h4, fun ka hk => ?_, fun hk => ?_⟩
  · refine h3.fr hn hI.2.2.2.1.1 ?_ ?_ ?_ ?_ ?_ ?_ ?_ ?_ ?_ ?_ ?_ ?_ ?_ <;> intros <;> exact hd _ _ (by omega) (by omega) (by omega)
  · obtain ⟨x, y, z⟩ := h5 ka hk
    refine ⟨by rw [hd _ _ (by omega) (by omega) (by omega)]; exact x, by rw [hd _ _ (by omega) (by omega) (by omega)]; exact y, ?_⟩
    refine z.fr hn (hI.2.2.2.2.1 ka hk).1 ?_ ?_ ?_ ?_ ?_ ?_ ?_ ?_ ?_ ?_ ?_ ?_ ?_ <;> intros <;> exact hd _ _ (by omega) (by omega) (by omega)
  · rw [hd _ _ (by omega) (by omega) (by omega), hd _ _ (by omega) (by omega) (by omega)]
    exact h6 hk
theorem rmAll.page {m d : gw_S} {P P' : List Nat} {n : Nat} {Y R O : Nat → Nat} {fl : Nat} {a : zS} {k : Option zS} (h : rmAll m P n Y R O fl a k) (hI : zInv P n Y R O fl a k) (hd : ∀ i j, ¬ (i = 0 ∧ j = 18) → i ≠ 13 → rdI d i j = rdI m i j) (hP : rmPage d P') : rmAll d P' n Y R O fl a k := by
  obtain ⟨h1, h2, h3, h4, h5, h6⟩ := h
  have hn := hI.n6
  refine ⟨hP, h2.fr (hd _ _ (by omega) (by omega)) (fun i j _ _ => hd _ _ (by omega) (by omega)), ?_, by rw [hd _ _ (by omega) (by omega)]; exact h4, fun ka hk => ?_, fun hk => ?_⟩
  · refine h3.fr hn hI.2.2.2.1.1 ?_ ?_ ?_ ?_ ?_ ?_ ?_ ?_ ?_ ?_ ?_ ?_ ?_ <;> intros <;> exact hd _ _ (by omega) (by omega)
  · obtain ⟨x, y, z⟩ := h5 ka hk
    refine ⟨by rw [hd _ _ (by omega) (by omega)]; exact x, by rw [hd _ _ (by omega) (by omega)]; exact y, ?_⟩
    refine z.fr hn (hI.2.2.2.2.1 ka hk).1 ?_ ?_ ?_ ?_ ?_ ?_ ?_ ?_ ?_ ?_ ?_ ?_ ?_ <;> intros <;> exact hd _ _ (by omega) (by omega)
  · rw [hd _ _ (by omega) (by omega), hd _ _ (by omega) (by omega)]
    exact h6 hk
theorem rmAll.now {m d : gw_S} {P : List Nat} {n : Nat} {Y R O : Nat → Nat} {fl : Nat} {a a' : zS} {k : Option zS} (h : rmAll m P n Y R O fl a k) (hI : zInv P n Y R O fl a k) (hd : ∀ i j, ¬ (i = 0 ∧ (j = 10 ∨ j = 13 ∨ j = 14 ∨ j = 15)) → (i < 4 ∨ 13 ≤ i) → rdI d i j = rdI m i j) (hs : rmN d n a') : rmAll d P n Y R O fl a' k := by
  obtain ⟨h1, h2, h3, h4, h5, h6⟩ := h
  have hn := hI.n6
  refine ⟨h1.fr (hd _ _ (by omega) (by omega)) (fun j => hd _ _ (by omega) (by omega)), h2.fr (hd _ _ (by omega) (by omega)) (fun i j _ _ => hd _ _ (by omega) (by omega)), hs, by rw [hd _ _ (by omega) (by omega)]; exact h4, fun ka hk => ?_, fun hk => ?_⟩
  · obtain ⟨x, y, z⟩ := h5 ka hk
    refine ⟨by rw [hd _ _ (by omega) (by omega)]; exact x, by rw [hd _ _ (by omega) (by omega)]; exact y, ?_⟩
    refine z.fr hn (hI.2.2.2.2.1 ka hk).1 ?_ ?_ ?_ ?_ ?_ ?_ ?_ ?_ ?_ ?_ ?_ ?_ ?_ <;> intros <;> exact hd _ _ (by omega) (by omega)
  · rw [hd _ _ (by omega) (by omega), hd _ _ (by omega) (by omega)]
    exact h6 hk
