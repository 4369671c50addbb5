/-! Ways to hang: the class's search is the filtered list. -/
def zAsk : List (Nat × Nat) → (Nat → Option Nat) → Option (Nat → Option Nat)
  | [], B => some B
  | p :: F, B => if B p.1 = none ∨ B p.1 = some p.2 then zAsk F (fun t => if t = p.1 then some p.2 else B t) else none
def zC (n : Nat) (B : Nat → Option Nat) (l : List Nat) : Prop := ∀ t u, t < n → B t = some u → zPos l u = zHookNext n (zPos l t)
theorem zC_step {n : Nat} {B : Nat → Option Nat} {p : Nat × Nat} {l : List Nat} (hp : p.1 < n) (h : B p.1 = none ∨ B p.1 = some p.2) : zC n (fun t => if t = p.1 then some p.2 else B t) l ↔ zC n B l ∧ zPos l p.2 = zHookNext n (zPos l p.1) := by
  constructor
  · intro q
    refine ⟨fun t u ht hu => ?_, q p.1 p.2 hp (by simp)⟩
    refine q t u ht ?_
    show (if t = p.1 then some p.2 else B t) = some u
    by_cases e : t = p.1
    · subst e
      rw [if_pos rfl]
      rcases h with h | h
      · rw [h] at hu; simp at hu
      · rw [← h]; exact hu
    · rw [if_neg e]; exact hu
  · rintro ⟨q1, q2⟩ t u ht hu
    have hu : (if t = p.1 then some p.2 else B t) = some u := hu
    by_cases e : t = p.1
    · rw [if_pos e] at hu
      cases hu
      rw [e]; exact q2
    · rw [if_neg e] at hu
      exact q1 t u ht hu
theorem zCould_cons {n : Nat} {p : Nat × Nat} {F : List (Nat × Nat)} {l : List Nat} : zCould n (p :: F) l = true ↔ zPos l p.2 = zHookNext n (zPos l p.1) ∧ zCould n F l = true := by
  unfold zCould
  rw [List.all_cons, Bool.and_eq_true, decide_eq_true_eq]
theorem zAsk_some {n : Nat} {l : List Nat} : ∀ F B B', (∀ p, p ∈ F → p.1 < n ∧ p.2 < n ∧ p.1 ≠ p.2) → zAsk F B = some B' → (zC n B' l ↔ zC n B l ∧ zCould n F l = true) := by
  intro F
  induction F with
  | nil =>
    intro B B' _ h
    cases h
    exact ⟨fun q => ⟨q, rfl⟩, fun q => q.1⟩
  | cons p F ih =>
    intro B B' hF h
    unfold zAsk at h
    by_cases hc : B p.1 = none ∨ B p.1 = some p.2
    · rw [if_pos hc] at h
      rw [ih _ B' (fun q hq => hF q (List.mem_cons_of_mem _ hq)) h, zC_step (hF p List.mem_cons_self).1 hc, zCould_cons, and_assoc]
    · rw [if_neg hc] at h
      simp at h
theorem zAsk_none {n : Nat} {l : List Nat} (hl : l ∈ zAll n) : ∀ F B, (∀ p, p ∈ F → p.1 < n ∧ p.2 < n ∧ p.1 ≠ p.2) → (∀ t u, t < n → B t = some u → u < n) → zAsk F B = none → ¬ (zC n B l ∧ zCould n F l = true) := by
  intro F
  induction F with
  | nil => intro B _ _ h; cases h
  | cons p F ih =>
    intro B hF hB h
    obtain ⟨p1, p2, -⟩ := hF p List.mem_cons_self
    unfold zAsk at h
    rw [zCould_cons, ← and_assoc]
    by_cases hc : B p.1 = none ∨ B p.1 = some p.2
    · rw [if_pos hc] at h
      rw [← zC_step p1 hc]
      refine ih _ (fun q hq => hF q (List.mem_cons_of_mem _ hq)) (fun t u ht hu => ?_) h
      have hu : (if t = p.1 then some p.2 else B t) = some u := hu
      by_cases e : t = p.1
      · rw [if_pos e] at hu
        cases hu
        exact p2
      · rw [if_neg e] at hu
        exact hB t u ht hu
    · rintro ⟨⟨q1, q2⟩, -⟩
      cases hb : B p.1 with
      | none => exact hc (Or.inl hb)
      | some u =>
        have hu := hB p.1 u p1 hb
        have e := q1 p.1 u p1 hb
        rw [← q2] at e
        have e2 := zPos_get hl hu
        rw [e, zPos_get hl p2] at e2
        subst e2
        exact hc (Or.inr hb)
def zCan (n : Nat) (B : Nat → Option Nat) (pre : List Nat) (t : Nat) : Bool :=
  decide (pre.length = 0) || ((decide (B (pre.getD (pre.length - 1) 0) = none) || decide (B (pre.getD (pre.length - 1) 0) = some t)) && (decide (pre.length < n - 1) || (decide (B t = none) || decide (B t = some (pre.getD (pre.length - 1) 0)))))
def zGo (n : Nat) (B : Nat → Option Nat) : Nat → List Nat → Nat → List (List Nat)
  | 0, pre, _ => [pre]
  | k + 1, pre, m => ((zLeft n m).filter (zCan n B pre)).flatMap (fun t => zGo n B k (pre ++ [t]) (m ||| 2 ^ t))
def zGoOk (n : Nat) (B : Nat → Option Nat) : List Nat → List Nat → Bool
  | _, [] => true
  | pre, t :: r => zCan n B pre t && zGoOk n B (pre ++ [t]) r
theorem zGo_eq {n : Nat} {B : Nat → Option Nat} : ∀ k pre m, (zLeft n m).length = k → zGo n B k pre m = ((zPerms k (zLeft n m)).filter (zGoOk n B pre)).map (fun r => pre ++ r) := by
  intro k
  induction k with
  | zero =>
    intro pre m _
    show [pre] = [pre ++ []]
    rw [List.append_nil]
  | succ k ih =>
    intro pre m hl
    have key : ∀ ts : List Nat, (∀ t, t ∈ ts → t ∈ zLeft n m) → (ts.filter (zCan n B pre)).flatMap (fun t => zGo n B k (pre ++ [t]) (m ||| 2 ^ t)) = ((ts.flatMap (fun t => (zPerms k ((zLeft n m).erase t)).map (fun l => t :: l))).filter (zGoOk n B pre)).map (fun r => pre ++ r) := by
      intro ts
      induction ts with
      | nil => intro _; rfl
      | cons t ts iht =>
        intro hts
        have e1 := iht (fun x hx => hts x (List.mem_cons_of_mem _ hx))
        have ht := hts t List.mem_cons_self
        have h2 := ih (pre ++ [t]) (m ||| 2 ^ t) (by rw [← zLeft_erase, List.length_erase_of_mem ht]; omega)
        rw [List.flatMap_cons, List.filter_append, List.map_append, ← e1, List.filter_cons]
        cases hc : zCan n B pre t with
        | false =>
          rw [if_neg Bool.false_ne_true]
          have : ((zPerms k ((zLeft n m).erase t)).map (fun l => t :: l)).filter (zGoOk n B pre) = [] := by
            rw [List.filter_eq_nil_iff]
            intro x hx
            obtain ⟨r, -, rfl⟩ := List.mem_map.mp hx
            unfold zGoOk
            rw [hc, Bool.false_and]
            exact Bool.false_ne_true
          rw [this]
          rfl
        | true =>
          rw [if_pos rfl, List.flatMap_cons, h2, ← zLeft_erase]
          congr 1
          rw [List.filter_map, List.map_map]
          have e3 : (zGoOk n B pre ∘ fun l => t :: l) = zGoOk n B (pre ++ [t]) := by
            funext r
            show zGoOk n B pre (t :: r) = _
            unfold zGoOk
            rw [hc, Bool.true_and]
            cases r <;> rfl
          rw [e3]
          apply List.map_congr_left
          intro r _
          show pre ++ [t] ++ r = pre ++ (t :: r)
          rw [List.append_assoc]; rfl
    exact key (zLeft n m) (fun t ht => ht)
theorem zGoOk_iff {n : Nat} {B : Nat → Option Nat} : ∀ r pre, zGoOk n B pre r = true ↔ ∀ i, pre.length ≤ i → i < (pre ++ r).length → zCan n B ((pre ++ r).take i) ((pre ++ r).getD i 0) = true := by
  intro r
  induction r with
  | nil =>
    intro pre
    rw [List.append_nil]
    exact ⟨fun _ i h1 h2 => by omega, fun _ => rfl⟩
  | cons t r ih =>
    intro pre
    unfold zGoOk
    rw [Bool.and_eq_true, ih (pre ++ [t]), List.append_assoc]
    show _ ∧ (∀ i, (pre ++ [t]).length ≤ i → i < (pre ++ (t :: r)).length → zCan n B ((pre ++ (t :: r)).take i) ((pre ++ (t :: r)).getD i 0) = true) ↔ _
    have e1 : (pre ++ (t :: r)).take pre.length = pre := List.take_left' rfl
    have e2 : (pre ++ (t :: r)).getD pre.length 0 = t := by
      rw [List.getD_eq_getElem?_getD, List.getElem?_append_right (Nat.le_refl _), Nat.sub_self]
      rfl
    rw [List.length_append (as := pre) (bs := [t]), show [t].length = 1 from rfl]
    constructor
    · rintro ⟨h1, h2⟩ i hi1 hi2
      by_cases e : i = pre.length
      · subst e
        rw [e1, e2]; exact h1
      · exact h2 i (by omega) hi2
    · intro h
      refine ⟨?_, fun i h1 h2 => h i (by omega) h2⟩
      have := h pre.length (Nat.le_refl _) (by rw [List.length_append, List.length_cons]; omega)
      rw [e1, e2] at this
      exact this
theorem zCan_iff {n : Nat} {B : Nat → Option Nat} {l : List Nat} (hl : l.length = n) {i : Nat} (hi : i < n) : zCan n B (l.take i) (l.getD i 0) = true ↔ (i = 0 ∨ ((B (l.getD (i - 1) 0) = none ∨ B (l.getD (i - 1) 0) = some (l.getD i 0)) ∧ (i < n - 1 ∨ (B (l.getD i 0) = none ∨ B (l.getD i 0) = some (l.getD (i - 1) 0))))) := by
  unfold zCan
  have e1 : (l.take i).length = i := by rw [List.length_take]; omega
  rw [e1]
  by_cases h0 : i = 0
  · simp [h0]
  · have e2 : (l.take i).getD (i - 1) 0 = l.getD (i - 1) 0 := by
      rw [List.getD_eq_getElem?_getD, List.getElem?_take_of_lt (by omega), List.getD_eq_getElem?_getD]
    rw [e2]
    simp [h0]
theorem zGoOk_could {n : Nat} {B : Nat → Option Nat} {l : List Nat} (h3 : 3 ≤ n) (hl : l ∈ zAll n) (hB : ∀ t u, t < n → B t = some u → u < n) : zGoOk n B [] l = true ↔ zC n B l := by
  have hlen := zAll_len hl
  rw [zGoOk_iff]
  rw [List.nil_append, hlen]
  have key : ∀ h, h < n → ((B (l.getD h 0) = none ∨ B (l.getD h 0) = some (l.getD (zHookNext n h) 0)) ↔ ∀ u, B (l.getD h 0) = some u → zPos l u = zHookNext n h) := by
    intro h hh
    have hx := zHookNext_lt hh h3
    constructor
    · rintro (q | q) u hu
      · rw [q] at hu; simp at hu
      · rw [q] at hu
        cases hu
        exact zPos_of hl hx.1
    · intro q
      cases hb : B (l.getD h 0) with
      | none => exact Or.inl rfl
      | some u =>
        right
        have := q u hb
        have hu := hB _ u (zAll_getlt hl hh) hb
        have e := zPos_get hl hu
        rw [this] at e
        rw [e]
  constructor
  · intro H t u ht hu
    have hpt := zPos_lt hl ht
    have hgt := zPos_get hl ht
    have K := key (zPos l t) hpt
    rw [hgt] at K
    refine K.mp ?_ u hu
    by_cases hlast : zPos l t + 1 < n
    · have := (zCan_iff hlen hlast).mp (H (zPos l t + 1) (by simp) hlast)
      rcases this with h0 | ⟨h1, -⟩
      · omega
      · rw [Nat.add_sub_cancel, hgt] at h1
        unfold zHookNext
        rw [if_pos hlast]
        exact h1
    · have := (zCan_iff hlen hpt).mp (H (zPos l t) (by simp) hpt)
      rcases this with h0 | ⟨-, h1⟩
      · omega
      · rcases h1 with h1 | h1
        · omega
        · rw [hgt] at h1
          unfold zHookNext
          rw [if_neg hlast]
          exact h1
  · intro H i _ hi
    rw [zCan_iff hlen hi]
    by_cases h0 : i = 0
    · exact Or.inl h0
    · refine Or.inr ⟨?_, ?_⟩
      · have K := (key (i - 1) (by omega)).mpr (fun u hu => by
          have := H _ u (zAll_getlt hl (show i - 1 < n by omega)) hu
          rw [zPos_of hl (show i - 1 < n by omega)] at this
          exact this)
        unfold zHookNext at K
        rw [if_pos (show i - 1 + 1 < n by omega), Nat.sub_add_cancel (by omega)] at K
        exact K
      · by_cases hlast : i < n - 1
        · exact Or.inl hlast
        · refine Or.inr ?_
          have K := (key i hi).mpr (fun u hu => by
            have := H _ u (zAll_getlt hl hi) hu
            rw [zPos_of hl hi] at this
            exact this)
          unfold zHookNext at K
          rw [if_neg (show ¬ i + 1 < n by omega)] at K
          exact K
/-- what the class's search finds -/
theorem zGo_ways {n : Nat} {F : List (Nat × Nat)} {B : Nat → Option Nat} (h3 : 3 ≤ n) (hF : ∀ p, p ∈ F → p.1 < n ∧ p.2 < n ∧ p.1 ≠ p.2) (hA : zAsk F (fun _ => none) = some B) (hB : ∀ t u, t < n → B t = some u → u < n) : zGo n B n [] 0 = zWays n F := by
  rw [zGo_eq n [] 0 (by rw [zLeft_0, List.length_range]), zLeft_0]
  unfold zWays zAll
  have e : (zPerms n (List.range n)).filter (zGoOk n B []) = (zPerms n (List.range n)).filter (zCould n F) := by
    apply List.filter_congr
    intro l hl
    have h1 := zGoOk_could h3 hl hB
    have h2 := zAsk_some (n := n) (l := l) F (fun _ => none) B hF hA
    have h4 : zC n (fun _ => none) l := fun t u _ hu => by simp at hu
    rw [Bool.eq_iff_iff, h1, h2]
    exact ⟨fun q => q.2, fun q => ⟨h4, q⟩⟩
  rw [e]
  simp
theorem zAsk_ways {n : Nat} {F : List (Nat × Nat)} (hF : ∀ p, p ∈ F → p.1 < n ∧ p.2 < n ∧ p.1 ≠ p.2) (hA : zAsk F (fun _ => none) = none) : zWays n F = [] := by
  unfold zWays
  rw [List.filter_eq_nil_iff]
  intro l hl q
  exact zAsk_none hl F (fun _ => none) hF (fun t u _ hu => by simp at hu) hA ⟨fun t u _ hu => by simp at hu, q⟩
theorem zAsk_lt {n : Nat} : ∀ F B B', (∀ p, p ∈ F → p.1 < n ∧ p.2 < n ∧ p.1 ≠ p.2) → (∀ t u, t < n → B t = some u → u < n) → zAsk F B = some B' → (∀ t u, t < n → B' t = some u → u < n) := by
  intro F
  induction F with
  | nil => intro B B' _ hB h; cases h; exact hB
  | cons p F ih =>
    intro B B' hF hB h
    unfold zAsk at h
    by_cases hc : B p.1 = none ∨ B p.1 = some p.2
    · rw [if_pos hc] at h
      refine ih _ B' (fun q hq => hF q (List.mem_cons_of_mem _ hq)) (fun t u ht hu => ?_) h
      have hu : (if t = p.1 then some p.2 else B t) = some u := hu
      by_cases e : t = p.1
      · rw [if_pos e] at hu
        cases hu
        exact (hF p List.mem_cons_self).2.1
      · rw [if_neg e] at hu
        exact hB t u ht hu
    · rw [if_neg hc] at h
      simp at h
