/-! THE MATHEMATICAL STATE and how class and reference hold it.
A parcel: kind, town, whether it is harmed. A standing: town on each hook, sack on each hook, belt, found (town, in), seconds, harmed. -/
abbrev zP : Type := Nat × Nat × Bool
abbrev zS : Type := (Nat → Nat) × (Nat → List zP) × List zP × List (Nat × Nat) × Int32 × Int32
def zTown (a : zS) : Nat → Nat := a.1
def zSack (a : zS) : Nat → List zP := a.2.1
def zBelt (a : zS) : List zP := a.2.2.1
def zFound (a : zS) : List (Nat × Nat) := a.2.2.2.1
def zSec (a : zS) : Int32 := a.2.2.2.2.1
def zHarm (a : zS) : Int32 := a.2.2.2.2.2
/-- cells from lo up to hi (without it) may differ -/
def agI (c d : gw_S) (lo hi : Nat) : Prop := d.2 = c.2 ∧ ∀ a b, (a < lo ∨ hi ≤ a) → rdI d a b = rdI c a b
theorem agI.R {c d : gw_S} {lo hi : Nat} (h : agI c d lo hi) (a b : Nat) : rdR d a b = rdR c a b := by unfold rdR; rw [h.1]
theorem agI.L {c d : gw_S} {lo hi : Nat} (h : agI c d lo hi) (a b : Nat) : rdL d a b = rdL c a b := by unfold rdL; rw [h.1]
theorem agI.refl (c : gw_S) (lo hi : Nat) : agI c c lo hi := ⟨rfl, fun _ _ _ => rfl⟩
theorem agI.trans {c d e : gw_S} {lo hi : Nat} (h1 : agI c d lo hi) (h2 : agI d e lo hi) : agI c e lo hi := ⟨h2.1.trans h1.1, fun a b h => (h2.2 a b h).trans (h1.2 a b h)⟩
theorem agI.mono {c d : gw_S} {lo hi lo' hi' : Nat} (h : agI c d lo hi) (h1 : lo' ≤ lo) (h2 : hi ≤ hi') : agI c d lo' hi' := ⟨h.1, fun a b q => h.2 a b (by omega)⟩
theorem agI.wr (c : gw_S) (k j : Nat) (v : Int32) {lo hi : Nat} (h1 : lo ≤ k) (h2 : k < hi) : agI c (wrI c k j v) lo hi := ⟨rfl, fun a b h => rd_nk (by omega)⟩
-- ===== the class
def rcPage (c : gw_S) (P : List Nat) : Prop := rdI c 1 1 = nI P.length ∧ P.length ≤ 24 ∧ ∀ j v, P[j]? = some v → rdI c 2 j = nI v
def rcPlan (c : gw_S) (n : Nat) (Y R O : Nat → Nat) : Prop := rdI c 3 3 = nI n ∧ ∀ h, h < n → rdI c 4 h = nI (Y h) ∧ rdI c 5 h = nI (R h) ∧ rdI c 6 h = nI (O h)
def rcRow (c : gw_S) (q : Nat) (l : List zP) : Prop := rdI c q 3 = nI l.length ∧ l.length ≤ 9 ∧ ∀ j p, l[j]? = some p → rdI c (q + 1) j = nI p.1 ∧ rdI c (q + 2) j = nI p.2.1 ∧ rdI c (q + 3) j = zb p.2.2
/-- the rows of a standing's sacks: its own, apart -/
def rcV (c : gw_S) (k rb : Nat) : Prop := (∀ h, h < 6 → ∃ r, r < 6 ∧ rdR c k h = rb + 4 + 4 * r) ∧ ∀ h h', h < 6 → h' < 6 → rdR c k h = rdR c k h' → h = h'
def rcS (c : gw_S) (b rb : Nat) (a : zS) : Prop := (∀ h, h < 6 → rdI c (b + 1) h = nI (zTown a h)) ∧ (∀ h, h < 6 → rcRow c (rdR c (b + 2) h) (zSack a h)) ∧ rcRow c rb (zBelt a) ∧ rdI c b 5 = nI (zFound a).length ∧ (∀ j p, (zFound a)[j]? = some p → rdI c (b + 3) j = nI p.1 ∧ rdI c (b + 4) j = nI p.2) ∧ rdI c b 6 = zSec a ∧ rdI c b 7 = zHarm a
-- ===== the reference
def zWrong (t : Nat) (l : List zP) : Nat := l.countP (fun p => decide (p.2.1 ≠ t))
def zGlass (l : List zP) : Nat := l.countP (fun p => decide (p.1 = 3))
def zWhole (l : List zP) : Nat := l.countP (fun p => decide (p.1 = 3) && !p.2.2)
def rmPage (m : gw_S) (P : List Nat) : Prop := rdI m 0 18 = nI P.length ∧ ∀ j v, P[j]? = some v → rdI m 13 j = nI v
def rmPlan (m : gw_S) (n : Nat) (Y R O : Nat → Nat) : Prop := rdI m 0 1 = nI n ∧ ∀ h, h < n → rdI m 1 h = nI (Y h) ∧ rdI m 2 h = nI (R h) ∧ rdI m 3 h = nI (O h)
/-- a standing: cells of hangsOn, manyIn, wrongIn, glassIn, wholeIn, beltKind, beltTown, foundTown, foundIn; places of onBelt, seconds, harmed, found in cell 0 -/
def rmS (m : gw_S) (n : Nat) (kh km kw kg ko kk kt k1 k2 jb js jh jf : Nat) (a : zS) : Prop := (∀ h, h < n → rdI m kh h = nI (zTown a h)) ∧ (∀ h, h < n → rdI m km (zTown a h) = nI (zSack a h).length ∧ rdI m kw (zTown a h) = nI (zWrong (zTown a h) (zSack a h)) ∧ rdI m kg (zTown a h) = nI (zGlass (zSack a h)) ∧ rdI m ko (zTown a h) = nI (zWhole (zSack a h))) ∧
  rdI m 0 jb = nI (zBelt a).length ∧ (∀ j p, (zBelt a)[j]? = some p → rdI m kk j = nI p.1 ∧ rdI m kt j = nI p.2.1) ∧ rdI m 0 jf = nI (zFound a).length ∧ (∀ j p, (zFound a)[j]? = some p → rdI m k1 j = nI p.1 ∧ rdI m k2 j = nI p.2) ∧ rdI m 0 js = zSec a ∧ rdI m 0 jh = zHarm a
abbrev rmN (m : gw_S) (n : Nat) (a : zS) : Prop := rmS m n 4 5 6 7 8 9 10 11 12 10 13 14 15 a
abbrev rmK (m : gw_S) (n : Nat) (a : zS) : Prop := rmS m n 14 15 16 17 18 19 20 21 22 28 29 30 31 a
-- ===== what is always so
def zInvF (n : Nat) (Y R O : Nat → Nat) : Prop := (n = 0 ∨ (3 ≤ n ∧ n ≤ 6)) ∧ ∀ h, h < n → (1 ≤ Y h ∧ Y h ≤ 8) ∧ (1 ≤ R h ∧ R h ≤ 9) ∧ O h ≤ 9
def zInvS (n : Nat) (a : zS) : Prop := (∀ h, h < n → zTown a h < n) ∧ (∀ h h', h < n → h' < n → zTown a h = zTown a h' → h = h') ∧ (∀ h, n ≤ h → h < 6 → 0 < n → zTown a h = h) ∧ (∀ h, h < 6 → (zSack a h).length ≤ 9) ∧ (∀ h, h < 6 → ∀ p, p ∈ zSack a h → p.1 < 5 ∧ p.2.1 < n) ∧
  (zBelt a).length ≤ 8 ∧ (∀ p, p ∈ zBelt a → p.1 < 5 ∧ p.2.1 < n) ∧ (zFound a).length ≤ 8 ∧ (∀ p, p ∈ zFound a → p.1 < n ∧ p.2 < n ∧ p.1 ≠ p.2)
-- ===== frames
theorem rcRow.fr {c d : gw_S} {q : Nat} {l : List zP} (h : rcRow c q l) (hd : ∀ i j, i < 4 → rdI d (q + i) j = rdI c (q + i) j) : rcRow d q l := by
  obtain ⟨h1, h2, h3⟩ := h
  refine ⟨by rw [← h1]; exact hd 0 3 (by omega), h2, fun j p hp => ?_⟩
  obtain ⟨a1, a2, a3⟩ := h3 j p hp
  exact ⟨by rw [hd 1 j (by omega)]; exact a1, by rw [hd 2 j (by omega)]; exact a2, by rw [hd 3 j (by omega)]; exact a3⟩
theorem rcPage.fr {c d : gw_S} {P : List Nat} (h : rcPage c P) (h1 : rdI d 1 1 = rdI c 1 1) (h2 : ∀ j, rdI d 2 j = rdI c 2 j) : rcPage d P := ⟨h1.trans h.1, h.2.1, fun j v hv => (h2 j).trans (h.2.2 j v hv)⟩
theorem rcPlan.fr {c d : gw_S} {n : Nat} {Y R O : Nat → Nat} (h : rcPlan c n Y R O) (h1 : ∀ i j, 3 ≤ i → i ≤ 6 → rdI d i j = rdI c i j) : rcPlan d n Y R O := by
  obtain ⟨a, b⟩ := h
  refine ⟨by rw [h1 3 3 (by omega) (by omega)]; exact a, fun k hk => ?_⟩
  rw [h1 4 k (by omega) (by omega), h1 5 k (by omega) (by omega), h1 6 k (by omega) (by omega)]
  exact b k hk
theorem rcV.fr {c d : gw_S} {k rb : Nat} (h : rcV c k rb) (h1 : ∀ j, rdR d k j = rdR c k j) : rcV d k rb := by
  refine ⟨fun i hi => ?_, fun i i' hi hi' e => h.2 i i' hi hi' (by rw [← h1, ← h1]; exact e)⟩
  rw [h1]; exact h.1 i hi
theorem rcS.fr {c d : gw_S} {b rb : Nat} {a : zS} (h : rcS c b rb a) (hv : rcV c (b + 2) rb) (hR : ∀ j, rdR d (b + 2) j = rdR c (b + 2) j) (h1 : ∀ i j, b ≤ i → i < b + 5 → rdI d i j = rdI c i j) (h2 : ∀ i j, rb ≤ i → i < rb + 28 → rdI d i j = rdI c i j) : rcS d b rb a := by
  obtain ⟨a1, a2, a3, a4, a5, a6, a7⟩ := h
  refine ⟨fun k hk => by rw [h1 _ _ (by omega) (by omega)]; exact a1 k hk, fun k hk => ?_, a3.fr (fun i j hi => h2 _ _ (by omega) (by omega)), by rw [h1 _ _ (by omega) (by omega)]; exact a4, fun j p hp => ?_, by rw [h1 _ _ (by omega) (by omega)]; exact a6, by rw [h1 _ _ (by omega) (by omega)]; exact a7⟩
  · rw [hR]
    obtain ⟨r, hr, e⟩ := hv.1 k hk
    exact (a2 k hk).fr (fun i j hi => h2 _ _ (by omega) (by omega))
  · rw [h1 _ _ (by omega) (by omega), h1 _ _ (by omega) (by omega)]
    exact a5 j p hp
theorem rmPage.fr {m d : gw_S} {P : List Nat} (h : rmPage m P) (h1 : rdI d 0 18 = rdI m 0 18) (h2 : ∀ j, rdI d 13 j = rdI m 13 j) : rmPage d P := ⟨h1.trans h.1, fun j v hv => (h2 j).trans (h.2 j v hv)⟩
theorem rmPlan.fr {m d : gw_S} {n : Nat} {Y R O : Nat → Nat} (h : rmPlan m n Y R O) (h1 : rdI d 0 1 = rdI m 0 1) (h2 : ∀ i j, 1 ≤ i → i ≤ 3 → rdI d i j = rdI m i j) : rmPlan d n Y R O := by
  refine ⟨h1.trans h.1, fun k hk => ?_⟩
  rw [h2 1 k (by omega) (by omega), h2 2 k (by omega) (by omega), h2 3 k (by omega) (by omega)]
  exact h.2 k hk
theorem rmS.fr {m d : gw_S} {n kh km kw kg ko kk kt k1 k2 jb js jh jf : Nat} {a : zS} (h : rmS m n kh km kw kg ko kk kt k1 k2 jb js jh jf a) (hn : n ≤ 6) (hI : ∀ h, h < n → zTown a h < n)
    (e1 : ∀ j, j < 6 → rdI d kh j = rdI m kh j) (e2 : ∀ j, j < 6 → rdI d km j = rdI m km j) (e3 : ∀ j, rdI d kw j = rdI m kw j) (e4 : ∀ j, rdI d kg j = rdI m kg j) (e5 : ∀ j, rdI d ko j = rdI m ko j) (e6 : ∀ j, rdI d kk j = rdI m kk j) (e7 : ∀ j, rdI d kt j = rdI m kt j) (e8 : ∀ j, rdI d k1 j = rdI m k1 j) (e9 : ∀ j, rdI d k2 j = rdI m k2 j)
    (f1 : rdI d 0 jb = rdI m 0 jb) (f2 : rdI d 0 js = rdI m 0 js) (f3 : rdI d 0 jh = rdI m 0 jh) (f4 : rdI d 0 jf = rdI m 0 jf) : rmS d n kh km kw kg ko kk kt k1 k2 jb js jh jf a := by
  obtain ⟨a1, a2, a3, a4, a5, a6, a7, a8⟩ := h
  refine ⟨fun k hk => by rw [e1 k (by omega)]; exact a1 k hk, fun k hk => ?_, f1.trans a3, fun j p hp => by rw [e6, e7]; exact a4 j p hp, f4.trans a5, fun j p hp => by rw [e8, e9]; exact a6 j p hp, f2.trans a7, f3.trans a8⟩
  have := hI k hk
  rw [e2 _ (by omega), e3, e4, e5]
  exact a2 k hk
theorem z_town6 {n : Nat} {a : zS} (hn : n ≤ 6) (h : zInvS n a) : ∀ k, k < n → zTown a k < 6 := fun k hk => Nat.lt_of_lt_of_le (h.1 k hk) hn
