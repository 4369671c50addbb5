/-! Shifts: the reference's side. -/
def agS (e d : gw_S) : Prop := ∀ i j, ¬ (i = 0 ∧ (j = 24 ∨ j = 25)) → ¬ (i = 5 ∧ 6 ≤ j) → rdI d i j = rdI e i j
theorem agS.refl (e : gw_S) : agS e e := fun _ _ _ _ => rfl
theorem agS.trans {e d g : gw_S} (h1 : agS e d) (h2 : agS d g) : agS e g := fun x y a b => (h2 x y a b).trans (h1 x y a b)
theorem agS.scr {e d : gw_S} (h : agS e d) : rmScr e d := fun x y a b c => h x y (by omega) c
theorem agS.wr {e : gw_S} {k j : Nat} {v : Int32} (h : (k = 0 ∧ (j = 24 ∨ j = 25)) ∨ (k = 5 ∧ 6 ≤ j)) : agS e (wrI e k j v) := by
  intro x y a b
  rw [rd_wr, if_neg]
  intro ⟨e1, e2⟩
  subst e1; subst e2
  rcases h with h | h
  · exact a h
  · exact b h
def rmT (e : gw_S) (n b : Nat) (a : zS) (q : zT) : Prop := q.1 < 2147483648 ∧ rdL e 0 23 = lN q.1 ∧ rdI e 0 24 = nI q.2.1 ∧ rdI e 0 25 = nI q.2.2.1 ∧ ∀ i, i < n → rdI e 5 (6 + zTown a i) = nI (q.2.2.2 i) ∧ q.2.2.2 i ≤ b
theorem z_zb (k : Nat) (b : Bool) : nI k + zb b = nI (k + zNat b) := by
  cases b with
  | false => show nI k + nI 0 = _; rw [z_add]; rfl
  | true => show nI k + nI 1 = _; rw [z_add]; rfl
theorem pM_wbf {e : gw_S} {i t h r : Nat} (h4 : rdI e 4 i = nI t) (h5 : rdI e 5 (6 + t) = nI h) (h2 : rdI e 2 i = nI r) (hi : i < 6) (ht : t < 6) (hh : h < 100000) (hr : r < 10) : fX8_wouldBeFull (nI i) e = some (zb (decide (r ≤ h))) := by
  unfold fX8_wouldBeFull
  rw [z_ix (show i < 2147483648 by omega), z_ix (show i < 2147483648 by omega), decide_eq_true (show i < 12 by omega), decide_eq_true (show i < 6 by omega), if_pos rfl, z_cl (show i < 2147483648 by omega), h4, zl6, z_add, z_ix (show 6 + t < 2147483648 by omega), decide_eq_true (show 6 + t < 12 by omega), if_pos rfl, if_pos rfl, z_cl (show 6 + t < 2147483648 by omega), h5, h2]
  by_cases w : r ≤ h
  · rw [if_neg (fun q => by have := (z_lt (by omega) (by omega)).mp q; omega), decide_eq_true w]; rfl
  · rw [if_pos ((z_lt (by omega) (by omega)).mpr (by omega)), decide_eq_false w]; rfl
theorem pM_go162 {e : gw_S} {n to : Nat} {a : zS} {h : Nat → Nat} (hn : n ≤ 6) (hS : zInvS n a) (hto : to < n) (hh : ∀ j, j < n → rdI e 5 (6 + zTown a j) = nI (h j)) : ∃ g, fX8_goParcel_J162 (nI (zTown a to)) e = some g ∧ agS e g ∧ (∀ x y, x ≠ 5 → rdI g x y = rdI e x y) ∧ rdL g 0 23 = rdL e 0 23 ∧ ∀ j, j < n → rdI g 5 (6 + zTown a j) = nI (zInc to h j) := by
  have ht := hS.1 to hto
  refine ⟨wrI e 5 (6 + zTown a to) (nI (h to + 1)), ?_, agS.wr (Or.inr ⟨rfl, by omega⟩), fun x y hx => rd_nk hx, rfl, fun j hj => ?_⟩
  · unfold fX8_goParcel_J162
    simp only [zNm]
    rw [zl6, z_add, z_ix (show 6 + zTown a to < 2147483648 by omega), decide_eq_true (show 6 + zTown a to < 12 by omega), if_pos rfl, if_pos rfl, z_cl (show 6 + zTown a to < 2147483648 by omega), hh to hto, zl1, z_add]
  · unfold zInc
    by_cases w : j = to
    · rw [if_pos w, w, rd_eq]
    · have : zTown a j ≠ zTown a to := fun q => w (hS.2.1 j to hj hto q)
      rw [if_neg w, rd_nj (by omega)]
      exact hh j hj
theorem pM_go97 {e : gw_S} {n i d inn : Nat} {a : zS} {h : Nat → Nat} {b : Bool} (hn : n ≤ 6) (h3 : 3 ≤ n) (hS : zInvS n a) (h1 : rdI e 0 1 = nI n) (h4 : ∀ h, h < n → rdI e 4 h = nI (zTown a h)) (hi : i < n) (hd : d < 100) (hin : inn < 100) (hb : b = true → inn ≤ d) (hh : ∀ j, j < n → rdI e 5 (6 + zTown a j) = nI (h j)) : ∃ g, fX8_goParcel_J97 (nI (zTown a i)) (nI i) (nI d) (nI inn) (zb b) e = some g ∧ agS e g ∧ rdL g 0 23 = rdL e 0 23 ∧ rdI g 0 24 = rdI e 0 24 + zb b ∧ rdI g 0 25 = rdI e 0 25 + zb (decide (inn ≤ d) && !b) ∧ ∀ j, j < n → rdI g 5 (6 + zTown a j) = nI (zInc (if b = true then zHookNext n i else i) h j) := by
  have hx := zHookNext_lt hi h3
  have hnx : ∀ (g : gw_S), rdI g 0 1 = nI n → fX8_nextOf (nI i) g = nI (zHookNext n i) := fun g hg => pM_next g hg hn hi h3
  have T : ∀ v25 : Int32, ∃ g, fX8_goParcel_J162 (nI (zTown a (if b = true then zHookNext n i else i))) (wrI (wrI e 0 24 (rdI e 0 24 + zb b)) 0 25 v25) = some g ∧ agS e g ∧ rdL g 0 23 = rdL e 0 23 ∧ rdI g 0 24 = rdI e 0 24 + zb b ∧ rdI g 0 25 = v25 ∧ ∀ j, j < n → rdI g 5 (6 + zTown a j) = nI (zInc (if b = true then zHookNext n i else i) h j) := by
    intro v25
    obtain ⟨g, g1, g2, g3, g4, g5⟩ := pM_go162 (e := wrI (wrI e 0 24 (rdI e 0 24 + zb b)) 0 25 v25) (to := if b = true then zHookNext n i else i) hn hS (by split; exact hx.1; exact hi) (fun j hj => by rw [rd_nk (by omega), rd_nk (by omega)]; exact hh j hj)
    have t1 : agS e (wrI e 0 24 (rdI e 0 24 + zb b)) := agS.wr (Or.inl ⟨rfl, Or.inl rfl⟩)
    have t2 : agS (wrI e 0 24 (rdI e 0 24 + zb b)) (wrI (wrI e 0 24 (rdI e 0 24 + zb b)) 0 25 v25) := agS.wr (Or.inl ⟨rfl, Or.inr rfl⟩)
    exact ⟨g, g1, (t1.trans t2).trans g2, g4, by rw [g3 _ _ (by omega), rd_nj (by omega), rd_eq], by rw [g3 _ _ (by omega), rd_eq], g5⟩
  unfold fX8_goParcel_J97 fX8_goParcel_J114 fX8_goParcel_J138 fX8_goParcel_J139
  simp only [zNm]
  cases b with
  | false =>
    have T0 := T (rdI e 0 25 + zb (decide (inn ≤ d) && !false))
    rw [if_pos (show zb false = 0 from rfl)]
    have e25 : rdI (wrI e 0 24 (rdI e 0 24 + 0)) 0 25 = rdI e 0 25 := rd_nj (by omega)
    rw [e25]
    by_cases w : d < inn
    · rw [if_pos ((z_lt (by omega) (by omega)).mpr w), if_pos (show zb false = 0 from rfl)]
      rw [decide_eq_false (show ¬ inn ≤ d by omega)] at T0 ⊢
      exact T0
    · rw [if_neg (fun q => w ((z_lt (by omega) (by omega)).mp q)), if_pos (show zb false = 0 from rfl), if_pos (show zb false = 0 from rfl)]
      rw [decide_eq_true (show inn ≤ d by omega)] at T0 ⊢
      exact T0
  | true =>
    have T0 := T (rdI e 0 25 + zb (decide (inn ≤ d) && !true))
    rw [if_neg (show ¬ zb true = 0 by decide), if_neg (show ¬ nI d < nI inn from fun q => by have := (z_lt (by omega) (by omega)).mp q; have := hb rfl; omega), if_neg (show ¬ zb true = 0 by decide), if_neg (show ¬ zb true = 0 by decide)]
    have e25 : rdI (wrI e 0 24 (rdI e 0 24 + 1)) 0 25 = rdI e 0 25 := rd_nj (by omega)
    rw [e25, hnx _ (by rw [rd_nj (by omega), rd_nj (by omega)]; exact h1), z_ix (show zHookNext n i < 2147483648 by omega), decide_eq_true (show zHookNext n i < 12 by omega), if_pos rfl, z_cl (show zHookNext n i < 2147483648 by omega), rd_nk (show (4 : Nat) ≠ 0 by omega), rd_nk (show (4 : Nat) ≠ 0 by omega), h4 _ hx.1]
    rw [Bool.not_true, Bool.and_false] at T0 ⊢
    exact T0
theorem pM_go45 {e : gw_S} {n i b : Nat} {Y R O : Nat → Nat} {a : zS} {q : zT} {h : Nat → Nat} {x : Int32} (hF : zInvF n Y R O) (hS : zInvS n a) (hp : rmPlan e n Y R O) (h4 : ∀ h, h < n → rdI e 4 h = nI (zTown a h)) (hi : i < n) (h1 : q.1 < 2147483648) (c1 : rdL e 0 23 = lN q.1) (c2 : rdI e 0 24 = nI q.2.1) (c3 : rdI e 0 25 = nI q.2.2.1) (hx : x = nI (h i)) (hh : ∀ j, j < n → j ≠ i → rdI e 5 (6 + zTown a j) = nI (h j)) (hb : ∀ j, j < n → h j ≤ b) (hb1 : b < 1000) : ∃ d, fX8_goParcel_J45 (nI (zTown a i)) (nI i) (nI (6 + zTown a i)) x e = some d ∧ agS e d ∧ rmT d n (b + 1) a (zDraw q.1, q.2.1 + zNat (zIsNx n Y R i h (zDr q.1 10)), q.2.2.1 + zNat (decide (zIn 0 (Y i) ≤ zDr q.1 10) && !zIsNx n Y R i h (zDr q.1 10)), zInc (if zIsNx n Y R i h (zDr q.1 10) = true then zHookNext n i else i) h) := by
  have hn : n ≤ 6 := by have := hF.1; omega
  have h3 : 3 ≤ n := by have := hF.1; omega
  have hnx := zHookNext_lt hi h3
  have hy := (hF.2 i hi).1.2
  have ht := hS.1 i hi
  have hd := zDr_lt (s := q.1) (d := 10) (by omega)
  have i1 := zIn_le 0 (Y i)
  have i2 := zNx_le 0 (Y i) false
  have ag0 : agS e (wrI e 5 (6 + zTown a i) x) := agS.wr (Or.inr ⟨rfl, by omega⟩)
  have hh1 : ∀ j, j < n → rdI (wrI e 5 (6 + zTown a i) x) 5 (6 + zTown a j) = nI (h j) := by
    intro j hj
    by_cases w : j = i
    · rw [w, rd_eq, hx]
    · have : zTown a j ≠ zTown a i := fun q => w (hS.2.1 j i hj hi q)
      rw [rd_nj (by omega)]
      exact hh j hj w
  unfold fX8_goParcel_J45 fX8_goParcel_J96
  simp only [zNm]
  rw [z_ix (show 6 + zTown a i < 2147483648 by omega), decide_eq_true (show 6 + zTown a i < 12 by omega), if_pos rfl, z_cl (show 6 + zTown a i < 2147483648 by omega), show (10 : Int32) = nI 10 from rfl, pM_draw (c := wrI e 5 (6 + zTown a i) x) (show rdL (wrI e 5 (6 + zTown a i) x) 0 23 = lN q.1 from c1) h1 (by omega) (by omega)]
  generalize hz : zDr q.1 10 = z at hd
  have key : ∀ g, g = wrL (wrI e 5 (6 + zTown a i) x) 0 23 (lN (zDraw q.1)) → ∃ d, ((fX8_tenthsIn 0 (nI i) g).bind (fun r56 => if nI z < r56 then (fX8_goParcel_J97 (nI (zTown a i)) (nI i) (nI z) r56 0 g) else ((fX8_tenthsNext 0 (nI i) g).bind (fun r73 => if (r56 + r73) ≤ nI z then (fX8_goParcel_J97 (nI (zTown a i)) (nI i) (nI z) r56 0 g) else ((fX8_wouldBeFull (fX8_nextOf (nI i) g) g).bind (fun r86 => if r86 = 0 then (fX8_goParcel_J97 (nI (zTown a i)) (nI i) (nI z) r56 1 g) else (fX8_goParcel_J97 (nI (zTown a i)) (nI i) (nI z) r56 0 g))))))) = some d ∧ agS e d ∧ rmT d n (b + 1) a (zDraw q.1, q.2.1 + zNat (zIsNx n Y R i h z), q.2.2.1 + zNat (decide (zIn 0 (Y i) ≤ z) && !zIsNx n Y R i h z), zInc (if zIsNx n Y R i h z = true then zHookNext n i else i) h) := by
    intro g hg
    have gI : ∀ x' y', rdI g x' y' = rdI (wrI e 5 (6 + zTown a i) x) x' y' := by rw [hg]; exact fun _ _ => rfl
    have gL : rdL g 0 23 = lN (zDraw q.1) := by rw [hg, rL_wr, if_pos ⟨rfl, rfl⟩]
    have ag1 : agS e g := fun x' y' u v => (gI x' y').trans (ag0 x' y' u v)
    have g01 : rdI g 0 1 = nI n := by rw [gI, rd_nk (by omega)]; exact hp.1
    have g4 : ∀ j, j < n → rdI g 4 j = nI (zTown a j) := fun j hj => by rw [gI, rd_nk (by omega)]; exact h4 j hj
    have g5 : ∀ j, j < n → rdI g 5 (6 + zTown a j) = nI (h j) := fun j hj => by rw [gI]; exact hh1 j hj
    have gY : rdI g 1 i = nI (Y i) := by rw [gI, rd_nk (by omega)]; exact (hp.2 i hi).1
    have gR : rdI g 2 (zHookNext n i) = nI (R (zHookNext n i)) := by rw [gI, rd_nk (by omega)]; exact (hp.2 _ hnx.1).2.1
    have w0 := pM_in gY (show i < 6 by omega) (show 0 < 5 by omega) (show Y i < 9 by omega)
    have w1 := pM_tenN gY (show i < 6 by omega) (show 0 < 5 by omega) (show Y i < 9 by omega)
    rw [← zl0] at w0 w1
    have J : ∀ bb : Bool, zIsNx n Y R i h z = bb → ∃ d, fX8_goParcel_J97 (nI (zTown a i)) (nI i) (nI z) (nI (zIn 0 (Y i))) (zb bb) g = some d ∧ agS e d ∧ rmT d n (b + 1) a (zDraw q.1, q.2.1 + zNat (zIsNx n Y R i h z), q.2.2.1 + zNat (decide (zIn 0 (Y i) ≤ z) && !zIsNx n Y R i h z), zInc (if zIsNx n Y R i h z = true then zHookNext n i else i) h) := by
      intro bb hbb
      obtain ⟨d, d1, d2, d3, d4, d5, d6⟩ := pM_go97 (b := bb) (h := h) hn h3 hS g01 g4 hi (show z < 100 by omega) (show zIn 0 (Y i) < 100 by omega) (fun hq => by
        rw [hq] at hbb
        unfold zIsNx at hbb
        rw [Bool.and_eq_true, decide_eq_true_eq] at hbb
        exact hbb.1) g5
      refine ⟨d, d1, ag1.trans d2, zDraw_lt _, ?_, ?_, ?_, fun j hj => ?_⟩
      · rw [d3]; exact gL
      · show _ = nI (q.2.1 + zNat (zIsNx n Y R i h z))
        rw [d4, gI, rd_nk (by omega), c2, z_zb, hbb]
      · show _ = nI (q.2.2.1 + zNat (decide (zIn 0 (Y i) ≤ z) && !zIsNx n Y R i h z))
        rw [d5, gI, rd_nk (by omega), c3, z_zb, hbb]
      · show _ = nI (zInc (if zIsNx n Y R i h z = true then zHookNext n i else i) h j) ∧ zInc (if zIsNx n Y R i h z = true then zHookNext n i else i) h j ≤ b + 1
        rw [hbb]
        exact ⟨d6 j hj, zInc_le hb j hj⟩
    rw [w0, Option.bind_some]
    by_cases q1 : z < zIn 0 (Y i)
    · rw [if_pos ((z_lt (by omega) (by omega)).mpr q1)]
      exact J false (by unfold zIsNx; rw [decide_eq_false (show ¬ zIn 0 (Y i) ≤ z by omega), Bool.false_and])
    · rw [if_neg (fun w => q1 ((z_lt (by omega) (by omega)).mp w)), w1, Option.bind_some, z_add]
      by_cases q2 : z < zIn 0 (Y i) + zNx 0 (Y i) false
      · rw [if_neg (show ¬ nI (zIn 0 (Y i) + zNx 0 (Y i) false) ≤ nI z from fun w => by have := (z_le (by omega) (by omega)).mp w; omega), pM_next g g01 hn hi h3, pM_wbf (g4 _ hnx.1) (g5 _ hnx.1) gR (by omega) (by have := hS.1 _ hnx.1; omega) (by have := hb _ hnx.1; omega) (by have := (hF.2 _ hnx.1).2.1.2; omega), Option.bind_some]
        by_cases q3 : R (zHookNext n i) ≤ h (zHookNext n i)
        · rw [decide_eq_true q3, if_neg (show ¬ zb true = 0 by decide)]
          refine J false ?_
          unfold zIsNx
          rw [decide_eq_true q3, show zNx 0 (Y i) true = 0 from rfl, decide_eq_false (show ¬ z < zIn 0 (Y i) + 0 by omega), Bool.and_false]
        · rw [decide_eq_false q3, if_pos (show zb false = 0 from rfl)]
          refine J true ?_
          unfold zIsNx
          rw [decide_eq_false q3, decide_eq_true q2, decide_eq_true (show zIn 0 (Y i) ≤ z by omega)]
          rfl
      · rw [if_pos (show nI (zIn 0 (Y i) + zNx 0 (Y i) false) ≤ nI z from (z_le (by omega) (by omega)).mpr (by omega))]
        refine J false ?_
        unfold zIsNx
        have : ¬ z < zIn 0 (Y i) + zNx 0 (Y i) (decide (R (zHookNext n i) ≤ h (zHookNext n i))) := by
          cases decide (R (zHookNext n i) ≤ h (zHookNext n i)) with
          | false => exact q2
          | true => rw [show zNx 0 (Y i) true = 0 from rfl]; omega
        rw [decide_eq_false this, Bool.and_false]
  exact key _ rfl
theorem pM_go {e : gw_S} {n b : Nat} {Y R O : Nat → Nat} {a : zS} {q : zT} (hF : zInvF n Y R O) (hS : zInvS n a) (h0 : 0 < n) (hp : rmPlan e n Y R O) (h4 : ∀ h, h < n → rdI e 4 h = nI (zTown a h)) (hT : rmT e n b a q) (hb : b < 1000) : ∃ d, fX8_goParcel e = some d ∧ agS e d ∧ rmT d n (b + 1) a (zParcel n Y R a q) := by
  have hn : n ≤ 6 := by have := hF.1; omega
  have ht := zDr_lt (s := q.1) (d := n) h0
  have hi := zHookOf_lt hS ht
  have hto := zHookOf_town hS ht
  obtain ⟨q1, q2, q3, q4, q5⟩ := hT
  unfold fX8_goParcel zParcel zThrow
  rw [hp.1, pM_draw q2 q1 h0 (by omega)]
  generalize hg : wrL e 0 23 (lN (zDraw q.1)) = g
  have gI : ∀ x' y', rdI g x' y' = rdI e x' y' := by rw [← hg]; exact fun _ _ => rfl
  have gL : rdL g 0 23 = lN (zDraw q.1) := by rw [← hg, rL_wr, if_pos ⟨rfl, rfl⟩]
  have hpg : rmPlan g n Y R O := hp.fr (gI _ _) (fun i j _ _ => gI _ _)
  have g4 : ∀ j, j < n → rdI g 4 j = nI (zTown a j) := fun j hj => by rw [gI]; exact h4 j hj
  generalize hi' : zHookOf n a (zDr q.1 n) = i at hi hto
  have hk := pM_hookBy (b := 0) (e := g) hn (by omega) hpg.1 (zNow_mem hS) (fun j hj => by rw [Nat.zero_add, zNow_get hj]; exact g4 j hj) ht
  rw [← zl0] at hk
  show ∃ d, ((fX8_hookOf 0 (nI (zDr q.1 n)) g).bind _) = some d ∧ _
  rw [hk, Option.bind_some]
  have hi2 : zPos (zNow n a) (zDr q.1 n) = i := hi'
  rw [hi2]
  have ht6 : zTown a i < n := hS.1 i hi
  have gh : ∀ j, j < n → rdI g 5 (6 + zTown a j) = nI (q.2.2.2 j) := fun j hj => by rw [gI]; exact (q5 j hj).1
  have hqb := (q5 i hi).2
  rw [pM_wbf (g4 i hi) (gh i hi) (hpg.2 i hi).2.1 (by omega) (by omega) (by omega) (by have := (hF.2 i hi).2.1.2; omega), Option.bind_some, ← hto, zl6, z_add]
  have hh2 : ∀ j, j < n → j ≠ i → rdI g 5 (6 + zTown a j) = nI (zHeld1 R i q.2.2.2 j) := by
    intro j hj hne
    unfold zHeld1
    rw [if_neg (fun w => hne w.1)]
    exact gh j hj
  have ag0 : agS e g := fun x y _ _ => gI x y
  have go := fun x hx => pM_go45 (e := g) (q := (zDraw q.1, q.2)) (h := zHeld1 R i q.2.2.2) (x := x) (b := b) hF hS hpg g4 hi (zDraw_lt _) gL (by rw [gI]; exact q3) (by rw [gI]; exact q4) hx hh2 (zHeld1_le (fun j hj => (q5 j hj).2)) hb
  by_cases w : R i ≤ q.2.2.2 i
  · rw [decide_eq_true w, if_neg (show ¬ zb true = 0 by decide)]
    obtain ⟨d, d1, d2, d3⟩ := go 0 (by unfold zHeld1; rw [if_pos ⟨rfl, w⟩]; rfl)
    exact ⟨d, d1, ag0.trans d2, d3⟩
  · rw [decide_eq_false w, if_pos (show zb false = 0 from rfl), z_ix (show 6 + zTown a i < 2147483648 by omega), decide_eq_true (show 6 + zTown a i < 12 by omega), if_pos rfl, z_cl (show 6 + zTown a i < 2147483648 by omega), gh i hi]
    obtain ⟨d, d1, d2, d3⟩ := go (nI (q.2.2.2 i)) (by unfold zHeld1; rw [if_neg (fun z => w z.2)])
    exact ⟨d, d1, ag0.trans d2, d3⟩
theorem pM_shift_L46 {n : Nat} {Y R O : Nat → Nat} {a : zS} (hF : zInvF n Y R O) (hS : zInvS n a) (h0 : 0 < n) {p : Nat} (hp60 : p ≤ 60) (Kx : Int32 → gw_S → Option (Int32 × gw_S)) (v3 : Int32) : ∀ k f s b q e, s + k = p → k < f → b = s → rmPlan e n Y R O → (∀ h, h < n → rdI e 4 h = nI (zTown a h)) → rmT e n b a q → ∃ d, agS e d ∧ rmT d n p a (zShift n Y R a k q) ∧ fX8_shiftsNow_L46 Kx (nI p) v3 f (nI s) e = Kx (nI p) d := by
  intro k
  induction k with
  | zero =>
    intro f s b q e hs hf hb hp h4 hT
    obtain ⟨f, rfl⟩ : ∃ g, f = g + 1 := ⟨f - 1, by omega⟩
    have : s = p := by omega
    subst this
    subst hb
    exact ⟨e, agS.refl e, hT, by rw [fX8_shiftsNow_L46, if_pos ((z_le (a := b) (b := b) (by omega) (by omega)).mpr (Nat.le_refl _))]⟩
  | succ k ih =>
    intro f s b q e hs hf hb hp h4 hT
    obtain ⟨f, rfl⟩ : ∃ g, f = g + 1 := ⟨f - 1, by omega⟩
    obtain ⟨d, d1, d2, d3⟩ := pM_go hF hS h0 hp h4 hT (by omega)
    obtain ⟨g, g1, g2, g3⟩ := ih f (s + 1) (b + 1) _ d (by omega) (by omega) (by omega) (hp.fr (d2 _ _ (by omega) (by omega)) (fun i j _ _ => d2 _ _ (by omega) (by omega))) (fun h hh => by rw [d2 _ _ (by omega) (by omega)]; exact h4 h hh) d3
    refine ⟨g, d2.trans g1, g2, ?_⟩
    rw [fX8_shiftsNow_L46, if_neg (show ¬ nI p ≤ nI s from fun w => by have := (z_le (a := p) (b := s) (by omega) (by omega)).mp w; omega), d1, Option.bind_some]
    simp only [zNm]
    rw [show nI s + 1 = nI (s + 1) from z_add s 1]
    exact g3
theorem pM_shift_L3 (Kx : Int32 → gw_S → Option (Int32 × gw_S)) (v1 v2 v3 : Int32) : ∀ k f s e, s + k = 6 → k < f → ∃ d, agS e d ∧ (∀ x y, x ≠ 5 → rdI d x y = rdI e x y) ∧ (∀ j, j < s → rdI d 5 (6 + j) = rdI e 5 (6 + j)) ∧ (∀ j, s ≤ j → j < 6 → rdI d 5 (6 + j) = 0) ∧ fX8_shiftsNow_L3 Kx v1 v2 v3 f (nI s) e = Kx (nI 6) d := by
  intro k
  induction k with
  | zero =>
    intro f s e hs hf
    obtain ⟨f, rfl⟩ : ∃ g, f = g + 1 := ⟨f - 1, by omega⟩
    have : s = 6 := by omega
    subst this
    exact ⟨e, agS.refl e, fun _ _ _ => rfl, fun _ _ => rfl, fun j _ _ => by omega, by rw [fX8_shiftsNow_L3, if_pos (show (6 : Int32) ≤ nI 6 by decide)]⟩
  | succ k ih =>
    intro f s e hs hf
    obtain ⟨f, rfl⟩ : ∃ g, f = g + 1 := ⟨f - 1, by omega⟩
    obtain ⟨d, d1, d2, d3, d4, d5⟩ := ih f (s + 1) (wrI e 5 (6 + s) 0) (by omega) (by omega)
    have ag0 : agS e (wrI e 5 (6 + s) 0) := agS.wr (Or.inr ⟨rfl, by omega⟩)
    refine ⟨d, ag0.trans d1, fun x y hx => by rw [d2 x y hx, rd_nk hx], fun j hj => by rw [d3 j (by omega), rd_nj (by omega)], fun j h1 h2 => ?_, ?_⟩
    · by_cases w : j = s
      · rw [w, d3 s (by omega), rd_eq]
      · exact d4 j (by omega) h2
    · rw [fX8_shiftsNow_L3, if_neg (show ¬ (6 : Int32) ≤ nI s from fun w => by have := (z_le (a := 6) (b := s) (by omega) (by omega)).mp w; omega)]
      simp only [zNm]
      rw [show (6 : Int32) + nI s = nI (6 + s) from z_add 6 s, z_ix (show 6 + s < 2147483648 by omega), decide_eq_true (show 6 + s < 12 by omega), if_pos rfl, z_cl (show 6 + s < 2147483648 by omega), show nI s + 1 = nI (s + 1) from z_add s 1]
      exact d5
theorem pM_shifts {P : List Nat} {n : Nat} {Y R O : Nat → Nat} {fl : Nat} {a : zS} {k : Option zS} {m : gw_S} (h : rmAll m P n Y R O fl a k) (hI : zInv P n Y R O fl a k) (x y w : Int32) : ∃ d, fX8_shifts x y w m = some (aShifts n Y R a x y w, d) ∧ rmAll d P n Y R O fl a k := by
  have hn := hI.n6
  unfold fX8_shifts aShifts
  rw [zl1, show (60 : Int32) = nI 60 from rfl, pM_within x (by omega) (by omega), show (2 : Int32) = nI 2 from rfl, pM_in0 m w (by omega)]
  by_cases x1 : x < nI 1
  · exact ⟨m, by rw [decide_eq_true x1, Bool.not_true, Bool.false_and, if_pos (show zb false = 0 from rfl), if_pos (Or.inl (Or.inl x1))], h⟩
  by_cases x2 : nI 60 < x
  · exact ⟨m, by rw [decide_eq_true x2, Bool.not_true, Bool.and_false, if_pos (show zb false = 0 from rfl), if_pos (Or.inl (Or.inr x2))], h⟩
  rw [decide_eq_false x1, decide_eq_false x2, Bool.not_false, Bool.and_self, if_neg (show ¬ zb true = 0 by decide)]
  by_cases x3 : y < 0
  · exact ⟨m, by rw [if_pos x3, if_pos (Or.inr (Or.inl x3))], h⟩
  rw [if_neg x3]
  cases hw : zK (2 + 1) w with
  | false =>
    refine ⟨m, ?_, h⟩
    rw [if_pos (show zb false = 0 from rfl), if_pos]
    refine Or.inr (Or.inr ?_)
    rcases z_cases w with q | ⟨j, hj, rfl⟩
    · exact Or.inl q
    · rw [zK_nI hj (by omega)] at hw
      refine Or.inr (fun q => ?_)
      have h1 := (z_le (a := j) (b := 2) hj (by omega)).mp q
      rw [decide_eq_true (show j < 2 + 1 by omega)] at hw
      exact Bool.false_ne_true hw.symm
  | true =>
    obtain ⟨wj, hwj, rfl⟩ := zK_t hw (by omega)
    rw [if_neg (show ¬ zb true = 0 by decide), if_neg (show ¬ ((x < nI 1 ∨ nI 60 < x) ∨ y < 0 ∨ nI wj < 0 ∨ ¬ nI wj ≤ nI 2) from fun q => by
      rcases q with (q | q) | q | q | q
      · exact x1 q
      · exact x2 q
      · exact x3 q
      · exact z_neg0 (by omega) q
      · exact q ((z_le (a := wj) (b := 2) (by omega) (by omega)).mpr (by omega))), h.2.1.1]
    by_cases h0 : n = 0
    · rw [if_pos h0, if_pos (by rw [h0]; rfl)]
      exact ⟨m, rfl, h⟩
    · rw [if_neg h0, if_neg (show ¬ nI n = (0 : Int32) from fun q => h0 ((z_eq (a := n) (b := 0) (by omega) (by omega)).mp q))]
      obtain ⟨p, hp, rfl⟩ : ∃ p, p ≤ 60 ∧ x = nI p := by
        rcases z_cases x with q | ⟨j, hj, rfl⟩
        · exact absurd (z_negle (j := 1) q (by omega)) x1
        · exact ⟨j, Nat.le_of_not_lt (fun z => x2 ((z_lt (a := 60) (b := j) (by omega) hj).mpr z)), rfl⟩
      obtain ⟨s, hs, rfl⟩ := z_of x3
      have hS := hI.2.2.2.1
      unfold fX8_shiftsNow
      obtain ⟨e, e1, e2, -, e3, e4⟩ := pM_shift_L3 (fun v4_x3 t_x3 => gw_nm (wrL t_x3 0 23 (Int32.toInt64 (nI s))) (fun t_30 => gw_nm (wrI t_30 0 24 0) (fun t_35 => gw_nm (wrI t_35 0 25 0) (fun t_40 => fX8_shiftsNow_L46 (fun v4_x46 t_x46 => if nI wj = 0 then (some ((rdI t_x46 0 24), t_x46)) else (if nI wj = 1 then (some ((rdI t_x46 0 25), t_x46)) else (some ((Int64.toInt32 (rdL t_x46 0 23)), t_x46)))) (nI p) (nI wj) 2000 0 t_40)))) (nI p) (nI s) (nI wj) 6 2000 0 m (by omega) (by omega)
      rw [← zl0] at e4
      simp only [zNm] at e4 ⊢
      generalize hg : wrI (wrI (wrL e 0 23 (Int32.toInt64 (nI s))) 0 24 0) 0 25 0 = g at e4
      have gI : ∀ x' y', ¬ (x' = 0 ∧ (y' = 24 ∨ y' = 25)) → rdI g x' y' = rdI e x' y' := by
        intro x' y' hx
        rw [← hg, rd_wr, if_neg (by omega), rd_wr, if_neg (by omega)]
        rfl
      have ag0 : agS m g := e1.trans (fun x' y' u _ => gI x' y' u)
      obtain ⟨d, d1, d2, d3⟩ := pM_shift_L46 hI.2.1 hS (by omega) hp (fun v4_x46 t_x46 => if nI wj = 0 then (some ((rdI t_x46 0 24), t_x46)) else (if nI wj = 1 then (some ((rdI t_x46 0 25), t_x46)) else (some ((Int64.toInt32 (rdL t_x46 0 23)), t_x46)))) (nI wj) p 2000 0 0 (s, 0, 0, fun _ => 0) g (by omega) (by omega) rfl (h.2.1.fr (ag0 _ _ (by omega) (by omega)) (fun i j _ _ => ag0 _ _ (by omega) (by omega))) (fun i hi => by rw [ag0 _ _ (by omega) (by omega)]; exact h.2.2.1.1 i hi) ⟨hs, by rw [← hg, rL_wI, rL_wI, rL_wr, if_pos ⟨rfl, rfl⟩, nI_l hs], by rw [← hg, rd_nj (by omega), rd_eq]; rfl, by rw [← hg, rd_eq]; rfl, fun i hi => ⟨by
        rw [gI _ _ (by omega), e3 _ (Nat.zero_le _) (by have := hS.1 i hi; omega)]; rfl, Nat.le_refl _⟩⟩
      rw [← zl0] at d3
      rw [show fX8_shiftsNow_L3 (fun v4_x3 t_x3 => fX8_shiftsNow_L46 (fun v4_x46 t_x46 => if nI wj = 0 then (some ((rdI t_x46 0 24), t_x46)) else (if nI wj = 1 then (some ((rdI t_x46 0 25), t_x46)) else (some ((Int64.toInt32 (rdL t_x46 0 23)), t_x46)))) (nI p) (nI wj) 2000 0 (wrI (wrI (wrL t_x3 0 23 (Int32.toInt64 (nI s))) 0 24 0) 0 25 0)) (nI p) (nI s) (nI wj) 2000 0 m = _ from e4, d3, z_cl (by omega), z_cl hs]
      refine ⟨d, ?_, h.scr hI (ag0.trans d1).scr⟩
      by_cases w0 : nI wj = 0
      · rw [if_pos w0, if_pos w0, d2.2.2.1]; rfl
      · rw [if_neg w0, if_neg w0]
        by_cases w1 : nI wj = 1
        · rw [if_pos w1, if_pos (show nI wj = nI 1 from w1), d2.2.2.2.1]; rfl
        · rw [if_neg w1, if_neg (show ¬ nI wj = nI 1 from w1), d2.2.1, lN_i]; rfl
