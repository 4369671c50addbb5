/-! The law: its words (begun from kit/laws/SKELETON.whole.lean.txt), a call, an argument. -/
def R_law : String := "ThrownSacksLaw"
def lw_P (b : Addr) (xs : List Int32) (args : Array Value) (s : State) : Prop := args = #[.ref b] ∧ s.IntsAt b xs ∧ xs.length ≤ 2048 ∧ (Jvm.Cond.and given_1 narrow_1).before args s = true
def lw_Q (_ : Array Value) (s : State) (o : Outcome) (t : State) : Prop := o = .returned (some (.int 1)) ∧ Framed s o t [] 600000 7302250
def lw_Z (below : List Frame) (a : Array Value) (s : State) : State → Prop := fun t => ∃ o, t.status = .running ∧ Ended t below o ∧ lw_Q a s o t
/-- the law's own end, with 1 on the stack, nothing written that was there before, its room as the claim has it -/
theorem lw_ret {p : Program} {l : Launch} {e : Env} {s : State} {m : MethodId} {below : List Frame} {meth : Method} {c : Code} {b : Nat} (hx : p.tables.exec = Jvm.exec) (hb : c.code = code) (hr : meth.sig.returnType = ret) (hlocks : meth.locks = false) {pc : Nat} {H : Heap} {ls : Array Slot} (hdg : decode code pc = .ok (.ireturn, 1)) : W p l e room_1 s m #[Value.ref b] below meth c H [] 600000 7302250 (lw_Z below #[Value.ref b] s) (F0 m pc ls [.int 1]) := by
  intro T hT X
  obtain ⟨fs, hret, hrun, hended, hW, hframe⟩ := X.leave (v := some (.int 1)) (hlocks := hlocks) (fun h => by rw [hr] at h; cases h)
  have hmeth' : T.vm.method? m = some meth := X.method'
  refine ⟨T.setFrames fs, ?_, .returned (some (.int 1)), hrun, hended, rfl, ⟨_, rfl⟩, hW, hframe⟩
  jvm_step X.here [X.here.top, hx, hb, hdg, hmeth', hr, ret, narrow_b1]
  (try refine ⟨rfl, ?_⟩); (try refine ⟨rfl, ?_⟩)
  first | (intro acts; rw [hret _ acts rfl rfl rfl]) | rw [hret _ _ rfl rfl rfl]
  exact Steps.refl _
/-- what holds at the law's entry: the machine, the code, the tables' words (any of lw_tbl by 'hts w (by decide +kernel)'), the script of L ints xs at the cell b, what the Statement gives of the start (any of its parts by flat_of_before) -/
def lw_At (p : Program) (s : State) (m : MethodId) (meth : Method) (c : Code) (b L : Nat) (xs : Nat → Int32) : Prop :=
  p.tables.exec = Jvm.exec ∧ c.code = code ∧ meth.sig.returnType = ret ∧ c.maxLocals = 4 ∧ s.vm.findClass R_law = some m.cls ∧ (∀ w ∈ lw_tbl, w.before #[Value.ref b] s = true) ∧ va_X b L xs s s.heap ∧ b < s.heap.size ∧ meth.locks = false ∧ (Jvm.Cond.and given_1 narrow_1).before #[Value.ref b] s = true
theorem gw_F.narrow {D : va_G} {g : gw_G} {tG : Nat} {A B : Nat → Prop} {U : State} (h : gw_F D g tG A U) (hAB : ∀ q, B q → A q) : gw_F D g tG B U := ⟨h.1, h.2.1.narrow hAB, h.2.2.1.narrow hAB, h.2.2.2⟩
/-- the cells of a world -/
def lw_on (N : Nat) (ad : Nat → Nat) : Nat → Prop := fun q => ∃ i, i < N ∧ q = ad i
theorem lw_onD {A : Nat → Prop} {N : Nat} {ad : Nat → Nat} (h : gw_D A N ad) : gw_D (lw_on N ad) N ad := ⟨h.1, fun i hi => ⟨i, hi, rfl⟩⟩
def lw_ap (N N2 : Nat) (ad ad2 : Nat → Nat) : Prop := ∀ i j, i < N → j < N2 → ad i ≠ ad2 j
theorem lw_ap.symm {N N2 : Nat} {ad ad2 : Nat → Nat} (h : lw_ap N N2 ad ad2) : lw_ap N2 N ad2 ad := fun i j hi hj e => h j i hj hi e.symm
theorem lw_keep {D : va_G} {T2 : gw_T} {N N2 : Nat} {ad ad2 : Nat → Nat} {st2 : gw_S} {H H1 : Heap} (hap : lw_ap N N2 ad ad2) (hP2 : va_P D vwCl (gw_w T2 N2 ad2 st2) H) (hk : ∀ q : Nat, q < H.size → ¬ lw_on N ad q → H1[q]? = H[q]?) : va_P D vwCl (gw_w T2 N2 ad2 st2) H1 := by
  refine hP2.kept (fun k q h => hk q.1 ((hP2 k q h).lt) ?_)
  obtain ⟨h1, rfl⟩ := gw_at_inv h
  intro ⟨i, hi, ei⟩
  exact hap i k hi h1 ei.symm
section LW
variable {p : Program} {l : Launch} {e : Env} {R : Room} {s : State} {m : MethodId} {args : Array Value} {below : List Frame} {meth : Method} {c : Code} {H : Heap} {locs : List Loc} {cells slots : Nat} {Q : State → Prop}
variable {cc : ByteArray} {nL : Nat} {Ts : List Cond} {own : String} {D : va_G} {g : gw_G} {tG : Nat} {A : Nat → Prop} {pc : Nat} {ls : Array Slot} {rest : List Value}
variable {T T2 : gw_T} {N N2 : Nat} {ad ad2 : Nat → Nat} {st st' st2 : gw_S}
theorem lw_run (F : CallFix p m c cc nL s args Ts own) (hF : gw_F D g tG A s) (hD : gw_D A N ad) (h0 : 0 < N) {ci nf : Nat} {fs : List Value} {C : String} {TT : u_T} (hT : T 0 (st.1 0) (st.2.1 0) (st.2.2 0) = .inr (ci, fs)) (hc : vwCl[ci]? = some (C, TT, nf)) (hP : va_P D vwCl (gw_w T N ad st) H) (hS : va_S A s.heap H locs) {y : MethodName} {ws : List Cond} {rm : Room} {Qc : Array Value → State → Outcome → State → Prop} {index maxL n : Nat} {bytes : ByteArray} {ret : Option FieldType} {As st0 : List Value} (hM : Met l y ws rm (gw_Pc D g tG T N ad (lw_on N ad) (.ref (ad 0) :: As) st) Qc 0 0 (lw_on N ad)) (cw : CallW R s args own C index y bytes maxL ret ws rm 0 0 n) (hn : As.length = n) (hl : ls.size = nL) (hst : st0 = As.reverse ++ .ref (ad 0) :: rest) (hW : (rest.map fun v => v.category).sum ≤ 8) (hcl : cells ≤ R.cells) (hsl : slots ≤ R.slots) (hdg : decode cc pc = .ok (.invokevirtual index, 3)) :
    va_Run p l e R s m args below meth c H locs cells slots 0 0 (F0 m pc ls st0) rest (Qc (Value.ref (ad 0) :: As).toArray) (lw_on N ad) := by
  refine va_runV F hM cw ⟨gw_blind, ?_, fun U hU hW => ⟨rfl, (hF.to hS hU hW).narrow (fun q ⟨i, hi, e⟩ => by rw [e]; exact hD.2 i hi), by rw [hU]; exact hP⟩⟩ rfl hn hl hst (lv_room hW) hdg ⟨hcl, hsl⟩
  exact va_recv (q := (C, TT, nf)) (ws := gw_w T N ad st) hF.1 hP (ci := ci) (q0 := 0) hc (by rw [gw_at h0, hT])
theorem lw_calli (F : CallFix p m c cc nL s args Ts own) (hF : gw_F D g tG A s) (hD : gw_D A N ad) (hap : lw_ap N N2 ad ad2) (h0 : 0 < N) {ci nf : Nat} {fs : List Value} {C : String} {TT : u_T} (hT : T 0 (st.1 0) (st.2.1 0) (st.2.2 0) = .inr (ci, fs)) (hc : vwCl[ci]? = some (C, TT, nf)) (hP : va_P D vwCl (gw_w T N ad st) H) (hP2 : va_P D vwCl (gw_w T2 N2 ad2 st2) H) (hS : va_S A s.heap H locs) {y : MethodName} {ws : List Cond} {rm : Room} {r0 : Int32} {index maxL n : Nat} {bytes : ByteArray} {ret : Option FieldType} {As st0 : List Value} (hM : Met l y ws rm (gw_Pc D g tG T N ad (lw_on N ad) (.ref (ad 0) :: As) st) (gw_Qi D T N ad (lw_on N ad) r0 st') 0 0 (lw_on N ad)) (cw : CallW R s args own C index y bytes maxL ret ws rm 0 0 n) (hn : As.length = n) (hl : ls.size = nL) (hst : st0 = As.reverse ++ .ref (ad 0) :: rest) (hW : (rest.map fun v => v.category).sum ≤ 8) (hcl : cells ≤ R.cells) (hsl : slots ≤ R.slots) (hdg : decode cc pc = .ok (.invokevirtual index, 3))
    (kk : ∀ (H1 : Heap) (locs1 : List Loc), va_P D vwCl (gw_w T N ad st') H1 → va_P D vwCl (gw_w T2 N2 ad2 st2) H1 → va_S A s.heap H1 locs1 → W p l e R s m args below meth c H1 locs1 cells slots Q (F0 m (pc + 3) ls (.int r0 :: rest))) : W p l e R s m args below meth c H locs cells slots Q (F0 m pc ls st0) := by
  have hin : ∀ q, lw_on N ad q → A q := fun q ⟨i, hi, e⟩ => by rw [e]; exact hD.2 i hi
  refine va_calli (post := fun (r : Int32) (u : gw_S) => r = r0 ∧ u = st') (B := gw_B D T N ad) (lw_run F hF hD h0 hT hc hP hS hM cw hn hl hst hW hcl hsl hdg) hS (fun q _ h => hin q h) hin (fun r u t H1 locs1 ht hvm hp hB hz hk hS => ?_)
  obtain ⟨rfl, rfl⟩ := hp
  exact kk H1 locs1 (by rw [← ht]; exact hB) (lw_keep hap hP2 hk) hS
theorem lw_calll (F : CallFix p m c cc nL s args Ts own) (hF : gw_F D g tG A s) (hD : gw_D A N ad) (hap : lw_ap N N2 ad ad2) (h0 : 0 < N) {ci nf : Nat} {fs : List Value} {C : String} {TT : u_T} (hT : T 0 (st.1 0) (st.2.1 0) (st.2.2 0) = .inr (ci, fs)) (hc : vwCl[ci]? = some (C, TT, nf)) (hP : va_P D vwCl (gw_w T N ad st) H) (hP2 : va_P D vwCl (gw_w T2 N2 ad2 st2) H) (hS : va_S A s.heap H locs) {y : MethodName} {ws : List Cond} {rm : Room} {r0 : Int64} {index maxL n : Nat} {bytes : ByteArray} {ret : Option FieldType} {As st0 : List Value} (hM : Met l y ws rm (gw_Pc D g tG T N ad (lw_on N ad) (.ref (ad 0) :: As) st) (gw_Ql D T N ad (lw_on N ad) r0 st') 0 0 (lw_on N ad)) (cw : CallW R s args own C index y bytes maxL ret ws rm 0 0 n) (hn : As.length = n) (hl : ls.size = nL) (hst : st0 = As.reverse ++ .ref (ad 0) :: rest) (hW : (rest.map fun v => v.category).sum ≤ 8) (hcl : cells ≤ R.cells) (hsl : slots ≤ R.slots) (hdg : decode cc pc = .ok (.invokevirtual index, 3))
    (kk : ∀ (H1 : Heap) (locs1 : List Loc), va_P D vwCl (gw_w T N ad st') H1 → va_P D vwCl (gw_w T2 N2 ad2 st2) H1 → va_S A s.heap H1 locs1 → W p l e R s m args below meth c H1 locs1 cells slots Q (F0 m (pc + 3) ls (.long r0 :: rest))) : W p l e R s m args below meth c H locs cells slots Q (F0 m pc ls st0) := by
  have hin : ∀ q, lw_on N ad q → A q := fun q ⟨i, hi, e⟩ => by rw [e]; exact hD.2 i hi
  refine va_calll (post := fun (r : Int64) (u : gw_S) => r = r0 ∧ u = st') (B := gw_B D T N ad) (lw_run F hF hD h0 hT hc hP hS hM cw hn hl hst hW hcl hsl hdg) hS (fun q _ h => hin q h) hin (fun r u t H1 locs1 ht hvm hp hB hz hk hS => ?_)
  obtain ⟨rfl, rfl⟩ := hp
  exact kk H1 locs1 (by rw [← ht]; exact hB) (lw_keep hap hP2 hk) hS
/-- an int of the script -/
theorem lw_arg (hx : p.tables.exec = Jvm.exec) (hb : c.code = cc) {b L : Nat} {xs : Nat → Int32} (hX : va_X b L xs s s.heap) (hbl : b < s.heap.size) (hbA : ¬ A b) (hS : va_S A s.heap H locs) {idx qc qm : Nat} (hl : lv_has ls 4 [(3, .int (nI idx)), (2, .ref qm), (1, .ref qc), (0, .ref b)]) {kn : Int} (k : Nat) (hk : Int32.ofInt kn = nI k) (hlt : idx + k < L) (hL : L ≤ 2048) (d0 : decode cc pc = .ok (.aload_n 0, 1)) (d1 : decode cc (pc + 1) = .ok (.iload_n 3, 1)) (d2 : decode cc (pc + 2) = .ok (.iconst kn, 1)) (d3 : decode cc (pc + 3) = .ok (.iadd, 1)) (d4 : decode cc (pc + 4) = .ok (.iaload, 1))
    (kk : W p l e R s m args below meth c H locs cells slots Q (F0 m (pc + 5) ls (.int (xs (idx + k)) :: rest))) : W p l e R s m args below meth c H locs cells slots Q (F0 m pc ls rest) := by
  refine lv_aload_n hx hb d0 rfl (lv_at hl 3 rfl) ?_
  refine lv_iload_n hx hb d1 rfl (lv_at hl 0 rfl) ?_
  refine lv_iconst (v := nI k) hx hb d2 hk ?_
  refine lv_iadd hx hb d3 ?_
  rw [show nI idx + nI k = nI (idx + k) from z_add idx k]
  refine va_sld hx hb hX hbl hbA hS (vp_in_nI hlt (by omega)) d4 ?_
  rw [z_cl (show idx + k < 2147483648 by omega)]
  exact kk
end LW
theorem lg_cmp_self (x : Int64) : lg_cmp x x = 0 := by
  unfold lg_cmp
  rw [if_neg (show ¬ x > x from fun h => Int64.lt_irrefl h), if_pos rfl]
/-- what is so at every turn of the law's loop -/
def lw_Ev (p : Program) (s : State) (m : MethodId) (args : Array Value) (c : Code) (D : va_G) (g : gw_G) (tG : Nat) (adC adM : Nat → Nat) (b L : Nat) (xs : Nat → Int32) : Prop :=
  CallFix p m c cL_law 4 s args wsL_law RL ∧ gw_F D g tG (fun q : Nat => s.heap.size ≤ q) s ∧ gw_D (fun q : Nat => s.heap.size ≤ q) 83 adC ∧ gw_D (fun q : Nat => s.heap.size ≤ q) 23 adM ∧ lw_ap 83 23 adC adM ∧ va_X b L xs s s.heap ∧ b < s.heap.size
def lw_In (D : va_G) (g : gw_G) (s : State) (adC adM : Nat → Nat) (j : Nat) (cC cM : gw_S) (H : Heap) (locs : List Loc) : Prop :=
  va_P D vwCl (gw_w (tC g adC) 83 adC cC) H ∧ va_P D vwCl (gw_w (tM g adM) 23 adM cM) H ∧ va_S (fun q : Nat => s.heap.size ≤ q) s.heap H locs ∧ zOK j cC cM
theorem zOK.mono {j j' : Nat} {c m : gw_S} (h : zOK j c m) (hj : j ≤ j') : zOK j' c m := by
  obtain ⟨P, n, Y, R, O, fl, a, k, h1, h2, h3, h4⟩ := h
  exact ⟨P, n, Y, R, O, fl, a, k, h1, h2, h3, by omega⟩
