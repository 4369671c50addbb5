/-! The constructors: lists of cells that grow. -/
def gx_0 : Nat → Int32 := fun _ => 0
/-- what is so of the machine, for constructors: classes, arrays, nest mates' links -/
def gx_F (D : va_G) (g : gw_G) (U : State) : Prop :=
  va_K D vwCl (gw_tys g) U ∧ va_AO RX3 U ∧ va_Nw (.methodLinkNest RX7 9 yX1_init "ThrownSacks") U ∧ va_Nw (.methodLinkNest RX7 18 yX2_init "ThrownSacks") U ∧ va_Nw (.methodLinkNest RX4 21 yX3_init "ThrownSacks") U ∧ va_Nw (.methodLinkNest RX7 35 yX0_init "ThrownSacks") U ∧ va_Nw (.methodLinkNest RX7 42 yX6_init "ThrownSacks") U ∧ va_Nw (.methodLinkNest RX7 49 yX5_init "ThrownSacks") U
theorem gx_F.blind {D : va_G} {g : gw_G} {U : State} (h : gx_F D g U) (f : JFrame) (mk : MethodId) (a : Array Value) : gx_F D g (U.calling f mk a) := by
  obtain ⟨h1, h2, h3, h4, h5, h6, h7, h8⟩ := h
  exact ⟨va_K.moved (u := U) (U := U.calling f mk a) (Vm.Alike.refl U.vm) h1, va_AO.moved (u := U) (U := U.calling f mk a) (Vm.Alike.refl U.vm) h2,
    va_tabs (u := U) rfl rfl h3, va_tabs (u := U) rfl rfl h4, va_tabs (u := U) rfl rfl h5, va_tabs (u := U) rfl rfl h6, va_tabs (u := U) rfl rfl h7, va_tabs (u := U) rfl rfl h8⟩
theorem gx_F.to {D : va_G} {g : gw_G} {s U : State} (h : gx_F D g s) (hW : s.WarmedH U.vm) : gx_F D g U := by
  obtain ⟨h1, h2, h3, h4, h5, h6, h7, h8⟩ := h
  exact ⟨va_K.moved hW.alike h1, va_AO.moved hW.alike h2, va_Nw.warmM hW h3, va_Nw.warmM hW h4, va_Nw.warmM hW h5, va_Nw.warmM hW h6, va_Nw.warmM hW h7, va_Nw.warmM hW h8⟩
/-- a constructor's start and end: one cell, as it was born; the cells that it becomes -/
def gx_P (D : va_G) (g : gw_G) (ci : Nat) (fs : List Value) (h0 sz : Nat) : Array Value → State → Prop := va_Pc [.ref h0] (fun U => U.heap.size = sz ∧ va_P D vwCl [(h0, .inr (ci, fs))] U.heap ∧ gx_F D g U)
def gx_Q (D : va_G) (Sh : va_W → Prop) (ci : Nat) (fs : List Value) (h0 sz : Nat) : Array Value → State → Outcome → State → Prop := va_Qv (fun w : va_W => Sh w) (fun w t => va_P D vwCl w t.heap ∧ va_D (va_A [(h0, .inr (ci, fs))] sz) w) (va_A [(h0, .inr (ci, fs))] sz)
theorem gx_blind {D : va_G} {g : gw_G} {ci : Nat} {fs : List Value} {h0 sz : Nat} : FrameBlind (gx_P D g ci fs h0 sz) := fun a _ f mk q => ⟨q.1, q.2.1, q.2.2.1, q.2.2.2.blind f mk a⟩
def gx_E (p : Program) (s : State) (m : MethodId) (args : Array Value) (c : Code) (cc : ByteArray) (nL : Nat) (Ts : List Cond) (own : String) (D : va_G) (g : gw_G) (A : Nat → Prop) : Prop :=
  CallFix p m c cc nL s args Ts own ∧ gx_F D g s ∧ ∀ q : Nat, s.heap.size ≤ q → A q
def gx_I (D : va_G) (A : Nat → Prop) (H0 : Heap) (X : va_W) (H : Heap) (locs : List Loc) : Prop := va_P D vwCl X H ∧ va_D A X ∧ va_S A H0 H locs
theorem va_RA_inj {U : State} {a b : ClassId} {ty : FieldType} (h1 : va_RA U a ty) (h2 : va_RA U b ty) : a = b := by
  cases ty with
  | object C =>
    obtain ⟨_, _, _, _, _, e1⟩ := h1
    obtain ⟨_, _, _, _, _, e2⟩ := h2
    exact Option.some.inj (e1.symm.trans e2)
  | _ => exact Option.some.inj (Eq.trans (Eq.symm h1) h2)
theorem gx_appL {X : va_W} {x q : Nat × va_E} {k : Nat} (h : X[k]? = some q) : (X ++ [x])[k]? = some q := by
  rw [List.getElem?_append_left (List.getElem?_eq_some_iff.mp h).1]; exact h
theorem gx_appR {X : va_W} {x : Nat × va_E} : (X ++ [x])[X.length]? = some x := by simp
theorem gx_one {x q : Nat × va_E} {k : Nat} (h : [x][k]? = some q) : q = x := by
  cases k with
  | zero => simpa using h.symm
  | succ k => simp at h
theorem gx_last {D : va_G} {X : va_W} {x : Nat × va_E} {H : Heap} (hP : va_P D vwCl (X ++ [x]) H) : va_P D vwCl [x] H := fun k q h => by
  rw [gx_one h]; exact hP X.length x gx_appR
theorem gx_free {D : va_G} {A : Nat → Prop} {H0 : Heap} {X : va_W} {x : Nat × va_E} {H : Heap} {locs : List Loc} (I : gx_I D A H0 (X ++ [x]) H locs) (hA : ∀ q : Nat, H0.size ≤ q → A q) : ∀ q, va_A [x] H.size q → A q := by
  intro q h
  rcases h with ⟨k, e, h⟩ | h
  · have := gx_one h
    have h2 := I.2.1.2 X.length x gx_appR
    rw [← this] at h2
    exact h2
  · exact hA q (Nat.le_trans I.2.2.1 h)
theorem gx_join {D : va_G} {A : Nat → Prop} {X w1 : va_W} {x : Nat × va_E} {H H1 : Heap} (hP : va_P D vwCl (X ++ [x]) H) (hD : va_D A (X ++ [x])) (hk : ∀ q : Nat, q < H.size → ¬ va_A [x] H.size q → H1[q]? = H[q]?) (hF : ∀ q, va_A [x] H.size q → A q) (hP1 : va_P D vwCl w1 H1) (hD1 : va_D (va_A [x] H.size) w1) : va_P D vwCl (X ++ w1) H1 ∧ va_D A (X ++ w1) := by
  have hPX : va_P D vwCl X H := fun k q h => hP k q (gx_appL h)
  have hDX : va_D A X := ⟨fun i j p q hi hj e => hD.1 i j p q (gx_appL hi) (gx_appL hj) e, fun k q h => hD.2 k q (gx_appL h)⟩
  have apart : ∀ (k : Nat) (q : Nat × va_E), X[k]? = some q → ¬ va_A [x] H.size q.1 := by
    intro k q h hA
    rcases hA with ⟨i, e, hi⟩ | hA
    · have hx := gx_one hi
      have := hD.1 k X.length q x (gx_appL h) gx_appR (by rw [← hx])
      have := (List.getElem?_eq_some_iff.mp h).1
      omega
    · have := (hPX k q h).lt
      omega
  exact ⟨(hPX.kept (fun k q h => hk q.1 ((hPX k q h).lt) (apart k q h))).app hP1, hDX.app (hD1.weaken (fun _ q _ h => hF q.1 h)) (fun i j p q hi hj e => apart i p hi (by rw [e]; exact hD1.2 j q hj))⟩
section GX
variable {p : Program} {l : Launch} {e : Env} {R : Room} {s : State} {m : MethodId} {args : Array Value} {below : List Frame} {meth : Method} {c : Code} {H : Heap} {locs : List Loc} {cells slots : Nat} {Q : State → Prop}
variable {cc : ByteArray} {nL : Nat} {Ts : List Cond} {own : String} {D : va_G} {g : gw_G} {A : Nat → Prop} {H0 : Heap} {pc : Nat} {ls : Array Slot} {rest : List Value}
/-- a constructor, from its entry -/
theorem gx_met {y : MethodName} {ws ws' : List Cond} {rm : Room} {maxL ci h0 sz mc ms : Nat} {fs : List Value} {Qc : Array Value → State → Outcome → State → Prop} (hy : plainName y.cls = true) (hw : ws = .code y cc maxL none :: ws') (hml : 1 ≤ maxL)
    (kk : ∀ (p : Program) (e : Env) (s : State) (m : MethodId) (args : Array Value) (below : List Frame) (meth : Method) (c : Code) (A : Nat → Prop), A = va_A [(h0, .inr (ci, fs))] sz → gx_E p s m args c cc maxL ws y.cls D g A → meth.sig.returnType = none → meth.locks = false → meth.name = "<init>" ∨ y.name ≠ "<init>" → gx_I D A s.heap [(h0, .inr (ci, fs))] s.heap [] → ∀ ls : Array Slot, lv_has ls maxL [(0, .ref h0)] → W p l e rm s m args below meth c s.heap [] 0 0 (MQ below Qc args s mc ms A) (F0 m 0 ls [])) :
    Met l y ws rm (gx_P D g ci fs h0 sz) Qc mc ms (va_A [(h0, .inr (ci, fs))] sz) := by
  refine Met.ofW (cc := cc) (maxL := maxL) (ret := none) hy hw ?_
  intro p e s m args below meth c s₁ B hml2 hv
  obtain ⟨rfl, hsz, hP, hF⟩ := hv
  subst hsz
  rw [lg_entry_eq]
  have hD : va_D (va_A [(h0, .inr (ci, fs))] s.heap.size) [(h0, (.inr (ci, fs) : va_E))] := by
    refine ⟨fun i j x y hi hj _ => ?_, fun k q h => va_A.in h⟩
    have h1 := (List.getElem?_eq_some_iff.mp hi).1
    have h2 := (List.getElem?_eq_some_iff.mp hj).1
    simp at h1 h2
    omega
  have hn : meth.name = "<init>" ∨ y.name ≠ "<init>" := by
    have h1 := (name_of_methodNamed B.named B.method).1
    by_cases h : y.name = "<init>"
    · exact Or.inl (h1.trans h)
    · exact Or.inr h
  exact kk p e s m _ below meth c _ rfl ⟨⟨B.exec, B.bytes, hml2, findClass_of_methodNamed B.named, atoms_spec (ws := ws) B.pre⟩, hF, fun q h => Or.inr h⟩ B.returns B.notSynchronized hn ⟨hP, hD, va_S.rf⟩ _ (lv_entry [.ref h0] hml)
theorem gx_obj (E : gx_E p s m args c cc nL Ts own D g A) {idx h0 : Nat} (hls : ls.size = nL) (h1 : Cond.methodLink own idx objectInit ∈ Ts) (h2 : Cond.instanceMethod objectInit ∈ Ts) (h3 : Cond.code objectInit ⟨#[0xb1]⟩ 1 none ∈ Ts) (hf : 1 ≤ R.frames) (hlo : 12 ≤ R.locals) (hdg : decode cc pc = .ok (.invokespecial idx, 3))
    (kk : W p l e R s m args below meth c H locs cells slots Q (F0 m (pc + 3) ls [])) : W p l e R s m args below meth c H locs cells slots Q (F0 m pc ls [.ref h0]) := by
  obtain ⟨⟨hx, hb, hml, hown, hts⟩, -⟩ := E
  exact W.objInit hx hb hown (hts _ h1) (hts _ h2) (hts _ h3) rfl (by rw [hml]; exact hls) rfl hdg hf hlo kk
/-- a field of the first cell -/
theorem gx_put (E : gx_E p s m args c cc nL Ts own D g A) (hin2 : meth.name = "<init>") {h0 ci : Nat} {fs : List Value} {Y : va_W} (I : gx_I D A H0 ((h0, .inr (ci, fs)) :: Y) H locs) {C : String} {TT : u_T} {nf : Nat} (hc : vwCl[ci]? = some (C, TT, nf)) (j : Nat) (hj : j < nf) (hin : ∀ w ∈ u_ws C TT nf, w ∈ Ts) {index : Nat} {fn fd : String} (hlk : Cond.fieldLink own index own fn fd ∈ Ts) (h1 : (TT j).1 = own) (h2 : (TT j).2.1 = fn) (h3 : (TT j).2.2.1 = fd) (ty0 : Nat → FieldType) (hty : ∀ k, k < nf → parseFieldDescriptor (TT k).2.2.1 = some (ty0 k)) (hnm : ∀ a, a < nf → ∀ b, b < nf → a ≠ b → (TT a).2.1 ≠ (TT b).2.1) (hfin : (TT j).2.2.2 = true) {v : Value} (hn : narrow (ty0 j) v = v) (hfit : fits (ty0 j) v = true) (hlen : j < fs.length) (hdg : decode cc pc = .ok (.putfield index, 3))
    (kk : ∀ (H1 : Heap) (locs1 : List Loc), gx_I D A H0 ((h0, .inr (ci, fs.set j v)) :: Y) H1 locs1 → W p l e R s m args below meth c H1 locs1 cells slots Q (F0 m (pc + 3) ls rest)) : W p l e R s m args below meth c H locs cells slots Q (F0 m pc ls (v :: .ref h0 :: rest)) := by
  obtain ⟨⟨hx, hb, hml, hown, hts⟩, hF, hA⟩ := E
  obtain ⟨hP, hD, hS⟩ := I
  subst h2; subst h3
  exact va_putF hx hb hts hin ty0 hty hnm hown hF.1 hP hD hS 0 rfl hc j hj (by rw [h1]; exact hts _ hlk) (fun _ h => h) hfin hin2 h1 (hty j hj) hn hfit hlen hdg (fun H1 locs1 hP hD hS => kk H1 locs1 ⟨hP, hD, hS⟩)
/-- a new array, put into a field of the first cell -/
theorem gx_arr (E : gx_E p s m args c cc nL Ts own D g A) (hin2 : meth.name = "<init>") {h0 ci : Nat} {fs : List Value} {Y : va_W} (I : gx_I D A s.heap ((h0, .inr (ci, fs)) :: Y) H locs) (hl : ls[0]? = some (.val (.ref h0))) {atp : ArrayType} {ty : FieldType} (hat : newarray.typeOf atp = ty) (hac : Cond.arrayClass ty ∈ Ts) (t0 : Nat) {cA : ClassId} (ht : (gw_tys g)[t0]? = some (cA, ty)) {nb : Int} {n : Int32} {N' : Nat} (hnb : (Int8.ofInt nb).toInt32 = n) {a0 : vp_A} (ha : ∀ cA : ClassId, vp_cell cA a0 = arrV cA N' (fun _ => defaultValue ty)) (hn0 : ¬ n < 0) (hN : n.toNatClampNeg = N') (hbytes : N' * componentBytes ty ≤ 536870912) (hcells : cells + 1 ≤ R.cells) (hslots : slots + N' ≤ R.slots)
    {C : String} {TT : u_T} {nf : Nat} (hc : vwCl[ci]? = some (C, TT, nf)) (j : Nat) (hj : j < nf) (hin : ∀ w ∈ u_ws C TT nf, w ∈ Ts) {index : Nat} {fn fd : String} (hlk : Cond.fieldLink own index own fn fd ∈ Ts) (h1 : (TT j).1 = own) (h2 : (TT j).2.1 = fn) (h3 : (TT j).2.2.1 = fd) (ty0 : Nat → FieldType) (hty : ∀ k, k < nf → parseFieldDescriptor (TT k).2.2.1 = some (ty0 k)) (hnm : ∀ a, a < nf → ∀ b, b < nf → a ≠ b → (TT a).2.1 ≠ (TT b).2.1) (hfin : (TT j).2.2.2 = true) (hna : ∀ q : Nat, narrow (ty0 j) (.ref q) = .ref q ∧ fits (ty0 j) (.ref q) = true) (hlen : j < fs.length)
    (d0 : decode cc pc = .ok (.aload_n 0, 1)) (d1 : decode cc (pc + 1) = .ok (.bipush nb, 2)) (d2 : decode cc (pc + 3) = .ok (.newarray atp, 2)) (d3 : decode cc (pc + 5) = .ok (.putfield index, 3))
    (kk : ∀ (q : Nat) (H1 : Heap) (locs1 : List Loc), gx_I D A s.heap ((h0, .inr (ci, fs.set j (.ref q))) :: (Y ++ [(q, .inl (cA, a0))])) H1 locs1 → W p l e R s m args below meth c H1 locs1 (cells + 1) (slots + N') Q (F0 m (pc + 8) ls rest)) : W p l e R s m args below meth c H locs cells slots Q (F0 m pc ls rest) := by
  have E' := E
  obtain ⟨⟨hx, hb, hml, hown, hts⟩, hF, hA⟩ := E
  obtain ⟨hP, hD, hS⟩ := I
  refine lv_aload_n hx hb d0 rfl hl ?_
  refine lv_bipush hx hb d1 hnb ?_
  refine va_newa hx hb (by rw [hat]; exact hts _ hac) hat hF.1 hP hD hS hA ha hn0 hN hbytes hcells hslots d2 (fun q cB H1 hK hP hD hS => ?_)
  have hcA : cB = cA := va_RA_inj (hK.2 (gw_tys g).length (cB, ty) (by simp)).2 (hF.1.2 t0 _ ht).2
  subst hcA
  exact gx_put E' hin2 ⟨hP, hD, hS⟩ hc j hj hin hlk h1 h2 h3 ty0 hty hnm hfin (hna q).1 (hna q).2 hlen d3 (fun H1 locs1 I => kk q H1 locs1 I)
theorem gx_arrq (E : gx_E p s m args c cc nL Ts own D g A) (hin2 : meth.name = "<init>") {h0 ci : Nat} {fs : List Value} {Y : va_W} (I : gx_I D A s.heap ((h0, .inr (ci, fs)) :: Y) H locs) (hl : ls[0]? = some (.val (.ref h0))) {ix : Nat} (hcl : Cond.classLink own ix RX3 ∈ Ts) {nb : Int} {n : Int32} {N' : Nat} (hnb : (Int8.ofInt nb).toInt32 = n) (hn0 : ¬ n < 0) (hN : n.toNatClampNeg = N') (hbytes : N' * 4 ≤ 536870912) (hcells : cells + 1 ≤ R.cells) (hslots : slots + N' ≤ R.slots)
    {C : String} {TT : u_T} {nf : Nat} (hc : vwCl[ci]? = some (C, TT, nf)) (j : Nat) (hj : j < nf) (hin : ∀ w ∈ u_ws C TT nf, w ∈ Ts) {index : Nat} {fn fd : String} (hlk : Cond.fieldLink own index own fn fd ∈ Ts) (h1 : (TT j).1 = own) (h2 : (TT j).2.1 = fn) (h3 : (TT j).2.2.1 = fd) (ty0 : Nat → FieldType) (hty : ∀ k, k < nf → parseFieldDescriptor (TT k).2.2.1 = some (ty0 k)) (hnm : ∀ a, a < nf → ∀ b, b < nf → a ≠ b → (TT a).2.1 ≠ (TT b).2.1) (hfin : (TT j).2.2.2 = true) (hna : ∀ q : Nat, narrow (ty0 j) (.ref q) = .ref q ∧ fits (ty0 j) (.ref q) = true) (hlen : j < fs.length)
    (d0 : decode cc pc = .ok (.aload_n 0, 1)) (d1 : decode cc (pc + 1) = .ok (.bipush nb, 2)) (d2 : decode cc (pc + 3) = .ok (.anewarray ix, 3)) (d3 : decode cc (pc + 6) = .ok (.putfield index, 3))
    (kk : ∀ (q : Nat) (H1 : Heap) (locs1 : List Loc), gx_I D A s.heap ((h0, .inr (ci, fs.set j (.ref q))) :: (Y ++ [(q, .inl (g.2.2.2, N', .inr (.inr (.inr (.inr (fun _ => none))))))])) H1 locs1 → W p l e R s m args below meth c H1 locs1 (cells + 1) (slots + N') Q (F0 m (pc + 9) ls rest)) : W p l e R s m args below meth c H locs cells slots Q (F0 m pc ls rest) := by
  have E' := E
  obtain ⟨⟨hx, hb, hml, hown, hts⟩, hF, hA⟩ := E
  obtain ⟨hP, hD, hS⟩ := I
  refine lv_aload_n hx hb d0 rfl hl ?_
  refine lv_bipush hx hb d1 hnb ?_
  refine va_newq hx hb hown (hts _ hcl) hF.2.1 hF.1 hP hD hS hA hn0 hN hbytes hcells hslots d2 (fun q cB H1 hK hP hD hS => ?_)
  have hcA : cB = g.2.2.2 := va_RA_inj (hK.2 (gw_tys g).length (cB, .object RX3) (by simp)).2 (hF.1.2 3 _ rfl).2
  subst hcA
  exact gx_put E' hin2 ⟨hP, hD, hS⟩ hc j hj hin hlk h1 h2 h3 ty0 hty hnm hfin (hna q).1 (hna q).2 hlen d3 (fun H1 locs1 I => kk q H1 locs1 I)
/-- a new object, its constructor called -/
theorem gx_born (E : gx_E p s m args c cc nL Ts own D g A) {X : va_W} (I : gx_I D A s.heap X H locs) {C : String} {TC : u_T} {NC ciC : Nat} (hc : vwCl[ciC]? = some (C, TC, NC)) (hin : ∀ w ∈ u_ws C TC NC, w ∈ Ts) (tyC : Nat → FieldType) (hty : ∀ k, k < NC → parseFieldDescriptor (TC k).2.2.1 = some (tyC k)) {fsC : List Value} (hfs : ∀ j, j < NC → defaultValue (tyC j) = vp_V fsC j) {ix : Nat} (hcl : Cond.classLink own ix C ∈ Ts) (hinst : Cond.instantiable C NC ∈ Ts) (hini : Cond.initialized C ∈ Ts) {mc ms : Nat} (hcells : cells + 1 + mc ≤ R.cells) (hslots : slots + NC + ms ≤ R.slots) {Sh : Nat → va_W → Prop}
    (hrun : ∀ (q : Nat) (H : Heap) (locs : List Loc), gx_I D A s.heap (X ++ [(q, .inr (ciC, fsC))]) H locs → va_Run p l e R s m args below meth c H locs (cells + 1) (slots + NC) mc ms (F0 m (pc + 4) ls (.ref q :: .ref q :: rest)) (.ref q :: rest) (gx_Q D (Sh q) ciC fsC q H.size [.ref q].toArray) (va_A [(q, .inr (ciC, fsC))] H.size))
    (d0 : decode cc pc = .ok (.new ix, 3)) (d1 : decode cc (pc + 3) = .ok (.dup, 1))
    (kk : ∀ (q : Nat) (w : va_W) (H1 : Heap) (locs1 : List Loc), Sh q w → gx_I D A s.heap (X ++ w) H1 locs1 → W p l e R s m args below meth c H1 locs1 (cells + 1 + mc) (slots + NC + ms) Q (F0 m (pc + 7) ls (.ref q :: rest))) : W p l e R s m args below meth c H locs cells slots Q (F0 m pc ls rest) := by
  obtain ⟨⟨hx, hb, hml, hown, hts⟩, hF, hA⟩ := E
  obtain ⟨hP, hD, hS⟩ := I
  refine va_new (ci := ciC) (fs := fsC) hx hb hts hin tyC hty hown (hts _ hcl) (hts _ hinst) (hts _ hini) hF.1 hP hD hS hA hc hfs (by omega) (by omega) d0 (fun q H hP hD hS => ?_)
  refine lv_dup hx hb d1 rfl ?_
  have I : gx_I D A s.heap (X ++ [(q, .inr (ciC, fsC))]) H locs := ⟨hP, hD, hS⟩
  have hFc := gx_free I hA
  refine va_callv (hrun q H locs I) hS (fun q _ h => hFc q h) hFc (fun u t H1 locs ht hvm hw hB hz1 hk1 hS => ?_)
  obtain ⟨hP1, hD1⟩ := hB
  rw [ht] at hP1
  obtain ⟨hP, hD⟩ := gx_join hP hD hk1 hFc hP1 hD1
  exact kk q u H1 locs hw ⟨hP, hD, hS⟩
theorem gx_runN (E : gx_E p s m args c cc nL Ts own D g A) {X : va_W} {q ci : Nat} {fs : List Value} (I : gx_I D A s.heap (X ++ [(q, .inr (ci, fs))]) H locs) {y : MethodName} {ws : List Cond} {rm : Room} {mc ms maxL index : Nat} {host : String} {bytes : ByteArray} {Sh : Nat → va_W → Prop} {Qc : Array Value → State → Outcome → State → Prop} (hQ : Qc = gx_Q D (Sh q) ci fs q H.size) (hM : Met l y ws rm (gx_P D g ci fs q H.size) Qc mc ms (va_A [(q, .inr (ci, fs))] H.size)) (cw : va_CN R s args own index y host bytes maxL none ws rm mc ms 0 ∧ y.name = "<init>" ∧ (Cond.instanceMethod y).before args s = true) (hls : ls.size = nL) (hW : ((Value.ref q :: rest).map fun v => v.category).sum ≤ 8) (hcells : cells + mc ≤ R.cells) (hslots : slots + ms ≤ R.slots) (hdg : decode cc pc = .ok (.invokespecial index, 3)) : va_Run p l e R s m args below meth c H locs cells slots mc ms (F0 m pc ls (.ref q :: .ref q :: rest)) (.ref q :: rest) (gx_Q D (Sh q) ci fs q H.size [.ref q].toArray) (va_A [(q, .inr (ci, fs))] H.size) := by
  subst hQ
  exact va_runIN (As := []) (rest := .ref q :: rest) E.1 hM cw ⟨gx_blind, fun U hU hW => ⟨rfl, by rw [hU], by rw [hU]; exact gx_last I.1, E.2.1.to hW⟩⟩ rfl rfl hls rfl (lv_room hW) hdg ⟨hcells, hslots⟩
theorem gx_runI (E : gx_E p s m args c cc nL Ts own D g A) {X : va_W} {q ci : Nat} {fs : List Value} (I : gx_I D A s.heap (X ++ [(q, .inr (ci, fs))]) H locs) {y : MethodName} {ws : List Cond} {rm : Room} {mc ms maxL index : Nat} {bytes : ByteArray} {Sh : Nat → va_W → Prop} {Qc : Array Value → State → Outcome → State → Prop} (hQ : Qc = gx_Q D (Sh q) ci fs q H.size) (hM : Met l y ws rm (gx_P D g ci fs q H.size) Qc mc ms (va_A [(q, .inr (ci, fs))] H.size)) (cw : CallB R s args own index y bytes maxL none ws rm mc ms 0 ∧ y.name = "<init>" ∧ (Cond.instanceMethod y).before args s = true) (hls : ls.size = nL) (hW : ((Value.ref q :: rest).map fun v => v.category).sum ≤ 8) (hcells : cells + mc ≤ R.cells) (hslots : slots + ms ≤ R.slots) (hdg : decode cc pc = .ok (.invokespecial index, 3)) : va_Run p l e R s m args below meth c H locs cells slots mc ms (F0 m pc ls (.ref q :: .ref q :: rest)) (.ref q :: rest) (gx_Q D (Sh q) ci fs q H.size [.ref q].toArray) (va_A [(q, .inr (ci, fs))] H.size) := by
  subst hQ
  exact va_runI (As := []) (rest := .ref q :: rest) E.1 hM cw ⟨gx_blind, fun U hU hW => ⟨rfl, by rw [hU], by rw [hU]; exact gx_last I.1, E.2.1.to hW⟩⟩ rfl rfl hls rfl (lv_room hW) hdg ⟨hcells, hslots⟩
theorem gx_ret {Sh : va_W → Prop} {X : va_W} {ci h0 : Nat} {fs : List Value} (E : gx_E p s m args c cc nL Ts own D g A) (I : gx_I D A s.heap X H locs) {sz : Nat} (hA : A = va_A [(h0, .inr (ci, fs))] sz) (hSh : Sh X) (hr : meth.sig.returnType = none) (hlocks : meth.locks = false) (hdg : decode cc pc = .ok (.return_, 1)) : W p l e R s m args below meth c H locs cells slots (MQ below (gx_Q D Sh ci fs h0 sz) args s cells slots A) (F0 m pc ls []) := by
  subst hA
  exact W.vret E.1.1 E.1.2.1 hr (fun t ht hW => ⟨⟨X, rfl, hSh, by rw [ht]; exact I.1, I.2.1⟩, I.2.2.F ht⟩) I.2.2.2.2 hdg hlocks
end GX
