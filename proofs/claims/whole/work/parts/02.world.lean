/-! THE WORLDS: a fixed row of N cells, each at an address of its own (ad k); what is in them is three tables of numbers (ints, references as numbers of cells, longs), read and written by cell and place. T says what a cell looks like. -/
abbrev gw_S : Type := (Nat → Nat → Int32) × (Nat → Nat → Nat) × (Nat → Nat → Int64)
abbrev gw_G : Type := ClassId × ClassId × ClassId × ClassId
abbrev gw_T : Type := Nat → (Nat → Int32) → (Nat → Nat) → (Nat → Int64) → va_E
def rdI (s : gw_S) (k j : Nat) : Int32 := s.1 k j
def rdR (s : gw_S) (k j : Nat) : Nat := s.2.1 k j
def rdL (s : gw_S) (k j : Nat) : Int64 := s.2.2 k j
def gw_upR (f : Nat → Nat) (j v : Nat) : Nat → Nat := fun i => if i = j then v else f i
def wrI (s : gw_S) (k j : Nat) (v : Int32) : gw_S := (fun a => if a = k then upd (s.1 k) j v else s.1 a, s.2)
def wrR (s : gw_S) (k j : Nat) (v : Nat) : gw_S := (s.1, fun a => if a = k then gw_upR (s.2.1 k) j v else s.2.1 a, s.2.2)
def wrL (s : gw_S) (k j : Nat) (v : Int64) : gw_S := (s.1, s.2.1, fun a => if a = k then vp_updL (s.2.2 k) j v else s.2.2 a)
theorem wrI_self (s : gw_S) (k j : Nat) (v : Int32) : (wrI s k j v).1 k = upd (s.1 k) j v := by simp [wrI]
theorem wrR_self (s : gw_S) (k j : Nat) (v : Nat) : (wrR s k j v).2.1 k = gw_upR (s.2.1 k) j v := by simp [wrR]
theorem wrL_self (s : gw_S) (k j : Nat) (v : Int64) : (wrL s k j v).2.2 k = vp_updL (s.2.2 k) j v := by simp [wrL]
theorem wrI_off (s : gw_S) (k j : Nat) (v : Int32) : ∀ a, a ≠ k → (wrI s k j v).1 a = s.1 a ∧ (wrI s k j v).2.1 a = s.2.1 a ∧ (wrI s k j v).2.2 a = s.2.2 a := fun a h => ⟨by simp [wrI, h], rfl, rfl⟩
theorem wrR_off (s : gw_S) (k j : Nat) (v : Nat) : ∀ a, a ≠ k → (wrR s k j v).1 a = s.1 a ∧ (wrR s k j v).2.1 a = s.2.1 a ∧ (wrR s k j v).2.2 a = s.2.2 a := fun a h => ⟨rfl, by simp [wrR, h], rfl⟩
theorem wrL_off (s : gw_S) (k j : Nat) (v : Int64) : ∀ a, a ≠ k → (wrL s k j v).1 a = s.1 a ∧ (wrL s k j v).2.1 a = s.2.1 a ∧ (wrL s k j v).2.2 a = s.2.2 a := fun a h => ⟨rfl, rfl, by simp [wrL, h]⟩
/-- the row of cells -/
def gw_w (T : gw_T) (N : Nat) (ad : Nat → Nat) (s : gw_S) : va_W := (List.range N).map (fun k => (ad k, T k (s.1 k) (s.2.1 k) (s.2.2 k)))
theorem gw_at {T : gw_T} {N : Nat} {ad : Nat → Nat} {s : gw_S} {k : Nat} (hk : k < N) : (gw_w T N ad s)[k]? = some (ad k, T k (s.1 k) (s.2.1 k) (s.2.2 k)) := by simp [gw_w, hk]
theorem gw_at_inv {T : gw_T} {N : Nat} {ad : Nat → Nat} {s : gw_S} {k : Nat} {q : Nat × va_E} (h : (gw_w T N ad s)[k]? = some q) : k < N ∧ q = (ad k, T k (s.1 k) (s.2.1 k) (s.2.2 k)) := by
  have hk : k < N := by
    have := (List.getElem?_eq_some_iff.mp h).1
    simpa [gw_w] using this
  rw [gw_at hk] at h
  exact ⟨hk, (Option.some.inj h).symm⟩
theorem gw_set {T : gw_T} {N : Nat} {ad : Nat → Nat} {s s' : gw_S} {k : Nat} (h : ∀ a, a ≠ k → s'.1 a = s.1 a ∧ s'.2.1 a = s.2.1 a ∧ s'.2.2 a = s.2.2 a) : (gw_w T N ad s).set k (ad k, T k (s'.1 k) (s'.2.1 k) (s'.2.2 k)) = gw_w T N ad s' := by
  apply List.ext_getElem?
  intro i
  by_cases hi : i < N
  · rw [gw_at hi]
    by_cases hik : i = k
    · subst hik
      rw [List.getElem?_set_self (by simpa [gw_w] using hi)]
    · rw [List.getElem?_set_ne (Ne.symm hik), gw_at hi, (h i hik).1, (h i hik).2.1, (h i hik).2.2]
  · rw [List.getElem?_eq_none (by simp [gw_w]; omega), List.getElem?_eq_none (by simp [gw_w]; omega)]
/-- the addresses are apart, and in A -/
def gw_D (A : Nat → Prop) (N : Nat) (ad : Nat → Nat) : Prop := (∀ i j, i < N → j < N → ad i = ad j → i = j) ∧ ∀ i, i < N → A (ad i)
theorem gw_D.va {A : Nat → Prop} {N : Nat} {ad : Nat → Nat} (h : gw_D A N ad) {T : gw_T} {s : gw_S} : va_D A (gw_w T N ad s) := by
  refine ⟨fun i j p q hi hj e => ?_, fun k q hk => ?_⟩
  · obtain ⟨h1, rfl⟩ := gw_at_inv hi
    obtain ⟨h2, rfl⟩ := gw_at_inv hj
    exact h.1 i j h1 h2 e
  · obtain ⟨h1, rfl⟩ := gw_at_inv hk
    exact h.2 k h1
/-- an index in its row -/
def gw_ix (i : Int32) (n : Nat) : Bool := decide (¬ (i < 0 ∨ n ≤ i.toNatClampNeg))
theorem gw_ix_in {i : Int32} {n : Nat} (h : gw_ix i n = true) : vp_in i n := of_decide_eq_true (p := ¬ (i < 0 ∨ n ≤ i.toNatClampNeg)) h
/-- a boolean -/
def gw_bl (x : Int32) : Bool := decide (x = 0) || decide (x = 1)
theorem gw_bl_or {x : Int32} (h : gw_bl x = true) : x = 0 ∨ x = 1 := by
  simp [gw_bl] at h; exact h
def gw_gi (j : Nat) : Int32 := match j with
  | 0 => 0
  | 1 => 1
  | 2 => -2
  | 3 => -1
  | _ => -2
def gw_grips : Nat → Value := fun j => .int (gw_gi j)
abbrev gw_tys (g : gw_G) : List (ClassId × FieldType) := [(g.1, .int), (g.2.1, .boolean), (g.2.2.1, .byte), (g.2.2.2, .object RX3)]
/-- what stays true of the machine: classes and arrays as the tables have them, GRIPS, the nest mates' links -/
def gw_F (D : va_G) (g : gw_G) (tG : Nat) (A : Nat → Prop) (U : State) : Prop :=
  va_K D vwCl (gw_tys g) U ∧ va_Z "ThrownSacks" "GRIPS" "[I" (.ref tG) A U U.heap ∧ va_T .int tG 5 gw_grips A U U.heap ∧ va_Nw (.methodLinkNest RX0 30 yX7_costOf "ThrownSacks") U ∧ va_Nw (.methodLinkNest RX0 34 yX7_carryTenths "ThrownSacks") U ∧ va_Nw (.methodLinkNest RX5 45 yX7_nextTo "ThrownSacks") U ∧ va_Nw (.methodLinkNest RX5 63 yX7_tenthsOf "ThrownSacks") U
def gw_E (p : Program) (s : State) (m : MethodId) (args : Array Value) (c : Code) (cc : ByteArray) (nL : Nat) (Ts : List Cond) (own : String) (D : va_G) (g : gw_G) (tG N : Nat) (ad : Nat → Nat) (A : Nat → Prop) : Prop :=
  CallFix p m c cc nL s args Ts own ∧ gw_F D g tG A s ∧ gw_D A N ad
def gw_I (D : va_G) (T : gw_T) (N : Nat) (ad : Nat → Nat) (A : Nat → Prop) (H0 : Heap) (st : gw_S) (H : Heap) (locs : List Loc) : Prop := va_P D vwCl (gw_w T N ad st) H ∧ va_S A H0 H locs
/-- a contract's start and end -/
def gw_Pc (D : va_G) (g : gw_G) (tG : Nat) (T : gw_T) (N : Nat) (ad : Nat → Nat) (A : Nat → Prop) (av : List Value) (s0 : gw_S) : Array Value → State → Prop := va_Pc av (fun U => gw_F D g tG A U ∧ va_P D vwCl (gw_w T N ad s0) U.heap)
def gw_B (D : va_G) (T : gw_T) (N : Nat) (ad : Nat → Nat) (s' : gw_S) (t : State) : Prop := va_P D vwCl (gw_w T N ad s') t.heap
def gw_Qi (D : va_G) (T : gw_T) (N : Nat) (ad : Nat → Nat) (A : Nat → Prop) (r0 : Int32) (s' : gw_S) : Array Value → State → Outcome → State → Prop := va_Qi (fun (r : Int32) (u : gw_S) => r = r0 ∧ u = s') (gw_B D T N ad) A
def gw_Ql (D : va_G) (T : gw_T) (N : Nat) (ad : Nat → Nat) (A : Nat → Prop) (r0 : Int64) (s' : gw_S) : Array Value → State → Outcome → State → Prop := va_Ql (fun (r : Int64) (u : gw_S) => r = r0 ∧ u = s') (gw_B D T N ad) A
def gw_Qv (D : va_G) (T : gw_T) (N : Nat) (ad : Nat → Nat) (A : Nat → Prop) (s' : gw_S) : Array Value → State → Outcome → State → Prop := va_Qv (fun (u : gw_S) => u = s') (gw_B D T N ad) A
/-- functions read off the code, a step each -/
def gw_nm {α β : Type} (a : α) (f : α → β) : β := f a
theorem gw_nmE {α β : Type} {a : α} {f : α → β} {r : β} (h : gw_nm a f = r) : ∃ x, x = a ∧ f x = r := ⟨a, rfl, h⟩
theorem gw_bdE {α β : Type} {x : Option α} {f : α → Option β} {r : β} (h : x.bind f = some r) : ∃ a, x = some a ∧ f a = some r := Option.bind_eq_some_iff.mp h
theorem gw_if1 {c : Prop} [Decidable c] {α : Type} {A B r : α} (h : c) (hF : (if c then A else B) = r) : A = r := (if_pos h).symm.trans hF
theorem gw_if0 {c : Prop} [Decidable c] {α : Type} {A B r : α} (h : ¬ c) (hF : (if c then A else B) = r) : B = r := (if_neg h).symm.trans hF
theorem gw_ifn {c : Prop} [Decidable c] {α : Type} {A : Option α} {r : α} (hF : (if c then A else none) = some r) : c ∧ A = some r := by
  by_cases h : c
  · exact ⟨h, (if_pos h).symm.trans hF⟩
  · rw [if_neg h] at hF; cases hF
theorem gw_ifz {c : Prop} [Decidable c] {α : Type} {A : Option α} {r : α} (hF : (if c then none else A) = some r) : ¬ c ∧ A = some r := by
  by_cases h : c
  · rw [if_pos h] at hF; cases hF
  · exact ⟨h, (if_neg h).symm.trans hF⟩
def gw_b2 {α β γ : Type} (x : Option (α × β)) (f : α → β → Option γ) : Option γ := x.bind (fun q => f q.1 q.2)
theorem gw_b2E {α β γ : Type} {x : Option (α × β)} {f : α → β → Option γ} {r : γ} (h : gw_b2 x f = some r) : ∃ a b, x = some (a, b) ∧ f a b = some r := by
  obtain ⟨⟨a, b⟩, h1, h2⟩ := Option.bind_eq_some_iff.mp h
  exact ⟨a, b, h1, h2⟩
theorem gw_nar {x : Int32} (h : gw_bl x = true) : narrow .boolean (.int x) = .int x := by rcases gw_bl_or h with rfl | rfl <;> rfl
theorem gw_F.blind {D : va_G} {g : gw_G} {tG : Nat} {A : Nat → Prop} {U : State} (h : gw_F D g tG A U) (f : JFrame) (mk : MethodId) (a : Array Value) : gw_F D g tG A (U.calling f mk a) := by
  obtain ⟨h1, h2, h3, h4, h5, h6, h7⟩ := h
  exact ⟨va_K.moved (u := U) (U := U.calling f mk a) (Vm.Alike.refl U.vm) h1, va_Z.moved (u := U) (U := U.calling f mk a) (Vm.Alike.refl U.vm) h2, va_T.moved (u := U) (U := U.calling f mk a) (Vm.Alike.refl U.vm) h3,
    va_tabs (u := U) rfl rfl h4, va_tabs (u := U) rfl rfl h5, va_tabs (u := U) rfl rfl h6, va_tabs (u := U) rfl rfl h7⟩
theorem gw_F.to {D : va_G} {g : gw_G} {tG : Nat} {A : Nat → Prop} {s U : State} {H : Heap} {locs : List Loc} (h : gw_F D g tG A s) (hS : va_S A s.heap H locs) (hU : U.heap = H) (hW : s.WarmedH U.vm) : gw_F D g tG A U := by
  obtain ⟨h1, h2, h3, h4, h5, h6, h7⟩ := h
  subst hU
  exact ⟨va_K.moved hW.alike h1, va_Z.moved hW.alike (h2.kept hS.2.1), va_T.moved hW.alike (h3.kept hS.2.1), va_Nw.warmM hW h4, va_Nw.warmM hW h5, va_Nw.warmM hW h6, va_Nw.warmM hW h7⟩
theorem gw_blind {D : va_G} {g : gw_G} {tG : Nat} {T : gw_T} {N : Nat} {ad : Nat → Nat} {A : Nat → Prop} {av : List Value} {s0 : gw_S} : FrameBlind (gw_Pc D g tG T N ad A av s0) := fun a U f mk q => ⟨q.1, q.2.1.blind f mk a, q.2.2⟩
section GWR
variable {p : Program} {l : Launch} {e : Env} {R : Room} {s : State} {m : MethodId} {args : Array Value} {below : List Frame} {meth : Method} {c : Code} {H : Heap} {locs : List Loc} {cells slots : Nat} {Q : State → Prop}
variable {cc : ByteArray} {nL : Nat} {Ts : List Cond} {own : String} {D : va_G} {g : gw_G} {tG N : Nat} {ad : Nat → Nat} {A : Nat → Prop} {T : gw_T} {H0 : Heap} {st : gw_S} {pc : Nat} {ls : Array Slot} {rest : List Value}
/-- a method, from its entry -/
theorem gw_met {y : MethodName} {ws ws' : List Cond} {rm : Room} {maxL : Nat} {ret : Option FieldType} {vs : List Value} {s0 : gw_S} {Qc : Array Value → State → Outcome → State → Prop} (hy : plainName y.cls = true) (hw : ws = .code y cc maxL ret :: ws') (hD : gw_D A N ad) (hvs : (lg_sl vs).length ≤ maxL)
    (kk : ∀ (p : Program) (e : Env) (s : State) (m : MethodId) (args : Array Value) (below : List Frame) (meth : Method) (c : Code), gw_E p s m args c cc maxL ws y.cls D g tG N ad A → meth.sig.returnType = ret → meth.locks = false → gw_I D T N ad A s.heap s0 s.heap [] → ∀ ls : Array Slot, lv_has ls maxL (lv_args 0 vs) → W p l e rm s m args below meth c s.heap [] 0 0 (MQ below Qc args s 0 0 A) (F0 m 0 ls [])) :
    Met l y ws rm (gw_Pc D g tG T N ad A vs s0) Qc 0 0 A := by
  refine Met.ofW (cc := cc) (maxL := maxL) (ret := ret) hy hw ?_
  intro p e s m args below meth c s₁ B hml hv
  obtain ⟨rfl, hfx, hP⟩ := hv
  rw [lg_entry_eq]
  exact kk p e s m _ below meth c ⟨⟨B.exec, B.bytes, hml, findClass_of_methodNamed B.named, atoms_spec (ws := ws) B.pre⟩, hfx, hD⟩ B.returns B.notSynchronized ⟨hP, va_S.rf⟩ _ (lv_entry vs hvs)
theorem gw_get (E : gw_E p s m args c cc nL Ts own D g tG N ad A) (I : gw_I D T N ad A H0 st H locs) (k j : Nat) (hk : k < N) {ci n : Nat} {fs : List Value} (hT : T k (st.1 k) (st.2.1 k) (st.2.2 k) = .inr (ci, fs)) {C : String} {TT : u_T} (hc : vwCl[ci]? = some (C, TT, n)) (hj : j < n) (hin : ∀ w ∈ u_ws C TT n, w ∈ Ts) {ref fn fd : String} {index : Nat} (hl : Cond.fieldLink own index ref fn fd ∈ Ts) (h1 : (TT j).1 = ref) (h2 : (TT j).2.1 = fn) (h3 : (TT j).2.2.1 = fd) {v : Value} (hv : fs[j]? = some v) (hdg : decode cc pc = .ok (.getfield index, 3))
    (kk : W p l e R s m args below meth c H locs cells slots Q (F0 m (pc + 3) ls (v :: rest))) : W p l e R s m args below meth c H locs cells slots Q (F0 m pc ls (.ref (ad k) :: rest)) := by
  subst h1; subst h2; subst h3
  exact va_get E.1.1 E.1.2.1 E.1.2.2.2.2 hin E.1.2.2.2.1 E.2.1.1 I.1 k (by rw [gw_at hk, hT]) hc j hj (E.1.2.2.2.2 _ hl) (fun _ h => h) hv hdg kk
theorem gw_put (E : gw_E p s m args c cc nL Ts own D g tG N ad A) (I : gw_I D T N ad A H0 st H locs) (k j : Nat) (hk : k < N) {ci n : Nat} {fs : List Value} (hT : T k (st.1 k) (st.2.1 k) (st.2.2 k) = .inr (ci, fs)) {C : String} {TT : u_T} (hc : vwCl[ci]? = some (C, TT, n)) (hj : j < n) (hin : ∀ w ∈ u_ws C TT n, w ∈ Ts) {ref fn fd : String} {index : Nat} (hl : Cond.fieldLink own index ref fn fd ∈ Ts) (h1 : (TT j).1 = ref) (h2 : (TT j).2.1 = fn) (h3 : (TT j).2.2.1 = fd)
    (ty0 : Nat → FieldType) (hty : ∀ k, k < n → parseFieldDescriptor (TT k).2.2.1 = some (ty0 k)) (hnm : ∀ a, a < n → ∀ b, b < n → a ≠ b → (TT a).2.1 ≠ (TT b).2.1) (hfin : (TT j).2.2.2 = false) {ty : FieldType} {v : Value} (hd : parseFieldDescriptor (TT j).2.2.1 = some ty) (hn : narrow ty v = v) (hfit : fits ty v = true) (hlen : j < fs.length)
    {st' : gw_S} (hT' : T k (st'.1 k) (st'.2.1 k) (st'.2.2 k) = .inr (ci, fs.set j v)) (hoff : ∀ a, a ≠ k → st'.1 a = st.1 a ∧ st'.2.1 a = st.2.1 a ∧ st'.2.2 a = st.2.2 a) (hdg : decode cc pc = .ok (.putfield index, 3))
    (kk : ∀ (H1 : Heap) (locs1 : List Loc), gw_I D T N ad A H0 st' H1 locs1 → W p l e R s m args below meth c H1 locs1 cells slots Q (F0 m (pc + 3) ls rest)) : W p l e R s m args below meth c H locs cells slots Q (F0 m pc ls (v :: .ref (ad k) :: rest)) := by
  subst h1; subst h2; subst h3
  refine va_put E.1.1 E.1.2.1 E.1.2.2.2.2 hin ty0 hty hnm E.1.2.2.2.1 E.2.1.1 I.1 E.2.2.va I.2 k (by rw [gw_at hk, hT]) hc j hj (E.1.2.2.2.2 _ hl) (fun _ h => h) hfin hd hn hfit hlen hdg (fun H1 locs1 hP _ hS => kk H1 locs1 ⟨?_, hS⟩)
  rw [← hT', gw_set hoff] at hP
  exact hP
theorem gw_iald (E : gw_E p s m args c cc nL Ts own D g tG N ad A) (I : gw_I D T N ad A H0 st H locs) (k : Nat) (hk : k < N) {n : Nat} (hT : T k (st.1 k) (st.2.1 k) (st.2.2 k) = .inl (g.1, n, .inl (st.1 k))) {i : Int32} (hi : gw_ix i n = true) (hdg : decode cc pc = .ok (.iaload, 1))
    (kk : W p l e R s m args below meth c H locs cells slots Q (F0 m (pc + 1) ls (.int (rdI st k i.toNatClampNeg) :: rest))) : W p l e R s m args below meth c H locs cells slots Q (F0 m pc ls (.int i :: .ref (ad k) :: rest)) :=
  va_iald (f := st.1 k) E.1.1 E.1.2.1 E.2.1.1 I.1 k 0 (by rw [gw_at hk, hT]) rfl (gw_ix_in hi) hdg kk
theorem gw_zald (E : gw_E p s m args c cc nL Ts own D g tG N ad A) (I : gw_I D T N ad A H0 st H locs) (k : Nat) (hk : k < N) {n : Nat} (hT : T k (st.1 k) (st.2.1 k) (st.2.2 k) = .inl (g.2.1, n, .inl (st.1 k))) {i : Int32} (hi : gw_ix i n = true) (hdg : decode cc pc = .ok (.baload, 1))
    (kk : W p l e R s m args below meth c H locs cells slots Q (F0 m (pc + 1) ls (.int (rdI st k i.toNatClampNeg) :: rest))) : W p l e R s m args below meth c H locs cells slots Q (F0 m pc ls (.int i :: .ref (ad k) :: rest)) :=
  va_zald (f := st.1 k) E.1.1 E.1.2.1 E.2.1.1 I.1 k 1 (by rw [gw_at hk, hT]) rfl (gw_ix_in hi) hdg kk
theorem gw_bald (E : gw_E p s m args c cc nL Ts own D g tG N ad A) (I : gw_I D T N ad A H0 st H locs) (k : Nat) (hk : k < N) {n : Nat} (hT : T k (st.1 k) (st.2.1 k) (st.2.2 k) = .inl (g.2.2.1, n, .inl (st.1 k))) {i : Int32} (hi : gw_ix i n = true) (hdg : decode cc pc = .ok (.baload, 1))
    (kk : W p l e R s m args below meth c H locs cells slots Q (F0 m (pc + 1) ls (.int (rdI st k i.toNatClampNeg) :: rest))) : W p l e R s m args below meth c H locs cells slots Q (F0 m pc ls (.int i :: .ref (ad k) :: rest)) :=
  va_bald (f := st.1 k) E.1.1 E.1.2.1 E.2.1.1 I.1 k 2 (by rw [gw_at hk, hT]) rfl (gw_ix_in hi) hdg kk
theorem gw_aald (E : gw_E p s m args c cc nL Ts own D g tG N ad A) (I : gw_I D T N ad A H0 st H locs) (k : Nat) (hk : k < N) {n : Nat} (hT : T k (st.1 k) (st.2.1 k) (st.2.2 k) = .inl (g.2.2.2, n, .inr (.inr (.inr (.inr (fun i => some (ad (st.2.1 k i)))))))) {i : Int32} (hi : gw_ix i n = true) (hdg : decode cc pc = .ok (.aaload, 1))
    (kk : W p l e R s m args below meth c H locs cells slots Q (F0 m (pc + 1) ls (.ref (ad (rdR st k i.toNatClampNeg)) :: rest))) : W p l e R s m args below meth c H locs cells slots Q (F0 m pc ls (.int i :: .ref (ad k) :: rest)) :=
  va_aldq (f := fun i => some (ad (st.2.1 k i))) E.1.1 E.1.2.1 E.2.1.1 I.1 k 3 (by rw [gw_at hk, hT]) rfl (gw_ix_in hi) hdg kk
theorem gw_iast (E : gw_E p s m args c cc nL Ts own D g tG N ad A) (I : gw_I D T N ad A H0 st H locs) (k : Nat) (hk : k < N) {n : Nat} (hT : ∀ x : Nat → Int32, T k x (st.2.1 k) (st.2.2 k) = .inl (g.1, n, .inl x)) {i x : Int32} (hi : gw_ix i n = true) {st' : gw_S} (he : st' = wrI st k i.toNatClampNeg x) (hdg : decode cc pc = .ok (.iastore, 1))
    (kk : ∀ (H1 : Heap) (locs1 : List Loc), gw_I D T N ad A H0 st' H1 locs1 → W p l e R s m args below meth c H1 locs1 cells slots Q (F0 m (pc + 1) ls rest)) : W p l e R s m args below meth c H locs cells slots Q (F0 m pc ls (.int x :: .int i :: .ref (ad k) :: rest)) := by
  subst he
  refine va_iast E.1.1 E.1.2.1 E.2.1.1 I.1 E.2.2.va I.2 k 0 (by rw [gw_at hk, hT]) rfl (gw_ix_in hi) hdg (fun H1 locs1 hP _ hS => kk H1 locs1 ⟨?_, hS⟩)
  have h := gw_set (T := T) (N := N) (ad := ad) (wrI_off st k i.toNatClampNeg x)
  rw [wrI_self] at h
  rw [← hT] at hP
  rw [← h]
  exact hP
theorem gw_zast (E : gw_E p s m args c cc nL Ts own D g tG N ad A) (I : gw_I D T N ad A H0 st H locs) (k : Nat) (hk : k < N) {n : Nat} (hT : ∀ x : Nat → Int32, T k x (st.2.1 k) (st.2.2 k) = .inl (g.2.1, n, .inl x)) {i x : Int32} (hi : gw_ix i n = true) (hbl : gw_bl x = true) {st' : gw_S} (he : st' = wrI st k i.toNatClampNeg x) (hdg : decode cc pc = .ok (.bastore, 1))
    (kk : ∀ (H1 : Heap) (locs1 : List Loc), gw_I D T N ad A H0 st' H1 locs1 → W p l e R s m args below meth c H1 locs1 cells slots Q (F0 m (pc + 1) ls rest)) : W p l e R s m args below meth c H locs cells slots Q (F0 m pc ls (.int x :: .int i :: .ref (ad k) :: rest)) := by
  subst he
  refine va_zast E.1.1 E.1.2.1 E.2.1.1 I.1 E.2.2.va I.2 k 1 (by rw [gw_at hk, hT]) rfl (gw_ix_in hi) hdg (fun H1 locs1 hP _ hS => kk H1 locs1 ⟨?_, hS⟩)
  have h := gw_set (T := T) (N := N) (ad := ad) (wrI_off st k i.toNatClampNeg x)
  rw [wrI_self] at h
  have hx : vp_nar .boolean x = x := by rcases gw_bl_or hbl with rfl | rfl <;> rfl
  rw [← hT, hx] at hP
  rw [← h]
  exact hP
theorem gw_bast (E : gw_E p s m args c cc nL Ts own D g tG N ad A) (I : gw_I D T N ad A H0 st H locs) (k : Nat) (hk : k < N) {n : Nat} (hT : ∀ x : Nat → Int32, T k x (st.2.1 k) (st.2.2 k) = .inl (g.2.2.1, n, .inl x)) {i x : Int32} (hi : gw_ix i n = true) {st' : gw_S} (he : st' = wrI st k i.toNatClampNeg (vp_nar .byte x)) (hdg : decode cc pc = .ok (.bastore, 1))
    (kk : ∀ (H1 : Heap) (locs1 : List Loc), gw_I D T N ad A H0 st' H1 locs1 → W p l e R s m args below meth c H1 locs1 cells slots Q (F0 m (pc + 1) ls rest)) : W p l e R s m args below meth c H locs cells slots Q (F0 m pc ls (.int x :: .int i :: .ref (ad k) :: rest)) := by
  subst he
  refine va_bast E.1.1 E.1.2.1 E.2.1.1 I.1 E.2.2.va I.2 k 2 (by rw [gw_at hk, hT]) rfl (gw_ix_in hi) hdg (fun H1 locs1 hP _ hS => kk H1 locs1 ⟨?_, hS⟩)
  have h := gw_set (T := T) (N := N) (ad := ad) (wrI_off st k i.toNatClampNeg (vp_nar .byte x))
  rw [wrI_self] at h
  rw [← hT] at hP
  rw [← h]
  exact hP
theorem gw_aast (E : gw_E p s m args c cc nL Ts own D g tG N ad A) (I : gw_I D T N ad A H0 st H locs) (k q : Nat) (hk : k < N) (hq : q < N) {n : Nat} (hT : ∀ y : Nat → Nat, T k (st.1 k) y (st.2.2 k) = .inl (g.2.2.2, n, .inr (.inr (.inr (.inr (fun i => some (ad (y i)))))))) {fs : List Value} (hTq : T q (st.1 q) (st.2.1 q) (st.2.2 q) = .inr (3, fs)) {i : Int32} (hi : gw_ix i n = true) {st' : gw_S} (he : st' = wrR st k i.toNatClampNeg q) (hdg : decode cc pc = .ok (.aastore, 1))
    (kk : ∀ (H1 : Heap) (locs1 : List Loc), gw_I D T N ad A H0 st' H1 locs1 → W p l e R s m args below meth c H1 locs1 cells slots Q (F0 m (pc + 1) ls rest)) : W p l e R s m args below meth c H locs cells slots Q (F0 m pc ls (.ref (ad q) :: .int i :: .ref (ad k) :: rest)) := by
  subst he
  refine va_astq E.1.1 E.1.2.1 E.2.1.1 I.1 E.2.2.va I.2 k 3 q 3 (r := (RX3, TX3, 4)) (by rw [gw_at hk, hT]) rfl (by rw [gw_at hq, hTq]) rfl (gw_ix_in hi) hdg (fun H1 locs1 hP _ hS => kk H1 locs1 ⟨?_, hS⟩)
  have h := gw_set (T := T) (N := N) (ad := ad) (wrR_off st k i.toNatClampNeg q)
  rw [wrR_self] at h
  have hf : va_up (fun i => some (ad (st.2.1 k i))) i.toNatClampNeg (some (ad q)) = fun j => some (ad (gw_upR (st.2.1 k) i.toNatClampNeg q j)) := by
    funext j
    by_cases hj : j = i.toNatClampNeg
    · subst hj; simp [va_up, gw_upR]
    · simp [va_up, gw_upR, hj]
  rw [hf, ← hT] at hP
  rw [← h]
  exact hP
theorem gw_alen (E : gw_E p s m args c cc nL Ts own D g tG N ad A) (I : gw_I D T N ad A H0 st H locs) (k : Nat) (hk : k < N) {n : Nat} (hT : T k (st.1 k) (st.2.1 k) (st.2.2 k) = .inl (g.1, n, .inl (st.1 k))) {v : Int32} (hv : Int32.ofNat n = v) (hdg : decode cc pc = .ok (.arraylength, 1))
    (kk : W p l e R s m args below meth c H locs cells slots Q (F0 m (pc + 1) ls (.int v :: rest))) : W p l e R s m args below meth c H locs cells slots Q (F0 m pc ls (.ref (ad k) :: rest)) :=
  va_alen E.1.1 E.1.2.1 E.2.1.1 I.1 k 0 (by rw [gw_at hk, hT]) rfl hv hdg kk
/-- the length of a row of references -/
theorem gw_qlen (E : gw_E p s m args c cc nL Ts own D g tG N ad A) (I : gw_I D T N ad A H0 st H locs) (k : Nat) (hk : k < N) {n : Nat} (hT : T k (st.1 k) (st.2.1 k) (st.2.2 k) = .inl (g.2.2.2, n, .inr (.inr (.inr (.inr (fun i => some (ad (st.2.1 k i)))))))) {v : Int32} (hv : Int32.ofNat n = v) (hdg : decode cc pc = .ok (.arraylength, 1))
    (kk : W p l e R s m args below meth c H locs cells slots Q (F0 m (pc + 1) ls (.int v :: rest))) : W p l e R s m args below meth c H locs cells slots Q (F0 m pc ls (.ref (ad k) :: rest)) :=
  va_alen E.1.1 E.1.2.1 E.2.1.1 I.1 k 3 (by rw [gw_at hk, hT]) rfl hv hdg kk
/-- GRIPS -/
theorem gw_grip (E : gw_E p s m args c cc nL Ts own D g tG N ad A) (hS : va_S A s.heap H locs) {index : Nat} (hl : Cond.fieldLink own index "ThrownSacks" "GRIPS" "[I" ∈ Ts) (hdg : decode cc pc = .ok (.getstatic index, 3))
    (kk : W p l e R s m args below meth c H locs cells slots Q (F0 m (pc + 3) ls (.ref tG :: rest))) : W p l e R s m args below meth c H locs cells slots Q (F0 m pc ls rest) :=
  va_gets E.1.1 E.1.2.1 E.2.1.2.1 hS E.1.2.2.2.1 (E.1.2.2.2.2 _ hl) (fun _ h => h) hdg kk
theorem gw_gripAt (E : gw_E p s m args c cc nL Ts own D g tG N ad A) (hS : va_S A s.heap H locs) {i : Int32} (hi : gw_ix i 5 = true) (hdg : decode cc pc = .ok (.iaload, 1))
    (kk : W p l e R s m args below meth c H locs cells slots Q (F0 m (pc + 1) ls (.int (gw_gi i.toNatClampNeg) :: rest))) : W p l e R s m args below meth c H locs cells slots Q (F0 m pc ls (.int i :: .ref tG :: rest)) :=
  va_ti E.1.1 E.1.2.1 E.2.1.2.2.1 hS (gw_ix_in hi) rfl hdg kk
theorem gw_gripLen (E : gw_E p s m args c cc nL Ts own D g tG N ad A) (hS : va_S A s.heap H locs) (hdg : decode cc pc = .ok (.arraylength, 1))
    (kk : W p l e R s m args below meth c H locs cells slots Q (F0 m (pc + 1) ls (.int 5 :: rest))) : W p l e R s m args below meth c H locs cells slots Q (F0 m pc ls (.ref tG :: rest)) :=
  va_tlen E.1.1 E.1.2.1 E.2.1.2.2.1 hS rfl hdg kk
/-- calls within a world -/
theorem gw_runV (E : gw_E p s m args c cc nL Ts own D g tG N ad A) (I : gw_I D T N ad A s.heap st H locs) {y : MethodName} {ws : List Cond} {rm : Room} {Qc : Array Value → State → Outcome → State → Prop} {C : String} {index maxL n : Nat} {bytes : ByteArray} {ret : Option FieldType} {As st0 : List Value} {b : Nat}
    (hM : Met l y ws rm (gw_Pc D g tG T N ad A (.ref (ad b) :: As) st) Qc 0 0 A) (cw : CallW R s args own C index y bytes maxL ret ws rm 0 0 n) (hb : b < N) {ci nf : Nat} {fs : List Value} {TT : u_T} (hTb : T b (st.1 b) (st.2.1 b) (st.2.2 b) = .inr (ci, fs)) (hcb : vwCl[ci]? = some (C, TT, nf)) (hn : As.length = n) (hl : ls.size = nL)
    (hst : st0 = As.reverse ++ .ref (ad b) :: rest) (hW : (rest.map fun v => v.category).sum ≤ 8) (hdg : decode cc pc = .ok (.invokevirtual index, 3)) :
    va_Run p l e R s m args below meth c H locs 0 0 0 0 (F0 m pc ls st0) rest (Qc (Value.ref (ad b) :: As).toArray) A := by
  refine va_runV E.1 hM cw ⟨gw_blind, ?_, fun U hU hW => ⟨rfl, E.2.1.to I.2 hU hW, by rw [hU]; exact I.1⟩⟩ rfl hn hl hst (lv_room hW) hdg ⟨Nat.zero_le _, Nat.zero_le _⟩
  exact va_recv (q := (C, TT, nf)) (ws := gw_w T N ad st) E.2.1.1 I.1 (ci := ci) (q0 := b) hcb (by rw [gw_at hb, hTb])
theorem gw_runS (E : gw_E p s m args c cc nL Ts own D g tG N ad A) (I : gw_I D T N ad A s.heap st H locs) {y : MethodName} {ws : List Cond} {rm : Room} {Qc : Array Value → State → Outcome → State → Prop} {index maxL n : Nat} {bytes : ByteArray} {ret : Option FieldType} {As st0 : List Value}
    (hM : Met l y ws rm (gw_Pc D g tG T N ad A As st) Qc 0 0 A) (cw : CallB R s args own index y bytes maxL ret ws rm 0 0 n ∧ (Cond.static y).before args s = true) (hn : As.length = n) (hl : ls.size = nL)
    (hst : st0 = As.reverse ++ rest) (hW : (rest.map fun v => v.category).sum ≤ 8) (hdg : decode cc pc = .ok (.invokestatic index, 3)) :
    va_Run p l e R s m args below meth c H locs 0 0 0 0 (F0 m pc ls st0) rest (Qc As.toArray) A :=
  va_runS E.1 hM cw ⟨gw_blind, fun U hU hW => ⟨rfl, E.2.1.to I.2 hU hW, by rw [hU]; exact I.1⟩⟩ rfl hn hl hst (lv_room hW) hdg ⟨Nat.zero_le _, Nat.zero_le _⟩
theorem gw_runN (E : gw_E p s m args c cc nL Ts own D g tG N ad A) (I : gw_I D T N ad A s.heap st H locs) {y : MethodName} {ws : List Cond} {rm : Room} {Qc : Array Value → State → Outcome → State → Prop} {index maxL n : Nat} {host : String} {bytes : ByteArray} {ret : Option FieldType} {As st0 : List Value}
    (hM : Met l y ws rm (gw_Pc D g tG T N ad A As st) Qc 0 0 A) (cw : va_CN R s args own index y host bytes maxL ret ws rm 0 0 n ∧ (Cond.static y).before args s = true ∧ True) (hn : As.length = n) (hl : ls.size = nL)
    (hst : st0 = As.reverse ++ rest) (hW : (rest.map fun v => v.category).sum ≤ 8) (hdg : decode cc pc = .ok (.invokestatic index, 3)) :
    va_Run p l e R s m args below meth c H locs 0 0 0 0 (F0 m pc ls st0) rest (Qc As.toArray) A :=
  va_runSN E.1 hM cw ⟨gw_blind, fun U hU hW => ⟨rfl, E.2.1.to I.2 hU hW, by rw [hU]; exact I.1⟩⟩ rfl hn hl hst (lv_room hW) hdg ⟨Nat.zero_le _, Nat.zero_le _⟩
variable {st0 : List Value} {st' : gw_S} {a : Array Value}
theorem gw_calli {r0 : Int32} (I : gw_I D T N ad A H0 st H locs) (hr : va_Run p l e R s m args below meth c H locs 0 0 0 0 (F0 m pc ls st0) rest (gw_Qi D T N ad A r0 st' a) A)
    (kk : ∀ (H1 : Heap) (locs1 : List Loc), gw_I D T N ad A H0 st' H1 locs1 → W p l e R s m args below meth c H1 locs1 0 0 Q (F0 m (pc + 3) ls (.int r0 :: rest))) : W p l e R s m args below meth c H locs 0 0 Q (F0 m pc ls st0) := by
  refine va_calli (post := fun (r : Int32) (u : gw_S) => r = r0 ∧ u = st') (B := gw_B D T N ad) hr I.2 (fun _ _ h => h) (fun _ h => h) (fun r u t H1 locs1 ht hvm hp hB hz hk hS => ?_)
  obtain ⟨rfl, rfl⟩ := hp
  exact kk H1 locs1 ⟨by rw [← ht]; exact hB, hS⟩
theorem gw_calll {r0 : Int64} (I : gw_I D T N ad A H0 st H locs) (hr : va_Run p l e R s m args below meth c H locs 0 0 0 0 (F0 m pc ls st0) rest (gw_Ql D T N ad A r0 st' a) A)
    (kk : ∀ (H1 : Heap) (locs1 : List Loc), gw_I D T N ad A H0 st' H1 locs1 → W p l e R s m args below meth c H1 locs1 0 0 Q (F0 m (pc + 3) ls (.long r0 :: rest))) : W p l e R s m args below meth c H locs 0 0 Q (F0 m pc ls st0) := by
  refine va_calll (post := fun (r : Int64) (u : gw_S) => r = r0 ∧ u = st') (B := gw_B D T N ad) hr I.2 (fun _ _ h => h) (fun _ h => h) (fun r u t H1 locs1 ht hvm hp hB hz hk hS => ?_)
  obtain ⟨rfl, rfl⟩ := hp
  exact kk H1 locs1 ⟨by rw [← ht]; exact hB, hS⟩
theorem gw_callv (I : gw_I D T N ad A H0 st H locs) (hr : va_Run p l e R s m args below meth c H locs 0 0 0 0 (F0 m pc ls st0) rest (gw_Qv D T N ad A st' a) A)
    (kk : ∀ (H1 : Heap) (locs1 : List Loc), gw_I D T N ad A H0 st' H1 locs1 → W p l e R s m args below meth c H1 locs1 0 0 Q (F0 m (pc + 3) ls rest)) : W p l e R s m args below meth c H locs 0 0 Q (F0 m pc ls st0) := by
  refine va_callv (post := fun (u : gw_S) => u = st') (B := gw_B D T N ad) hr I.2 (fun _ _ h => h) (fun _ h => h) (fun u t H1 locs1 ht hvm hp hB hz hk hS => ?_)
  subst hp
  exact kk H1 locs1 ⟨by rw [← ht]; exact hB, hS⟩
/-- ends -/
theorem gw_iret {v r0 : Int32} (E : gw_E p s m args c cc nL Ts own D g tG N ad A) (I : gw_I D T N ad A s.heap st H locs) {ty : FieldType} (hr : meth.sig.returnType = some ty) (hlocks : meth.locks = false) (hn : narrow ty (.int v) = .int v) (hv : v = r0) (hs : st = st') (hdg : decode cc pc = .ok (.ireturn, 1)) :
    W p l e R s m args below meth c H locs 0 0 (MQ below (gw_Qi D T N ad A r0 st') args s 0 0 A) (F0 m pc ls [.int v]) := by
  subst hv; subst hs
  exact W.zret E.1.1 E.1.2.1 hr hn (fun t ht hW => ⟨⟨v, st, rfl, ⟨rfl, rfl⟩, by show va_P _ _ _ t.heap; rw [ht]; exact I.1⟩, I.2.F ht⟩) I.2.2.2 hdg hlocks
theorem gw_lret {v r0 : Int64} (E : gw_E p s m args c cc nL Ts own D g tG N ad A) (I : gw_I D T N ad A s.heap st H locs) (hr : meth.sig.returnType = some .long) (hlocks : meth.locks = false) (hv : v = r0) (hs : st = st') (hdg : decode cc pc = .ok (.lreturn, 1)) :
    W p l e R s m args below meth c H locs 0 0 (MQ below (gw_Ql D T N ad A r0 st') args s 0 0 A) (F0 m pc ls [.long v]) := by
  subst hv; subst hs
  exact W.lret E.1.1 E.1.2.1 hr (fun t ht hW => ⟨⟨v, st, rfl, ⟨rfl, rfl⟩, by show va_P _ _ _ t.heap; rw [ht]; exact I.1⟩, I.2.F ht⟩) I.2.2.2 hdg hlocks
theorem gw_vret (E : gw_E p s m args c cc nL Ts own D g tG N ad A) (I : gw_I D T N ad A s.heap st H locs) (hr : meth.sig.returnType = none) (hlocks : meth.locks = false) (hs : st = st') (hdg : decode cc pc = .ok (.return_, 1)) :
    W p l e R s m args below meth c H locs 0 0 (MQ below (gw_Qv D T N ad A st') args s 0 0 A) (F0 m pc ls []) := by
  subst hs
  exact W.vret E.1.1 E.1.2.1 hr (fun t ht hW => ⟨⟨st, rfl, rfl, by show va_P _ _ _ t.heap; rw [ht]; exact I.1⟩, I.2.F ht⟩) I.2.2.2 hdg hlocks
theorem gw_topi {x y : Int32} (h : x = y) (k : W p l e R s m args below meth c H locs cells slots Q (F0 m pc ls (.int x :: rest))) : W p l e R s m args below meth c H locs cells slots Q (F0 m pc ls (.int y :: rest)) := by subst h; exact k
theorem gw_topl {x y : Int64} (h : x = y) (k : W p l e R s m args below meth c H locs cells slots Q (F0 m pc ls (.long x :: rest))) : W p l e R s m args below meth c H locs cells slots Q (F0 m pc ls (.long y :: rest)) := by subst h; exact k
theorem gw_topr {x y : Nat} (h : x = y) (k : W p l e R s m args below meth c H locs cells slots Q (F0 m pc ls (.ref (ad x) :: rest))) : W p l e R s m args below meth c H locs cells slots Q (F0 m pc ls (.ref (ad y) :: rest)) := by subst h; exact k
end GWR
theorem gw_sw {x : Int32} {k : Int32} {a : Int} (h : x = k) (hk : k.toInt = a) : x.toInt = a := by rw [h, hk]
