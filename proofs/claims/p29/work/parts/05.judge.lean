/-! THE JUDGEMENT: G X s lv st pc: from a heap that holds the world s, with locals lv and stack st at pc, the method X ends as it is due. What else a method rests on: EV. -/
def lst (j : Nat) : Int32 := ([1, 4, 1, 1] : List Int32).getD j 0
def mst (j : Nat) : Int32 := ([9, 60, 99, 2] : List Int32).getD j 0
def ety (E : Ev) : List (ClassId × FieldType) := [(eC E 0, .int), (eC E 1, .boolean), (eC E 2, .char), (eC E 3, .object RX1), (eC E 4, .object RX4), (eC E 5, .object RX2)]
def EV (E : Ev) (U : State) (H : Heap) : Prop :=
  va_K (eD E) vwCl (ety E) U ∧ Inj E ∧ (∀ a i y h, Cond.methodLinkNest a i y h ∈ tables_1 → va_Nw (Cond.methodLinkNest a i y h) U) ∧ (∀ a i b n d h, Cond.fieldLinkNest a i b n d h ∈ tables_1 → va_Nw (Cond.fieldLinkNest a i b n d h) U) ∧
  va_Z "SweetWraps" "LEAST_OF_SETTING" "[I" (.ref (eT E 0)) (eA E) U H ∧ va_T .int (eT E 0) 4 (fun j => .int (lst j)) (eA E) U H ∧ va_Z "SweetWraps" "MOST_OF_SETTING" "[I" (.ref (eT E 1)) (eA E) U H ∧ va_T .int (eT E 1) 4 (fun j => .int (mst j)) (eA E) U H
theorem EV.next {E : Ev} {s U : State} {H : Heap} {locs : List Loc} (h : EV E s s.heap) (hW : s.WarmedH U.vm) (hS : va_S (eA E) s.heap H locs) (hH : U.heap = H) : EV E U U.heap := by
  obtain ⟨h1, h2, h3, h4, h5, h6, h7, h8⟩ := h
  rw [hH]
  have a := hW.alike
  have k := hS.2.1
  exact ⟨va_K.moved a h1, h2, fun _ _ _ _ z => va_Nw.warmM hW (h3 _ _ _ _ z), fun _ _ _ _ _ _ z => va_Nw.warmF hW (h4 _ _ _ _ _ _ z), (va_Z.moved a h5).kept k, (va_T.moved a h6).kept k, (va_Z.moved a h7).kept k, (va_T.moved a h8).kept k⟩
theorem EV.same {E : Ev} {u U : State} (hv : U.vm = u.vm) (hh : U.heap = u.heap) (h : EV E u u.heap) : EV E U U.heap := by
  obtain ⟨h1, h2, h3, h4, h5, h6, h7, h8⟩ := h
  rw [hh]
  have a : u.vm.Alike U.vm := by rw [hv]; exact Vm.Alike.refl _
  exact ⟨va_K.moved a h1, h2, fun _ _ _ _ z => va_Nw.same rfl hv.symm (h3 _ _ _ _ z), fun _ _ _ _ _ _ z => va_Nw.same rfl hv.symm (h4 _ _ _ _ _ _ z), va_Z.moved a h5, va_T.moved a h6, va_Z.moved a h7, va_T.moved a h8⟩
abbrev Tx : Type := Program × Launch × Env × Room × State × MethodId × Array Value × List Frame × Method × Code × (State → Prop) × Ev × Nat
abbrev tP (X : Tx) : Program := X.1
abbrev tL (X : Tx) : Launch := X.2.1
abbrev te (X : Tx) : Env := X.2.2.1
abbrev tR (X : Tx) : Room := X.2.2.2.1
abbrev tS (X : Tx) : State := X.2.2.2.2.1
abbrev tM (X : Tx) : MethodId := X.2.2.2.2.2.1
abbrev tA (X : Tx) : Array Value := X.2.2.2.2.2.2.1
abbrev tB (X : Tx) : List Frame := X.2.2.2.2.2.2.2.1
abbrev tO (X : Tx) : Method := X.2.2.2.2.2.2.2.2.1
abbrev tC (X : Tx) : Code := X.2.2.2.2.2.2.2.2.2.1
abbrev tZ (X : Tx) : State → Prop := X.2.2.2.2.2.2.2.2.2.2.1
abbrev tE (X : Tx) : Ev := X.2.2.2.2.2.2.2.2.2.2.2.1
abbrev tN (X : Tx) : Nat := X.2.2.2.2.2.2.2.2.2.2.2.2
/-- with the heap named -/
abbrev GH (X : Tx) (H : Heap) (locs : List Loc) (ls : Array Slot) (st : List Value) (pc : Nat) : Prop := W (tP X) (tL X) (te X) (tR X) (tS X) (tM X) (tA X) (tB X) (tO X) (tC X) H locs 0 0 (tZ X) (F0 (tM X) pc ls st)
def G (X : Tx) (σ : Sg) (lv : List (Nat × Value)) (st : List Value) (pc : Nat) : Prop :=
  ∀ (H : Heap) (locs : List Loc) (ls : Array Slot), WD (tE X) σ H → va_S (eA (tE X)) (tS X).heap H locs → lv_has ls (tN X) lv → GH X H locs ls st pc
def Cx (X : Tx) (cc : ByteArray) (own : String) (ret : Option FieldType) (fr lo nL : Nat) (Qc : Array Value → State → Outcome → State → Prop) : Prop :=
  (tP X).tables.exec = Jvm.exec ∧ (tC X).code = cc ∧ (tO X).sig.returnType = ret ∧ (tC X).maxLocals = tN X ∧ (tS X).vm.findClass own = some (tM X).cls ∧ (tO X).locks = false ∧ (∀ w ∈ BIG, w.before (tA X) (tS X) = true) ∧ EV (tE X) (tS X) (tS X).heap ∧ tR X = { frames := fr, cells := 0, slots := 0, locals := lo } ∧ tN X = nL ∧ tZ X = MQ (tB X) Qc (tA X) (tS X) 0 0 (eA (tE X))
/-- a method's contract: from the world s, with the arguments av -/
def CT (l : Launch) (E : Ev) (y : MethodName) (cc : ByteArray) (nL : Nat) (ret : Option FieldType) (fr lo : Nat) (av : List Value) (σ : Sg) (Qc : Array Value → State → Outcome → State → Prop) : Prop :=
  Met l y (Cond.code y cc nL ret :: BIG) { frames := fr, cells := 0, slots := 0, locals := lo } (va_Pc av (fun U => WD E σ U.heap ∧ EV E U U.heap)) Qc 0 0 (eA E)
/-- how it ends: an int and a world; a world -/
abbrev QI (E : Ev) (Q : Int32 → Sg → Prop) : Array Value → State → Outcome → State → Prop := va_Qi Q (fun u t => WD E u t.heap) (eA E)
abbrev QV (E : Ev) (Q : Sg → Prop) : Array Value → State → Outcome → State → Prop := va_Qv Q (fun u t => WD E u t.heap) (eA E)
theorem CT_of {l : Launch} {E : Ev} {y : MethodName} {cc : ByteArray} {nL : Nat} {ret : Option FieldType} {fr lo : Nat} {av : List Value} {σ : Sg} {Qc : Array Value → State → Outcome → State → Prop} (hy : plainName y.cls = true) (hl : (lg_sl av).length ≤ nL)
    (body : ∀ X : Tx, tL X = l → tE X = E → Cx X cc y.cls ret fr lo nL Qc → G X σ (lv_args 0 av) [] 0) : CT l E y cc nL ret fr lo av σ Qc := by
  refine Met.ofW (cc := cc) (maxL := nL) (ret := ret) hy rfl ?_
  intro p e s m args below meth c s₁ B hml hv
  obtain ⟨rfl, hW, hE⟩ := hv
  have hts := atoms_spec (ws := Cond.code y cc nL ret :: BIG) B.pre
  have k := body (p, l, e, (headSpec (Cond.code y cc nL ret :: BIG) { frames := fr, cells := 0, slots := 0, locals := lo }).room, s, m, av.toArray, below, meth, c, MQ below Qc av.toArray s 0 0 (eA E), E, nL) rfl rfl
    ⟨B.exec, B.bytes, B.returns, hml, findClass_of_methodNamed B.named, B.notSynchronized, fun w h => hts w (List.mem_cons_of_mem _ h), hE, rfl, rfl, rfl⟩
  rw [lg_entry_eq]
  exact k s.heap [] _ hW va_S.rf (lv_entry av hl)
