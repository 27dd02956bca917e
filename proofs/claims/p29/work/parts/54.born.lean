/-! The constructors. A block: the cells from an address on to the heap's end, their contents a list. GB: from a heap that holds the block, with locals lv and stack st at pc, the method X ends as it is due. -/
abbrev AtC (E : Ev) (a : Nat) (e : va_E) (H : Heap) : Prop := va_at (eD E) vwCl (a, e) H
def Blk (E : Ev) (b : Nat) (es : List va_E) (H : Heap) : Prop := H.size = b + es.length ∧ ∀ (j : Nat) (e : va_E), es[j]? = some e → AtC E (b + j) e H
section BK
variable {E : Ev} {b : Nat} {es : List va_E} {H H1 : Heap}
theorem Blk.set (h : Blk E b es H) {j : Nat} {e : va_E} (hj : j < es.length) (z : H1.size = H.size) (oq : ∀ q : Nat, q ≠ b + j → H1[q]? = H[q]?) (he : AtC E (b + j) e H1) : Blk E b (es.set j e) H1 := by
  refine ⟨by rw [z, h.1, List.length_set], fun k x hk => ?_⟩
  by_cases hkj : k = j
  · subst hkj
    rw [List.getElem?_set_self hj] at hk
    cases hk
    exact he
  · rw [List.getElem?_set_ne (Ne.symm hkj)] at hk
    exact (h.2 k x hk).kept (oq _ (by show b + k ≠ b + j; omega))
theorem Blk.push (h : Blk E b es H) {e : va_E} (z : H1.size = H.size + 1) (oq : ∀ q : Nat, q < H.size → H1[q]? = H[q]?) (he : AtC E (b + es.length) e H1) : Blk E b (es ++ [e]) H1 := by
  have hz := h.1
  refine ⟨by rw [z, hz, List.length_append, List.length_singleton]; omega, fun k x hk => ?_⟩
  by_cases hl : k < es.length
  · rw [List.getElem?_append_left hl] at hk
    exact (h.2 k x hk).kept (oq _ (by show b + k < H.size; omega))
  · rw [List.getElem?_append_right (by omega)] at hk
    have h1 : k - es.length < 1 := (List.getElem?_eq_some_iff.mp hk).1
    have h2 : k = es.length := by omega
    subst h2
    rw [Nat.sub_self] at hk
    cases hk
    exact he
theorem Blk.last {e : va_E} (h : Blk E b (es ++ [e]) H) : Blk E (b + es.length) [e] H := by
  have hz := h.1
  rw [List.length_append, List.length_singleton] at hz
  refine ⟨by rw [hz, List.length_singleton]; omega, fun k x hk => ?_⟩
  have h1 : k < 1 := (List.getElem?_eq_some_iff.mp hk).1
  have h2 : k = 0 := by omega
  subst h2
  cases hk
  exact h.2 es.length _ (by rw [List.getElem?_append_right (Nat.le_refl _), Nat.sub_self]; rfl)
theorem Blk.join {e : va_E} {es1 : List va_E} (h : Blk E b (es ++ [e]) H) (h1 : Blk E (b + es.length) es1 H1) (oq : ∀ q : Nat, q < H.size → ¬ b + es.length ≤ q → H1[q]? = H[q]?) : Blk E b (es ++ es1) H1 := by
  have hz := h.1
  rw [List.length_append, List.length_singleton] at hz
  refine ⟨by rw [h1.1, List.length_append]; omega, fun k x hk => ?_⟩
  by_cases hl : k < es.length
  · rw [List.getElem?_append_left hl] at hk
    exact (h.2 k x (by rw [List.getElem?_append_left hl]; exact hk)).kept (oq _ (by show b + k < H.size; omega) (by show ¬ b + es.length ≤ b + k; omega))
  · rw [List.getElem?_append_right (by omega)] at hk
    have h2 := h1.2 _ x hk
    rw [show b + es.length + (k - es.length) = b + k by omega] at h2
    exact h2
theorem Blk.one (h : Blk E b es H) {j : Nat} {e : va_E} (he : es[j]? = some e) : va_P (eD E) vwCl [(b + j, e)] H := fun k q hk => by
  cases k with
  | zero => cases hk; exact h.2 j e he
  | succ k => cases hk
end BK
/-- what a constructor rests on -/
def EC (E : Ev) (U : State) : Prop := va_K (eD E) vwCl (ety E) U ∧ (∀ a i y h, Cond.methodLinkNest a i y h ∈ tables_1 → va_Nw (Cond.methodLinkNest a i y h) U) ∧ va_AO RX1 U ∧ va_AO RX2 U ∧ va_AO RX4 U
theorem EC.next {E : Ev} {s U : State} (h : EC E s) (hW : s.WarmedH U.vm) : EC E U := ⟨va_K.moved hW.alike h.1, fun _ _ _ _ z => va_Nw.warmM hW (h.2.1 _ _ _ _ z), va_AO.moved hW.alike h.2.2.1, va_AO.moved hW.alike h.2.2.2.1, va_AO.moved hW.alike h.2.2.2.2⟩
theorem EC.same {E : Ev} {u U : State} (hv : U.vm = u.vm) (h : EC E u) : EC E U := by
  have a : u.vm.Alike U.vm := by rw [hv]; exact Vm.Alike.refl _
  exact ⟨va_K.moved a h.1, fun _ _ _ _ z => va_Nw.same rfl hv.symm (h.2.1 _ _ _ _ z), va_AO.moved a h.2.2.1, va_AO.moved a h.2.2.2.1, va_AO.moved a h.2.2.2.2⟩
/-- its frame -/
def Cy (X : Tx) (cc : ByteArray) (own : String) (fr lo nL mc ms : Nat) : Prop :=
  (tP X).tables.exec = Jvm.exec ∧ (tC X).code = cc ∧ (tC X).maxLocals = tN X ∧ (tS X).vm.findClass own = some (tM X).cls ∧ (∀ w ∈ BIG, w.before (tA X) (tS X) = true) ∧ EC (tE X) (tS X) ∧ tR X = { frames := fr, cells := mc, slots := ms, locals := lo } ∧ tN X = nL
def GB (X : Tx) (b : Nat) (es : List va_E) (cells slots : Nat) (lv : List (Nat × Value)) (st : List Value) (pc : Nat) : Prop :=
  ∀ (H : Heap) (locs : List Loc) (ls : Array Slot), Blk (tE X) b es H → va_S (fun q => b ≤ q) (tS X).heap H locs → lv_has ls (tN X) lv → W (tP X) (tL X) (te X) (tR X) (tS X) (tM X) (tA X) (tB X) (tO X) (tC X) H locs cells slots (tZ X) (F0 (tM X) pc ls st)
abbrev QB (E : Ev) (b : Nat) (es : List va_E) : Array Value → State → Outcome → State → Prop := va_Qv (fun _ : Unit => True) (fun _ t => Blk E b es t.heap) (fun q => b ≤ q)
/-- a constructor's contract: the object is the heap's last cell, and as it was born; behind it stands the whole block -/
def CN (l : Launch) (E : Ev) (y : MethodName) (cc : ByteArray) (nL fr lo mc ms b : Nat) (e0 : va_E) (es : List va_E) : Prop :=
  Met l y (Cond.code y cc nL none :: BIG) { frames := fr, cells := mc, slots := ms, locals := lo } (va_Pc [.ref b] (fun U => Blk E b [e0] U.heap ∧ EC E U)) (QB E b es) mc ms (fun q => b ≤ q)
theorem CN_of {l : Launch} {E : Ev} {y : MethodName} {cc : ByteArray} {nL fr lo mc ms b : Nat} {e0 : va_E} {es : List va_E} (hy : plainName y.cls = true) (hi : y.name = "<init>") (hn : 1 ≤ nL)
    (body : ∀ X : Tx, tL X = l → tE X = E → Cy X cc y.cls fr lo nL mc ms → (tO X).name = "<init>" → (tO X).sig.returnType = none → (tO X).locks = false → tZ X = MQ (tB X) (QB E b es) (tA X) (tS X) mc ms (fun q => b ≤ q) → GB X b [e0] 0 0 [(0, .ref b)] [] 0) : CN l E y cc nL fr lo mc ms b e0 es := by
  refine Met.ofW (cc := cc) (maxL := nL) (ret := none) hy rfl ?_
  intro p e s m args below meth c s₁ B hml hv
  obtain ⟨rfl, hB, hE⟩ := hv
  have hts := atoms_spec (ws := Cond.code y cc nL none :: BIG) B.pre
  have k := body (p, l, e, (headSpec (Cond.code y cc nL none :: BIG) { frames := fr, cells := mc, slots := ms, locals := lo }).room, s, m, [Value.ref b].toArray, below, meth, c, MQ below (QB E b es) [Value.ref b].toArray s mc ms (fun q => b ≤ q), E, nL) rfl rfl
    ⟨B.exec, B.bytes, hml, findClass_of_methodNamed B.named, fun w h => hts w (List.mem_cons_of_mem _ h), hE, rfl, rfl⟩ ((name_of_methodNamed B.named B.method).1.trans hi) B.returns B.notSynchronized rfl
  rw [lg_entry_eq]
  exact k s.heap [] _ hB va_S.rf (lv_entry [Value.ref b] hn)
section GBR
variable {X : Tx} {cc : ByteArray} {own : String} {fr lo nL mc ms b : Nat} {es : List va_E} {cells slots : Nat} {lv : List (Nat × Value)} {st : List Value} {pc : Nat}
theorem gb_aload_n (C : Cy X cc own fr lo nL mc ms) {k : Fin 4} {x : Nat} (hd : decode cc pc = .ok (.aload_n k, 1)) (j : Nat) (hj : lv[j]? = some ((k : Nat), .ref x)) (kk : GB X b es cells slots lv (.ref x :: st) (pc + 1)) : GB X b es cells slots lv st pc := fun H locs ls hB hS hl => lv_aload_n C.1 C.2.1 hd rfl (lv_at hl j hj) (kk H locs ls hB hS hl)
theorem gb_iload_n (C : Cy X cc own fr lo nL mc ms) {k : Fin 4} {x : Int32} (hd : decode cc pc = .ok (.iload_n k, 1)) (j : Nat) (hj : lv[j]? = some ((k : Nat), .int x)) (kk : GB X b es cells slots lv (.int x :: st) (pc + 1)) : GB X b es cells slots lv st pc := fun H locs ls hB hS hl => lv_iload_n C.1 C.2.1 hd rfl (lv_at hl j hj) (kk H locs ls hB hS hl)
theorem gb_iconst (C : Cy X cc own fr lo nL mc ms) {n : Int} {v : Int32} (hd : decode cc pc = .ok (.iconst n, 1)) (hv : Int32.ofInt n = v) (kk : GB X b es cells slots lv (.int v :: st) (pc + 1)) : GB X b es cells slots lv st pc := fun H locs ls hB hS hl => lv_iconst C.1 C.2.1 hd hv (kk H locs ls hB hS hl)
theorem gb_bipush (C : Cy X cc own fr lo nL mc ms) {n : Int} {v : Int32} (hd : decode cc pc = .ok (.bipush n, 2)) (hv : (Int8.ofInt n).toInt32 = v) (kk : GB X b es cells slots lv (.int v :: st) (pc + 2)) : GB X b es cells slots lv st pc := fun H locs ls hB hS hl => lv_bipush C.1 C.2.1 hd hv (kk H locs ls hB hS hl)
theorem gb_sipush (C : Cy X cc own fr lo nL mc ms) {n : Int} {v : Int32} (hd : decode cc pc = .ok (.sipush n, 3)) (hv : (Int16.ofInt n).toInt32 = v) (kk : GB X b es cells slots lv (.int v :: st) (pc + 3)) : GB X b es cells slots lv st pc := fun H locs ls hB hS hl => lv_sipush C.1 C.2.1 hd hv (kk H locs ls hB hS hl)
theorem gb_dup (C : Cy X cc own fr lo nL mc ms) {va : Value} (hd : decode cc pc = .ok (.dup, 1)) (hva : va.category = 1) (kk : GB X b es cells slots lv (va :: va :: st) (pc + 1)) : GB X b es cells slots lv (va :: st) pc := fun H locs ls hB hS hl => lv_dup C.1 C.2.1 hd hva (kk H locs ls hB hS hl)
theorem gb_istore_n (C : Cy X cc own fr lo nL mc ms) {k : Fin 4} {x : Int32} {lv' : List (Nat × Value)} (hd : decode cc pc = .ok (.istore_n k, 1)) (hn : (k : Nat) < nL) (hl' : ((k : Nat), Value.int x) :: lv.filter (fun q => !(q.1 == (k : Nat)) && !(q.1 + 1 == (k : Nat) && q.2.category == 2)) = lv') (kk : GB X b es cells slots lv' st (pc + 1)) : GB X b es cells slots lv (.int x :: st) pc := fun H locs ls hB hS hl => lv_istore_n C.1 C.2.1 hd rfl hl (by rw [C.2.2.2.2.2.2.2]; exact hn) hl' (fun ls hl => kk H locs ls hB hS hl)
theorem gb_astore_n (C : Cy X cc own fr lo nL mc ms) {k : Fin 4} {x : Nat} {lv' : List (Nat × Value)} (hd : decode cc pc = .ok (.astore_n k, 1)) (hn : (k : Nat) < nL) (hl' : ((k : Nat), Value.ref x) :: lv.filter (fun q => !(q.1 == (k : Nat)) && !(q.1 + 1 == (k : Nat) && q.2.category == 2)) = lv') (kk : GB X b es cells slots lv' st (pc + 1)) : GB X b es cells slots lv (.ref x :: st) pc := fun H locs ls hB hS hl => lv_astore_n C.1 C.2.1 hd rfl hl (by rw [C.2.2.2.2.2.2.2]; exact hn) hl' (fun ls hl => kk H locs ls hB hS hl)
theorem gb_iinc (C : Cy X cc own fr lo nL mc ms) {i : Nat} {n : Int} {x v : Int32} {lv' : List (Nat × Value)} (hd : decode cc pc = .ok (.iinc i n, 3)) (j : Nat) (hj : lv[j]? = some (i, .int x)) (hv : x + Int32.ofInt n = v) (hn : i < nL) (hl' : (i, Value.int v) :: lv.filter (fun q => !(q.1 == i) && !(q.1 + 1 == i && q.2.category == 2)) = lv') (kk : GB X b es cells slots lv' st (pc + 3)) : GB X b es cells slots lv st pc := fun H locs ls hB hS hl => lv_iinc C.1 C.2.1 hd hl hj hv (by rw [C.2.2.2.2.2.2.2]; exact hn) hl' (fun ls hl => kk H locs ls hB hS hl)
theorem gb_icmp_ge (C : Cy X cc own fr lo nL mc ms) {x y : Int32} {off : Int} {tgt : Nat} (hd : decode cc pc = .ok (.if_icmp .ge off, 3)) (ht : (pc : Int) + off = (tgt : Int)) (kt : y ≤ x → GB X b es cells slots lv st tgt) (kf : ¬ y ≤ x → GB X b es cells slots lv st (pc + 3)) : GB X b es cells slots lv (.int y :: .int x :: st) pc := fun H locs ls hB hS hl => lv_icmp_ge C.1 C.2.1 hd ht (fun h => kt h H locs ls hB hS hl) (fun h => kf h H locs ls hB hS hl)
theorem gb_goto (C : Cy X cc own fr lo nL mc ms) {off : Int} {tgt : Nat} (hd : decode cc pc = .ok (.goto off, 3)) (ht : (pc : Int) + off = (tgt : Int)) (kk : GB X b es cells slots lv st tgt) : GB X b es cells slots lv st pc := fun H locs ls hB hS hl => lv_goto C.1 C.2.1 hd ht (kk H locs ls hB hS hl)
theorem gb_sub {lv' : List (Nat × Value)} (ks : List Nat) (h : lv_pick lv ks = lv') (kk : GB X b es cells slots lv' st pc) : GB X b es cells slots lv st pc := fun H locs ls hB hS hl => kk H locs ls hB hS (lv_sub hl ks h)
theorem gb_objInit (C : Cy X cc own fr lo nL mc ms) {x idx : Nat} (h1 : Cond.methodLink own idx Lib.objectInit ∈ BIG) (hR : 1 ≤ fr ∧ (st.map fun v => v.category).sum + 12 ≤ lo) (hd : decode cc pc = .ok (.invokespecial idx, 3)) (kk : GB X b es cells slots lv st (pc + 3)) : GB X b es cells slots lv (.ref x :: st) pc := fun H locs ls hB hS hl => W.objInit C.1 C.2.1 C.2.2.2.1 (C.2.2.2.2.1 _ h1) (C.2.2.2.2.1 _ bw_15) (C.2.2.2.2.1 _ bw_16) rfl (hl.1.trans C.2.2.1.symm) rfl hd (by rw [C.2.2.2.2.2.2.1]; exact hR.1) (by show 2 * 0 + (st.map fun v => v.category).sum + 12 ≤ (tR X).locals; rw [C.2.2.2.2.2.2.1]; show 2 * 0 + (st.map fun v => v.category).sum + 12 ≤ lo; have := hR.2; omega) (kk H locs ls hB hS hl)
theorem gb_get (C : Cy X cc own fr lo nL mc ms) (q0 : Nat) {ci : Nat} {fs : List Value} (he : es[q0]? = some (.inr (ci, fs))) {T : u_T} {N : Nat} {D : String} (hc : vwCl[ci]? = some (D, T, N)) (hin : ∀ w ∈ u_ws D T N, w ∈ BIG) {index : Nat} {ref : String} (j : Nat) (hj : j < N) (hw : Cond.fieldLink own index ref (T j).2.1 (T j).2.2.1 ∈ BIG) (hr : (T j).1 = ref) {v : Value} (hv : fs[j]? = some v) {o : Nat} (ho : o = b + q0) (hd : decode cc pc = .ok (.getfield index, 3)) (kk : GB X b es cells slots lv (v :: st) (pc + 3)) : GB X b es cells slots lv (.ref o :: st) pc := by
  intro H locs ls hB hS hl
  subst ho
  exact va_get C.1 C.2.1 C.2.2.2.2.1 hin C.2.2.2.1 C.2.2.2.2.2.1.1 (hB.one he) 0 rfl hc j hj (C.2.2.2.2.1 _ hw) (fun _ h9 => by rw [← hr]; exact h9) hv hd (kk H locs ls hB hS hl)
theorem gb_alen (C : Cy X cc own fr lo nL mc ms) (q0 : Nat) {cA : ClassId} {x : vp_A} (he : es[q0]? = some (.inl (cA, x))) {t0 : Nat} {ty : FieldType} (ht : (ety (tE X))[t0]? = some (cA, ty)) {v : Int32} (hv : Int32.ofNat x.1 = v) {o : Nat} (ho : o = b + q0) (hd : decode cc pc = .ok (.arraylength, 1)) (kk : GB X b es cells slots lv (.int v :: st) (pc + 1)) : GB X b es cells slots lv (.ref o :: st) pc := by
  intro H locs ls hB hS hl
  subst ho
  exact va_alen C.1 C.2.1 C.2.2.2.2.2.1.1 (hB.one he) 0 t0 rfl ht hv hd (kk H locs ls hB hS hl)
theorem gb_new (C : Cy X cc own fr lo nL mc ms) {ci : Nat} {D : String} {T : u_T} {N : Nat} {fs : List Value} (hc : vwCl[ci]? = some (D, T, N)) (hin : ∀ w ∈ u_ws D T N, w ∈ BIG) (ty0 : Nat → FieldType) (hty : ∀ k, k < N → parseFieldDescriptor (T k).2.2.1 = some (ty0 k)) {index : Nat} (h1 : Cond.classLink own index D ∈ BIG) (h2 : Cond.instantiable D N ∈ BIG) (h3 : Cond.initialized D ∈ BIG) (hfs : ∀ j, j < N → defaultValue (ty0 j) = vp_V fs j) (hcells : cells + 1 ≤ mc) (hslots : slots + N ≤ ms) {o : Nat} (ho : b + es.length = o) (hd : decode cc pc = .ok (.new index, 3)) (kk : GB X b (es ++ [.inr (ci, fs)]) (cells + 1) (slots + N) lv (.ref o :: st) (pc + 3)) : GB X b es cells slots lv st pc := by
  intro H locs ls hB hS hl
  subst ho
  have hKn := C.2.2.2.2.2.1.1.1 ci _ hc
  have hz := hB.1
  refine W.newcK C.1 C.2.1 C.2.2.2.1 (C.2.2.2.2.1 _ h1) (C.2.2.2.2.1 _ h2) (C.2.2.2.2.1 _ h3) rfl hd (by rw [C.2.2.2.2.2.2.1]; exact hcells) (by rw [C.2.2.2.2.2.2.1]; exact hslots) hKn.2.1 (h := b + es.length) hz fun H1 kC hkC e1 z1 o1 => ?_
  refine kk H1 locs ls (hB.push (by rw [z1, hz]) (fun q hq => o1 q (by omega)) ?_) ?_ hl
  · exact ⟨_, hc, (u_born ty0 C.2.2.2.2.1 hin hKn hkC e1 hty).to hfs⟩
  · exact ⟨Nat.le_trans hS.1 (by omega), fun x g1 g2 => (o1 x (by have := hS.1; omega)).trans (hS.2.1 x g1 g2), hS.2.2⟩
theorem gb_newa (C : Cy X cc own fr lo nL mc ms) {atype : ArrayType} {ty : FieldType} (hty : newarray.typeOf atype = ty) (harr : Cond.arrayClass (newarray.typeOf atype) ∈ BIG) (t0 : Nat) {cA : ClassId} (ht : (ety (tE X))[t0]? = some (cA, ty)) (hra : va_RA (tS X) cA ty → (tS X).vm.findClass ("[" ++ ty.toString) = some cA) {n : Int32} {N' : Nat} {a0 : vp_A} (ha : vp_cell cA a0 = arrV cA N' (fun _ => defaultValue ty)) (hn : ¬ n < 0) (hN : n.toNatClampNeg = N') (hbytes : N' * componentBytes ty ≤ 536870912) (hcells : cells + 1 ≤ mc) (hslots : slots + N' ≤ ms) {o : Nat} (ho : b + es.length = o) (hd : decode cc pc = .ok (.newarray atype, 2)) (kk : GB X b (es ++ [.inl (cA, a0)]) (cells + 1) (slots + N') lv (.ref o :: st) (pc + 2)) : GB X b es cells slots lv (.int n :: st) pc := by
  intro H locs ls hB hS hl
  subst ho
  subst hty
  have hz := hB.1
  refine va_newaK C.1 C.2.1 (C.2.2.2.2.1 _ harr) rfl hd rfl hn hN hbytes (by rw [C.2.2.2.2.2.2.1]; exact hcells) (by rw [C.2.2.2.2.2.2.1]; exact hslots) (h := b + es.length) hz fun H1 cA1 e1 z1 o1 _ hNm => ?_
  have hc := hra (C.2.2.2.2.2.1.1.2 t0 _ ht).2
  have hcc : cA1 = cA := Option.some.inj (hNm.symm.trans hc)
  subst hcc
  refine kk H1 locs ls (hB.push (by rw [z1, hz]) (fun q hq => o1 q (by omega)) ?_) ?_ hl
  · show H1[b + es.length]? = some (vp_cell _ _)
    rw [ha]
    exact e1
  · exact ⟨Nat.le_trans hS.1 (by omega), fun x g1 g2 => (o1 x (by have := hS.1; omega)).trans (hS.2.1 x g1 g2), hS.2.2⟩
theorem gb_anew (C : Cy X cc own fr lo nL mc ms) {D : String} (t0 : Nat) {cA : ClassId} (ht : (ety (tE X))[t0]? = some (cA, .object D)) {index : Nat} (h1 : Cond.classLink own index D ∈ BIG) (hao : va_AO D (tS X)) {n : Int32} {N' : Nat} (hn : ¬ n < 0) (hN : n.toNatClampNeg = N') (hbytes : N' * 4 ≤ 536870912) (hcells : cells + 1 ≤ mc) (hslots : slots + N' ≤ ms) {o : Nat} (ho : b + es.length = o) (hd : decode cc pc = .ok (.anewarray index, 3)) (kk : GB X b (es ++ [.inl (cA, N', .inr (.inr (.inr (.inr (fun _ => none)))))]) (cells + 1) (slots + N') lv (.ref o :: st) (pc + 3)) : GB X b es cells slots lv (.int n :: st) pc := by
  intro H locs ls hB hS hl
  subst ho
  subst hN
  have hz := hB.1
  refine W.anew C.1 C.2.1 C.2.2.2.1 (C.2.2.2.2.1 _ h1) (va_AO.use hao) rfl hd rfl hn hbytes (by rw [C.2.2.2.2.2.2.1]; exact hcells) (by rw [C.2.2.2.2.2.2.1]; exact hslots) fun cA1 kA comp f1 f2 f3 f4 => ?_
  obtain ⟨kA2, comp2, g1, g2, g3, g4⟩ := (C.2.2.2.2.2.1.1.2 t0 _ ht).2
  have hcc : cA1 = cA := Option.some.inj (f1.symm.trans g4)
  subst hcc
  generalize hH1 : H.push ({ cls := cA1, slots := Array.replicate n.toNatClampNeg .null, vm := .none } : Cell) = H1
  have z1 : H1.size = H.size + 1 := by rw [← hH1, Array.size_push]
  have e1 : H1[b + es.length]? = some (arrV cA1 n.toNatClampNeg (fun _ => .null)) := by rw [← hz, ← hH1, Array.getElem?_push_size, ← arrV_new]
  have o1 : ∀ q : Nat, q < H.size → H1[q]? = H[q]? := fun q hq => by rw [← hH1, Array.getElem?_push, if_neg (Nat.ne_of_lt hq)]
  have kk1 := kk H1 locs ls (hB.push z1 o1 (by show H1[b + es.length]? = some (vp_cell _ _); rw [vp_cell_q]; exact e1)) ⟨Nat.le_trans hS.1 (by omega), fun x g1 g2 => (o1 x (by have := hS.1; omega)).trans (hS.2.1 x g1 g2), hS.2.2⟩ hl
  rw [← hz] at kk1
  exact kk1
theorem gb_putF (C : Cy X cc own fr lo nL mc ms) (hin2 : (tO X).name = "<init>") (q0 : Nat) {ci : Nat} {fs : List Value} (he : es[q0]? = some (.inr (ci, fs))) {T : u_T} {N : Nat} (hc : vwCl[ci]? = some (own, T, N)) (hin : ∀ w ∈ u_ws own T N, w ∈ BIG) (ty0 : Nat → FieldType) (hty : ∀ k, k < N → parseFieldDescriptor (T k).2.2.1 = some (ty0 k)) (hnm : ∀ a, a < N → ∀ b, b < N → a ≠ b → (T a).2.1 ≠ (T b).2.1) {index : Nat} (k : Nat) (hk : k < N) (hw : Cond.fieldLink own index own (T k).2.1 (T k).2.2.1 ∈ BIG) (hdecl : (T k).1 = own) (hfin : (T k).2.2.2 = true) {v : Value} (hn : narrow (ty0 k) v = v) (hfit : fits (ty0 k) v = true) (hl9 : k < fs.length) {o : Nat} (ho : o = b + q0) (hd : decode cc pc = .ok (.putfield index, 3)) {es' : List va_E} (hes : es.set q0 (.inr (ci, fs.set k v)) = es') (kk : GB X b es' cells slots lv st (pc + 3)) : GB X b es cells slots lv (v :: .ref o :: st) pc := by
  intro H locs ls hB hS hl
  subst ho
  subst hes
  have hts := C.2.2.2.2.1
  have hK := C.2.2.2.2.2.1.1
  have hown := C.2.2.2.1
  have hap := va_apart (own := own) hts hin ty0 hty hnm hK hc
  obtain ⟨r, h1, cell, q1, q2, q3, q4⟩ := hB.2 q0 _ he
  have hr : r = (own, T, N) := Option.some.inj (h1.symm.trans hc)
  subst hr
  obtain ⟨hS9, hfc, kC, hkC, hkind⟩ := hK.1 ci _ hc
  obtain ⟨cf, kf, fi, f, hi, hsl⟩ := hS9 k hk
  have hlay := hts _ (hin _ (u_in_lay hk))
  unfold u_lay at hlay
  rw [if_pos hfin] at hlay
  have hst := (u_facts hfc hkC (u_lays hts hin hk) hi).1
  have hcf : (tM X).cls = cf := by
    obtain ⟨_, _, c', _, _, _, -, -, hf', -, -, -, hown2, -⟩ := Cond.laysFinal_spec hlay
    have e1 : c' = cf := by have := hi.symm.trans hf'; simp at this; exact this.1.symm
    rw [hdecl] at hown2
    rw [← e1]; exact Option.some.inj (hown.symm.trans hown2)
  have h6 := u_fits hfc hkC hkind (Or.inr hlay) hi (hty k hk) hn hfit
  refine W.putFinK C.1 C.2.1 hown (hts _ hw) (by rw [← hdecl]; exact hi) hst hcf hin2 (by rw [q2]; exact h6) q1 q3 (by rw [hsl]; exact k2_hasslot (q4 k hk)) rfl rfl hd fun H1 e1 e2 e3 => ?_
  rw [hsl] at e1 ⊢
  exact kk H1 _ ls (hB.set (List.getElem?_eq_some_iff.mp he).1 e2 e3 ⟨_, hc, t_OB.to (V := updV (vp_V fs) k v) ⟨_, e1, q2, q3, t_set q4 hap hk v⟩ (fun j _ => vp_updV_set hl9 v j)⟩) (hS.put e2 e3 (Nat.le_add_right _ _)) hl
theorem gb_put (C : Cy X cc own fr lo nL mc ms) (q0 : Nat) {ci : Nat} {fs : List Value} (he : es[q0]? = some (.inr (ci, fs))) {T : u_T} {N : Nat} (hc : vwCl[ci]? = some (own, T, N)) (hin : ∀ w ∈ u_ws own T N, w ∈ BIG) (ty0 : Nat → FieldType) (hty : ∀ k, k < N → parseFieldDescriptor (T k).2.2.1 = some (ty0 k)) (hnm : ∀ a, a < N → ∀ b, b < N → a ≠ b → (T a).2.1 ≠ (T b).2.1) {index : Nat} (k : Nat) (hk : k < N) (hw : Cond.fieldLink own index own (T k).2.1 (T k).2.2.1 ∈ BIG) (hdecl : (T k).1 = own) (hfin : (T k).2.2.2 = false) {v : Value} (hn : narrow (ty0 k) v = v) (hfit : fits (ty0 k) v = true) (hl9 : k < fs.length) {o : Nat} (ho : o = b + q0) (hd : decode cc pc = .ok (.putfield index, 3)) {es' : List va_E} (hes : es.set q0 (.inr (ci, fs.set k v)) = es') (kk : GB X b es' cells slots lv st (pc + 3)) : GB X b es cells slots lv (v :: .ref o :: st) pc := by
  intro H locs ls hB hS hl
  subst ho
  subst hes
  have hts := C.2.2.2.2.1
  have hK := C.2.2.2.2.2.1.1
  have hown := C.2.2.2.1
  have hap := va_apart (own := own) hts hin ty0 hty hnm hK hc
  obtain ⟨r, h1, cell, q1, q2, q3, q4⟩ := hB.2 q0 _ he
  have hr : r = (own, T, N) := Option.some.inj (h1.symm.trans hc)
  subst hr
  obtain ⟨hS9, hfc, kC, hkC, hkind⟩ := hK.1 ci _ hc
  obtain ⟨cf, kf, fi, f, hi, hsl⟩ := hS9 k hk
  have hlay := hts _ (hin _ (u_in_lay hk))
  unfold u_lay at hlay
  rw [if_neg (by rw [hfin]; decide)] at hlay
  have hst := (u_facts hfc hkC (u_lays hts hin hk) hi).1
  have h6 := u_store hfc hkC hkind hlay hi (hty k hk) hn hfit
  refine W.putK C.1 C.2.1 (f := f) ⟨hown, hts _ hw, ⟨_, _, _, (by rw [← hdecl]; exact hi)⟩, hst⟩ (by rw [q2]; exact h6) q1 q3 (by rw [hsl]; exact k2_hasslot (q4 k hk)) rfl rfl hd fun H1 e1 e2 e3 => ?_
  rw [hsl] at e1 ⊢
  exact kk H1 _ ls (hB.set (List.getElem?_eq_some_iff.mp he).1 e2 e3 ⟨_, hc, t_OB.to (V := updV (vp_V fs) k v) ⟨_, e1, q2, q3, t_set q4 hap hk v⟩ (fun j _ => vp_updV_set hl9 v j)⟩) (hS.put e2 e3 (Nat.le_add_right _ _)) hl
theorem gb_iast (C : Cy X cc own fr lo nL mc ms) (q0 : Nat) {n : Nat} {f : Nat → Int32} (he : es[q0]? = some (.inl (eC (tE X) 0, n, .inl f))) {x y : Int32} (hx : vp_in x n) {o : Nat} (ho : o = b + q0) (hd : decode cc pc = .ok (.iastore, 1)) {es' : List va_E} (hes : es.set q0 (.inl (eC (tE X) 0, n, .inl (upd f x.toNatClampNeg y))) = es') (kk : GB X b es' cells slots lv st (pc + 1)) : GB X b es cells slots lv (.int y :: .int x :: .ref o :: st) pc := by
  intro H locs ls hB hS hl
  subst ho
  subst hes
  have hP : H[b + q0]? = some (vp_cell (eC (tE X) 0) (n, .inl f)) := hB.2 q0 _ he
  refine W.iast C.1 C.2.1 hP ((C.2.2.2.2.2.1.1.2 0 _ rfl).1 n (fun j => .int (f j))) (fun q => by cases q) (by show ¬ (x < 0 ∨ (arrV _ _ _).slots.size ≤ _); rw [arrV_size]; exact hx) rfl rfl hd fun H1 e z oq => ?_
  refine kk H1 _ ls (hB.set (List.getElem?_eq_some_iff.mp he).1 z oq ?_) (hS.put z oq (Nat.le_add_right _ _)) hl
  show H1[b + q0]? = some (vp_cell _ _)
  rw [e]
  rw [vp_cell_i, vp_cell_i, arrV_store]
  congr 2
  funext q
  by_cases hq : q = x.toNatClampNeg
  · subst hq
    simp [updV, upd]
  · simp [updV, upd, hq]
theorem gb_aast (C : Cy X cc own fr lo nL mc ms) (q0 t0 qk ci : Nat) {cA : ClassId} {r : vw_C} {n : Nat} {vs : List Value} {f : Nat → Option Nat} (he : es[q0]? = some (.inl (cA, n, .inr (.inr (.inr (.inr f)))))) (ht : (ety (tE X))[t0]? = some (cA, .object r.1)) (hv : es[qk]? = some (.inr (ci, vs))) (hc : vwCl[ci]? = some r) {x : Int32} (hx : vp_in x n) {o v : Nat} (ho : o = b + q0) (hv2 : v = b + qk) (hd : decode cc pc = .ok (.aastore, 1)) {es' : List va_E} (hes : es.set q0 (.inl (cA, n, .inr (.inr (.inr (.inr (va_up f x.toNatClampNeg (some v))))))) = es') (kk : GB X b es' cells slots lv st (pc + 1)) : GB X b es cells slots lv (.ref v :: .int x :: .ref o :: st) pc := by
  intro H locs ls hB hS hl
  subst ho
  subst hv2
  subst hes
  have hP : H[b + q0]? = some (vp_cell cA (n, .inr (.inr (.inr (.inr f))))) := hB.2 q0 _ he
  have hlt : x.toNatClampNeg < n := Nat.not_le.mp fun q => hx (Or.inr q)
  have h0 : ¬ x < 0 := fun q => hx (Or.inl q)
  obtain ⟨r', hr', cellV, g1, g2, g3, -⟩ := hB.2 qk _ hv
  have hcls := (C.2.2.2.2.2.1.1.1 ci r hc).2
  obtain ⟨kA, comp, k1, k2, k3, -⟩ := (C.2.2.2.2.2.1.1.2 t0 _ ht).2
  have hcomp : comp = (eD (tE X)).1 ci := Option.some.inj (k3.symm.trans hcls.1)
  subst hcomp
  obtain ⟨kC, hkC, -⟩ := hcls.2
  refine W.aast C.1 C.2.1 hP (fun q h => by cases h) (fun h => by cases h) k1 k2 rfl hkC ⟨h0, by show _ < (arrV _ _ _).slots.size; rw [arrV_size]; exact hlt⟩ g1 (fun q h => by rw [g3] at h; cases h) (by rw [g2]; exact hkC) (by rw [g2]; exact va_assign hcls) rfl rfl hd fun H1 e z oq => ?_
  refine kk H1 _ ls (hB.set (List.getElem?_eq_some_iff.mp he).1 z oq ?_) (hS.put z oq (Nat.le_add_right _ _)) hl
  show H1[b + q0]? = some (vp_cell _ _)
  rw [e]
  rw [vp_cell_q, vp_cell_q, arrV_store]
  congr 2
  funext q
  by_cases hq : q = x.toNatClampNeg
  · subst hq
    simp [updV, va_up, va_rf]
  · simp [updV, va_up, hq]
theorem gb_vret (C : Cy X cc own fr lo nL mc ms) (hret : (tO X).sig.returnType = none) (hlk : (tO X).locks = false) {E : Ev} (hE : tE X = E) (hZ : tZ X = MQ (tB X) (QB E b es) (tA X) (tS X) mc ms (fun q => b ≤ q)) (hcells : cells ≤ mc) (hslots : slots ≤ ms) (hd : decode cc pc = .ok (.return_, 1)) : GB X b es cells slots lv [] pc := by
  intro H locs ls hB hS hl
  subst hE
  rw [hZ]
  refine W.widen (k := mc) (n := ms) hcells hslots ?_
  exact W.vret C.1 C.2.1 hret (fun t ht hWm => ⟨⟨(), rfl, trivial, by show Blk (tE X) b es t.heap; rw [ht]; exact hB⟩, hS.F ht⟩) hS.2.2 hd hlk
theorem gb_blind {E : Ev} {a : Nat} {e0 : va_E} {av : List Value} : FrameBlind (va_Pc av (fun U => Blk E a [e0] U.heap ∧ EC E U)) := fun a U g mk q => ⟨q.1, q.2.1, EC.same (u := U) (U := U.calling g mk a) rfl q.2.2⟩
theorem gb_init (C : Cy X cc own fr lo nL mc ms) {y : MethodName} {cc' : ByteArray} {nL' fr' lo' mc' ms' idx : Nat} {e0 : va_E} {es0 es1 : List va_E} {o : Nat} (hc : CN (tL X) (tE X) y cc' nL' fr' lo' mc' ms' o e0 es1) (h1 : Cond.methodLink own idx y ∈ BIG) (h2 : Cond.instanceMethod y ∈ BIG) (h4 : Cond.initialized y.cls ∈ BIG) (h5 : Cond.code y cc' nL' none ∈ BIG) (hy1 : y.name = "<init>") (hy : y.cls ≠ "java/lang/invoke/MethodHandle" ∧ y.cls ≠ "java/lang/invoke/VarHandle" ∧ (parseMethodDescriptor y.desc).map (fun d => d.parameters.length) = some 0) (hR : fr' + 1 ≤ fr ∧ 8 + (nL' + 11) + lo' ≤ lo) (hcells : cells + mc' ≤ mc) (hslots : slots + ms' ≤ ms) (ho : o = b + es0.length) (hes : es = es0 ++ [e0]) (hr : (st.map fun v => v.category).sum ≤ 8) (hd : decode cc pc = .ok (.invokespecial idx, 3)) (kk : GB X b (es0 ++ es1) (cells + mc') (slots + ms') lv st (pc + 3)) : GB X b es cells slots lv (.ref o :: st) pc := by
  intro H locs ls hB hS hl
  subst hes
  subst ho
  exact va_callv (va_runI (As := []) (rest := st) ⟨C.1, C.2.1, C.2.2.1, C.2.2.2.1, C.2.2.2.2.1⟩ hc (cwI 0 C.2.2.2.2.1 (big_code h5) rfl rfl rfl (C.2.2.2.2.1 _ h4) (C.2.2.2.2.1 _ h1) (C.2.2.2.2.1 _ h2) hy1 hy (by rw [C.2.2.2.2.2.2.1]; exact hR)) ⟨gb_blind, fun U hU hWm => ⟨rfl, by rw [hU]; exact hB.last, C.2.2.2.2.2.1.next hWm⟩⟩ rfl rfl hl.1 rfl (lv_room hr) hd ⟨by rw [C.2.2.2.2.2.2.1]; exact hcells, by rw [C.2.2.2.2.2.2.1]; exact hslots⟩) hS (fun q _ h => Nat.le_trans (Nat.le_add_right _ _) h) (fun q h => Nat.le_trans (Nat.le_add_right _ _) h) (fun u t H1 locs1 ht hvm hw hB1 hz1 hk1 hS1 => kk H1 locs1 ls (hB.join (by rw [← ht]; exact hB1) hk1) hS1 hl)
theorem gb_initN (C : Cy X cc own fr lo nL mc ms) {y : MethodName} {cc' : ByteArray} {nL' fr' lo' mc' ms' idx : Nat} {host : String} {e0 : va_E} {es0 es1 : List va_E} {o : Nat} (hc : CN (tL X) (tE X) y cc' nL' fr' lo' mc' ms' o e0 es1) (h1 : Cond.methodLinkNest own idx y host ∈ tables_1) (h2 : Cond.instanceMethod y ∈ BIG) (h4 : Cond.initialized y.cls ∈ BIG) (h5 : Cond.code y cc' nL' none ∈ BIG) (hy1 : y.name = "<init>") (hy : y.cls ≠ "java/lang/invoke/MethodHandle" ∧ y.cls ≠ "java/lang/invoke/VarHandle" ∧ (parseMethodDescriptor y.desc).map (fun d => d.parameters.length) = some 0) (hR : fr' + 1 ≤ fr ∧ 8 + (nL' + 11) + lo' ≤ lo) (hcells : cells + mc' ≤ mc) (hslots : slots + ms' ≤ ms) (ho : o = b + es0.length) (hes : es = es0 ++ [e0]) (hr : (st.map fun v => v.category).sum ≤ 8) (hd : decode cc pc = .ok (.invokespecial idx, 3)) (kk : GB X b (es0 ++ es1) (cells + mc') (slots + ms') lv st (pc + 3)) : GB X b es cells slots lv (.ref o :: st) pc := by
  intro H locs ls hB hS hl
  subst hes
  subst ho
  exact va_callv (va_runIN (As := []) (rest := st) ⟨C.1, C.2.1, C.2.2.1, C.2.2.2.1, C.2.2.2.2.1⟩ hc ⟨va_cnB 0 C.2.2.2.2.1 (big_code h5) rfl rfl rfl (C.2.2.2.2.2.1.2.1 _ _ _ _ h1) (C.2.2.2.2.1 _ h4) hy (by rw [C.2.2.2.2.2.2.1]; exact hR), hy1, C.2.2.2.2.1 _ h2⟩ ⟨gb_blind, fun U hU hWm => ⟨rfl, by rw [hU]; exact hB.last, C.2.2.2.2.2.1.next hWm⟩⟩ rfl rfl hl.1 rfl (lv_room hr) hd ⟨by rw [C.2.2.2.2.2.2.1]; exact hcells, by rw [C.2.2.2.2.2.2.1]; exact hslots⟩) hS (fun q _ h => Nat.le_trans (Nat.le_add_right _ _) h) (fun q h => Nat.le_trans (Nat.le_add_right _ _) h) (fun u t H1 locs1 ht hvm hw hB1 hz1 hk1 hS1 => kk H1 locs1 ls (hB.join (by rw [← ht]; exact hB1) hk1) hS1 hl)
end GBR
