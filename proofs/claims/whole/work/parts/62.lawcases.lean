/-! The law, call by call: class and reference answer alike, and stay related. -/
theorem hyL_X5_set : yX5_set.cls = "SweetWraps" ∧ yX5_set.cls ≠ "java/lang/invoke/MethodHandle" ∧ yX5_set.cls ≠ "java/lang/invoke/VarHandle" ∧ (parseMethodDescriptor yX5_set.desc).map (fun d => d.parameters.length) = some 2 := by decide +kernel
theorem hyL_X6_set : yX6_set.cls = "SweetWrapsModel" ∧ yX6_set.cls ≠ "java/lang/invoke/MethodHandle" ∧ yX6_set.cls ≠ "java/lang/invoke/VarHandle" ∧ (parseMethodDescriptor yX6_set.desc).map (fun d => d.parameters.length) = some 2 := by decide +kernel
theorem hyL_X5_heap : yX5_heap.cls = "SweetWraps" ∧ yX5_heap.cls ≠ "java/lang/invoke/MethodHandle" ∧ yX5_heap.cls ≠ "java/lang/invoke/VarHandle" ∧ (parseMethodDescriptor yX5_heap.desc).map (fun d => d.parameters.length) = some 3 := by decide +kernel
theorem hyL_X6_heap : yX6_heap.cls = "SweetWrapsModel" ∧ yX6_heap.cls ≠ "java/lang/invoke/MethodHandle" ∧ yX6_heap.cls ≠ "java/lang/invoke/VarHandle" ∧ (parseMethodDescriptor yX6_heap.desc).map (fun d => d.parameters.length) = some 3 := by decide +kernel
theorem hyL_X5_foil : yX5_foil.cls = "SweetWraps" ∧ yX5_foil.cls ≠ "java/lang/invoke/MethodHandle" ∧ yX5_foil.cls ≠ "java/lang/invoke/VarHandle" ∧ (parseMethodDescriptor yX5_foil.desc).map (fun d => d.parameters.length) = some 2 := by decide +kernel
theorem hyL_X6_foil : yX6_foil.cls = "SweetWrapsModel" ∧ yX6_foil.cls ≠ "java/lang/invoke/MethodHandle" ∧ yX6_foil.cls ≠ "java/lang/invoke/VarHandle" ∧ (parseMethodDescriptor yX6_foil.desc).map (fun d => d.parameters.length) = some 2 := by decide +kernel
theorem hyL_X5_tin : yX5_tin.cls = "SweetWraps" ∧ yX5_tin.cls ≠ "java/lang/invoke/MethodHandle" ∧ yX5_tin.cls ≠ "java/lang/invoke/VarHandle" ∧ (parseMethodDescriptor yX5_tin.desc).map (fun d => d.parameters.length) = some 0 := by decide +kernel
theorem hyL_X6_tin : yX6_tin.cls = "SweetWrapsModel" ∧ yX6_tin.cls ≠ "java/lang/invoke/MethodHandle" ∧ yX6_tin.cls ≠ "java/lang/invoke/VarHandle" ∧ (parseMethodDescriptor yX6_tin.desc).map (fun d => d.parameters.length) = some 0 := by decide +kernel
theorem hyL_X5_ship : yX5_ship.cls = "SweetWraps" ∧ yX5_ship.cls ≠ "java/lang/invoke/MethodHandle" ∧ yX5_ship.cls ≠ "java/lang/invoke/VarHandle" ∧ (parseMethodDescriptor yX5_ship.desc).map (fun d => d.parameters.length) = some 1 := by decide +kernel
theorem hyL_X6_ship : yX6_ship.cls = "SweetWrapsModel" ∧ yX6_ship.cls ≠ "java/lang/invoke/MethodHandle" ∧ yX6_ship.cls ≠ "java/lang/invoke/VarHandle" ∧ (parseMethodDescriptor yX6_ship.desc).map (fun d => d.parameters.length) = some 1 := by decide +kernel
theorem hyL_X5_apart : yX5_apart.cls = "SweetWraps" ∧ yX5_apart.cls ≠ "java/lang/invoke/MethodHandle" ∧ yX5_apart.cls ≠ "java/lang/invoke/VarHandle" ∧ (parseMethodDescriptor yX5_apart.desc).map (fun d => d.parameters.length) = some 2 := by decide +kernel
theorem hyL_X6_apart : yX6_apart.cls = "SweetWrapsModel" ∧ yX6_apart.cls ≠ "java/lang/invoke/MethodHandle" ∧ yX6_apart.cls ≠ "java/lang/invoke/VarHandle" ∧ (parseMethodDescriptor yX6_apart.desc).map (fun d => d.parameters.length) = some 2 := by decide +kernel
theorem hyL_X5_run : yX5_run.cls = "SweetWraps" ∧ yX5_run.cls ≠ "java/lang/invoke/MethodHandle" ∧ yX5_run.cls ≠ "java/lang/invoke/VarHandle" ∧ (parseMethodDescriptor yX5_run.desc).map (fun d => d.parameters.length) = some 1 := by decide +kernel
theorem hyL_X6_run : yX6_run.cls = "SweetWrapsModel" ∧ yX6_run.cls ≠ "java/lang/invoke/MethodHandle" ∧ yX6_run.cls ≠ "java/lang/invoke/VarHandle" ∧ (parseMethodDescriptor yX6_run.desc).map (fun d => d.parameters.length) = some 1 := by decide +kernel
theorem hyL_X5_of : yX5_of.cls = "SweetWraps" ∧ yX5_of.cls ≠ "java/lang/invoke/MethodHandle" ∧ yX5_of.cls ≠ "java/lang/invoke/VarHandle" ∧ (parseMethodDescriptor yX5_of.desc).map (fun d => d.parameters.length) = some 2 := by decide +kernel
theorem hyL_X6_of : yX6_of.cls = "SweetWrapsModel" ∧ yX6_of.cls ≠ "java/lang/invoke/MethodHandle" ∧ yX6_of.cls ≠ "java/lang/invoke/VarHandle" ∧ (parseMethodDescriptor yX6_of.desc).map (fun d => d.parameters.length) = some 2 := by decide +kernel
theorem hyL_X5_ofHeap : yX5_ofHeap.cls = "SweetWraps" ∧ yX5_ofHeap.cls ≠ "java/lang/invoke/MethodHandle" ∧ yX5_ofHeap.cls ≠ "java/lang/invoke/VarHandle" ∧ (parseMethodDescriptor yX5_ofHeap.desc).map (fun d => d.parameters.length) = some 3 := by decide +kernel
theorem hyL_X6_ofHeap : yX6_ofHeap.cls = "SweetWrapsModel" ∧ yX6_ofHeap.cls ≠ "java/lang/invoke/MethodHandle" ∧ yX6_ofHeap.cls ≠ "java/lang/invoke/VarHandle" ∧ (parseMethodDescriptor yX6_ofHeap.desc).map (fun d => d.parameters.length) = some 3 := by decide +kernel
theorem hyL_X5_ofTin : yX5_ofTin.cls = "SweetWraps" ∧ yX5_ofTin.cls ≠ "java/lang/invoke/MethodHandle" ∧ yX5_ofTin.cls ≠ "java/lang/invoke/VarHandle" ∧ (parseMethodDescriptor yX5_ofTin.desc).map (fun d => d.parameters.length) = some 2 := by decide +kernel
theorem hyL_X6_ofTin : yX6_ofTin.cls = "SweetWrapsModel" ∧ yX6_ofTin.cls ≠ "java/lang/invoke/MethodHandle" ∧ yX6_ofTin.cls ≠ "java/lang/invoke/VarHandle" ∧ (parseMethodDescriptor yX6_ofTin.desc).map (fun d => d.parameters.length) = some 2 := by decide +kernel
theorem hyL_X5_inTin : yX5_inTin.cls = "SweetWraps" ∧ yX5_inTin.cls ≠ "java/lang/invoke/MethodHandle" ∧ yX5_inTin.cls ≠ "java/lang/invoke/VarHandle" ∧ (parseMethodDescriptor yX5_inTin.desc).map (fun d => d.parameters.length) = some 2 := by decide +kernel
theorem hyL_X6_inTin : yX6_inTin.cls = "SweetWrapsModel" ∧ yX6_inTin.cls ≠ "java/lang/invoke/MethodHandle" ∧ yX6_inTin.cls ≠ "java/lang/invoke/VarHandle" ∧ (parseMethodDescriptor yX6_inTin.desc).map (fun d => d.parameters.length) = some 2 := by decide +kernel
theorem hyL_X5_flavour : yX5_flavour.cls = "SweetWraps" ∧ yX5_flavour.cls ≠ "java/lang/invoke/MethodHandle" ∧ yX5_flavour.cls ≠ "java/lang/invoke/VarHandle" ∧ (parseMethodDescriptor yX5_flavour.desc).map (fun d => d.parameters.length) = some 2 := by decide +kernel
theorem hyL_X6_flavour : yX6_flavour.cls = "SweetWrapsModel" ∧ yX6_flavour.cls ≠ "java/lang/invoke/MethodHandle" ∧ yX6_flavour.cls ≠ "java/lang/invoke/VarHandle" ∧ (parseMethodDescriptor yX6_flavour.desc).map (fun d => d.parameters.length) = some 2 := by decide +kernel
theorem hyL_X5_byRoom : yX5_byRoom.cls = "SweetWraps" ∧ yX5_byRoom.cls ≠ "java/lang/invoke/MethodHandle" ∧ yX5_byRoom.cls ≠ "java/lang/invoke/VarHandle" ∧ (parseMethodDescriptor yX5_byRoom.desc).map (fun d => d.parameters.length) = some 1 := by decide +kernel
theorem hyL_X6_byRoom : yX6_byRoom.cls = "SweetWrapsModel" ∧ yX6_byRoom.cls ≠ "java/lang/invoke/MethodHandle" ∧ yX6_byRoom.cls ≠ "java/lang/invoke/VarHandle" ∧ (parseMethodDescriptor yX6_byRoom.desc).map (fun d => d.parameters.length) = some 1 := by decide +kernel
theorem hyL_X5_byCount : yX5_byCount.cls = "SweetWraps" ∧ yX5_byCount.cls ≠ "java/lang/invoke/MethodHandle" ∧ yX5_byCount.cls ≠ "java/lang/invoke/VarHandle" ∧ (parseMethodDescriptor yX5_byCount.desc).map (fun d => d.parameters.length) = some 1 := by decide +kernel
theorem hyL_X6_byCount : yX6_byCount.cls = "SweetWrapsModel" ∧ yX6_byCount.cls ≠ "java/lang/invoke/MethodHandle" ∧ yX6_byCount.cls ≠ "java/lang/invoke/VarHandle" ∧ (parseMethodDescriptor yX6_byCount.desc).map (fun d => d.parameters.length) = some 1 := by decide +kernel
theorem hyL_X5_count : yX5_count.cls = "SweetWraps" ∧ yX5_count.cls ≠ "java/lang/invoke/MethodHandle" ∧ yX5_count.cls ≠ "java/lang/invoke/VarHandle" ∧ (parseMethodDescriptor yX5_count.desc).map (fun d => d.parameters.length) = some 1 := by decide +kernel
theorem hyL_X6_count : yX6_count.cls = "SweetWrapsModel" ∧ yX6_count.cls ≠ "java/lang/invoke/MethodHandle" ∧ yX6_count.cls ≠ "java/lang/invoke/VarHandle" ∧ (parseMethodDescriptor yX6_count.desc).map (fun d => d.parameters.length) = some 1 := by decide +kernel
theorem hyL_X5_stands : yX5_stands.cls = "SweetWraps" ∧ yX5_stands.cls ≠ "java/lang/invoke/MethodHandle" ∧ yX5_stands.cls ≠ "java/lang/invoke/VarHandle" ∧ (parseMethodDescriptor yX5_stands.desc).map (fun d => d.parameters.length) = some 2 := by decide +kernel
theorem hyL_X6_stands : yX6_stands.cls = "SweetWrapsModel" ∧ yX6_stands.cls ≠ "java/lang/invoke/MethodHandle" ∧ yX6_stands.cls ≠ "java/lang/invoke/VarHandle" ∧ (parseMethodDescriptor yX6_stands.desc).map (fun d => d.parameters.length) = some 2 := by decide +kernel
theorem hyL_X5_bestSpeed : yX5_bestSpeed.cls = "SweetWraps" ∧ yX5_bestSpeed.cls ≠ "java/lang/invoke/MethodHandle" ∧ yX5_bestSpeed.cls ≠ "java/lang/invoke/VarHandle" ∧ (parseMethodDescriptor yX5_bestSpeed.desc).map (fun d => d.parameters.length) = some 2 := by decide +kernel
theorem hyL_X6_bestSpeed : yX6_bestSpeed.cls = "SweetWrapsModel" ∧ yX6_bestSpeed.cls ≠ "java/lang/invoke/MethodHandle" ∧ yX6_bestSpeed.cls ≠ "java/lang/invoke/VarHandle" ∧ (parseMethodDescriptor yX6_bestSpeed.desc).map (fun d => d.parameters.length) = some 2 := by decide +kernel
theorem hyL_X5_ifApart : yX5_ifApart.cls = "SweetWraps" ∧ yX5_ifApart.cls ≠ "java/lang/invoke/MethodHandle" ∧ yX5_ifApart.cls ≠ "java/lang/invoke/VarHandle" ∧ (parseMethodDescriptor yX5_ifApart.desc).map (fun d => d.parameters.length) = some 3 := by decide +kernel
theorem hyL_X6_ifApart : yX6_ifApart.cls = "SweetWrapsModel" ∧ yX6_ifApart.cls ≠ "java/lang/invoke/MethodHandle" ∧ yX6_ifApart.cls ≠ "java/lang/invoke/VarHandle" ∧ (parseMethodDescriptor yX6_ifApart.desc).map (fun d => d.parameters.length) = some 3 := by decide +kernel
theorem hyL_X5_tinsFor : yX5_tinsFor.cls = "SweetWraps" ∧ yX5_tinsFor.cls ≠ "java/lang/invoke/MethodHandle" ∧ yX5_tinsFor.cls ≠ "java/lang/invoke/VarHandle" ∧ (parseMethodDescriptor yX5_tinsFor.desc).map (fun d => d.parameters.length) = some 0 := by decide +kernel
theorem hyL_X6_tinsFor : yX6_tinsFor.cls = "SweetWrapsModel" ∧ yX6_tinsFor.cls ≠ "java/lang/invoke/MethodHandle" ∧ yX6_tinsFor.cls ≠ "java/lang/invoke/VarHandle" ∧ (parseMethodDescriptor yX6_tinsFor.desc).map (fun d => d.parameters.length) = some 0 := by decide +kernel
theorem hyL_X5_put : yX5_put.cls = "SweetWraps" ∧ yX5_put.cls ≠ "java/lang/invoke/MethodHandle" ∧ yX5_put.cls ≠ "java/lang/invoke/VarHandle" ∧ (parseMethodDescriptor yX5_put.desc).map (fun d => d.parameters.length) = some 1 := by decide +kernel
theorem hyL_X6_put : yX6_put.cls = "SweetWrapsModel" ∧ yX6_put.cls ≠ "java/lang/invoke/MethodHandle" ∧ yX6_put.cls ≠ "java/lang/invoke/VarHandle" ∧ (parseMethodDescriptor yX6_put.desc).map (fun d => d.parameters.length) = some 1 := by decide +kernel
theorem hyL_X5_wipe : yX5_wipe.cls = "SweetWraps" ∧ yX5_wipe.cls ≠ "java/lang/invoke/MethodHandle" ∧ yX5_wipe.cls ≠ "java/lang/invoke/VarHandle" ∧ (parseMethodDescriptor yX5_wipe.desc).map (fun d => d.parameters.length) = some 0 := by decide +kernel
theorem hyL_X6_wipe : yX6_wipe.cls = "SweetWrapsModel" ∧ yX6_wipe.cls ≠ "java/lang/invoke/MethodHandle" ∧ yX6_wipe.cls ≠ "java/lang/invoke/VarHandle" ∧ (parseMethodDescriptor yX6_wipe.desc).map (fun d => d.parameters.length) = some 0 := by decide +kernel
theorem hyL_X5_fault : yX5_fault.cls = "SweetWraps" ∧ yX5_fault.cls ≠ "java/lang/invoke/MethodHandle" ∧ yX5_fault.cls ≠ "java/lang/invoke/VarHandle" ∧ (parseMethodDescriptor yX5_fault.desc).map (fun d => d.parameters.length) = some 0 := by decide +kernel
theorem hyL_X6_fault : yX6_fault.cls = "SweetWrapsModel" ∧ yX6_fault.cls ≠ "java/lang/invoke/MethodHandle" ∧ yX6_fault.cls ≠ "java/lang/invoke/VarHandle" ∧ (parseMethodDescriptor yX6_fault.desc).map (fun d => d.parameters.length) = some 0 := by decide +kernel
theorem hyL_X5_carryOut : yX5_carryOut.cls = "SweetWraps" ∧ yX5_carryOut.cls ≠ "java/lang/invoke/MethodHandle" ∧ yX5_carryOut.cls ≠ "java/lang/invoke/VarHandle" ∧ (parseMethodDescriptor yX5_carryOut.desc).map (fun d => d.parameters.length) = some 0 := by decide +kernel
theorem hyL_X6_carryOut : yX6_carryOut.cls = "SweetWrapsModel" ∧ yX6_carryOut.cls ≠ "java/lang/invoke/MethodHandle" ∧ yX6_carryOut.cls ≠ "java/lang/invoke/VarHandle" ∧ (parseMethodDescriptor yX6_carryOut.desc).map (fun d => d.parameters.length) = some 0 := by decide +kernel
theorem hyL_X5_undo : yX5_undo.cls = "SweetWraps" ∧ yX5_undo.cls ≠ "java/lang/invoke/MethodHandle" ∧ yX5_undo.cls ≠ "java/lang/invoke/VarHandle" ∧ (parseMethodDescriptor yX5_undo.desc).map (fun d => d.parameters.length) = some 0 := by decide +kernel
theorem hyL_X6_undo : yX6_undo.cls = "SweetWrapsModel" ∧ yX6_undo.cls ≠ "java/lang/invoke/MethodHandle" ∧ yX6_undo.cls ≠ "java/lang/invoke/VarHandle" ∧ (parseMethodDescriptor yX6_undo.desc).map (fun d => d.parameters.length) = some 0 := by decide +kernel
theorem hyL_X5_save : yX5_save.cls = "SweetWraps" ∧ yX5_save.cls ≠ "java/lang/invoke/MethodHandle" ∧ yX5_save.cls ≠ "java/lang/invoke/VarHandle" ∧ (parseMethodDescriptor yX5_save.desc).map (fun d => d.parameters.length) = some 1 := by decide +kernel
theorem hyL_X6_save : yX6_save.cls = "SweetWrapsModel" ∧ yX6_save.cls ≠ "java/lang/invoke/MethodHandle" ∧ yX6_save.cls ≠ "java/lang/invoke/VarHandle" ∧ (parseMethodDescriptor yX6_save.desc).map (fun d => d.parameters.length) = some 1 := by decide +kernel
theorem hyL_X5_restore : yX5_restore.cls = "SweetWraps" ∧ yX5_restore.cls ≠ "java/lang/invoke/MethodHandle" ∧ yX5_restore.cls ≠ "java/lang/invoke/VarHandle" ∧ (parseMethodDescriptor yX5_restore.desc).map (fun d => d.parameters.length) = some 1 := by decide +kernel
theorem hyL_X6_restore : yX6_restore.cls = "SweetWrapsModel" ∧ yX6_restore.cls ≠ "java/lang/invoke/MethodHandle" ∧ yX6_restore.cls ≠ "java/lang/invoke/VarHandle" ∧ (parseMethodDescriptor yX6_restore.desc).map (fun d => d.parameters.length) = some 1 := by decide +kernel
/-- what the law's calls rest on: the script, its place -/
def LX (X : Tx) (b L : Nat) (xs : Nat → Int32) : Prop := Cl X cL_law RL ret 13 508 4 ∧ va_X b L xs (tS X) (tS X).heap ∧ b < (tS X).heap.size ∧ ¬ eA (tE X) b ∧ L ≤ 2048
abbrev lvL (E : Ev) (b i : Nat) : List (Nat × Value) := [(3, .int (nI i)), (2, .ref (ad E 12 18 0)), (1, .ref (ad E 11 10 0)), (0, .ref b)]
abbrev PL (a b : Int32) (τ : Sg) : Prop := a = b ∧ Rel τ
section LC
variable {X : Tx} {b L i : Nat} {xs : Nat → Int32} {σ : Sg}
set_option maxHeartbeats 4000000 in
theorem lc_0 (hL : LX X b L xs) (hi : i + 4 ≤ L) (h : Rel σ) (kk : ∀ τ, Rel τ → GL X τ (lvL (tE X) b i) [] 870) : GL X σ (lvL (tE X) b i) [] 152 := by
  obtain ⟨C, hX, hbl, hbA, hL2⟩ := hL
  have C : Cl X cL_law "SweetWrapsLaw" ret 13 508 4 := C
  refine gl_aload_n C dL_law_152 2 rfl ?_
  refine gl_aload_n C dL_law_153 3 rfl ?_
  refine gl_iload_n C dL_law_154 0 rfl ?_
  refine gl_iconst (v := nI 1) C dL_law_155 (by decide) ?_
  refine gl_iadd C dL_law_156 ?_
  refine gl_sld C hX hbl hbA (j := i + 1) (nI_add i 1) (by omega) (by omega) dL_law_157 ?_
  refine gl_aload_n C dL_law_158 3 rfl ?_
  refine gl_iload_n C dL_law_159 0 rfl ?_
  refine gl_iconst (v := nI 2) C dL_law_160 (by decide) ?_
  refine gl_iadd C dL_law_161 ?_
  refine gl_sld C hX hbl hbA (j := i + 2) (nI_add i 2) (by omega) (by omega) dL_law_162 ?_
  refine gl_vcalli (As := [.int (xs (i + 1)), .int (xs (i + 2))]) (rest := []) C (c_X5_set (tL X) (tE X) (pr_set h (xs (i + 1)) (xs (i + 2)) (P := PL) (fun v τ z => ⟨rfl, z⟩))) okg_10 rfl (q := (RX5, TX5, 6)) rfl bw_190 bw_191 bw_192 bw_1 bw_193 hyL_X5_set ⟨by decide, by decide⟩ rfl (Nat.le_of_ble_eq_true rfl) dL_law_163 (fun r1 σ1 q1 => ?_)
  refine gl_aload_n C dL_law_166 1 rfl ?_
  refine gl_aload_n C dL_law_167 3 rfl ?_
  refine gl_iload_n C dL_law_168 0 rfl ?_
  refine gl_iconst (v := nI 1) C dL_law_169 (by decide) ?_
  refine gl_iadd C dL_law_170 ?_
  refine gl_sld C hX hbl hbA (j := i + 1) (nI_add i 1) (by omega) (by omega) dL_law_171 ?_
  refine gl_aload_n C dL_law_172 3 rfl ?_
  refine gl_iload_n C dL_law_173 0 rfl ?_
  refine gl_iconst (v := nI 2) C dL_law_174 (by decide) ?_
  refine gl_iadd C dL_law_175 ?_
  refine gl_sld C hX hbl hbA (j := i + 2) (nI_add i 2) (by omega) (by omega) dL_law_176 ?_
  refine gl_vcalli (As := [.int (xs (i + 1)), .int (xs (i + 2))]) (rest := [.int r1]) C (c_X6_set (tL X) (tE X) q1) okg_18 rfl (q := (RX6, TX6, 11)) rfl bw_707 bw_708 bw_709 bw_7 bw_710 hyL_X6_set ⟨by decide, by decide⟩ rfl (Nat.le_of_ble_eq_true rfl) dL_law_177 (fun r2 σ2 q2 => ?_)
  exact gl_icmp_eq (tgt := 870) C dL_law_180 (by decide) (fun _ => kk σ2 q2.2) (fun c => absurd q2.1 c)
set_option maxHeartbeats 4000000 in
theorem lc_1 (hL : LX X b L xs) (hi : i + 4 ≤ L) (h : Rel σ) (kk : ∀ τ, Rel τ → GL X τ (lvL (tE X) b i) [] 870) : GL X σ (lvL (tE X) b i) [] 185 := by
  obtain ⟨C, hX, hbl, hbA, hL2⟩ := hL
  have C : Cl X cL_law "SweetWrapsLaw" ret 13 508 4 := C
  refine gl_aload_n C dL_law_185 2 rfl ?_
  refine gl_aload_n C dL_law_186 3 rfl ?_
  refine gl_iload_n C dL_law_187 0 rfl ?_
  refine gl_iconst (v := nI 1) C dL_law_188 (by decide) ?_
  refine gl_iadd C dL_law_189 ?_
  refine gl_sld C hX hbl hbA (j := i + 1) (nI_add i 1) (by omega) (by omega) dL_law_190 ?_
  refine gl_aload_n C dL_law_191 3 rfl ?_
  refine gl_iload_n C dL_law_192 0 rfl ?_
  refine gl_iconst (v := nI 2) C dL_law_193 (by decide) ?_
  refine gl_iadd C dL_law_194 ?_
  refine gl_sld C hX hbl hbA (j := i + 2) (nI_add i 2) (by omega) (by omega) dL_law_195 ?_
  refine gl_aload_n C dL_law_196 3 rfl ?_
  refine gl_iload_n C dL_law_197 0 rfl ?_
  refine gl_iconst (v := nI 3) C dL_law_198 (by decide) ?_
  refine gl_iadd C dL_law_199 ?_
  refine gl_sld C hX hbl hbA (j := i + 3) (nI_add i 3) (by omega) (by omega) dL_law_200 ?_
  refine gl_vcalli (As := [.int (xs (i + 1)), .int (xs (i + 2)), .int (xs (i + 3))]) (rest := []) C (c_X5_heap (tL X) (tE X) (pr_heap h (xs (i + 1)) (xs (i + 2)) (xs (i + 3)) (P := PL) (fun v τ z => ⟨rfl, z⟩))) okg_10 rfl (q := (RX5, TX5, 6)) rfl bw_244 bw_245 bw_246 bw_1 bw_247 hyL_X5_heap ⟨by decide, by decide⟩ rfl (Nat.le_of_ble_eq_true rfl) dL_law_201 (fun r1 σ1 q1 => ?_)
  refine gl_aload_n C dL_law_204 1 rfl ?_
  refine gl_aload_n C dL_law_205 3 rfl ?_
  refine gl_iload_n C dL_law_206 0 rfl ?_
  refine gl_iconst (v := nI 1) C dL_law_207 (by decide) ?_
  refine gl_iadd C dL_law_208 ?_
  refine gl_sld C hX hbl hbA (j := i + 1) (nI_add i 1) (by omega) (by omega) dL_law_209 ?_
  refine gl_aload_n C dL_law_210 3 rfl ?_
  refine gl_iload_n C dL_law_211 0 rfl ?_
  refine gl_iconst (v := nI 2) C dL_law_212 (by decide) ?_
  refine gl_iadd C dL_law_213 ?_
  refine gl_sld C hX hbl hbA (j := i + 2) (nI_add i 2) (by omega) (by omega) dL_law_214 ?_
  refine gl_aload_n C dL_law_215 3 rfl ?_
  refine gl_iload_n C dL_law_216 0 rfl ?_
  refine gl_iconst (v := nI 3) C dL_law_217 (by decide) ?_
  refine gl_iadd C dL_law_218 ?_
  refine gl_sld C hX hbl hbA (j := i + 3) (nI_add i 3) (by omega) (by omega) dL_law_219 ?_
  refine gl_vcalli (As := [.int (xs (i + 1)), .int (xs (i + 2)), .int (xs (i + 3))]) (rest := [.int r1]) C (c_X6_heap (tL X) (tE X) q1) okg_18 rfl (q := (RX6, TX6, 11)) rfl bw_718 bw_719 bw_720 bw_7 bw_721 hyL_X6_heap ⟨by decide, by decide⟩ rfl (Nat.le_of_ble_eq_true rfl) dL_law_220 (fun r2 σ2 q2 => ?_)
  exact gl_icmp_eq (tgt := 870) C dL_law_223 (by decide) (fun _ => kk σ2 q2.2) (fun c => absurd q2.1 c)
set_option maxHeartbeats 4000000 in
theorem lc_2 (hL : LX X b L xs) (hi : i + 4 ≤ L) (h : Rel σ) (kk : ∀ τ, Rel τ → GL X τ (lvL (tE X) b i) [] 870) : GL X σ (lvL (tE X) b i) [] 228 := by
  obtain ⟨C, hX, hbl, hbA, hL2⟩ := hL
  have C : Cl X cL_law "SweetWrapsLaw" ret 13 508 4 := C
  refine gl_aload_n C dL_law_228 2 rfl ?_
  refine gl_aload_n C dL_law_229 3 rfl ?_
  refine gl_iload_n C dL_law_230 0 rfl ?_
  refine gl_iconst (v := nI 1) C dL_law_231 (by decide) ?_
  refine gl_iadd C dL_law_232 ?_
  refine gl_sld C hX hbl hbA (j := i + 1) (nI_add i 1) (by omega) (by omega) dL_law_233 ?_
  refine gl_aload_n C dL_law_234 3 rfl ?_
  refine gl_iload_n C dL_law_235 0 rfl ?_
  refine gl_iconst (v := nI 2) C dL_law_236 (by decide) ?_
  refine gl_iadd C dL_law_237 ?_
  refine gl_sld C hX hbl hbA (j := i + 2) (nI_add i 2) (by omega) (by omega) dL_law_238 ?_
  refine gl_vcalli (As := [.int (xs (i + 1)), .int (xs (i + 2))]) (rest := []) C (c_X5_foil (tL X) (tE X) (pr_foil h (xs (i + 1)) (xs (i + 2)) (P := PL) (fun v τ z => ⟨rfl, z⟩))) okg_10 rfl (q := (RX5, TX5, 6)) rfl bw_265 bw_266 bw_267 bw_1 bw_268 hyL_X5_foil ⟨by decide, by decide⟩ rfl (Nat.le_of_ble_eq_true rfl) dL_law_239 (fun r1 σ1 q1 => ?_)
  refine gl_aload_n C dL_law_242 1 rfl ?_
  refine gl_aload_n C dL_law_243 3 rfl ?_
  refine gl_iload_n C dL_law_244 0 rfl ?_
  refine gl_iconst (v := nI 1) C dL_law_245 (by decide) ?_
  refine gl_iadd C dL_law_246 ?_
  refine gl_sld C hX hbl hbA (j := i + 1) (nI_add i 1) (by omega) (by omega) dL_law_247 ?_
  refine gl_aload_n C dL_law_248 3 rfl ?_
  refine gl_iload_n C dL_law_249 0 rfl ?_
  refine gl_iconst (v := nI 2) C dL_law_250 (by decide) ?_
  refine gl_iadd C dL_law_251 ?_
  refine gl_sld C hX hbl hbA (j := i + 2) (nI_add i 2) (by omega) (by omega) dL_law_252 ?_
  refine gl_vcalli (As := [.int (xs (i + 1)), .int (xs (i + 2))]) (rest := [.int r1]) C (c_X6_foil (tL X) (tE X) q1) okg_18 rfl (q := (RX6, TX6, 11)) rfl bw_756 bw_757 bw_758 bw_7 bw_759 hyL_X6_foil ⟨by decide, by decide⟩ rfl (Nat.le_of_ble_eq_true rfl) dL_law_253 (fun r2 σ2 q2 => ?_)
  exact gl_icmp_eq (tgt := 870) C dL_law_256 (by decide) (fun _ => kk σ2 q2.2) (fun c => absurd q2.1 c)
set_option maxHeartbeats 4000000 in
theorem lc_3 (hL : LX X b L xs) (hi : i + 4 ≤ L) (h : Rel σ) (kk : ∀ τ, Rel τ → GL X τ (lvL (tE X) b i) [] 870) : GL X σ (lvL (tE X) b i) [] 261 := by
  obtain ⟨C, hX, hbl, hbA, hL2⟩ := hL
  have C : Cl X cL_law "SweetWrapsLaw" ret 13 508 4 := C
  refine gl_aload_n C dL_law_261 2 rfl ?_
  refine gl_vcalli (As := []) (rest := []) C (c_X5_tin (tL X) (tE X) (pr_tin h  (P := PL) (fun v τ z => ⟨rfl, z⟩))) okg_10 rfl (q := (RX5, TX5, 6)) rfl bw_273 bw_274 bw_275 bw_1 bw_276 hyL_X5_tin ⟨by decide, by decide⟩ rfl (Nat.le_of_ble_eq_true rfl) dL_law_262 (fun r1 σ1 q1 => ?_)
  refine gl_aload_n C dL_law_265 1 rfl ?_
  refine gl_vcalli (As := []) (rest := [.int r1]) C (c_X6_tin (tL X) (tE X) q1) okg_18 rfl (q := (RX6, TX6, 11)) rfl bw_764 bw_765 bw_766 bw_7 bw_767 hyL_X6_tin ⟨by decide, by decide⟩ rfl (Nat.le_of_ble_eq_true rfl) dL_law_266 (fun r2 σ2 q2 => ?_)
  exact gl_icmp_eq (tgt := 870) C dL_law_269 (by decide) (fun _ => kk σ2 q2.2) (fun c => absurd q2.1 c)
set_option maxHeartbeats 4000000 in
theorem lc_4 (hL : LX X b L xs) (hi : i + 4 ≤ L) (h : Rel σ) (kk : ∀ τ, Rel τ → GL X τ (lvL (tE X) b i) [] 870) : GL X σ (lvL (tE X) b i) [] 274 := by
  obtain ⟨C, hX, hbl, hbA, hL2⟩ := hL
  have C : Cl X cL_law "SweetWrapsLaw" ret 13 508 4 := C
  refine gl_aload_n C dL_law_274 2 rfl ?_
  refine gl_aload_n C dL_law_275 3 rfl ?_
  refine gl_iload_n C dL_law_276 0 rfl ?_
  refine gl_iconst (v := nI 1) C dL_law_277 (by decide) ?_
  refine gl_iadd C dL_law_278 ?_
  refine gl_sld C hX hbl hbA (j := i + 1) (nI_add i 1) (by omega) (by omega) dL_law_279 ?_
  refine gl_vcalli (As := [.int (xs (i + 1))]) (rest := []) C (c_X5_ship (tL X) (tE X) (pr_ship h (xs (i + 1)) (P := PL) (fun v τ z => ⟨rfl, z⟩))) okg_10 rfl (q := (RX5, TX5, 6)) rfl bw_281 bw_282 bw_283 bw_1 bw_284 hyL_X5_ship ⟨by decide, by decide⟩ rfl (Nat.le_of_ble_eq_true rfl) dL_law_280 (fun r1 σ1 q1 => ?_)
  refine gl_aload_n C dL_law_283 1 rfl ?_
  refine gl_aload_n C dL_law_284 3 rfl ?_
  refine gl_iload_n C dL_law_285 0 rfl ?_
  refine gl_iconst (v := nI 1) C dL_law_286 (by decide) ?_
  refine gl_iadd C dL_law_287 ?_
  refine gl_sld C hX hbl hbA (j := i + 1) (nI_add i 1) (by omega) (by omega) dL_law_288 ?_
  refine gl_vcalli (As := [.int (xs (i + 1))]) (rest := [.int r1]) C (c_X6_ship (tL X) (tE X) q1) okg_18 rfl (q := (RX6, TX6, 11)) rfl bw_772 bw_773 bw_774 bw_7 bw_775 hyL_X6_ship ⟨by decide, by decide⟩ rfl (Nat.le_of_ble_eq_true rfl) dL_law_289 (fun r2 σ2 q2 => ?_)
  exact gl_icmp_eq (tgt := 870) C dL_law_292 (by decide) (fun _ => kk σ2 q2.2) (fun c => absurd q2.1 c)
set_option maxHeartbeats 4000000 in
theorem lc_5 (hL : LX X b L xs) (hi : i + 4 ≤ L) (h : Rel σ) (kk : ∀ τ, Rel τ → GL X τ (lvL (tE X) b i) [] 870) : GL X σ (lvL (tE X) b i) [] 297 := by
  obtain ⟨C, hX, hbl, hbA, hL2⟩ := hL
  have C : Cl X cL_law "SweetWrapsLaw" ret 13 508 4 := C
  refine gl_aload_n C dL_law_297 2 rfl ?_
  refine gl_aload_n C dL_law_298 3 rfl ?_
  refine gl_iload_n C dL_law_299 0 rfl ?_
  refine gl_iconst (v := nI 1) C dL_law_300 (by decide) ?_
  refine gl_iadd C dL_law_301 ?_
  refine gl_sld C hX hbl hbA (j := i + 1) (nI_add i 1) (by omega) (by omega) dL_law_302 ?_
  refine gl_aload_n C dL_law_303 3 rfl ?_
  refine gl_iload_n C dL_law_304 0 rfl ?_
  refine gl_iconst (v := nI 2) C dL_law_305 (by decide) ?_
  refine gl_iadd C dL_law_306 ?_
  refine gl_sld C hX hbl hbA (j := i + 2) (nI_add i 2) (by omega) (by omega) dL_law_307 ?_
  refine gl_vcalli (As := [.int (xs (i + 1)), .int (xs (i + 2))]) (rest := []) C (c_X5_apart (tL X) (tE X) (pr_apart h (xs (i + 1)) (xs (i + 2)) (P := PL) (fun v τ z => ⟨rfl, z⟩))) okg_10 rfl (q := (RX5, TX5, 6)) rfl bw_293 bw_294 bw_295 bw_1 bw_296 hyL_X5_apart ⟨by decide, by decide⟩ rfl (Nat.le_of_ble_eq_true rfl) dL_law_308 (fun r1 σ1 q1 => ?_)
  refine gl_aload_n C dL_law_311 1 rfl ?_
  refine gl_aload_n C dL_law_312 3 rfl ?_
  refine gl_iload_n C dL_law_313 0 rfl ?_
  refine gl_iconst (v := nI 1) C dL_law_314 (by decide) ?_
  refine gl_iadd C dL_law_315 ?_
  refine gl_sld C hX hbl hbA (j := i + 1) (nI_add i 1) (by omega) (by omega) dL_law_316 ?_
  refine gl_aload_n C dL_law_317 3 rfl ?_
  refine gl_iload_n C dL_law_318 0 rfl ?_
  refine gl_iconst (v := nI 2) C dL_law_319 (by decide) ?_
  refine gl_iadd C dL_law_320 ?_
  refine gl_sld C hX hbl hbA (j := i + 2) (nI_add i 2) (by omega) (by omega) dL_law_321 ?_
  refine gl_vcalli (As := [.int (xs (i + 1)), .int (xs (i + 2))]) (rest := [.int r1]) C (c_X6_apart (tL X) (tE X) q1) okg_18 rfl (q := (RX6, TX6, 11)) rfl bw_792 bw_793 bw_794 bw_7 bw_795 hyL_X6_apart ⟨by decide, by decide⟩ rfl (Nat.le_of_ble_eq_true rfl) dL_law_322 (fun r2 σ2 q2 => ?_)
  exact gl_icmp_eq (tgt := 870) C dL_law_325 (by decide) (fun _ => kk σ2 q2.2) (fun c => absurd q2.1 c)
set_option maxHeartbeats 4000000 in
theorem lc_6 (hL : LX X b L xs) (hi : i + 4 ≤ L) (h : Rel σ) (kk : ∀ τ, Rel τ → GL X τ (lvL (tE X) b i) [] 870) : GL X σ (lvL (tE X) b i) [] 330 := by
  obtain ⟨C, hX, hbl, hbA, hL2⟩ := hL
  have C : Cl X cL_law "SweetWrapsLaw" ret 13 508 4 := C
  refine gl_aload_n C dL_law_330 2 rfl ?_
  refine gl_aload_n C dL_law_331 3 rfl ?_
  refine gl_iload_n C dL_law_332 0 rfl ?_
  refine gl_iconst (v := nI 1) C dL_law_333 (by decide) ?_
  refine gl_iadd C dL_law_334 ?_
  refine gl_sld C hX hbl hbA (j := i + 1) (nI_add i 1) (by omega) (by omega) dL_law_335 ?_
  refine gl_vcalli (As := [.int (xs (i + 1))]) (rest := []) C (c_X5_run (tL X) (tE X) (pr_run h (xs (i + 1)) (P := PL) (fun v τ z => ⟨rfl, z⟩))) okg_10 rfl (q := (RX5, TX5, 6)) rfl bw_313 bw_314 bw_315 bw_1 bw_316 hyL_X5_run ⟨by decide, by decide⟩ rfl (Nat.le_of_ble_eq_true rfl) dL_law_336 (fun r1 σ1 q1 => ?_)
  refine gl_aload_n C dL_law_339 1 rfl ?_
  refine gl_aload_n C dL_law_340 3 rfl ?_
  refine gl_iload_n C dL_law_341 0 rfl ?_
  refine gl_iconst (v := nI 1) C dL_law_342 (by decide) ?_
  refine gl_iadd C dL_law_343 ?_
  refine gl_sld C hX hbl hbA (j := i + 1) (nI_add i 1) (by omega) (by omega) dL_law_344 ?_
  refine gl_vcalli (As := [.int (xs (i + 1))]) (rest := [.int r1]) C (c_X6_run (tL X) (tE X) q1) okg_18 rfl (q := (RX6, TX6, 11)) rfl bw_808 bw_809 bw_810 bw_7 bw_811 hyL_X6_run ⟨by decide, by decide⟩ rfl (Nat.le_of_ble_eq_true rfl) dL_law_345 (fun r2 σ2 q2 => ?_)
  exact gl_icmp_eq (tgt := 870) C dL_law_348 (by decide) (fun _ => kk σ2 q2.2) (fun c => absurd q2.1 c)
set_option maxHeartbeats 4000000 in
theorem lc_7 (hL : LX X b L xs) (hi : i + 4 ≤ L) (h : Rel σ) (kk : ∀ τ, Rel τ → GL X τ (lvL (tE X) b i) [] 870) : GL X σ (lvL (tE X) b i) [] 353 := by
  obtain ⟨C, hX, hbl, hbA, hL2⟩ := hL
  have C : Cl X cL_law "SweetWrapsLaw" ret 13 508 4 := C
  refine gl_aload_n C dL_law_353 2 rfl ?_
  refine gl_aload_n C dL_law_354 3 rfl ?_
  refine gl_iload_n C dL_law_355 0 rfl ?_
  refine gl_iconst (v := nI 1) C dL_law_356 (by decide) ?_
  refine gl_iadd C dL_law_357 ?_
  refine gl_sld C hX hbl hbA (j := i + 1) (nI_add i 1) (by omega) (by omega) dL_law_358 ?_
  refine gl_aload_n C dL_law_359 3 rfl ?_
  refine gl_iload_n C dL_law_360 0 rfl ?_
  refine gl_iconst (v := nI 2) C dL_law_361 (by decide) ?_
  refine gl_iadd C dL_law_362 ?_
  refine gl_sld C hX hbl hbA (j := i + 2) (nI_add i 2) (by omega) (by omega) dL_law_363 ?_
  refine gl_vcalli (As := [.int (xs (i + 1)), .int (xs (i + 2))]) (rest := []) C (c_X5_of (tL X) (tE X) (pz_of h (xs (i + 1)) (xs (i + 2)) (P := PL) (fun v τ z => ⟨rfl, z⟩))) okg_10 rfl (q := (RX5, TX5, 6)) rfl bw_369 bw_370 bw_371 bw_1 bw_372 hyL_X5_of ⟨by decide, by decide⟩ rfl (Nat.le_of_ble_eq_true rfl) dL_law_364 (fun r1 σ1 q1 => ?_)
  refine gl_aload_n C dL_law_367 1 rfl ?_
  refine gl_aload_n C dL_law_368 3 rfl ?_
  refine gl_iload_n C dL_law_369 0 rfl ?_
  refine gl_iconst (v := nI 1) C dL_law_370 (by decide) ?_
  refine gl_iadd C dL_law_371 ?_
  refine gl_sld C hX hbl hbA (j := i + 1) (nI_add i 1) (by omega) (by omega) dL_law_372 ?_
  refine gl_aload_n C dL_law_373 3 rfl ?_
  refine gl_iload_n C dL_law_374 0 rfl ?_
  refine gl_iconst (v := nI 2) C dL_law_375 (by decide) ?_
  refine gl_iadd C dL_law_376 ?_
  refine gl_sld C hX hbl hbA (j := i + 2) (nI_add i 2) (by omega) (by omega) dL_law_377 ?_
  refine gl_vcalli (As := [.int (xs (i + 1)), .int (xs (i + 2))]) (rest := [.int r1]) C (c_X6_of (tL X) (tE X) q1) okg_18 rfl (q := (RX6, TX6, 11)) rfl bw_848 bw_849 bw_850 bw_7 bw_851 hyL_X6_of ⟨by decide, by decide⟩ rfl (Nat.le_of_ble_eq_true rfl) dL_law_378 (fun r2 σ2 q2 => ?_)
  exact gl_icmp_eq (tgt := 870) C dL_law_381 (by decide) (fun _ => kk σ2 q2.2) (fun c => absurd q2.1 c)
set_option maxHeartbeats 4000000 in
theorem lc_8 (hL : LX X b L xs) (hi : i + 4 ≤ L) (h : Rel σ) (kk : ∀ τ, Rel τ → GL X τ (lvL (tE X) b i) [] 870) : GL X σ (lvL (tE X) b i) [] 386 := by
  obtain ⟨C, hX, hbl, hbA, hL2⟩ := hL
  have C : Cl X cL_law "SweetWrapsLaw" ret 13 508 4 := C
  refine gl_aload_n C dL_law_386 2 rfl ?_
  refine gl_aload_n C dL_law_387 3 rfl ?_
  refine gl_iload_n C dL_law_388 0 rfl ?_
  refine gl_iconst (v := nI 1) C dL_law_389 (by decide) ?_
  refine gl_iadd C dL_law_390 ?_
  refine gl_sld C hX hbl hbA (j := i + 1) (nI_add i 1) (by omega) (by omega) dL_law_391 ?_
  refine gl_aload_n C dL_law_392 3 rfl ?_
  refine gl_iload_n C dL_law_393 0 rfl ?_
  refine gl_iconst (v := nI 2) C dL_law_394 (by decide) ?_
  refine gl_iadd C dL_law_395 ?_
  refine gl_sld C hX hbl hbA (j := i + 2) (nI_add i 2) (by omega) (by omega) dL_law_396 ?_
  refine gl_aload_n C dL_law_397 3 rfl ?_
  refine gl_iload_n C dL_law_398 0 rfl ?_
  refine gl_iconst (v := nI 3) C dL_law_399 (by decide) ?_
  refine gl_iadd C dL_law_400 ?_
  refine gl_sld C hX hbl hbA (j := i + 3) (nI_add i 3) (by omega) (by omega) dL_law_401 ?_
  refine gl_vcalli (As := [.int (xs (i + 1)), .int (xs (i + 2)), .int (xs (i + 3))]) (rest := []) C (c_X5_ofHeap (tL X) (tE X) (pz_ofHeap h (xs (i + 1)) (xs (i + 2)) (xs (i + 3)) (P := PL) (fun v τ z => ⟨rfl, z⟩))) okg_10 rfl (q := (RX5, TX5, 6)) rfl bw_382 bw_383 bw_384 bw_1 bw_385 hyL_X5_ofHeap ⟨by decide, by decide⟩ rfl (Nat.le_of_ble_eq_true rfl) dL_law_402 (fun r1 σ1 q1 => ?_)
  refine gl_aload_n C dL_law_405 1 rfl ?_
  refine gl_aload_n C dL_law_406 3 rfl ?_
  refine gl_iload_n C dL_law_407 0 rfl ?_
  refine gl_iconst (v := nI 1) C dL_law_408 (by decide) ?_
  refine gl_iadd C dL_law_409 ?_
  refine gl_sld C hX hbl hbA (j := i + 1) (nI_add i 1) (by omega) (by omega) dL_law_410 ?_
  refine gl_aload_n C dL_law_411 3 rfl ?_
  refine gl_iload_n C dL_law_412 0 rfl ?_
  refine gl_iconst (v := nI 2) C dL_law_413 (by decide) ?_
  refine gl_iadd C dL_law_414 ?_
  refine gl_sld C hX hbl hbA (j := i + 2) (nI_add i 2) (by omega) (by omega) dL_law_415 ?_
  refine gl_aload_n C dL_law_416 3 rfl ?_
  refine gl_iload_n C dL_law_417 0 rfl ?_
  refine gl_iconst (v := nI 3) C dL_law_418 (by decide) ?_
  refine gl_iadd C dL_law_419 ?_
  refine gl_sld C hX hbl hbA (j := i + 3) (nI_add i 3) (by omega) (by omega) dL_law_420 ?_
  refine gl_vcalli (As := [.int (xs (i + 1)), .int (xs (i + 2)), .int (xs (i + 3))]) (rest := [.int r1]) C (c_X6_ofHeap (tL X) (tE X) q1) okg_18 rfl (q := (RX6, TX6, 11)) rfl bw_852 bw_853 bw_854 bw_7 bw_855 hyL_X6_ofHeap ⟨by decide, by decide⟩ rfl (Nat.le_of_ble_eq_true rfl) dL_law_421 (fun r2 σ2 q2 => ?_)
  exact gl_icmp_eq (tgt := 870) C dL_law_424 (by decide) (fun _ => kk σ2 q2.2) (fun c => absurd q2.1 c)
set_option maxHeartbeats 4000000 in
theorem lc_9 (hL : LX X b L xs) (hi : i + 4 ≤ L) (h : Rel σ) (kk : ∀ τ, Rel τ → GL X τ (lvL (tE X) b i) [] 870) : GL X σ (lvL (tE X) b i) [] 429 := by
  obtain ⟨C, hX, hbl, hbA, hL2⟩ := hL
  have C : Cl X cL_law "SweetWrapsLaw" ret 13 508 4 := C
  refine gl_aload_n C dL_law_429 2 rfl ?_
  refine gl_aload_n C dL_law_430 3 rfl ?_
  refine gl_iload_n C dL_law_431 0 rfl ?_
  refine gl_iconst (v := nI 1) C dL_law_432 (by decide) ?_
  refine gl_iadd C dL_law_433 ?_
  refine gl_sld C hX hbl hbA (j := i + 1) (nI_add i 1) (by omega) (by omega) dL_law_434 ?_
  refine gl_aload_n C dL_law_435 3 rfl ?_
  refine gl_iload_n C dL_law_436 0 rfl ?_
  refine gl_iconst (v := nI 2) C dL_law_437 (by decide) ?_
  refine gl_iadd C dL_law_438 ?_
  refine gl_sld C hX hbl hbA (j := i + 2) (nI_add i 2) (by omega) (by omega) dL_law_439 ?_
  refine gl_vcalli (As := [.int (xs (i + 1)), .int (xs (i + 2))]) (rest := []) C (c_X5_ofTin (tL X) (tE X) (pz_ofTin h (xs (i + 1)) (xs (i + 2)) (P := PL) (fun v τ z => ⟨rfl, z⟩))) okg_10 rfl (q := (RX5, TX5, 6)) rfl bw_391 bw_392 bw_393 bw_1 bw_394 hyL_X5_ofTin ⟨by decide, by decide⟩ rfl (Nat.le_of_ble_eq_true rfl) dL_law_440 (fun r1 σ1 q1 => ?_)
  refine gl_aload_n C dL_law_443 1 rfl ?_
  refine gl_aload_n C dL_law_444 3 rfl ?_
  refine gl_iload_n C dL_law_445 0 rfl ?_
  refine gl_iconst (v := nI 1) C dL_law_446 (by decide) ?_
  refine gl_iadd C dL_law_447 ?_
  refine gl_sld C hX hbl hbA (j := i + 1) (nI_add i 1) (by omega) (by omega) dL_law_448 ?_
  refine gl_aload_n C dL_law_449 3 rfl ?_
  refine gl_iload_n C dL_law_450 0 rfl ?_
  refine gl_iconst (v := nI 2) C dL_law_451 (by decide) ?_
  refine gl_iadd C dL_law_452 ?_
  refine gl_sld C hX hbl hbA (j := i + 2) (nI_add i 2) (by omega) (by omega) dL_law_453 ?_
  refine gl_vcalli (As := [.int (xs (i + 1)), .int (xs (i + 2))]) (rest := [.int r1]) C (c_X6_ofTin (tL X) (tE X) q1) okg_18 rfl (q := (RX6, TX6, 11)) rfl bw_856 bw_857 bw_858 bw_7 bw_859 hyL_X6_ofTin ⟨by decide, by decide⟩ rfl (Nat.le_of_ble_eq_true rfl) dL_law_454 (fun r2 σ2 q2 => ?_)
  exact gl_icmp_eq (tgt := 870) C dL_law_457 (by decide) (fun _ => kk σ2 q2.2) (fun c => absurd q2.1 c)
set_option maxHeartbeats 4000000 in
theorem lc_10 (hL : LX X b L xs) (hi : i + 4 ≤ L) (h : Rel σ) (kk : ∀ τ, Rel τ → GL X τ (lvL (tE X) b i) [] 870) : GL X σ (lvL (tE X) b i) [] 462 := by
  obtain ⟨C, hX, hbl, hbA, hL2⟩ := hL
  have C : Cl X cL_law "SweetWrapsLaw" ret 13 508 4 := C
  refine gl_aload_n C dL_law_462 2 rfl ?_
  refine gl_aload_n C dL_law_463 3 rfl ?_
  refine gl_iload_n C dL_law_464 0 rfl ?_
  refine gl_iconst (v := nI 1) C dL_law_465 (by decide) ?_
  refine gl_iadd C dL_law_466 ?_
  refine gl_sld C hX hbl hbA (j := i + 1) (nI_add i 1) (by omega) (by omega) dL_law_467 ?_
  refine gl_aload_n C dL_law_468 3 rfl ?_
  refine gl_iload_n C dL_law_469 0 rfl ?_
  refine gl_iconst (v := nI 2) C dL_law_470 (by decide) ?_
  refine gl_iadd C dL_law_471 ?_
  refine gl_sld C hX hbl hbA (j := i + 2) (nI_add i 2) (by omega) (by omega) dL_law_472 ?_
  refine gl_vcalli (As := [.int (xs (i + 1)), .int (xs (i + 2))]) (rest := []) C (c_X5_inTin (tL X) (tE X) (pz_inTin h (xs (i + 1)) (xs (i + 2)) (P := PL) (fun v τ z => ⟨rfl, z⟩))) okg_10 rfl (q := (RX5, TX5, 6)) rfl bw_403 bw_404 bw_405 bw_1 bw_406 hyL_X5_inTin ⟨by decide, by decide⟩ rfl (Nat.le_of_ble_eq_true rfl) dL_law_473 (fun r1 σ1 q1 => ?_)
  refine gl_aload_n C dL_law_476 1 rfl ?_
  refine gl_aload_n C dL_law_477 3 rfl ?_
  refine gl_iload_n C dL_law_478 0 rfl ?_
  refine gl_iconst (v := nI 1) C dL_law_479 (by decide) ?_
  refine gl_iadd C dL_law_480 ?_
  refine gl_sld C hX hbl hbA (j := i + 1) (nI_add i 1) (by omega) (by omega) dL_law_481 ?_
  refine gl_aload_n C dL_law_482 3 rfl ?_
  refine gl_iload_n C dL_law_483 0 rfl ?_
  refine gl_iconst (v := nI 2) C dL_law_484 (by decide) ?_
  refine gl_iadd C dL_law_485 ?_
  refine gl_sld C hX hbl hbA (j := i + 2) (nI_add i 2) (by omega) (by omega) dL_law_486 ?_
  refine gl_vcalli (As := [.int (xs (i + 1)), .int (xs (i + 2))]) (rest := [.int r1]) C (c_X6_inTin (tL X) (tE X) q1) okg_18 rfl (q := (RX6, TX6, 11)) rfl bw_864 bw_865 bw_866 bw_7 bw_867 hyL_X6_inTin ⟨by decide, by decide⟩ rfl (Nat.le_of_ble_eq_true rfl) dL_law_487 (fun r2 σ2 q2 => ?_)
  exact gl_icmp_eq (tgt := 870) C dL_law_490 (by decide) (fun _ => kk σ2 q2.2) (fun c => absurd q2.1 c)
set_option maxHeartbeats 4000000 in
theorem lc_11 (hL : LX X b L xs) (hi : i + 4 ≤ L) (h : Rel σ) (kk : ∀ τ, Rel τ → GL X τ (lvL (tE X) b i) [] 870) : GL X σ (lvL (tE X) b i) [] 495 := by
  obtain ⟨C, hX, hbl, hbA, hL2⟩ := hL
  have C : Cl X cL_law "SweetWrapsLaw" ret 13 508 4 := C
  refine gl_aload_n C dL_law_495 2 rfl ?_
  refine gl_aload_n C dL_law_496 3 rfl ?_
  refine gl_iload_n C dL_law_497 0 rfl ?_
  refine gl_iconst (v := nI 1) C dL_law_498 (by decide) ?_
  refine gl_iadd C dL_law_499 ?_
  refine gl_sld C hX hbl hbA (j := i + 1) (nI_add i 1) (by omega) (by omega) dL_law_500 ?_
  refine gl_aload_n C dL_law_501 3 rfl ?_
  refine gl_iload_n C dL_law_502 0 rfl ?_
  refine gl_iconst (v := nI 2) C dL_law_503 (by decide) ?_
  refine gl_iadd C dL_law_504 ?_
  refine gl_sld C hX hbl hbA (j := i + 2) (nI_add i 2) (by omega) (by omega) dL_law_505 ?_
  refine gl_vcalli (As := [.int (xs (i + 1)), .int (xs (i + 2))]) (rest := []) C (c_X5_flavour (tL X) (tE X) (pz_flavour h (xs (i + 1)) (xs (i + 2)) (P := PL) (fun v τ z => ⟨rfl, z⟩))) okg_10 rfl (q := (RX5, TX5, 6)) rfl bw_411 bw_412 bw_413 bw_1 bw_414 hyL_X5_flavour ⟨by decide, by decide⟩ rfl (Nat.le_of_ble_eq_true rfl) dL_law_506 (fun r1 σ1 q1 => ?_)
  refine gl_aload_n C dL_law_509 1 rfl ?_
  refine gl_aload_n C dL_law_510 3 rfl ?_
  refine gl_iload_n C dL_law_511 0 rfl ?_
  refine gl_iconst (v := nI 1) C dL_law_512 (by decide) ?_
  refine gl_iadd C dL_law_513 ?_
  refine gl_sld C hX hbl hbA (j := i + 1) (nI_add i 1) (by omega) (by omega) dL_law_514 ?_
  refine gl_aload_n C dL_law_515 3 rfl ?_
  refine gl_iload_n C dL_law_516 0 rfl ?_
  refine gl_iconst (v := nI 2) C dL_law_517 (by decide) ?_
  refine gl_iadd C dL_law_518 ?_
  refine gl_sld C hX hbl hbA (j := i + 2) (nI_add i 2) (by omega) (by omega) dL_law_519 ?_
  refine gl_vcalli (As := [.int (xs (i + 1)), .int (xs (i + 2))]) (rest := [.int r1]) C (c_X6_flavour (tL X) (tE X) q1) okg_18 rfl (q := (RX6, TX6, 11)) rfl bw_868 bw_869 bw_870 bw_7 bw_871 hyL_X6_flavour ⟨by decide, by decide⟩ rfl (Nat.le_of_ble_eq_true rfl) dL_law_520 (fun r2 σ2 q2 => ?_)
  exact gl_icmp_eq (tgt := 870) C dL_law_523 (by decide) (fun _ => kk σ2 q2.2) (fun c => absurd q2.1 c)
set_option maxHeartbeats 4000000 in
theorem lc_12 (hL : LX X b L xs) (hi : i + 4 ≤ L) (h : Rel σ) (kk : ∀ τ, Rel τ → GL X τ (lvL (tE X) b i) [] 870) : GL X σ (lvL (tE X) b i) [] 528 := by
  obtain ⟨C, hX, hbl, hbA, hL2⟩ := hL
  have C : Cl X cL_law "SweetWrapsLaw" ret 13 508 4 := C
  refine gl_aload_n C dL_law_528 2 rfl ?_
  refine gl_aload_n C dL_law_529 3 rfl ?_
  refine gl_iload_n C dL_law_530 0 rfl ?_
  refine gl_iconst (v := nI 1) C dL_law_531 (by decide) ?_
  refine gl_iadd C dL_law_532 ?_
  refine gl_sld C hX hbl hbA (j := i + 1) (nI_add i 1) (by omega) (by omega) dL_law_533 ?_
  refine gl_vcalli (As := [.int (xs (i + 1))]) (rest := []) C (c_X5_byRoom (tL X) (tE X) (pz_byRoom h (xs (i + 1)) (P := PL) (fun v τ z => ⟨rfl, z⟩))) okg_10 rfl (q := (RX5, TX5, 6)) rfl bw_431 bw_432 bw_433 bw_1 bw_434 hyL_X5_byRoom ⟨by decide, by decide⟩ rfl (Nat.le_of_ble_eq_true rfl) dL_law_534 (fun r1 σ1 q1 => ?_)
  refine gl_aload_n C dL_law_537 1 rfl ?_
  refine gl_aload_n C dL_law_538 3 rfl ?_
  refine gl_iload_n C dL_law_539 0 rfl ?_
  refine gl_iconst (v := nI 1) C dL_law_540 (by decide) ?_
  refine gl_iadd C dL_law_541 ?_
  refine gl_sld C hX hbl hbA (j := i + 1) (nI_add i 1) (by omega) (by omega) dL_law_542 ?_
  refine gl_vcalli (As := [.int (xs (i + 1))]) (rest := [.int r1]) C (c_X6_byRoom (tL X) (tE X) q1) okg_18 rfl (q := (RX6, TX6, 11)) rfl bw_880 bw_881 bw_882 bw_7 bw_883 hyL_X6_byRoom ⟨by decide, by decide⟩ rfl (Nat.le_of_ble_eq_true rfl) dL_law_543 (fun r2 σ2 q2 => ?_)
  exact gl_icmp_eq (tgt := 870) C dL_law_546 (by decide) (fun _ => kk σ2 q2.2) (fun c => absurd q2.1 c)
set_option maxHeartbeats 4000000 in
theorem lc_13 (hL : LX X b L xs) (hi : i + 4 ≤ L) (h : Rel σ) (kk : ∀ τ, Rel τ → GL X τ (lvL (tE X) b i) [] 870) : GL X σ (lvL (tE X) b i) [] 551 := by
  obtain ⟨C, hX, hbl, hbA, hL2⟩ := hL
  have C : Cl X cL_law "SweetWrapsLaw" ret 13 508 4 := C
  refine gl_aload_n C dL_law_551 2 rfl ?_
  refine gl_aload_n C dL_law_552 3 rfl ?_
  refine gl_iload_n C dL_law_553 0 rfl ?_
  refine gl_iconst (v := nI 1) C dL_law_554 (by decide) ?_
  refine gl_iadd C dL_law_555 ?_
  refine gl_sld C hX hbl hbA (j := i + 1) (nI_add i 1) (by omega) (by omega) dL_law_556 ?_
  refine gl_vcalli (As := [.int (xs (i + 1))]) (rest := []) C (c_X5_byCount (tL X) (tE X) (pz_byCount h (xs (i + 1)) (P := PL) (fun v τ z => ⟨rfl, z⟩))) okg_10 rfl (q := (RX5, TX5, 6)) rfl bw_443 bw_444 bw_445 bw_1 bw_446 hyL_X5_byCount ⟨by decide, by decide⟩ rfl (Nat.le_of_ble_eq_true rfl) dL_law_557 (fun r1 σ1 q1 => ?_)
  refine gl_aload_n C dL_law_560 1 rfl ?_
  refine gl_aload_n C dL_law_561 3 rfl ?_
  refine gl_iload_n C dL_law_562 0 rfl ?_
  refine gl_iconst (v := nI 1) C dL_law_563 (by decide) ?_
  refine gl_iadd C dL_law_564 ?_
  refine gl_sld C hX hbl hbA (j := i + 1) (nI_add i 1) (by omega) (by omega) dL_law_565 ?_
  refine gl_vcalli (As := [.int (xs (i + 1))]) (rest := [.int r1]) C (c_X6_byCount (tL X) (tE X) q1) okg_18 rfl (q := (RX6, TX6, 11)) rfl bw_884 bw_885 bw_886 bw_7 bw_887 hyL_X6_byCount ⟨by decide, by decide⟩ rfl (Nat.le_of_ble_eq_true rfl) dL_law_566 (fun r2 σ2 q2 => ?_)
  exact gl_icmp_eq (tgt := 870) C dL_law_569 (by decide) (fun _ => kk σ2 q2.2) (fun c => absurd q2.1 c)
set_option maxHeartbeats 4000000 in
theorem lc_14 (hL : LX X b L xs) (hi : i + 4 ≤ L) (h : Rel σ) (kk : ∀ τ, Rel τ → GL X τ (lvL (tE X) b i) [] 870) : GL X σ (lvL (tE X) b i) [] 574 := by
  obtain ⟨C, hX, hbl, hbA, hL2⟩ := hL
  have C : Cl X cL_law "SweetWrapsLaw" ret 13 508 4 := C
  refine gl_aload_n C dL_law_574 2 rfl ?_
  refine gl_aload_n C dL_law_575 3 rfl ?_
  refine gl_iload_n C dL_law_576 0 rfl ?_
  refine gl_iconst (v := nI 1) C dL_law_577 (by decide) ?_
  refine gl_iadd C dL_law_578 ?_
  refine gl_sld C hX hbl hbA (j := i + 1) (nI_add i 1) (by omega) (by omega) dL_law_579 ?_
  refine gl_vcalli (As := [.int (xs (i + 1))]) (rest := []) C (c_X5_count (tL X) (tE X) (pz_count h (xs (i + 1)) (P := PL) (fun v τ z => ⟨rfl, z⟩))) okg_10 rfl (q := (RX5, TX5, 6)) rfl bw_459 bw_460 bw_461 bw_1 bw_462 hyL_X5_count ⟨by decide, by decide⟩ rfl (Nat.le_of_ble_eq_true rfl) dL_law_580 (fun r1 σ1 q1 => ?_)
  refine gl_aload_n C dL_law_583 1 rfl ?_
  refine gl_aload_n C dL_law_584 3 rfl ?_
  refine gl_iload_n C dL_law_585 0 rfl ?_
  refine gl_iconst (v := nI 1) C dL_law_586 (by decide) ?_
  refine gl_iadd C dL_law_587 ?_
  refine gl_sld C hX hbl hbA (j := i + 1) (nI_add i 1) (by omega) (by omega) dL_law_588 ?_
  refine gl_vcalli (As := [.int (xs (i + 1))]) (rest := [.int r1]) C (c_X6_count (tL X) (tE X) q1) okg_18 rfl (q := (RX6, TX6, 11)) rfl bw_892 bw_893 bw_894 bw_7 bw_895 hyL_X6_count ⟨by decide, by decide⟩ rfl (Nat.le_of_ble_eq_true rfl) dL_law_589 (fun r2 σ2 q2 => ?_)
  exact gl_icmp_eq (tgt := 870) C dL_law_592 (by decide) (fun _ => kk σ2 q2.2) (fun c => absurd q2.1 c)
set_option maxHeartbeats 4000000 in
theorem lc_15 (hL : LX X b L xs) (hi : i + 4 ≤ L) (h : Rel σ) (kk : ∀ τ, Rel τ → GL X τ (lvL (tE X) b i) [] 870) : GL X σ (lvL (tE X) b i) [] 597 := by
  obtain ⟨C, hX, hbl, hbA, hL2⟩ := hL
  have C : Cl X cL_law "SweetWrapsLaw" ret 13 508 4 := C
  refine gl_aload_n C dL_law_597 2 rfl ?_
  refine gl_aload_n C dL_law_598 3 rfl ?_
  refine gl_iload_n C dL_law_599 0 rfl ?_
  refine gl_iconst (v := nI 1) C dL_law_600 (by decide) ?_
  refine gl_iadd C dL_law_601 ?_
  refine gl_sld C hX hbl hbA (j := i + 1) (nI_add i 1) (by omega) (by omega) dL_law_602 ?_
  refine gl_aload_n C dL_law_603 3 rfl ?_
  refine gl_iload_n C dL_law_604 0 rfl ?_
  refine gl_iconst (v := nI 2) C dL_law_605 (by decide) ?_
  refine gl_iadd C dL_law_606 ?_
  refine gl_sld C hX hbl hbA (j := i + 2) (nI_add i 2) (by omega) (by omega) dL_law_607 ?_
  refine gl_vcalli (As := [.int (xs (i + 1)), .int (xs (i + 2))]) (rest := []) C (c_X5_stands (tL X) (tE X) (pr_stands h (xs (i + 1)) (xs (i + 2)) (P := PL) (fun v τ z => ⟨rfl, z⟩))) okg_10 rfl (q := (RX5, TX5, 6)) rfl bw_484 bw_485 bw_486 bw_1 bw_487 hyL_X5_stands ⟨by decide, by decide⟩ rfl (Nat.le_of_ble_eq_true rfl) dL_law_608 (fun r1 σ1 q1 => ?_)
  refine gl_aload_n C dL_law_611 1 rfl ?_
  refine gl_aload_n C dL_law_612 3 rfl ?_
  refine gl_iload_n C dL_law_613 0 rfl ?_
  refine gl_iconst (v := nI 1) C dL_law_614 (by decide) ?_
  refine gl_iadd C dL_law_615 ?_
  refine gl_sld C hX hbl hbA (j := i + 1) (nI_add i 1) (by omega) (by omega) dL_law_616 ?_
  refine gl_aload_n C dL_law_617 3 rfl ?_
  refine gl_iload_n C dL_law_618 0 rfl ?_
  refine gl_iconst (v := nI 2) C dL_law_619 (by decide) ?_
  refine gl_iadd C dL_law_620 ?_
  refine gl_sld C hX hbl hbA (j := i + 2) (nI_add i 2) (by omega) (by omega) dL_law_621 ?_
  refine gl_vcalli (As := [.int (xs (i + 1)), .int (xs (i + 2))]) (rest := [.int r1]) C (c_X6_stands (tL X) (tE X) q1) okg_18 rfl (q := (RX6, TX6, 11)) rfl bw_912 bw_913 bw_914 bw_7 bw_915 hyL_X6_stands ⟨by decide, by decide⟩ rfl (Nat.le_of_ble_eq_true rfl) dL_law_622 (fun r2 σ2 q2 => ?_)
  exact gl_icmp_eq (tgt := 870) C dL_law_625 (by decide) (fun _ => kk σ2 q2.2) (fun c => absurd q2.1 c)
set_option maxHeartbeats 4000000 in
theorem lc_16 (hL : LX X b L xs) (hi : i + 4 ≤ L) (h : Rel σ) (kk : ∀ τ, Rel τ → GL X τ (lvL (tE X) b i) [] 870) : GL X σ (lvL (tE X) b i) [] 630 := by
  obtain ⟨C, hX, hbl, hbA, hL2⟩ := hL
  have C : Cl X cL_law "SweetWrapsLaw" ret 13 508 4 := C
  refine gl_aload_n C dL_law_630 2 rfl ?_
  refine gl_aload_n C dL_law_631 3 rfl ?_
  refine gl_iload_n C dL_law_632 0 rfl ?_
  refine gl_iconst (v := nI 1) C dL_law_633 (by decide) ?_
  refine gl_iadd C dL_law_634 ?_
  refine gl_sld C hX hbl hbA (j := i + 1) (nI_add i 1) (by omega) (by omega) dL_law_635 ?_
  refine gl_aload_n C dL_law_636 3 rfl ?_
  refine gl_iload_n C dL_law_637 0 rfl ?_
  refine gl_iconst (v := nI 2) C dL_law_638 (by decide) ?_
  refine gl_iadd C dL_law_639 ?_
  refine gl_sld C hX hbl hbA (j := i + 2) (nI_add i 2) (by omega) (by omega) dL_law_640 ?_
  refine gl_vcalli (As := [.int (xs (i + 1)), .int (xs (i + 2))]) (rest := []) C (c_X5_bestSpeed (tL X) (tE X) (pr_bestSpeed h (xs (i + 1)) (xs (i + 2)) (P := PL) (fun v τ z => ⟨rfl, z⟩))) okg_10 rfl (q := (RX5, TX5, 6)) rfl bw_491 bw_492 bw_493 bw_1 bw_494 hyL_X5_bestSpeed ⟨by decide, by decide⟩ rfl (Nat.le_of_ble_eq_true rfl) dL_law_641 (fun r1 σ1 q1 => ?_)
  refine gl_aload_n C dL_law_644 1 rfl ?_
  refine gl_aload_n C dL_law_645 3 rfl ?_
  refine gl_iload_n C dL_law_646 0 rfl ?_
  refine gl_iconst (v := nI 1) C dL_law_647 (by decide) ?_
  refine gl_iadd C dL_law_648 ?_
  refine gl_sld C hX hbl hbA (j := i + 1) (nI_add i 1) (by omega) (by omega) dL_law_649 ?_
  refine gl_aload_n C dL_law_650 3 rfl ?_
  refine gl_iload_n C dL_law_651 0 rfl ?_
  refine gl_iconst (v := nI 2) C dL_law_652 (by decide) ?_
  refine gl_iadd C dL_law_653 ?_
  refine gl_sld C hX hbl hbA (j := i + 2) (nI_add i 2) (by omega) (by omega) dL_law_654 ?_
  refine gl_vcalli (As := [.int (xs (i + 1)), .int (xs (i + 2))]) (rest := [.int r1]) C (c_X6_bestSpeed (tL X) (tE X) q1) okg_18 rfl (q := (RX6, TX6, 11)) rfl bw_920 bw_921 bw_922 bw_7 bw_923 hyL_X6_bestSpeed ⟨by decide, by decide⟩ rfl (Nat.le_of_ble_eq_true rfl) dL_law_655 (fun r2 σ2 q2 => ?_)
  exact gl_icmp_eq (tgt := 870) C dL_law_658 (by decide) (fun _ => kk σ2 q2.2) (fun c => absurd q2.1 c)
set_option maxHeartbeats 4000000 in
theorem lc_17 (hL : LX X b L xs) (hi : i + 4 ≤ L) (h : Rel σ) (kk : ∀ τ, Rel τ → GL X τ (lvL (tE X) b i) [] 870) : GL X σ (lvL (tE X) b i) [] 663 := by
  obtain ⟨C, hX, hbl, hbA, hL2⟩ := hL
  have C : Cl X cL_law "SweetWrapsLaw" ret 13 508 4 := C
  refine gl_aload_n C dL_law_663 2 rfl ?_
  refine gl_aload_n C dL_law_664 3 rfl ?_
  refine gl_iload_n C dL_law_665 0 rfl ?_
  refine gl_iconst (v := nI 1) C dL_law_666 (by decide) ?_
  refine gl_iadd C dL_law_667 ?_
  refine gl_sld C hX hbl hbA (j := i + 1) (nI_add i 1) (by omega) (by omega) dL_law_668 ?_
  refine gl_aload_n C dL_law_669 3 rfl ?_
  refine gl_iload_n C dL_law_670 0 rfl ?_
  refine gl_iconst (v := nI 2) C dL_law_671 (by decide) ?_
  refine gl_iadd C dL_law_672 ?_
  refine gl_sld C hX hbl hbA (j := i + 2) (nI_add i 2) (by omega) (by omega) dL_law_673 ?_
  refine gl_aload_n C dL_law_674 3 rfl ?_
  refine gl_iload_n C dL_law_675 0 rfl ?_
  refine gl_iconst (v := nI 3) C dL_law_676 (by decide) ?_
  refine gl_iadd C dL_law_677 ?_
  refine gl_sld C hX hbl hbA (j := i + 3) (nI_add i 3) (by omega) (by omega) dL_law_678 ?_
  refine gl_vcalli (As := [.int (xs (i + 1)), .int (xs (i + 2)), .int (xs (i + 3))]) (rest := []) C (c_X5_ifApart (tL X) (tE X) (pr_ifApart h (xs (i + 1)) (xs (i + 2)) (xs (i + 3)) (P := PL) (fun v τ z => ⟨rfl, z⟩))) okg_10 rfl (q := (RX5, TX5, 6)) rfl bw_498 bw_499 bw_500 bw_1 bw_501 hyL_X5_ifApart ⟨by decide, by decide⟩ rfl (Nat.le_of_ble_eq_true rfl) dL_law_679 (fun r1 σ1 q1 => ?_)
  refine gl_aload_n C dL_law_682 1 rfl ?_
  refine gl_aload_n C dL_law_683 3 rfl ?_
  refine gl_iload_n C dL_law_684 0 rfl ?_
  refine gl_iconst (v := nI 1) C dL_law_685 (by decide) ?_
  refine gl_iadd C dL_law_686 ?_
  refine gl_sld C hX hbl hbA (j := i + 1) (nI_add i 1) (by omega) (by omega) dL_law_687 ?_
  refine gl_aload_n C dL_law_688 3 rfl ?_
  refine gl_iload_n C dL_law_689 0 rfl ?_
  refine gl_iconst (v := nI 2) C dL_law_690 (by decide) ?_
  refine gl_iadd C dL_law_691 ?_
  refine gl_sld C hX hbl hbA (j := i + 2) (nI_add i 2) (by omega) (by omega) dL_law_692 ?_
  refine gl_aload_n C dL_law_693 3 rfl ?_
  refine gl_iload_n C dL_law_694 0 rfl ?_
  refine gl_iconst (v := nI 3) C dL_law_695 (by decide) ?_
  refine gl_iadd C dL_law_696 ?_
  refine gl_sld C hX hbl hbA (j := i + 3) (nI_add i 3) (by omega) (by omega) dL_law_697 ?_
  refine gl_vcalli (As := [.int (xs (i + 1)), .int (xs (i + 2)), .int (xs (i + 3))]) (rest := [.int r1]) C (c_X6_ifApart (tL X) (tE X) q1) okg_18 rfl (q := (RX6, TX6, 11)) rfl bw_924 bw_925 bw_926 bw_7 bw_927 hyL_X6_ifApart ⟨by decide, by decide⟩ rfl (Nat.le_of_ble_eq_true rfl) dL_law_698 (fun r2 σ2 q2 => ?_)
  exact gl_icmp_eq (tgt := 870) C dL_law_701 (by decide) (fun _ => kk σ2 q2.2) (fun c => absurd q2.1 c)
set_option maxHeartbeats 4000000 in
theorem lc_18 (hL : LX X b L xs) (hi : i + 4 ≤ L) (h : Rel σ) (kk : ∀ τ, Rel τ → GL X τ (lvL (tE X) b i) [] 870) : GL X σ (lvL (tE X) b i) [] 706 := by
  obtain ⟨C, hX, hbl, hbA, hL2⟩ := hL
  have C : Cl X cL_law "SweetWrapsLaw" ret 13 508 4 := C
  refine gl_aload_n C dL_law_706 2 rfl ?_
  refine gl_vcalli (As := []) (rest := []) C (c_X5_tinsFor (tL X) (tE X) (pz_tinsFor h  (P := PL) (fun v τ z => ⟨rfl, z⟩))) okg_10 rfl (q := (RX5, TX5, 6)) rfl bw_503 bw_504 bw_505 bw_1 bw_506 hyL_X5_tinsFor ⟨by decide, by decide⟩ rfl (Nat.le_of_ble_eq_true rfl) dL_law_707 (fun r1 σ1 q1 => ?_)
  refine gl_aload_n C dL_law_710 1 rfl ?_
  refine gl_vcalli (As := []) (rest := [.int r1]) C (c_X6_tinsFor (tL X) (tE X) q1) okg_18 rfl (q := (RX6, TX6, 11)) rfl bw_928 bw_929 bw_930 bw_7 bw_931 hyL_X6_tinsFor ⟨by decide, by decide⟩ rfl (Nat.le_of_ble_eq_true rfl) dL_law_711 (fun r2 σ2 q2 => ?_)
  exact gl_icmp_eq (tgt := 870) C dL_law_714 (by decide) (fun _ => kk σ2 q2.2) (fun c => absurd q2.1 c)
set_option maxHeartbeats 4000000 in
theorem lc_19 (hL : LX X b L xs) (hi : i + 4 ≤ L) (h : Rel σ) (kk : ∀ τ, Rel τ → GL X τ (lvL (tE X) b i) [] 870) : GL X σ (lvL (tE X) b i) [] 719 := by
  obtain ⟨C, hX, hbl, hbA, hL2⟩ := hL
  have C : Cl X cL_law "SweetWrapsLaw" ret 13 508 4 := C
  refine gl_aload_n C dL_law_719 2 rfl ?_
  refine gl_aload_n C dL_law_720 3 rfl ?_
  refine gl_iload_n C dL_law_721 0 rfl ?_
  refine gl_iconst (v := nI 1) C dL_law_722 (by decide) ?_
  refine gl_iadd C dL_law_723 ?_
  refine gl_sld C hX hbl hbA (j := i + 1) (nI_add i 1) (by omega) (by omega) dL_law_724 ?_
  refine gl_i2l C dL_law_725 ?_
  refine gl_bipush (v := (32 : Int32)) C dL_law_726 (by decide) ?_
  refine gl_lshl C dL_law_728 ?_
  refine gl_aload_n C dL_law_729 3 rfl ?_
  refine gl_iload_n C dL_law_730 0 rfl ?_
  refine gl_iconst (v := nI 2) C dL_law_731 (by decide) ?_
  refine gl_iadd C dL_law_732 ?_
  refine gl_sld C hX hbl hbA (j := i + 2) (nI_add i 2) (by omega) (by omega) dL_law_733 ?_
  refine gl_i2l C dL_law_734 ?_
  refine gl_ldc2 C dL_law_735 bw_984 ?_
  refine gl_land C dL_law_738 ?_
  refine gl_lor C dL_law_739 ?_
  refine gl_vcalli (As := [.long ((xs (i + 1)).toInt64 <<< ((32 : Int32).toInt64 &&& 63) ||| (xs (i + 2)).toInt64 &&& 4294967295)]) (rest := []) C (c_X5_put (tL X) (tE X) (pr_put h ((xs (i + 1)).toInt64 <<< ((32 : Int32).toInt64 &&& 63) ||| (xs (i + 2)).toInt64 &&& 4294967295) (P := PL) (fun v τ z => ⟨rfl, z⟩))) okg_10 rfl (q := (RX5, TX5, 6)) rfl bw_511 bw_512 bw_513 bw_1 bw_514 hyL_X5_put ⟨by decide, by decide⟩ rfl (Nat.le_of_ble_eq_true rfl) dL_law_740 (fun r1 σ1 q1 => ?_)
  refine gl_aload_n C dL_law_743 1 rfl ?_
  refine gl_aload_n C dL_law_744 3 rfl ?_
  refine gl_iload_n C dL_law_745 0 rfl ?_
  refine gl_iconst (v := nI 1) C dL_law_746 (by decide) ?_
  refine gl_iadd C dL_law_747 ?_
  refine gl_sld C hX hbl hbA (j := i + 1) (nI_add i 1) (by omega) (by omega) dL_law_748 ?_
  refine gl_i2l C dL_law_749 ?_
  refine gl_bipush (v := (32 : Int32)) C dL_law_750 (by decide) ?_
  refine gl_lshl C dL_law_752 ?_
  refine gl_aload_n C dL_law_753 3 rfl ?_
  refine gl_iload_n C dL_law_754 0 rfl ?_
  refine gl_iconst (v := nI 2) C dL_law_755 (by decide) ?_
  refine gl_iadd C dL_law_756 ?_
  refine gl_sld C hX hbl hbA (j := i + 2) (nI_add i 2) (by omega) (by omega) dL_law_757 ?_
  refine gl_i2l C dL_law_758 ?_
  refine gl_ldc2 C dL_law_759 bw_984 ?_
  refine gl_land C dL_law_762 ?_
  refine gl_lor C dL_law_763 ?_
  refine gl_vcalli (As := [.long ((xs (i + 1)).toInt64 <<< ((32 : Int32).toInt64 &&& 63) ||| (xs (i + 2)).toInt64 &&& 4294967295)]) (rest := [.int r1]) C (c_X6_put (tL X) (tE X) q1) okg_18 rfl (q := (RX6, TX6, 11)) rfl bw_932 bw_933 bw_934 bw_7 bw_935 hyL_X6_put ⟨by decide, by decide⟩ rfl (Nat.le_of_ble_eq_true rfl) dL_law_764 (fun r2 σ2 q2 => ?_)
  exact gl_icmp_eq (tgt := 870) C dL_law_767 (by decide) (fun _ => kk σ2 q2.2) (fun c => absurd q2.1 c)
set_option maxHeartbeats 4000000 in
theorem lc_20 (hL : LX X b L xs) (hi : i + 4 ≤ L) (h : Rel σ) (kk : ∀ τ, Rel τ → GL X τ (lvL (tE X) b i) [] 870) : GL X σ (lvL (tE X) b i) [] 772 := by
  obtain ⟨C, hX, hbl, hbA, hL2⟩ := hL
  have C : Cl X cL_law "SweetWrapsLaw" ret 13 508 4 := C
  refine gl_aload_n C dL_law_772 2 rfl ?_
  refine gl_vcalli (As := []) (rest := []) C (c_X5_wipe (tL X) (tE X) (pr_wipe h  (P := PL) (fun v τ z => ⟨rfl, z⟩))) okg_10 rfl (q := (RX5, TX5, 6)) rfl bw_525 bw_526 bw_527 bw_1 bw_528 hyL_X5_wipe ⟨by decide, by decide⟩ rfl (Nat.le_of_ble_eq_true rfl) dL_law_773 (fun r1 σ1 q1 => ?_)
  refine gl_aload_n C dL_law_776 1 rfl ?_
  refine gl_vcalli (As := []) (rest := [.int r1]) C (c_X6_wipe (tL X) (tE X) q1) okg_18 rfl (q := (RX6, TX6, 11)) rfl bw_940 bw_941 bw_942 bw_7 bw_943 hyL_X6_wipe ⟨by decide, by decide⟩ rfl (Nat.le_of_ble_eq_true rfl) dL_law_777 (fun r2 σ2 q2 => ?_)
  exact gl_icmp_eq (tgt := 870) C dL_law_780 (by decide) (fun _ => kk σ2 q2.2) (fun c => absurd q2.1 c)
set_option maxHeartbeats 4000000 in
theorem lc_21 (hL : LX X b L xs) (hi : i + 4 ≤ L) (h : Rel σ) (kk : ∀ τ, Rel τ → GL X τ (lvL (tE X) b i) [] 870) : GL X σ (lvL (tE X) b i) [] 785 := by
  obtain ⟨C, hX, hbl, hbA, hL2⟩ := hL
  have C : Cl X cL_law "SweetWrapsLaw" ret 13 508 4 := C
  refine gl_aload_n C dL_law_785 2 rfl ?_
  refine gl_vcalli (As := []) (rest := []) C (c_X5_fault (tL X) (tE X) (pr_fault h  (P := PL) (fun v τ z => ⟨rfl, z⟩))) okg_10 rfl (q := (RX5, TX5, 6)) rfl bw_533 bw_534 bw_535 bw_1 bw_536 hyL_X5_fault ⟨by decide, by decide⟩ rfl (Nat.le_of_ble_eq_true rfl) dL_law_786 (fun r1 σ1 q1 => ?_)
  refine gl_aload_n C dL_law_789 1 rfl ?_
  refine gl_vcalli (As := []) (rest := [.int r1]) C (c_X6_fault (tL X) (tE X) q1) okg_18 rfl (q := (RX6, TX6, 11)) rfl bw_944 bw_945 bw_946 bw_7 bw_947 hyL_X6_fault ⟨by decide, by decide⟩ rfl (Nat.le_of_ble_eq_true rfl) dL_law_790 (fun r2 σ2 q2 => ?_)
  exact gl_icmp_eq (tgt := 870) C dL_law_793 (by decide) (fun _ => kk σ2 q2.2) (fun c => absurd q2.1 c)
set_option maxHeartbeats 4000000 in
theorem lc_22 (hL : LX X b L xs) (hi : i + 4 ≤ L) (h : Rel σ) (kk : ∀ τ, Rel τ → GL X τ (lvL (tE X) b i) [] 870) : GL X σ (lvL (tE X) b i) [] 798 := by
  obtain ⟨C, hX, hbl, hbA, hL2⟩ := hL
  have C : Cl X cL_law "SweetWrapsLaw" ret 13 508 4 := C
  refine gl_aload_n C dL_law_798 2 rfl ?_
  refine gl_vcalli (As := []) (rest := []) C (c_X5_carryOut (tL X) (tE X) (pr_carryOut h  (P := PL) (fun v τ z => ⟨rfl, z⟩))) okg_10 rfl (q := (RX5, TX5, 6)) rfl bw_640 bw_641 bw_642 bw_1 bw_643 hyL_X5_carryOut ⟨by decide, by decide⟩ rfl (Nat.le_of_ble_eq_true rfl) dL_law_799 (fun r1 σ1 q1 => ?_)
  refine gl_aload_n C dL_law_802 1 rfl ?_
  refine gl_vcalli (As := []) (rest := [.int r1]) C (c_X6_carryOut (tL X) (tE X) q1) okg_18 rfl (q := (RX6, TX6, 11)) rfl bw_968 bw_969 bw_970 bw_7 bw_971 hyL_X6_carryOut ⟨by decide, by decide⟩ rfl (Nat.le_of_ble_eq_true rfl) dL_law_803 (fun r2 σ2 q2 => ?_)
  exact gl_icmp_eq (tgt := 870) C dL_law_806 (by decide) (fun _ => kk σ2 q2.2) (fun c => absurd q2.1 c)
set_option maxHeartbeats 4000000 in
theorem lc_23 (hL : LX X b L xs) (hi : i + 4 ≤ L) (h : Rel σ) (kk : ∀ τ, Rel τ → GL X τ (lvL (tE X) b i) [] 870) : GL X σ (lvL (tE X) b i) [] 811 := by
  obtain ⟨C, hX, hbl, hbA, hL2⟩ := hL
  have C : Cl X cL_law "SweetWrapsLaw" ret 13 508 4 := C
  refine gl_aload_n C dL_law_811 2 rfl ?_
  refine gl_vcalli (As := []) (rest := []) C (c_X5_undo (tL X) (tE X) (pr_undo h  (P := PL) (fun v τ z => ⟨rfl, z⟩))) okg_10 rfl (q := (RX5, TX5, 6)) rfl bw_651 bw_652 bw_653 bw_1 bw_654 hyL_X5_undo ⟨by decide, by decide⟩ rfl (Nat.le_of_ble_eq_true rfl) dL_law_812 (fun r1 σ1 q1 => ?_)
  refine gl_aload_n C dL_law_815 1 rfl ?_
  refine gl_vcalli (As := []) (rest := [.int r1]) C (c_X6_undo (tL X) (tE X) q1) okg_18 rfl (q := (RX6, TX6, 11)) rfl bw_972 bw_973 bw_974 bw_7 bw_975 hyL_X6_undo ⟨by decide, by decide⟩ rfl (Nat.le_of_ble_eq_true rfl) dL_law_816 (fun r2 σ2 q2 => ?_)
  exact gl_icmp_eq (tgt := 870) C dL_law_819 (by decide) (fun _ => kk σ2 q2.2) (fun c => absurd q2.1 c)
set_option maxHeartbeats 4000000 in
theorem lc_24 (hL : LX X b L xs) (hi : i + 4 ≤ L) (h : Rel σ) (kk : ∀ τ, Rel τ → GL X τ (lvL (tE X) b i) [] 870) : GL X σ (lvL (tE X) b i) [] 824 := by
  obtain ⟨C, hX, hbl, hbA, hL2⟩ := hL
  have C : Cl X cL_law "SweetWrapsLaw" ret 13 508 4 := C
  refine gl_aload_n C dL_law_824 2 rfl ?_
  refine gl_aload_n C dL_law_825 3 rfl ?_
  refine gl_iload_n C dL_law_826 0 rfl ?_
  refine gl_iconst (v := nI 1) C dL_law_827 (by decide) ?_
  refine gl_iadd C dL_law_828 ?_
  refine gl_sld C hX hbl hbA (j := i + 1) (nI_add i 1) (by omega) (by omega) dL_law_829 ?_
  refine gl_vcalli (As := [.int (xs (i + 1))]) (rest := []) C (c_X5_save (tL X) (tE X) (pr_save h (xs (i + 1)) (P := PL) (fun v τ z => ⟨rfl, z⟩))) okg_10 rfl (q := (RX5, TX5, 6)) rfl bw_659 bw_660 bw_661 bw_1 bw_662 hyL_X5_save ⟨by decide, by decide⟩ rfl (Nat.le_of_ble_eq_true rfl) dL_law_830 (fun r1 σ1 q1 => ?_)
  refine gl_aload_n C dL_law_833 1 rfl ?_
  refine gl_aload_n C dL_law_834 3 rfl ?_
  refine gl_iload_n C dL_law_835 0 rfl ?_
  refine gl_iconst (v := nI 1) C dL_law_836 (by decide) ?_
  refine gl_iadd C dL_law_837 ?_
  refine gl_sld C hX hbl hbA (j := i + 1) (nI_add i 1) (by omega) (by omega) dL_law_838 ?_
  refine gl_vcalli (As := [.int (xs (i + 1))]) (rest := [.int r1]) C (c_X6_save (tL X) (tE X) q1) okg_18 rfl (q := (RX6, TX6, 11)) rfl bw_976 bw_977 bw_978 bw_7 bw_979 hyL_X6_save ⟨by decide, by decide⟩ rfl (Nat.le_of_ble_eq_true rfl) dL_law_839 (fun r2 σ2 q2 => ?_)
  exact gl_icmp_eq (tgt := 870) C dL_law_842 (by decide) (fun _ => kk σ2 q2.2) (fun c => absurd q2.1 c)
set_option maxHeartbeats 4000000 in
theorem lc_25 (hL : LX X b L xs) (hi : i + 4 ≤ L) (h : Rel σ) (kk : ∀ τ, Rel τ → GL X τ (lvL (tE X) b i) [] 870) : GL X σ (lvL (tE X) b i) [] 847 := by
  obtain ⟨C, hX, hbl, hbA, hL2⟩ := hL
  have C : Cl X cL_law "SweetWrapsLaw" ret 13 508 4 := C
  refine gl_aload_n C dL_law_847 2 rfl ?_
  refine gl_aload_n C dL_law_848 3 rfl ?_
  refine gl_iload_n C dL_law_849 0 rfl ?_
  refine gl_iconst (v := nI 1) C dL_law_850 (by decide) ?_
  refine gl_iadd C dL_law_851 ?_
  refine gl_sld C hX hbl hbA (j := i + 1) (nI_add i 1) (by omega) (by omega) dL_law_852 ?_
  refine gl_vcalli (As := [.int (xs (i + 1))]) (rest := []) C (c_X5_restore (tL X) (tE X) (pr_restore h (xs (i + 1)) (P := PL) (fun v τ z => ⟨rfl, z⟩))) okg_10 rfl (q := (RX5, TX5, 6)) rfl bw_663 bw_664 bw_665 bw_1 bw_666 hyL_X5_restore ⟨by decide, by decide⟩ rfl (Nat.le_of_ble_eq_true rfl) dL_law_853 (fun r1 σ1 q1 => ?_)
  refine gl_aload_n C dL_law_856 1 rfl ?_
  refine gl_aload_n C dL_law_857 3 rfl ?_
  refine gl_iload_n C dL_law_858 0 rfl ?_
  refine gl_iconst (v := nI 1) C dL_law_859 (by decide) ?_
  refine gl_iadd C dL_law_860 ?_
  refine gl_sld C hX hbl hbA (j := i + 1) (nI_add i 1) (by omega) (by omega) dL_law_861 ?_
  refine gl_vcalli (As := [.int (xs (i + 1))]) (rest := [.int r1]) C (c_X6_restore (tL X) (tE X) q1) okg_18 rfl (q := (RX6, TX6, 11)) rfl bw_980 bw_981 bw_982 bw_7 bw_983 hyL_X6_restore ⟨by decide, by decide⟩ rfl (Nat.le_of_ble_eq_true rfl) dL_law_862 (fun r2 σ2 q2 => ?_)
  exact gl_icmp_eq (tgt := 870) C dL_law_865 (by decide) (fun _ => kk σ2 q2.2) (fun c => absurd q2.1 c)
end LC
