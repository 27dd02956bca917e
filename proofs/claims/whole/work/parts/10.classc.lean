theorem dJ0_coder_7d493_0 : decode cJ0_coder_7d493 0 = .ok (.getstatic 38, 3) := by decide +kernel
theorem dJ0_coder_7d493_3 : decode cJ0_coder_7d493 3 = .ok (.ifCond .eq 10, 3) := by decide +kernel
theorem dJ0_coder_7d493_6 : decode cJ0_coder_7d493 6 = .ok (.aload_n 0, 1) := by decide +kernel
theorem dJ0_coder_7d493_7 : decode cJ0_coder_7d493 7 = .ok (.getfield 15, 3) := by decide +kernel
theorem dJ0_coder_7d493_10 : decode cJ0_coder_7d493 10 = .ok (.goto 4, 3) := by decide +kernel
theorem dJ0_coder_7d493_14 : decode cJ0_coder_7d493 14 = .ok (.ireturn, 1) := by decide +kernel
def wp_J0_coder_7d493 (j : Nat) (σ : Sg) (Q : Int32 → Sg → Prop) : Prop := Q (0 : Int32) σ
set_option maxRecDepth 100000 in
set_option maxHeartbeats 4000000 in
theorem c_J0_coder_7d493 (l : Launch) (E : Ev) {j : Nat} (hj : j < 7) {σ : Sg} {Q : Int32 → Sg → Prop} (hw : wp_J0_coder_7d493 j σ Q) : CT l E yJ0_coder_7d493 cJ0_coder_7d493 1 (some .byte) 0 0 [.ref (eK E j)] σ (QI E Q) := by
  refine CT_of (by decide) (Nat.le_of_ble_eq_true rfl) (fun X h1 h2 C => ?_)
  subst h1; subst h2
  have C : Cx X cJ0_coder_7d493 "java/lang/String" (some .byte) 0 0 1 (QI (tE X) Q) := C
  show G X σ [(0, .ref (eK (tE X) j))] [] 0
  unfold wp_J0_coder_7d493 at hw
  refine gx_compact C bw_571 dJ0_coder_7d493_0 ?_
  refine gx_if_eq (tgt := 13) C dJ0_coder_7d493_3 (by decide) (fun c1 => ?_) (fun c1 => ?_)
  · exact absurd c1 (by decide)
  · skip
    refine gx_aload_n C dJ0_coder_7d493_6 0 rfl ?_
    refine gx_coder C hj bw_986 dJ0_coder_7d493_7 ?_
    refine gx_goto (tgt := 14) C dJ0_coder_7d493_10 (by decide) ?_
    exact gx_iret C rfl rfl dJ0_coder_7d493_14 hw
theorem hy_J0_coder_7d493 : yJ0_coder_7d493.cls = "java/lang/String" ∧ yJ0_coder_7d493.cls ≠ "java/lang/invoke/MethodHandle" ∧ yJ0_coder_7d493.cls ≠ "java/lang/invoke/VarHandle" ∧ (parseMethodDescriptor yJ0_coder_7d493.desc).map (fun d => d.parameters.length) = some 0 := by decide +kernel

theorem dJ0_length_8abf5_0 : decode cJ0_length_8abf5 0 = .ok (.aload_n 0, 1) := by decide +kernel
theorem dJ0_length_8abf5_1 : decode cJ0_length_8abf5 1 = .ok (.getfield 9, 3) := by decide +kernel
theorem dJ0_length_8abf5_4 : decode cJ0_length_8abf5 4 = .ok (.arraylength, 1) := by decide +kernel
theorem dJ0_length_8abf5_5 : decode cJ0_length_8abf5 5 = .ok (.aload_n 0, 1) := by decide +kernel
theorem dJ0_length_8abf5_6 : decode cJ0_length_8abf5 6 = .ok (.invokevirtual 335, 3) := by decide +kernel
theorem dJ0_length_8abf5_9 : decode cJ0_length_8abf5 9 = .ok (.ishr, 1) := by decide +kernel
theorem dJ0_length_8abf5_10 : decode cJ0_length_8abf5 10 = .ok (.ireturn, 1) := by decide +kernel
def wp_J0_length_8abf5 (j : Nat) (σ : Sg) (Q : Int32 → Sg → Prop) : Prop := wp_J0_coder_7d493 j σ (fun r1 σ2 => Q ((nI (scL.getD j 0)) >>> (r1 &&& 31)) σ2)
set_option maxRecDepth 100000 in
set_option maxHeartbeats 4000000 in
theorem c_J0_length_8abf5 (l : Launch) (E : Ev) {j : Nat} (hj : j < 7) {σ : Sg} {Q : Int32 → Sg → Prop} (hw : wp_J0_length_8abf5 j σ Q) : CT l E yJ0_length_8abf5 cJ0_length_8abf5 1 (some .int) 1 20 [.ref (eK E j)] σ (QI E Q) := by
  refine CT_of (by decide) (Nat.le_of_ble_eq_true rfl) (fun X h1 h2 C => ?_)
  subst h1; subst h2
  have C : Cx X cJ0_length_8abf5 "java/lang/String" (some .int) 1 20 1 (QI (tE X) Q) := C
  show G X σ [(0, .ref (eK (tE X) j))] [] 0
  unfold wp_J0_length_8abf5 at hw
  refine gx_aload_n C dJ0_length_8abf5_0 0 rfl ?_
  refine gx_value C hj bw_985 dJ0_length_8abf5_1 ?_
  refine gx_vlen C hj dJ0_length_8abf5_4 ?_
  refine gx_aload_n C dJ0_length_8abf5_5 0 rfl ?_
  refine gx_kcalli (As := []) (rest := [.int (nI (scL.getD j 0))]) C hj (c_J0_coder_7d493 _ _ hj hw) bw_567 bw_568 bw_569 bw_10 bw_570 hy_J0_coder_7d493 ⟨by decide, by decide⟩ rfl (Nat.le_of_ble_eq_true rfl) dJ0_length_8abf5_6 (fun r1 σ2 hw => ?_)
  refine gx_ishr C dJ0_length_8abf5_9 ?_
  exact gx_iret C rfl rfl dJ0_length_8abf5_10 hw
theorem hy_J0_length_8abf5 : yJ0_length_8abf5.cls = "java/lang/String" ∧ yJ0_length_8abf5.cls ≠ "java/lang/invoke/MethodHandle" ∧ yJ0_length_8abf5.cls ≠ "java/lang/invoke/VarHandle" ∧ (parseMethodDescriptor yJ0_length_8abf5.desc).map (fun d => d.parameters.length) = some 0 := by decide +kernel

theorem dJ0_isLatin1_aae02_0 : decode cJ0_isLatin1_aae02 0 = .ok (.getstatic 38, 3) := by decide +kernel
theorem dJ0_isLatin1_aae02_3 : decode cJ0_isLatin1_aae02 3 = .ok (.ifCond .eq 14, 3) := by decide +kernel
theorem dJ0_isLatin1_aae02_6 : decode cJ0_isLatin1_aae02 6 = .ok (.aload_n 0, 1) := by decide +kernel
theorem dJ0_isLatin1_aae02_7 : decode cJ0_isLatin1_aae02 7 = .ok (.getfield 15, 3) := by decide +kernel
theorem dJ0_isLatin1_aae02_10 : decode cJ0_isLatin1_aae02 10 = .ok (.ifCond .ne 7, 3) := by decide +kernel
theorem dJ0_isLatin1_aae02_13 : decode cJ0_isLatin1_aae02 13 = .ok (.iconst 1, 1) := by decide +kernel
theorem dJ0_isLatin1_aae02_14 : decode cJ0_isLatin1_aae02 14 = .ok (.goto 4, 3) := by decide +kernel
theorem dJ0_isLatin1_aae02_18 : decode cJ0_isLatin1_aae02 18 = .ok (.ireturn, 1) := by decide +kernel
def wp_J0_isLatin1_aae02 (j : Nat) (σ : Sg) (Q : Int32 → Sg → Prop) : Prop := Q (1 : Int32) σ
set_option maxRecDepth 100000 in
set_option maxHeartbeats 4000000 in
theorem c_J0_isLatin1_aae02 (l : Launch) (E : Ev) {j : Nat} (hj : j < 7) {σ : Sg} {Q : Int32 → Sg → Prop} (hw : wp_J0_isLatin1_aae02 j σ Q) : CT l E yJ0_isLatin1_aae02 cJ0_isLatin1_aae02 1 (some .boolean) 0 0 [.ref (eK E j)] σ (QI E Q) := by
  refine CT_of (by decide) (Nat.le_of_ble_eq_true rfl) (fun X h1 h2 C => ?_)
  subst h1; subst h2
  have C : Cx X cJ0_isLatin1_aae02 "java/lang/String" (some .boolean) 0 0 1 (QI (tE X) Q) := C
  show G X σ [(0, .ref (eK (tE X) j))] [] 0
  unfold wp_J0_isLatin1_aae02 at hw
  refine gx_compact C bw_571 dJ0_isLatin1_aae02_0 ?_
  refine gx_if_eq (tgt := 17) C dJ0_isLatin1_aae02_3 (by decide) (fun c1 => ?_) (fun c1 => ?_)
  · exact absurd c1 (by decide)
  · skip
    refine gx_aload_n C dJ0_isLatin1_aae02_6 0 rfl ?_
    refine gx_coder C hj bw_986 dJ0_isLatin1_aae02_7 ?_
    refine gx_if_ne (tgt := 17) C dJ0_isLatin1_aae02_10 (by decide) (fun c2 => ?_) (fun c2 => ?_)
    · exact absurd c2 (by decide)
    · skip
      refine gx_iconst (v := (1 : Int32)) C dJ0_isLatin1_aae02_13 (by decide) ?_
      refine gx_goto (tgt := 18) C dJ0_isLatin1_aae02_14 (by decide) ?_
      exact gx_iret C rfl rfl dJ0_isLatin1_aae02_18 hw
theorem hy_J0_isLatin1_aae02 : yJ0_isLatin1_aae02.cls = "java/lang/String" ∧ yJ0_isLatin1_aae02.cls ≠ "java/lang/invoke/MethodHandle" ∧ yJ0_isLatin1_aae02.cls ≠ "java/lang/invoke/VarHandle" ∧ (parseMethodDescriptor yJ0_isLatin1_aae02.desc).map (fun d => d.parameters.length) = some 0 := by decide +kernel

theorem dJ1_charAt_3b067_0 : decode cJ1_charAt_3b067 0 = .ok (.iload_n 1, 1) := by decide +kernel
theorem dJ1_charAt_3b067_1 : decode cJ1_charAt_3b067 1 = .ok (.aload_n 0, 1) := by decide +kernel
theorem dJ1_charAt_3b067_2 : decode cJ1_charAt_3b067 2 = .ok (.arraylength, 1) := by decide +kernel
theorem dJ1_charAt_3b067_3 : decode cJ1_charAt_3b067 3 = .ok (.invokestatic 9, 3) := by decide +kernel
theorem dJ1_charAt_3b067_6 : decode cJ1_charAt_3b067 6 = .ok (.aload_n 0, 1) := by decide +kernel
theorem dJ1_charAt_3b067_7 : decode cJ1_charAt_3b067 7 = .ok (.iload_n 1, 1) := by decide +kernel
theorem dJ1_charAt_3b067_8 : decode cJ1_charAt_3b067 8 = .ok (.baload, 1) := by decide +kernel
theorem dJ1_charAt_3b067_9 : decode cJ1_charAt_3b067 9 = .ok (.sipush 255, 3) := by decide +kernel
theorem dJ1_charAt_3b067_12 : decode cJ1_charAt_3b067 12 = .ok (.iand, 1) := by decide +kernel
theorem dJ1_charAt_3b067_13 : decode cJ1_charAt_3b067 13 = .ok (.i2c, 1) := by decide +kernel
theorem dJ1_charAt_3b067_14 : decode cJ1_charAt_3b067 14 = .ok (.ireturn, 1) := by decide +kernel
def wp_J1_charAt_3b067 (j0 : Nat) (x1 : Int32) (σ : Sg) (Q : Int32 → Sg → Prop) : Prop := wp_J0_checkIndex_df160 x1 (nI (scL.getD j0 0)) σ (fun σ1 => (vp_in x1 (scL.getD j0 0) ∧ Q ((Int32.toUInt32 (((scB.getD j0 []).getD x1.toNatClampNeg 0) &&& (255 : Int32)) % 65536).toInt32) σ1))
set_option maxRecDepth 100000 in
set_option maxHeartbeats 4000000 in
theorem c_J1_charAt_3b067 (l : Launch) (E : Ev) {j0 : Nat} {x1 : Int32} (hj0 : j0 < 7) {σ : Sg} {Q : Int32 → Sg → Prop} (hw : wp_J1_charAt_3b067 j0 x1 σ Q) : CT l E yJ1_charAt_3b067 cJ1_charAt_3b067 2 (some .char) 2 81 [.ref (eV E j0), .int x1] σ (QI E Q) := by
  refine CT_of (by decide) (Nat.le_of_ble_eq_true rfl) (fun X h1 h2 C => ?_)
  subst h1; subst h2
  have C : Cx X cJ1_charAt_3b067 "java/lang/StringLatin1" (some .char) 2 81 2 (QI (tE X) Q) := C
  show G X σ [(0, .ref (eV (tE X) j0)), (1, .int x1)] [] 0
  unfold wp_J1_charAt_3b067 at hw
  refine gx_iload_n C dJ1_charAt_3b067_0 1 rfl ?_
  refine gx_aload_n C dJ1_charAt_3b067_1 0 rfl ?_
  refine gx_vlen C hj0 dJ1_charAt_3b067_2 ?_
  refine gx_scallv (As := [.int x1, .int (nI (scL.getD j0 0))]) (rest := []) C (c_J0_checkIndex_df160 _ _ hw) bw_584 bw_585 bw_10 bw_586 hyS_J0_checkIndex_df160 ⟨by decide, by decide⟩ rfl (Nat.le_of_ble_eq_true rfl) dJ1_charAt_3b067_3 (fun σ1 hw => ?_)
  refine gx_aload_n C dJ1_charAt_3b067_6 0 rfl ?_
  refine gx_iload_n C dJ1_charAt_3b067_7 1 rfl ?_
  refine gx_vald C hj0 hw.1 dJ1_charAt_3b067_8 ?_
  replace hw := hw.2
  refine gx_sipush (v := (255 : Int32)) C dJ1_charAt_3b067_9 (by decide) ?_
  refine gx_iand C dJ1_charAt_3b067_12 ?_
  refine gx_i2c C dJ1_charAt_3b067_13 ?_
  exact gx_iret C rfl (pk_nc _) dJ1_charAt_3b067_14 hw
theorem hyS_J1_charAt_3b067 : yJ1_charAt_3b067.cls ≠ "java/lang/invoke/MethodHandle" ∧ yJ1_charAt_3b067.cls ≠ "java/lang/invoke/VarHandle" ∧ (parseMethodDescriptor yJ1_charAt_3b067.desc).map (fun d => d.parameters.length) = some 2 := by decide +kernel

theorem dJ0_charAt_5068e_0 : decode cJ0_charAt_5068e 0 = .ok (.aload_n 0, 1) := by decide +kernel
theorem dJ0_charAt_5068e_1 : decode cJ0_charAt_5068e 1 = .ok (.invokevirtual 492, 3) := by decide +kernel
theorem dJ0_charAt_5068e_4 : decode cJ0_charAt_5068e 4 = .ok (.ifCond .eq 12, 3) := by decide +kernel
theorem dJ0_charAt_5068e_7 : decode cJ0_charAt_5068e 7 = .ok (.aload_n 0, 1) := by decide +kernel
theorem dJ0_charAt_5068e_8 : decode cJ0_charAt_5068e 8 = .ok (.getfield 9, 3) := by decide +kernel
theorem dJ0_charAt_5068e_11 : decode cJ0_charAt_5068e 11 = .ok (.iload_n 1, 1) := by decide +kernel
theorem dJ0_charAt_5068e_12 : decode cJ0_charAt_5068e 12 = .ok (.invokestatic 495, 3) := by decide +kernel
theorem dJ0_charAt_5068e_15 : decode cJ0_charAt_5068e 15 = .ok (.ireturn, 1) := by decide +kernel
theorem dJ0_charAt_5068e_16 : decode cJ0_charAt_5068e 16 = .ok (.aload_n 0, 1) := by decide +kernel
theorem dJ0_charAt_5068e_17 : decode cJ0_charAt_5068e 17 = .ok (.getfield 9, 3) := by decide +kernel
theorem dJ0_charAt_5068e_20 : decode cJ0_charAt_5068e 20 = .ok (.iload_n 1, 1) := by decide +kernel
theorem dJ0_charAt_5068e_21 : decode cJ0_charAt_5068e 21 = .ok (.invokestatic 498, 3) := by decide +kernel
def wp_J0_charAt_5068e (j : Nat) (x1 : Int32) (σ : Sg) (Q : Int32 → Sg → Prop) : Prop := wp_J0_isLatin1_aae02 j σ (fun r1 σ2 => ((r1 = 0 → False) ∧ (¬ r1 = 0 → wp_J1_charAt_3b067 j x1 σ2 (fun r4 σ5 => (narrow .char (.int r4) = .int r4) ∧ Q r4 σ5))))
set_option maxRecDepth 100000 in
set_option maxHeartbeats 4000000 in
theorem c_J0_charAt_5068e (l : Launch) (E : Ev) {j : Nat} {x1 : Int32} (hj : j < 7) {σ : Sg} {Q : Int32 → Sg → Prop} (hw : wp_J0_charAt_5068e j x1 σ Q) : CT l E yJ0_charAt_5068e cJ0_charAt_5068e 2 (some .char) 3 102 [.ref (eK E j), .int x1] σ (QI E Q) := by
  refine CT_of (by decide) (Nat.le_of_ble_eq_true rfl) (fun X h1 h2 C => ?_)
  subst h1; subst h2
  have C : Cx X cJ0_charAt_5068e "java/lang/String" (some .char) 3 102 2 (QI (tE X) Q) := C
  show G X σ [(0, .ref (eK (tE X) j)), (1, .int x1)] [] 0
  unfold wp_J0_charAt_5068e at hw
  refine gx_aload_n C dJ0_charAt_5068e_0 0 rfl ?_
  refine gx_kcalli (As := []) (rest := []) C hj (c_J0_isLatin1_aae02 _ _ hj hw) bw_577 bw_578 bw_579 bw_10 bw_580 hy_J0_isLatin1_aae02 ⟨by decide, by decide⟩ rfl (Nat.le_of_ble_eq_true rfl) dJ0_charAt_5068e_1 (fun r1 σ2 hw => ?_)
  refine gx_if_eq (tgt := 16) C dJ0_charAt_5068e_4 (by decide) (fun c3 => ?_) (fun c3 => ?_)
  · replace hw := hw.1 c3
    refine gx_aload_n C dJ0_charAt_5068e_16 0 rfl ?_
    refine gx_value C hj bw_985 dJ0_charAt_5068e_17 ?_
    refine gx_iload_n C dJ0_charAt_5068e_20 1 rfl ?_
    exact hw.elim
  · replace hw := hw.2 c3
    refine gx_aload_n C dJ0_charAt_5068e_7 0 rfl ?_
    refine gx_value C hj bw_985 dJ0_charAt_5068e_8 ?_
    refine gx_iload_n C dJ0_charAt_5068e_11 1 rfl ?_
    refine gx_scalli (As := [.ref (eV (tE X) j), .int x1]) (rest := []) C (c_J1_charAt_3b067 _ _ hj hw) bw_581 bw_582 bw_11 bw_583 hyS_J1_charAt_3b067 ⟨by decide, by decide⟩ rfl (Nat.le_of_ble_eq_true rfl) dJ0_charAt_5068e_12 (fun r4 σ5 hw => ?_)
    exact gx_iret C rfl hw.1 dJ0_charAt_5068e_15 hw.2
theorem hy_J0_charAt_5068e : yJ0_charAt_5068e.cls = "java/lang/String" ∧ yJ0_charAt_5068e.cls ≠ "java/lang/invoke/MethodHandle" ∧ yJ0_charAt_5068e.cls ≠ "java/lang/invoke/VarHandle" ∧ (parseMethodDescriptor yJ0_charAt_5068e.desc).map (fun d => d.parameters.length) = some 1 := by decide +kernel

theorem dJ0_isEmpty_aae02_0 : decode cJ0_isEmpty_aae02 0 = .ok (.aload_n 0, 1) := by decide +kernel
theorem dJ0_isEmpty_aae02_1 : decode cJ0_isEmpty_aae02 1 = .ok (.getfield 9, 3) := by decide +kernel
theorem dJ0_isEmpty_aae02_4 : decode cJ0_isEmpty_aae02 4 = .ok (.arraylength, 1) := by decide +kernel
theorem dJ0_isEmpty_aae02_5 : decode cJ0_isEmpty_aae02 5 = .ok (.ifCond .ne 7, 3) := by decide +kernel
theorem dJ0_isEmpty_aae02_8 : decode cJ0_isEmpty_aae02 8 = .ok (.iconst 1, 1) := by decide +kernel
theorem dJ0_isEmpty_aae02_9 : decode cJ0_isEmpty_aae02 9 = .ok (.goto 4, 3) := by decide +kernel
theorem dJ0_isEmpty_aae02_12 : decode cJ0_isEmpty_aae02 12 = .ok (.iconst 0, 1) := by decide +kernel
theorem dJ0_isEmpty_aae02_13 : decode cJ0_isEmpty_aae02 13 = .ok (.ireturn, 1) := by decide +kernel
def wp_J0_isEmpty_aae02 (j : Nat) (σ : Sg) (Q : Int32 → Sg → Prop) : Prop := ((¬ (nI (scL.getD j 0)) = 0 → Q (0 : Int32) σ) ∧ ((nI (scL.getD j 0)) = 0 → Q (1 : Int32) σ))
set_option maxRecDepth 100000 in
set_option maxHeartbeats 4000000 in
theorem c_J0_isEmpty_aae02 (l : Launch) (E : Ev) {j : Nat} (hj : j < 7) {σ : Sg} {Q : Int32 → Sg → Prop} (hw : wp_J0_isEmpty_aae02 j σ Q) : CT l E yJ0_isEmpty_aae02 cJ0_isEmpty_aae02 1 (some .boolean) 0 0 [.ref (eK E j)] σ (QI E Q) := by
  refine CT_of (by decide) (Nat.le_of_ble_eq_true rfl) (fun X h1 h2 C => ?_)
  subst h1; subst h2
  have C : Cx X cJ0_isEmpty_aae02 "java/lang/String" (some .boolean) 0 0 1 (QI (tE X) Q) := C
  show G X σ [(0, .ref (eK (tE X) j))] [] 0
  unfold wp_J0_isEmpty_aae02 at hw
  refine gx_aload_n C dJ0_isEmpty_aae02_0 0 rfl ?_
  refine gx_value C hj bw_985 dJ0_isEmpty_aae02_1 ?_
  refine gx_vlen C hj dJ0_isEmpty_aae02_4 ?_
  refine gx_if_ne (tgt := 12) C dJ0_isEmpty_aae02_5 (by decide) (fun c1 => ?_) (fun c1 => ?_)
  · replace hw := hw.1 c1
    refine gx_iconst (v := (0 : Int32)) C dJ0_isEmpty_aae02_12 (by decide) ?_
    exact gx_iret C rfl rfl dJ0_isEmpty_aae02_13 hw
  · replace hw := hw.2 c1
    refine gx_iconst (v := (1 : Int32)) C dJ0_isEmpty_aae02_8 (by decide) ?_
    refine gx_goto (tgt := 13) C dJ0_isEmpty_aae02_9 (by decide) ?_
    exact gx_iret C rfl rfl dJ0_isEmpty_aae02_13 hw
theorem hy_J0_isEmpty_aae02 : yJ0_isEmpty_aae02.cls = "java/lang/String" ∧ yJ0_isEmpty_aae02.cls ≠ "java/lang/invoke/MethodHandle" ∧ yJ0_isEmpty_aae02.cls ≠ "java/lang/invoke/VarHandle" ∧ (parseMethodDescriptor yJ0_isEmpty_aae02.desc).map (fun d => d.parameters.length) = some 0 := by decide +kernel
