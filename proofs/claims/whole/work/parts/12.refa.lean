theorem dX6_in_0 : decode cX6_in 0 = .ok (.iload_n 0, 1) := by decide +kernel
theorem dX6_in_1 : decode cX6_in 1 = .ok (.iload_n 1, 1) := by decide +kernel
theorem dX6_in_2 : decode cX6_in 2 = .ok (.if_icmp .lt 12, 3) := by decide +kernel
theorem dX6_in_5 : decode cX6_in 5 = .ok (.iload_n 0, 1) := by decide +kernel
theorem dX6_in_6 : decode cX6_in 6 = .ok (.iload_n 2, 1) := by decide +kernel
theorem dX6_in_7 : decode cX6_in 7 = .ok (.if_icmp .gt 7, 3) := by decide +kernel
theorem dX6_in_10 : decode cX6_in 10 = .ok (.iconst 1, 1) := by decide +kernel
theorem dX6_in_11 : decode cX6_in 11 = .ok (.goto 4, 3) := by decide +kernel
theorem dX6_in_14 : decode cX6_in 14 = .ok (.iconst 0, 1) := by decide +kernel
theorem dX6_in_15 : decode cX6_in 15 = .ok (.ireturn, 1) := by decide +kernel
def wp_X6_in (x0 : Int32) (x1 : Int32) (x2 : Int32) (σ : Sg) (Q : Int32 → Sg → Prop) : Prop := ((x0 < x1 → Q (0 : Int32) σ) ∧ (¬ x0 < x1 → ((x2 < x0 → Q (0 : Int32) σ) ∧ (¬ x2 < x0 → Q (1 : Int32) σ))))
set_option maxRecDepth 100000 in
set_option maxHeartbeats 4000000 in
theorem c_X6_in (l : Launch) (E : Ev) {x0 : Int32} {x1 : Int32} {x2 : Int32} {σ : Sg} {Q : Int32 → Sg → Prop} (hw : wp_X6_in x0 x1 x2 σ Q) : CT l E yX6_in cX6_in 3 (some .boolean) 0 0 [.int x0, .int x1, .int x2] σ (QI E Q) := by
  refine CT_of (by decide) (Nat.le_of_ble_eq_true rfl) (fun X h1 h2 C => ?_)
  subst h1; subst h2
  have C : Cx X cX6_in "SweetWrapsModel" (some .boolean) 0 0 3 (QI (tE X) Q) := C
  show G X σ [(0, .int x0), (1, .int x1), (2, .int x2)] [] 0
  unfold wp_X6_in at hw
  refine gx_iload_n C dX6_in_0 0 rfl ?_
  refine gx_iload_n C dX6_in_1 1 rfl ?_
  refine gx_icmp_lt (tgt := 14) C dX6_in_2 (by decide) (fun c1 => ?_) (fun c1 => ?_)
  · replace hw := hw.1 c1
    refine gx_iconst (v := (0 : Int32)) C dX6_in_14 (by decide) ?_
    exact gx_iret C rfl rfl dX6_in_15 hw
  · replace hw := hw.2 c1
    refine gx_iload_n C dX6_in_5 0 rfl ?_
    refine gx_iload_n C dX6_in_6 2 rfl ?_
    refine gx_icmp_gt (tgt := 14) C dX6_in_7 (by decide) (fun c2 => ?_) (fun c2 => ?_)
    · replace hw := hw.1 c2
      refine gx_iconst (v := (0 : Int32)) C dX6_in_14 (by decide) ?_
      exact gx_iret C rfl rfl dX6_in_15 hw
    · replace hw := hw.2 c2
      refine gx_iconst (v := (1 : Int32)) C dX6_in_10 (by decide) ?_
      refine gx_goto (tgt := 15) C dX6_in_11 (by decide) ?_
      exact gx_iret C rfl rfl dX6_in_15 hw
theorem hyS_X6_in : yX6_in.cls ≠ "java/lang/invoke/MethodHandle" ∧ yX6_in.cls ≠ "java/lang/invoke/VarHandle" ∧ (parseMethodDescriptor yX6_in.desc).map (fun d => d.parameters.length) = some 3 := by decide +kernel

theorem dX6_putAside_0 : decode cX6_putAside 0 = .ok (.iconst 0, 1) := by decide +kernel
theorem dX6_putAside_1 : decode cX6_putAside 1 = .ok (.istore_n 1, 1) := by decide +kernel
theorem dX6_putAside_2 : decode cX6_putAside 2 = .ok (.iload_n 1, 1) := by decide +kernel
theorem dX6_putAside_3 : decode cX6_putAside 3 = .ok (.sipush 194, 3) := by decide +kernel
theorem dX6_putAside_6 : decode cX6_putAside 6 = .ok (.if_icmp .ge 21, 3) := by decide +kernel
theorem dX6_putAside_9 : decode cX6_putAside 9 = .ok (.aload_n 0, 1) := by decide +kernel
theorem dX6_putAside_10 : decode cX6_putAside 10 = .ok (.getfield 13, 3) := by decide +kernel
theorem dX6_putAside_13 : decode cX6_putAside 13 = .ok (.iload_n 1, 1) := by decide +kernel
theorem dX6_putAside_14 : decode cX6_putAside 14 = .ok (.aload_n 0, 1) := by decide +kernel
theorem dX6_putAside_15 : decode cX6_putAside 15 = .ok (.getfield 7, 3) := by decide +kernel
theorem dX6_putAside_18 : decode cX6_putAside 18 = .ok (.iload_n 1, 1) := by decide +kernel
theorem dX6_putAside_19 : decode cX6_putAside 19 = .ok (.iaload, 1) := by decide +kernel
theorem dX6_putAside_20 : decode cX6_putAside 20 = .ok (.iastore, 1) := by decide +kernel
theorem dX6_putAside_21 : decode cX6_putAside 21 = .ok (.iinc 1 1, 3) := by decide +kernel
theorem dX6_putAside_24 : decode cX6_putAside 24 = .ok (.goto (-22), 3) := by decide +kernel
theorem dX6_putAside_27 : decode cX6_putAside 27 = .ok (.return_, 1) := by decide +kernel
def st_X6_putAside_L2 (Q : Sg → Prop) (K2 : Int32 → Sg → Prop) (v1 : Int32) (σ : Sg) : Prop := (((194 : Int32) ≤ v1 → Q σ) ∧ (¬ (194 : Int32) ≤ v1 → (vp_in v1 194 ∧ (vp_in v1 194 ∧ ∀ σ2 : Sg, σ2 = up σ 12 20 0 v1.toNatClampNeg (σ 12 19 0 v1.toNatClampNeg) → ∀ z3 : Int32, z3 = v1 + (1 : Int32) → K2 z3 σ2))))
def wp_X6_putAside_L2 (Q : Sg → Prop) (v1 : Int32) (σ : Sg) : Prop := ∃ n : Nat, lpN (fun (K : Int32 × Sg → Prop) (a : Int32 × Sg) => st_X6_putAside_L2 Q (fun v1 σ => K (v1, σ)) (a.1) (a.2)) n (v1, σ)
set_option maxRecDepth 100000 in
set_option maxHeartbeats 4000000 in
theorem gs_X6_putAside_L2 {X : Tx} {Q : Sg → Prop} (C : Cx X cX6_putAside "SweetWrapsModel" none 0 0 2 (QV (tE X) Q)) {K2 : Int32 → Sg → Prop} (hK2 : ∀ (v1 : Int32) (σ : Sg), K2 v1 σ → G X σ [(0, .ref (ad (tE X) 12 18 0)), (1, .int v1)] [] 2) {v1 : Int32} {σ : Sg} (hw : st_X6_putAside_L2 Q K2 v1 σ) : G X σ [(0, .ref (ad (tE X) 12 18 0)), (1, .int v1)] [] 2 := by
  unfold st_X6_putAside_L2 at hw
  refine gx_iload_n C dX6_putAside_2 1 rfl ?_
  refine gx_sipush (v := (194 : Int32)) C dX6_putAside_3 (by decide) ?_
  refine gx_icmp_ge (tgt := 27) C dX6_putAside_6 (by decide) (fun c1 => ?_) (fun c1 => ?_)
  · replace hw := hw.1 c1
    exact gx_vret C dX6_putAside_27 hw
  · replace hw := hw.2 c1
    refine gx_aload_n C dX6_putAside_9 0 rfl ?_
    refine gx_get C okg_18 rfl rfl inX6 (ref := "SweetWrapsModel") 1 (by decide) bw_674 rfl rfl dX6_putAside_10 ?_
    refine gx_iload_n C dX6_putAside_13 1 rfl ?_
    refine gx_aload_n C dX6_putAside_14 0 rfl ?_
    refine gx_get C okg_18 rfl rfl inX6 (ref := "SweetWrapsModel") 0 (by decide) bw_673 rfl rfl dX6_putAside_15 ?_
    refine gx_iload_n C dX6_putAside_18 1 rfl ?_
    refine gx_iald C okg_19 rfl hw.1 _ rfl dX6_putAside_19 ?_
    replace hw := hw.2
    refine gx_iast C okg_20 (fun _ => rfl) hw.1 _ rfl rfl dX6_putAside_20 ?_
    replace hw := hw.2
    obtain ⟨σ2, e_σ2⟩ : ∃ z : Sg, z = up σ 12 20 0 v1.toNatClampNeg (σ 12 19 0 v1.toNatClampNeg) := ⟨_, rfl⟩
    replace hw := hw σ2 e_σ2
    refine gx_st e_σ2 ?_
    obtain ⟨z3, e_z3⟩ : ∃ z : Int32, z = v1 + (1 : Int32) := ⟨_, rfl⟩
    replace hw := hw z3 e_z3
    refine gx_iinc (v := z3) (lv' := [(1, .int z3), (0, .ref (ad (tE X) 12 18 0))]) C dX6_putAside_21 1 rfl (by rw [e_z3]; rfl) (by decide) rfl ?_
    refine gx_goto (tgt := 2) C dX6_putAside_24 (by decide) ?_
    refine gx_sub (lv' := [(0, .ref (ad (tE X) 12 18 0)), (1, .int z3)]) [1, 0] rfl ?_
    exact hK2 _ _ hw
set_option maxRecDepth 100000 in
set_option maxHeartbeats 4000000 in
theorem g_X6_putAside_L2 {X : Tx} {Q : Sg → Prop} (C : Cx X cX6_putAside "SweetWrapsModel" none 0 0 2 (QV (tE X) Q)) {v1 : Int32} {σ : Sg} (hw : wp_X6_putAside_L2 Q v1 σ) : G X σ [(0, .ref (ad (tE X) 12 18 0)), (1, .int v1)] [] 2 := by
  obtain ⟨n, hw⟩ := hw
  exact lpN_G (P := (fun (a : Int32 × Sg) => G X (a.2) [(0, .ref (ad (tE X) 12 18 0)), (1, .int (a.1))] [] 2)) (fun K a hK h => gs_X6_putAside_L2 C (fun v1 σ h => hK (v1, σ) h) h) n _ hw
def wp_X6_putAside (σ : Sg) (Q : Sg → Prop) : Prop := wp_X6_putAside_L2 Q (0 : Int32) σ
set_option maxRecDepth 100000 in
set_option maxHeartbeats 4000000 in
theorem c_X6_putAside (l : Launch) (E : Ev) {σ : Sg} {Q : Sg → Prop} (hw : wp_X6_putAside σ Q) : CT l E yX6_putAside cX6_putAside 2 none 0 0 [.ref (ad E 12 18 0)] σ (QV E Q) := by
  refine CT_of (by decide) (Nat.le_of_ble_eq_true rfl) (fun X h1 h2 C => ?_)
  subst h1; subst h2
  have C : Cx X cX6_putAside "SweetWrapsModel" none 0 0 2 (QV (tE X) Q) := C
  show G X σ [(0, .ref (ad (tE X) 12 18 0))] [] 0
  unfold wp_X6_putAside at hw
  refine gx_iconst (v := (0 : Int32)) C dX6_putAside_0 (by decide) ?_
  refine gx_istore_n (lv' := [(1, .int (0 : Int32)), (0, .ref (ad (tE X) 12 18 0))]) C dX6_putAside_1 (by decide) rfl ?_
  refine gx_sub (lv' := [(0, .ref (ad (tE X) 12 18 0)), (1, .int (0 : Int32))]) [1, 0] rfl ?_
  exact g_X6_putAside_L2 C hw
theorem hy_X6_putAside : yX6_putAside.cls = "SweetWrapsModel" ∧ yX6_putAside.cls ≠ "java/lang/invoke/MethodHandle" ∧ yX6_putAside.cls ≠ "java/lang/invoke/VarHandle" ∧ (parseMethodDescriptor yX6_putAside.desc).map (fun d => d.parameters.length) = some 0 := by decide +kernel

theorem dX6_putBack_0 : decode cX6_putBack 0 = .ok (.iconst 0, 1) := by decide +kernel
theorem dX6_putBack_1 : decode cX6_putBack 1 = .ok (.istore_n 1, 1) := by decide +kernel
theorem dX6_putBack_2 : decode cX6_putBack 2 = .ok (.iload_n 1, 1) := by decide +kernel
theorem dX6_putBack_3 : decode cX6_putBack 3 = .ok (.sipush 194, 3) := by decide +kernel
theorem dX6_putBack_6 : decode cX6_putBack 6 = .ok (.if_icmp .ge 21, 3) := by decide +kernel
theorem dX6_putBack_9 : decode cX6_putBack 9 = .ok (.aload_n 0, 1) := by decide +kernel
theorem dX6_putBack_10 : decode cX6_putBack 10 = .ok (.getfield 7, 3) := by decide +kernel
theorem dX6_putBack_13 : decode cX6_putBack 13 = .ok (.iload_n 1, 1) := by decide +kernel
theorem dX6_putBack_14 : decode cX6_putBack 14 = .ok (.aload_n 0, 1) := by decide +kernel
theorem dX6_putBack_15 : decode cX6_putBack 15 = .ok (.getfield 13, 3) := by decide +kernel
theorem dX6_putBack_18 : decode cX6_putBack 18 = .ok (.iload_n 1, 1) := by decide +kernel
theorem dX6_putBack_19 : decode cX6_putBack 19 = .ok (.iaload, 1) := by decide +kernel
theorem dX6_putBack_20 : decode cX6_putBack 20 = .ok (.iastore, 1) := by decide +kernel
theorem dX6_putBack_21 : decode cX6_putBack 21 = .ok (.iinc 1 1, 3) := by decide +kernel
theorem dX6_putBack_24 : decode cX6_putBack 24 = .ok (.goto (-22), 3) := by decide +kernel
theorem dX6_putBack_27 : decode cX6_putBack 27 = .ok (.return_, 1) := by decide +kernel
def st_X6_putBack_L2 (Q : Sg → Prop) (K2 : Int32 → Sg → Prop) (v1 : Int32) (σ : Sg) : Prop := (((194 : Int32) ≤ v1 → Q σ) ∧ (¬ (194 : Int32) ≤ v1 → (vp_in v1 194 ∧ (vp_in v1 194 ∧ ∀ σ2 : Sg, σ2 = up σ 12 19 0 v1.toNatClampNeg (σ 12 20 0 v1.toNatClampNeg) → ∀ z3 : Int32, z3 = v1 + (1 : Int32) → K2 z3 σ2))))
def wp_X6_putBack_L2 (Q : Sg → Prop) (v1 : Int32) (σ : Sg) : Prop := ∃ n : Nat, lpN (fun (K : Int32 × Sg → Prop) (a : Int32 × Sg) => st_X6_putBack_L2 Q (fun v1 σ => K (v1, σ)) (a.1) (a.2)) n (v1, σ)
set_option maxRecDepth 100000 in
set_option maxHeartbeats 4000000 in
theorem gs_X6_putBack_L2 {X : Tx} {Q : Sg → Prop} (C : Cx X cX6_putBack "SweetWrapsModel" none 0 0 2 (QV (tE X) Q)) {K2 : Int32 → Sg → Prop} (hK2 : ∀ (v1 : Int32) (σ : Sg), K2 v1 σ → G X σ [(0, .ref (ad (tE X) 12 18 0)), (1, .int v1)] [] 2) {v1 : Int32} {σ : Sg} (hw : st_X6_putBack_L2 Q K2 v1 σ) : G X σ [(0, .ref (ad (tE X) 12 18 0)), (1, .int v1)] [] 2 := by
  unfold st_X6_putBack_L2 at hw
  refine gx_iload_n C dX6_putBack_2 1 rfl ?_
  refine gx_sipush (v := (194 : Int32)) C dX6_putBack_3 (by decide) ?_
  refine gx_icmp_ge (tgt := 27) C dX6_putBack_6 (by decide) (fun c1 => ?_) (fun c1 => ?_)
  · replace hw := hw.1 c1
    exact gx_vret C dX6_putBack_27 hw
  · replace hw := hw.2 c1
    refine gx_aload_n C dX6_putBack_9 0 rfl ?_
    refine gx_get C okg_18 rfl rfl inX6 (ref := "SweetWrapsModel") 0 (by decide) bw_673 rfl rfl dX6_putBack_10 ?_
    refine gx_iload_n C dX6_putBack_13 1 rfl ?_
    refine gx_aload_n C dX6_putBack_14 0 rfl ?_
    refine gx_get C okg_18 rfl rfl inX6 (ref := "SweetWrapsModel") 1 (by decide) bw_674 rfl rfl dX6_putBack_15 ?_
    refine gx_iload_n C dX6_putBack_18 1 rfl ?_
    refine gx_iald C okg_20 rfl hw.1 _ rfl dX6_putBack_19 ?_
    replace hw := hw.2
    refine gx_iast C okg_19 (fun _ => rfl) hw.1 _ rfl rfl dX6_putBack_20 ?_
    replace hw := hw.2
    obtain ⟨σ2, e_σ2⟩ : ∃ z : Sg, z = up σ 12 19 0 v1.toNatClampNeg (σ 12 20 0 v1.toNatClampNeg) := ⟨_, rfl⟩
    replace hw := hw σ2 e_σ2
    refine gx_st e_σ2 ?_
    obtain ⟨z3, e_z3⟩ : ∃ z : Int32, z = v1 + (1 : Int32) := ⟨_, rfl⟩
    replace hw := hw z3 e_z3
    refine gx_iinc (v := z3) (lv' := [(1, .int z3), (0, .ref (ad (tE X) 12 18 0))]) C dX6_putBack_21 1 rfl (by rw [e_z3]; rfl) (by decide) rfl ?_
    refine gx_goto (tgt := 2) C dX6_putBack_24 (by decide) ?_
    refine gx_sub (lv' := [(0, .ref (ad (tE X) 12 18 0)), (1, .int z3)]) [1, 0] rfl ?_
    exact hK2 _ _ hw
set_option maxRecDepth 100000 in
set_option maxHeartbeats 4000000 in
theorem g_X6_putBack_L2 {X : Tx} {Q : Sg → Prop} (C : Cx X cX6_putBack "SweetWrapsModel" none 0 0 2 (QV (tE X) Q)) {v1 : Int32} {σ : Sg} (hw : wp_X6_putBack_L2 Q v1 σ) : G X σ [(0, .ref (ad (tE X) 12 18 0)), (1, .int v1)] [] 2 := by
  obtain ⟨n, hw⟩ := hw
  exact lpN_G (P := (fun (a : Int32 × Sg) => G X (a.2) [(0, .ref (ad (tE X) 12 18 0)), (1, .int (a.1))] [] 2)) (fun K a hK h => gs_X6_putBack_L2 C (fun v1 σ h => hK (v1, σ) h) h) n _ hw
def wp_X6_putBack (σ : Sg) (Q : Sg → Prop) : Prop := wp_X6_putBack_L2 Q (0 : Int32) σ
set_option maxRecDepth 100000 in
set_option maxHeartbeats 4000000 in
theorem c_X6_putBack (l : Launch) (E : Ev) {σ : Sg} {Q : Sg → Prop} (hw : wp_X6_putBack σ Q) : CT l E yX6_putBack cX6_putBack 2 none 0 0 [.ref (ad E 12 18 0)] σ (QV E Q) := by
  refine CT_of (by decide) (Nat.le_of_ble_eq_true rfl) (fun X h1 h2 C => ?_)
  subst h1; subst h2
  have C : Cx X cX6_putBack "SweetWrapsModel" none 0 0 2 (QV (tE X) Q) := C
  show G X σ [(0, .ref (ad (tE X) 12 18 0))] [] 0
  unfold wp_X6_putBack at hw
  refine gx_iconst (v := (0 : Int32)) C dX6_putBack_0 (by decide) ?_
  refine gx_istore_n (lv' := [(1, .int (0 : Int32)), (0, .ref (ad (tE X) 12 18 0))]) C dX6_putBack_1 (by decide) rfl ?_
  refine gx_sub (lv' := [(0, .ref (ad (tE X) 12 18 0)), (1, .int (0 : Int32))]) [1, 0] rfl ?_
  exact g_X6_putBack_L2 C hw
theorem hy_X6_putBack : yX6_putBack.cls = "SweetWrapsModel" ∧ yX6_putBack.cls ≠ "java/lang/invoke/MethodHandle" ∧ yX6_putBack.cls ≠ "java/lang/invoke/VarHandle" ∧ (parseMethodDescriptor yX6_putBack.desc).map (fun d => d.parameters.length) = some 0 := by decide +kernel

theorem dX6_record_0 : decode cX6_record 0 = .ok (.aload_n 0, 1) := by decide +kernel
theorem dX6_record_1 : decode cX6_record 1 = .ok (.getfield 32, 3) := by decide +kernel
theorem dX6_record_4 : decode cX6_record 4 = .ok (.bipush 6, 2) := by decide +kernel
theorem dX6_record_6 : decode cX6_record 6 = .ok (.if_icmp .ne 44, 3) := by decide +kernel
theorem dX6_record_9 : decode cX6_record 9 = .ok (.iconst 0, 1) := by decide +kernel
theorem dX6_record_10 : decode cX6_record 10 = .ok (.istore_n 1, 1) := by decide +kernel
theorem dX6_record_11 : decode cX6_record 11 = .ok (.iload_n 1, 1) := by decide +kernel
theorem dX6_record_12 : decode cX6_record 12 = .ok (.sipush 970, 3) := by decide +kernel
theorem dX6_record_15 : decode cX6_record 15 = .ok (.if_icmp .ge 25, 3) := by decide +kernel
theorem dX6_record_18 : decode cX6_record 18 = .ok (.aload_n 0, 1) := by decide +kernel
theorem dX6_record_19 : decode cX6_record 19 = .ok (.getfield 16, 3) := by decide +kernel
theorem dX6_record_22 : decode cX6_record 22 = .ok (.iload_n 1, 1) := by decide +kernel
theorem dX6_record_23 : decode cX6_record 23 = .ok (.aload_n 0, 1) := by decide +kernel
theorem dX6_record_24 : decode cX6_record 24 = .ok (.getfield 16, 3) := by decide +kernel
theorem dX6_record_27 : decode cX6_record 27 = .ok (.sipush 194, 3) := by decide +kernel
theorem dX6_record_30 : decode cX6_record 30 = .ok (.iload_n 1, 1) := by decide +kernel
theorem dX6_record_31 : decode cX6_record 31 = .ok (.iadd, 1) := by decide +kernel
theorem dX6_record_32 : decode cX6_record 32 = .ok (.iaload, 1) := by decide +kernel
theorem dX6_record_33 : decode cX6_record 33 = .ok (.iastore, 1) := by decide +kernel
theorem dX6_record_34 : decode cX6_record 34 = .ok (.iinc 1 1, 3) := by decide +kernel
theorem dX6_record_37 : decode cX6_record 37 = .ok (.goto (-26), 3) := by decide +kernel
theorem dX6_record_40 : decode cX6_record 40 = .ok (.aload_n 0, 1) := by decide +kernel
theorem dX6_record_41 : decode cX6_record 41 = .ok (.dup, 1) := by decide +kernel
theorem dX6_record_42 : decode cX6_record 42 = .ok (.getfield 32, 3) := by decide +kernel
theorem dX6_record_45 : decode cX6_record 45 = .ok (.iconst 1, 1) := by decide +kernel
theorem dX6_record_46 : decode cX6_record 46 = .ok (.isub, 1) := by decide +kernel
theorem dX6_record_47 : decode cX6_record 47 = .ok (.putfield 32, 3) := by decide +kernel
theorem dX6_record_50 : decode cX6_record 50 = .ok (.iconst 0, 1) := by decide +kernel
theorem dX6_record_51 : decode cX6_record 51 = .ok (.istore_n 1, 1) := by decide +kernel
theorem dX6_record_52 : decode cX6_record 52 = .ok (.iload_n 1, 1) := by decide +kernel
theorem dX6_record_53 : decode cX6_record 53 = .ok (.sipush 194, 3) := by decide +kernel
theorem dX6_record_56 : decode cX6_record 56 = .ok (.if_icmp .ge 30, 3) := by decide +kernel
theorem dX6_record_59 : decode cX6_record 59 = .ok (.aload_n 0, 1) := by decide +kernel
theorem dX6_record_60 : decode cX6_record 60 = .ok (.getfield 16, 3) := by decide +kernel
theorem dX6_record_63 : decode cX6_record 63 = .ok (.sipush 194, 3) := by decide +kernel
theorem dX6_record_66 : decode cX6_record 66 = .ok (.aload_n 0, 1) := by decide +kernel
theorem dX6_record_67 : decode cX6_record 67 = .ok (.getfield 32, 3) := by decide +kernel
theorem dX6_record_70 : decode cX6_record 70 = .ok (.imul, 1) := by decide +kernel
theorem dX6_record_71 : decode cX6_record 71 = .ok (.iload_n 1, 1) := by decide +kernel
theorem dX6_record_72 : decode cX6_record 72 = .ok (.iadd, 1) := by decide +kernel
theorem dX6_record_73 : decode cX6_record 73 = .ok (.aload_n 0, 1) := by decide +kernel
theorem dX6_record_74 : decode cX6_record 74 = .ok (.getfield 7, 3) := by decide +kernel
theorem dX6_record_77 : decode cX6_record 77 = .ok (.iload_n 1, 1) := by decide +kernel
theorem dX6_record_78 : decode cX6_record 78 = .ok (.iaload, 1) := by decide +kernel
theorem dX6_record_79 : decode cX6_record 79 = .ok (.iastore, 1) := by decide +kernel
theorem dX6_record_80 : decode cX6_record 80 = .ok (.iinc 1 1, 3) := by decide +kernel
theorem dX6_record_83 : decode cX6_record 83 = .ok (.goto (-31), 3) := by decide +kernel
theorem dX6_record_86 : decode cX6_record 86 = .ok (.aload_n 0, 1) := by decide +kernel
theorem dX6_record_87 : decode cX6_record 87 = .ok (.dup, 1) := by decide +kernel
theorem dX6_record_88 : decode cX6_record 88 = .ok (.getfield 32, 3) := by decide +kernel
theorem dX6_record_91 : decode cX6_record 91 = .ok (.iconst 1, 1) := by decide +kernel
theorem dX6_record_92 : decode cX6_record 92 = .ok (.iadd, 1) := by decide +kernel
theorem dX6_record_93 : decode cX6_record 93 = .ok (.putfield 32, 3) := by decide +kernel
theorem dX6_record_96 : decode cX6_record 96 = .ok (.return_, 1) := by decide +kernel
def st_X6_record_L52 (Q : Sg → Prop) (K52 : Int32 → Sg → Prop) (v1 : Int32) (σ : Sg) : Prop := (((194 : Int32) ≤ v1 → ∀ σ3 : Sg, σ3 = up σ 12 18 0 3 ((σ 12 18 0 3) + (1 : Int32)) → Q σ3) ∧ (¬ (194 : Int32) ≤ v1 → (vp_in v1 194 ∧ (vp_in (((194 : Int32) * (σ 12 18 0 3)) + v1) 1164 ∧ ∀ σ4 : Sg, σ4 = up σ 12 21 0 (((194 : Int32) * (σ 12 18 0 3)) + v1).toNatClampNeg (σ 12 19 0 v1.toNatClampNeg) → ∀ z5 : Int32, z5 = v1 + (1 : Int32) → K52 z5 σ4))))
def wp_X6_record_L52 (Q : Sg → Prop) (v1 : Int32) (σ : Sg) : Prop := ∃ n : Nat, lpN (fun (K : Int32 × Sg → Prop) (a : Int32 × Sg) => st_X6_record_L52 Q (fun v1 σ => K (v1, σ)) (a.1) (a.2)) n (v1, σ)
set_option maxRecDepth 100000 in
set_option maxHeartbeats 4000000 in
theorem gs_X6_record_L52 {X : Tx} {Q : Sg → Prop} (C : Cx X cX6_record "SweetWrapsModel" none 0 0 2 (QV (tE X) Q)) {K52 : Int32 → Sg → Prop} (hK52 : ∀ (v1 : Int32) (σ : Sg), K52 v1 σ → G X σ [(0, .ref (ad (tE X) 12 18 0)), (1, .int v1)] [] 52) {v1 : Int32} {σ : Sg} (hw : st_X6_record_L52 Q K52 v1 σ) : G X σ [(0, .ref (ad (tE X) 12 18 0)), (1, .int v1)] [] 52 := by
  unfold st_X6_record_L52 at hw
  refine gx_iload_n C dX6_record_52 1 rfl ?_
  refine gx_sipush (v := (194 : Int32)) C dX6_record_53 (by decide) ?_
  refine gx_icmp_ge (tgt := 86) C dX6_record_56 (by decide) (fun c2 => ?_) (fun c2 => ?_)
  · replace hw := hw.1 c2
    refine gx_aload_n C dX6_record_86 0 rfl ?_
    refine gx_dup C dX6_record_87 rfl ?_
    refine gx_get C okg_18 rfl rfl inX6 (ref := "SweetWrapsModel") 3 (by decide) bw_676 rfl rfl dX6_record_88 ?_
    refine gx_iconst (v := (1 : Int32)) C dX6_record_91 (by decide) ?_
    refine gx_iadd C dX6_record_92 ?_
    refine gx_put C okg_18 rfl rfl inX6 tyX6 tyX6_ok nmX6 (ref := "SweetWrapsModel") 3 (by decide) bw_676 rfl rfl (v := .int ((σ 12 18 0 3) + (1 : Int32))) rfl rfl (Nat.le_of_ble_eq_true rfl) (upd (σ 12 18 0) 3 ((σ 12 18 0 3) + (1 : Int32))) rfl dX6_record_93 ?_
    obtain ⟨σ3, e_σ3⟩ : ∃ z : Sg, z = up σ 12 18 0 3 ((σ 12 18 0 3) + (1 : Int32)) := ⟨_, rfl⟩
    replace hw := hw σ3 e_σ3
    refine gx_st e_σ3 ?_
    exact gx_vret C dX6_record_96 hw
  · replace hw := hw.2 c2
    refine gx_aload_n C dX6_record_59 0 rfl ?_
    refine gx_get C okg_18 rfl rfl inX6 (ref := "SweetWrapsModel") 2 (by decide) bw_675 rfl rfl dX6_record_60 ?_
    refine gx_sipush (v := (194 : Int32)) C dX6_record_63 (by decide) ?_
    refine gx_aload_n C dX6_record_66 0 rfl ?_
    refine gx_get C okg_18 rfl rfl inX6 (ref := "SweetWrapsModel") 3 (by decide) bw_676 rfl rfl dX6_record_67 ?_
    refine gx_imul C dX6_record_70 ?_
    refine gx_iload_n C dX6_record_71 1 rfl ?_
    refine gx_iadd C dX6_record_72 ?_
    refine gx_aload_n C dX6_record_73 0 rfl ?_
    refine gx_get C okg_18 rfl rfl inX6 (ref := "SweetWrapsModel") 0 (by decide) bw_673 rfl rfl dX6_record_74 ?_
    refine gx_iload_n C dX6_record_77 1 rfl ?_
    refine gx_iald C okg_19 rfl hw.1 _ rfl dX6_record_78 ?_
    replace hw := hw.2
    refine gx_iast C okg_21 (fun _ => rfl) hw.1 _ rfl rfl dX6_record_79 ?_
    replace hw := hw.2
    obtain ⟨σ4, e_σ4⟩ : ∃ z : Sg, z = up σ 12 21 0 (((194 : Int32) * (σ 12 18 0 3)) + v1).toNatClampNeg (σ 12 19 0 v1.toNatClampNeg) := ⟨_, rfl⟩
    replace hw := hw σ4 e_σ4
    refine gx_st e_σ4 ?_
    obtain ⟨z5, e_z5⟩ : ∃ z : Int32, z = v1 + (1 : Int32) := ⟨_, rfl⟩
    replace hw := hw z5 e_z5
    refine gx_iinc (v := z5) (lv' := [(1, .int z5), (0, .ref (ad (tE X) 12 18 0))]) C dX6_record_80 1 rfl (by rw [e_z5]; rfl) (by decide) rfl ?_
    refine gx_goto (tgt := 52) C dX6_record_83 (by decide) ?_
    refine gx_sub (lv' := [(0, .ref (ad (tE X) 12 18 0)), (1, .int z5)]) [1, 0] rfl ?_
    exact hK52 _ _ hw
set_option maxRecDepth 100000 in
set_option maxHeartbeats 4000000 in
theorem g_X6_record_L52 {X : Tx} {Q : Sg → Prop} (C : Cx X cX6_record "SweetWrapsModel" none 0 0 2 (QV (tE X) Q)) {v1 : Int32} {σ : Sg} (hw : wp_X6_record_L52 Q v1 σ) : G X σ [(0, .ref (ad (tE X) 12 18 0)), (1, .int v1)] [] 52 := by
  obtain ⟨n, hw⟩ := hw
  exact lpN_G (P := (fun (a : Int32 × Sg) => G X (a.2) [(0, .ref (ad (tE X) 12 18 0)), (1, .int (a.1))] [] 52)) (fun K a hK h => gs_X6_record_L52 C (fun v1 σ h => hK (v1, σ) h) h) n _ hw
def wp_X6_record_b50 (Q : Sg → Prop) (σ : Sg) : Prop := wp_X6_record_L52 Q (0 : Int32) σ
set_option maxRecDepth 100000 in
set_option maxHeartbeats 4000000 in
theorem g_X6_record_b50 {X : Tx} {Q : Sg → Prop} (C : Cx X cX6_record "SweetWrapsModel" none 0 0 2 (QV (tE X) Q)) {σ : Sg} (hw : wp_X6_record_b50 Q σ) : G X σ [(0, .ref (ad (tE X) 12 18 0))] [] 50 := by
  unfold wp_X6_record_b50 at hw
  refine gx_iconst (v := (0 : Int32)) C dX6_record_50 (by decide) ?_
  refine gx_istore_n (lv' := [(1, .int (0 : Int32)), (0, .ref (ad (tE X) 12 18 0))]) C dX6_record_51 (by decide) rfl ?_
  refine gx_sub (lv' := [(0, .ref (ad (tE X) 12 18 0)), (1, .int (0 : Int32))]) [1, 0] rfl ?_
  exact g_X6_record_L52 C hw
def st_X6_record_L11 (Q : Sg → Prop) (K11 : Int32 → Sg → Prop) (v1 : Int32) (σ : Sg) : Prop := (((970 : Int32) ≤ v1 → ∀ σ7 : Sg, σ7 = up σ 12 18 0 3 ((σ 12 18 0 3) - (1 : Int32)) → wp_X6_record_b50 Q σ7) ∧ (¬ (970 : Int32) ≤ v1 → (vp_in ((194 : Int32) + v1) 1164 ∧ (vp_in v1 1164 ∧ ∀ σ8 : Sg, σ8 = up σ 12 21 0 v1.toNatClampNeg (σ 12 21 0 ((194 : Int32) + v1).toNatClampNeg) → ∀ z9 : Int32, z9 = v1 + (1 : Int32) → K11 z9 σ8))))
def wp_X6_record_L11 (Q : Sg → Prop) (v1 : Int32) (σ : Sg) : Prop := ∃ n : Nat, lpN (fun (K : Int32 × Sg → Prop) (a : Int32 × Sg) => st_X6_record_L11 Q (fun v1 σ => K (v1, σ)) (a.1) (a.2)) n (v1, σ)
set_option maxRecDepth 100000 in
set_option maxHeartbeats 4000000 in
theorem gs_X6_record_L11 {X : Tx} {Q : Sg → Prop} (C : Cx X cX6_record "SweetWrapsModel" none 0 0 2 (QV (tE X) Q)) {K11 : Int32 → Sg → Prop} (hK11 : ∀ (v1 : Int32) (σ : Sg), K11 v1 σ → G X σ [(0, .ref (ad (tE X) 12 18 0)), (1, .int v1)] [] 11) {v1 : Int32} {σ : Sg} (hw : st_X6_record_L11 Q K11 v1 σ) : G X σ [(0, .ref (ad (tE X) 12 18 0)), (1, .int v1)] [] 11 := by
  unfold st_X6_record_L11 at hw
  refine gx_iload_n C dX6_record_11 1 rfl ?_
  refine gx_sipush (v := (970 : Int32)) C dX6_record_12 (by decide) ?_
  refine gx_icmp_ge (tgt := 40) C dX6_record_15 (by decide) (fun c6 => ?_) (fun c6 => ?_)
  · replace hw := hw.1 c6
    refine gx_aload_n C dX6_record_40 0 rfl ?_
    refine gx_dup C dX6_record_41 rfl ?_
    refine gx_get C okg_18 rfl rfl inX6 (ref := "SweetWrapsModel") 3 (by decide) bw_676 rfl rfl dX6_record_42 ?_
    refine gx_iconst (v := (1 : Int32)) C dX6_record_45 (by decide) ?_
    refine gx_isub C dX6_record_46 ?_
    refine gx_put C okg_18 rfl rfl inX6 tyX6 tyX6_ok nmX6 (ref := "SweetWrapsModel") 3 (by decide) bw_676 rfl rfl (v := .int ((σ 12 18 0 3) - (1 : Int32))) rfl rfl (Nat.le_of_ble_eq_true rfl) (upd (σ 12 18 0) 3 ((σ 12 18 0 3) - (1 : Int32))) rfl dX6_record_47 ?_
    obtain ⟨σ7, e_σ7⟩ : ∃ z : Sg, z = up σ 12 18 0 3 ((σ 12 18 0 3) - (1 : Int32)) := ⟨_, rfl⟩
    replace hw := hw σ7 e_σ7
    refine gx_st e_σ7 ?_
    refine gx_sub (lv' := [(0, .ref (ad (tE X) 12 18 0))]) [0] rfl ?_
    exact g_X6_record_b50 C hw
  · replace hw := hw.2 c6
    refine gx_aload_n C dX6_record_18 0 rfl ?_
    refine gx_get C okg_18 rfl rfl inX6 (ref := "SweetWrapsModel") 2 (by decide) bw_675 rfl rfl dX6_record_19 ?_
    refine gx_iload_n C dX6_record_22 1 rfl ?_
    refine gx_aload_n C dX6_record_23 0 rfl ?_
    refine gx_get C okg_18 rfl rfl inX6 (ref := "SweetWrapsModel") 2 (by decide) bw_675 rfl rfl dX6_record_24 ?_
    refine gx_sipush (v := (194 : Int32)) C dX6_record_27 (by decide) ?_
    refine gx_iload_n C dX6_record_30 1 rfl ?_
    refine gx_iadd C dX6_record_31 ?_
    refine gx_iald C okg_21 rfl hw.1 _ rfl dX6_record_32 ?_
    replace hw := hw.2
    refine gx_iast C okg_21 (fun _ => rfl) hw.1 _ rfl rfl dX6_record_33 ?_
    replace hw := hw.2
    obtain ⟨σ8, e_σ8⟩ : ∃ z : Sg, z = up σ 12 21 0 v1.toNatClampNeg (σ 12 21 0 ((194 : Int32) + v1).toNatClampNeg) := ⟨_, rfl⟩
    replace hw := hw σ8 e_σ8
    refine gx_st e_σ8 ?_
    obtain ⟨z9, e_z9⟩ : ∃ z : Int32, z = v1 + (1 : Int32) := ⟨_, rfl⟩
    replace hw := hw z9 e_z9
    refine gx_iinc (v := z9) (lv' := [(1, .int z9), (0, .ref (ad (tE X) 12 18 0))]) C dX6_record_34 1 rfl (by rw [e_z9]; rfl) (by decide) rfl ?_
    refine gx_goto (tgt := 11) C dX6_record_37 (by decide) ?_
    refine gx_sub (lv' := [(0, .ref (ad (tE X) 12 18 0)), (1, .int z9)]) [1, 0] rfl ?_
    exact hK11 _ _ hw
set_option maxRecDepth 100000 in
set_option maxHeartbeats 4000000 in
theorem g_X6_record_L11 {X : Tx} {Q : Sg → Prop} (C : Cx X cX6_record "SweetWrapsModel" none 0 0 2 (QV (tE X) Q)) {v1 : Int32} {σ : Sg} (hw : wp_X6_record_L11 Q v1 σ) : G X σ [(0, .ref (ad (tE X) 12 18 0)), (1, .int v1)] [] 11 := by
  obtain ⟨n, hw⟩ := hw
  exact lpN_G (P := (fun (a : Int32 × Sg) => G X (a.2) [(0, .ref (ad (tE X) 12 18 0)), (1, .int (a.1))] [] 11)) (fun K a hK h => gs_X6_record_L11 C (fun v1 σ h => hK (v1, σ) h) h) n _ hw
def wp_X6_record (σ : Sg) (Q : Sg → Prop) : Prop := ((¬ (σ 12 18 0 3) = (6 : Int32) → wp_X6_record_b50 Q σ) ∧ ((σ 12 18 0 3) = (6 : Int32) → wp_X6_record_L11 Q (0 : Int32) σ))
set_option maxRecDepth 100000 in
set_option maxHeartbeats 4000000 in
theorem c_X6_record (l : Launch) (E : Ev) {σ : Sg} {Q : Sg → Prop} (hw : wp_X6_record σ Q) : CT l E yX6_record cX6_record 2 none 0 0 [.ref (ad E 12 18 0)] σ (QV E Q) := by
  refine CT_of (by decide) (Nat.le_of_ble_eq_true rfl) (fun X h1 h2 C => ?_)
  subst h1; subst h2
  have C : Cx X cX6_record "SweetWrapsModel" none 0 0 2 (QV (tE X) Q) := C
  show G X σ [(0, .ref (ad (tE X) 12 18 0))] [] 0
  unfold wp_X6_record at hw
  refine gx_aload_n C dX6_record_0 0 rfl ?_
  refine gx_get C okg_18 rfl rfl inX6 (ref := "SweetWrapsModel") 3 (by decide) bw_676 rfl rfl dX6_record_1 ?_
  refine gx_bipush (v := (6 : Int32)) C dX6_record_4 (by decide) ?_
  refine gx_icmp_ne (tgt := 50) C dX6_record_6 (by decide) (fun c1 => ?_) (fun c1 => ?_)
  · replace hw := hw.1 c1
    exact g_X6_record_b50 C hw
  · replace hw := hw.2 c1
    refine gx_iconst (v := (0 : Int32)) C dX6_record_9 (by decide) ?_
    refine gx_istore_n (lv' := [(1, .int (0 : Int32)), (0, .ref (ad (tE X) 12 18 0))]) C dX6_record_10 (by decide) rfl ?_
    refine gx_sub (lv' := [(0, .ref (ad (tE X) 12 18 0)), (1, .int (0 : Int32))]) [1, 0] rfl ?_
    exact g_X6_record_L11 C hw
theorem hy_X6_record : yX6_record.cls = "SweetWrapsModel" ∧ yX6_record.cls ≠ "java/lang/invoke/MethodHandle" ∧ yX6_record.cls ≠ "java/lang/invoke/VarHandle" ∧ (parseMethodDescriptor yX6_record.desc).map (fun d => d.parameters.length) = some 0 := by decide +kernel

theorem dX6_isLane_0 : decode cX6_isLane 0 = .ok (.iload_n 0, 1) := by decide +kernel
theorem dX6_isLane_1 : decode cX6_isLane 1 = .ok (.iconst 0, 1) := by decide +kernel
theorem dX6_isLane_2 : decode cX6_isLane 2 = .ok (.iconst 3, 1) := by decide +kernel
theorem dX6_isLane_3 : decode cX6_isLane 3 = .ok (.invokestatic 36, 3) := by decide +kernel
theorem dX6_isLane_6 : decode cX6_isLane 6 = .ok (.ireturn, 1) := by decide +kernel
def wp_X6_isLane (x0 : Int32) (σ : Sg) (Q : Int32 → Sg → Prop) : Prop := wp_X6_in x0 (0 : Int32) (3 : Int32) σ (fun r1 σ2 => (r1 = 0 ∨ r1 = 1) ∧ Q r1 σ2)
set_option maxRecDepth 100000 in
set_option maxHeartbeats 4000000 in
theorem c_X6_isLane (l : Launch) (E : Ev) {x0 : Int32} {σ : Sg} {Q : Int32 → Sg → Prop} (hw : wp_X6_isLane x0 σ Q) : CT l E yX6_isLane cX6_isLane 1 (some .boolean) 1 22 [.int x0] σ (QI E Q) := by
  refine CT_of (by decide) (Nat.le_of_ble_eq_true rfl) (fun X h1 h2 C => ?_)
  subst h1; subst h2
  have C : Cx X cX6_isLane "SweetWrapsModel" (some .boolean) 1 22 1 (QI (tE X) Q) := C
  show G X σ [(0, .int x0)] [] 0
  unfold wp_X6_isLane at hw
  refine gx_iload_n C dX6_isLane_0 0 rfl ?_
  refine gx_iconst (v := (0 : Int32)) C dX6_isLane_1 (by decide) ?_
  refine gx_iconst (v := (3 : Int32)) C dX6_isLane_2 (by decide) ?_
  refine gx_scalli (As := [.int x0, .int (0 : Int32), .int (3 : Int32)]) (rest := []) C (c_X6_in _ _ hw) bw_711 bw_712 bw_7 bw_713 hyS_X6_in ⟨by decide, by decide⟩ rfl (Nat.le_of_ble_eq_true rfl) dX6_isLane_3 (fun r1 σ2 hw => ?_)
  exact gx_iret C rfl (nb_bool hw.1) dX6_isLane_6 hw.2
theorem hyS_X6_isLane : yX6_isLane.cls ≠ "java/lang/invoke/MethodHandle" ∧ yX6_isLane.cls ≠ "java/lang/invoke/VarHandle" ∧ (parseMethodDescriptor yX6_isLane.desc).map (fun d => d.parameters.length) = some 1 := by decide +kernel

theorem dX6_isFlavour_0 : decode cX6_isFlavour 0 = .ok (.iload_n 0, 1) := by decide +kernel
theorem dX6_isFlavour_1 : decode cX6_isFlavour 1 = .ok (.iconst 0, 1) := by decide +kernel
theorem dX6_isFlavour_2 : decode cX6_isFlavour 2 = .ok (.iconst 5, 1) := by decide +kernel
theorem dX6_isFlavour_3 : decode cX6_isFlavour 3 = .ok (.invokestatic 36, 3) := by decide +kernel
theorem dX6_isFlavour_6 : decode cX6_isFlavour 6 = .ok (.ireturn, 1) := by decide +kernel
def wp_X6_isFlavour (x0 : Int32) (σ : Sg) (Q : Int32 → Sg → Prop) : Prop := wp_X6_in x0 (0 : Int32) (5 : Int32) σ (fun r1 σ2 => (r1 = 0 ∨ r1 = 1) ∧ Q r1 σ2)
set_option maxRecDepth 100000 in
set_option maxHeartbeats 4000000 in
theorem c_X6_isFlavour (l : Launch) (E : Ev) {x0 : Int32} {σ : Sg} {Q : Int32 → Sg → Prop} (hw : wp_X6_isFlavour x0 σ Q) : CT l E yX6_isFlavour cX6_isFlavour 1 (some .boolean) 1 22 [.int x0] σ (QI E Q) := by
  refine CT_of (by decide) (Nat.le_of_ble_eq_true rfl) (fun X h1 h2 C => ?_)
  subst h1; subst h2
  have C : Cx X cX6_isFlavour "SweetWrapsModel" (some .boolean) 1 22 1 (QI (tE X) Q) := C
  show G X σ [(0, .int x0)] [] 0
  unfold wp_X6_isFlavour at hw
  refine gx_iload_n C dX6_isFlavour_0 0 rfl ?_
  refine gx_iconst (v := (0 : Int32)) C dX6_isFlavour_1 (by decide) ?_
  refine gx_iconst (v := (5 : Int32)) C dX6_isFlavour_2 (by decide) ?_
  refine gx_scalli (As := [.int x0, .int (0 : Int32), .int (5 : Int32)]) (rest := []) C (c_X6_in _ _ hw) bw_711 bw_712 bw_7 bw_713 hyS_X6_in ⟨by decide, by decide⟩ rfl (Nat.le_of_ble_eq_true rfl) dX6_isFlavour_3 (fun r1 σ2 hw => ?_)
  exact gx_iret C rfl (nb_bool hw.1) dX6_isFlavour_6 hw.2
theorem hyS_X6_isFlavour : yX6_isFlavour.cls ≠ "java/lang/invoke/MethodHandle" ∧ yX6_isFlavour.cls ≠ "java/lang/invoke/VarHandle" ∧ (parseMethodDescriptor yX6_isFlavour.desc).map (fun d => d.parameters.length) = some 1 := by decide +kernel

theorem dX6_lane_0 : decode cX6_lane 0 = .ok (.aload_n 0, 1) := by decide +kernel
theorem dX6_lane_1 : decode cX6_lane 1 = .ok (.getfield 7, 3) := by decide +kernel
theorem dX6_lane_4 : decode cX6_lane 4 = .ok (.iconst 4, 1) := by decide +kernel
theorem dX6_lane_5 : decode cX6_lane 5 = .ok (.bipush 17, 2) := by decide +kernel
theorem dX6_lane_7 : decode cX6_lane 7 = .ok (.iload_n 1, 1) := by decide +kernel
theorem dX6_lane_8 : decode cX6_lane 8 = .ok (.imul, 1) := by decide +kernel
theorem dX6_lane_9 : decode cX6_lane 9 = .ok (.iadd, 1) := by decide +kernel
theorem dX6_lane_10 : decode cX6_lane 10 = .ok (.iload_n 2, 1) := by decide +kernel
theorem dX6_lane_11 : decode cX6_lane 11 = .ok (.iadd, 1) := by decide +kernel
theorem dX6_lane_12 : decode cX6_lane 12 = .ok (.iaload, 1) := by decide +kernel
theorem dX6_lane_13 : decode cX6_lane 13 = .ok (.ireturn, 1) := by decide +kernel
def wp_X6_lane (x1 : Int32) (x2 : Int32) (σ : Sg) (Q : Int32 → Sg → Prop) : Prop := (vp_in (((4 : Int32) + ((17 : Int32) * x1)) + x2) 194 ∧ Q (σ 12 19 0 (((4 : Int32) + ((17 : Int32) * x1)) + x2).toNatClampNeg) σ)
set_option maxRecDepth 100000 in
set_option maxHeartbeats 4000000 in
theorem c_X6_lane (l : Launch) (E : Ev) {x1 : Int32} {x2 : Int32} {σ : Sg} {Q : Int32 → Sg → Prop} (hw : wp_X6_lane x1 x2 σ Q) : CT l E yX6_lane cX6_lane 3 (some .int) 0 0 [.ref (ad E 12 18 0), .int x1, .int x2] σ (QI E Q) := by
  refine CT_of (by decide) (Nat.le_of_ble_eq_true rfl) (fun X h1 h2 C => ?_)
  subst h1; subst h2
  have C : Cx X cX6_lane "SweetWrapsModel" (some .int) 0 0 3 (QI (tE X) Q) := C
  show G X σ [(0, .ref (ad (tE X) 12 18 0)), (1, .int x1), (2, .int x2)] [] 0
  unfold wp_X6_lane at hw
  refine gx_aload_n C dX6_lane_0 0 rfl ?_
  refine gx_get C okg_18 rfl rfl inX6 (ref := "SweetWrapsModel") 0 (by decide) bw_673 rfl rfl dX6_lane_1 ?_
  refine gx_iconst (v := (4 : Int32)) C dX6_lane_4 (by decide) ?_
  refine gx_bipush (v := (17 : Int32)) C dX6_lane_5 (by decide) ?_
  refine gx_iload_n C dX6_lane_7 1 rfl ?_
  refine gx_imul C dX6_lane_8 ?_
  refine gx_iadd C dX6_lane_9 ?_
  refine gx_iload_n C dX6_lane_10 2 rfl ?_
  refine gx_iadd C dX6_lane_11 ?_
  refine gx_iald C okg_19 rfl hw.1 _ rfl dX6_lane_12 ?_
  replace hw := hw.2
  exact gx_iret C rfl rfl dX6_lane_13 hw
theorem hy_X6_lane : yX6_lane.cls = "SweetWrapsModel" ∧ yX6_lane.cls ≠ "java/lang/invoke/MethodHandle" ∧ yX6_lane.cls ≠ "java/lang/invoke/VarHandle" ∧ (parseMethodDescriptor yX6_lane.desc).map (fun d => d.parameters.length) = some 2 := by decide +kernel

theorem dX6_heapFlavour_0 : decode cX6_heapFlavour 0 = .ok (.aload_n 0, 1) := by decide +kernel
theorem dX6_heapFlavour_1 : decode cX6_heapFlavour 1 = .ok (.iload_n 1, 1) := by decide +kernel
theorem dX6_heapFlavour_2 : decode cX6_heapFlavour 2 = .ok (.iconst 1, 1) := by decide +kernel
theorem dX6_heapFlavour_3 : decode cX6_heapFlavour 3 = .ok (.iconst 2, 1) := by decide +kernel
theorem dX6_heapFlavour_4 : decode cX6_heapFlavour 4 = .ok (.iload_n 2, 1) := by decide +kernel
theorem dX6_heapFlavour_5 : decode cX6_heapFlavour 5 = .ok (.imul, 1) := by decide +kernel
theorem dX6_heapFlavour_6 : decode cX6_heapFlavour 6 = .ok (.iadd, 1) := by decide +kernel
theorem dX6_heapFlavour_7 : decode cX6_heapFlavour 7 = .ok (.invokevirtual 40, 3) := by decide +kernel
theorem dX6_heapFlavour_10 : decode cX6_heapFlavour 10 = .ok (.ireturn, 1) := by decide +kernel
def wp_X6_heapFlavour (x1 : Int32) (x2 : Int32) (σ : Sg) (Q : Int32 → Sg → Prop) : Prop := wp_X6_lane x1 ((1 : Int32) + ((2 : Int32) * x2)) σ (fun r1 σ2 => Q r1 σ2)
set_option maxRecDepth 100000 in
set_option maxHeartbeats 4000000 in
theorem c_X6_heapFlavour (l : Launch) (E : Ev) {x1 : Int32} {x2 : Int32} {σ : Sg} {Q : Int32 → Sg → Prop} (hw : wp_X6_heapFlavour x1 x2 σ Q) : CT l E yX6_heapFlavour cX6_heapFlavour 3 (some .int) 1 22 [.ref (ad E 12 18 0), .int x1, .int x2] σ (QI E Q) := by
  refine CT_of (by decide) (Nat.le_of_ble_eq_true rfl) (fun X h1 h2 C => ?_)
  subst h1; subst h2
  have C : Cx X cX6_heapFlavour "SweetWrapsModel" (some .int) 1 22 3 (QI (tE X) Q) := C
  show G X σ [(0, .ref (ad (tE X) 12 18 0)), (1, .int x1), (2, .int x2)] [] 0
  unfold wp_X6_heapFlavour at hw
  refine gx_aload_n C dX6_heapFlavour_0 0 rfl ?_
  refine gx_iload_n C dX6_heapFlavour_1 1 rfl ?_
  refine gx_iconst (v := (1 : Int32)) C dX6_heapFlavour_2 (by decide) ?_
  refine gx_iconst (v := (2 : Int32)) C dX6_heapFlavour_3 (by decide) ?_
  refine gx_iload_n C dX6_heapFlavour_4 2 rfl ?_
  refine gx_imul C dX6_heapFlavour_5 ?_
  refine gx_iadd C dX6_heapFlavour_6 ?_
  refine gx_vcalli (As := [.int x1, .int ((1 : Int32) + ((2 : Int32) * x2))]) (rest := []) C (c_X6_lane _ _ hw) okg_18 rfl rfl bw_740 bw_742 bs_31 bw_7 bw_743 hy_X6_lane ⟨by decide, by decide⟩ rfl (Nat.le_of_ble_eq_true rfl) dX6_heapFlavour_7 (fun r1 σ2 hw => ?_)
  exact gx_iret C rfl rfl dX6_heapFlavour_10 hw
theorem hy_X6_heapFlavour : yX6_heapFlavour.cls = "SweetWrapsModel" ∧ yX6_heapFlavour.cls ≠ "java/lang/invoke/MethodHandle" ∧ yX6_heapFlavour.cls ≠ "java/lang/invoke/VarHandle" ∧ (parseMethodDescriptor yX6_heapFlavour.desc).map (fun d => d.parameters.length) = some 2 := by decide +kernel

theorem dX6_heapMany_0 : decode cX6_heapMany 0 = .ok (.aload_n 0, 1) := by decide +kernel
theorem dX6_heapMany_1 : decode cX6_heapMany 1 = .ok (.iload_n 1, 1) := by decide +kernel
theorem dX6_heapMany_2 : decode cX6_heapMany 2 = .ok (.iconst 2, 1) := by decide +kernel
theorem dX6_heapMany_3 : decode cX6_heapMany 3 = .ok (.iconst 2, 1) := by decide +kernel
theorem dX6_heapMany_4 : decode cX6_heapMany 4 = .ok (.iload_n 2, 1) := by decide +kernel
theorem dX6_heapMany_5 : decode cX6_heapMany 5 = .ok (.imul, 1) := by decide +kernel
theorem dX6_heapMany_6 : decode cX6_heapMany 6 = .ok (.iadd, 1) := by decide +kernel
theorem dX6_heapMany_7 : decode cX6_heapMany 7 = .ok (.invokevirtual 40, 3) := by decide +kernel
theorem dX6_heapMany_10 : decode cX6_heapMany 10 = .ok (.ireturn, 1) := by decide +kernel
def wp_X6_heapMany (x1 : Int32) (x2 : Int32) (σ : Sg) (Q : Int32 → Sg → Prop) : Prop := wp_X6_lane x1 ((2 : Int32) + ((2 : Int32) * x2)) σ (fun r1 σ2 => Q r1 σ2)
set_option maxRecDepth 100000 in
set_option maxHeartbeats 4000000 in
theorem c_X6_heapMany (l : Launch) (E : Ev) {x1 : Int32} {x2 : Int32} {σ : Sg} {Q : Int32 → Sg → Prop} (hw : wp_X6_heapMany x1 x2 σ Q) : CT l E yX6_heapMany cX6_heapMany 3 (some .int) 1 22 [.ref (ad E 12 18 0), .int x1, .int x2] σ (QI E Q) := by
  refine CT_of (by decide) (Nat.le_of_ble_eq_true rfl) (fun X h1 h2 C => ?_)
  subst h1; subst h2
  have C : Cx X cX6_heapMany "SweetWrapsModel" (some .int) 1 22 3 (QI (tE X) Q) := C
  show G X σ [(0, .ref (ad (tE X) 12 18 0)), (1, .int x1), (2, .int x2)] [] 0
  unfold wp_X6_heapMany at hw
  refine gx_aload_n C dX6_heapMany_0 0 rfl ?_
  refine gx_iload_n C dX6_heapMany_1 1 rfl ?_
  refine gx_iconst (v := (2 : Int32)) C dX6_heapMany_2 (by decide) ?_
  refine gx_iconst (v := (2 : Int32)) C dX6_heapMany_3 (by decide) ?_
  refine gx_iload_n C dX6_heapMany_4 2 rfl ?_
  refine gx_imul C dX6_heapMany_5 ?_
  refine gx_iadd C dX6_heapMany_6 ?_
  refine gx_vcalli (As := [.int x1, .int ((2 : Int32) + ((2 : Int32) * x2))]) (rest := []) C (c_X6_lane _ _ hw) okg_18 rfl rfl bw_740 bw_742 bs_31 bw_7 bw_743 hy_X6_lane ⟨by decide, by decide⟩ rfl (Nat.le_of_ble_eq_true rfl) dX6_heapMany_7 (fun r1 σ2 hw => ?_)
  exact gx_iret C rfl rfl dX6_heapMany_10 hw
theorem hy_X6_heapMany : yX6_heapMany.cls = "SweetWrapsModel" ∧ yX6_heapMany.cls ≠ "java/lang/invoke/MethodHandle" ∧ yX6_heapMany.cls ≠ "java/lang/invoke/VarHandle" ∧ (parseMethodDescriptor yX6_heapMany.desc).map (fun d => d.parameters.length) = some 2 := by decide +kernel

theorem dX6_inHopper_0 : decode cX6_inHopper 0 = .ok (.iconst 0, 1) := by decide +kernel
theorem dX6_inHopper_1 : decode cX6_inHopper 1 = .ok (.istore_n 2, 1) := by decide +kernel
theorem dX6_inHopper_2 : decode cX6_inHopper 2 = .ok (.iconst 0, 1) := by decide +kernel
theorem dX6_inHopper_3 : decode cX6_inHopper 3 = .ok (.istore_n 3, 1) := by decide +kernel
theorem dX6_inHopper_4 : decode cX6_inHopper 4 = .ok (.iload_n 3, 1) := by decide +kernel
theorem dX6_inHopper_5 : decode cX6_inHopper 5 = .ok (.aload_n 0, 1) := by decide +kernel
theorem dX6_inHopper_6 : decode cX6_inHopper 6 = .ok (.iload_n 1, 1) := by decide +kernel
theorem dX6_inHopper_7 : decode cX6_inHopper 7 = .ok (.iconst 0, 1) := by decide +kernel
theorem dX6_inHopper_8 : decode cX6_inHopper 8 = .ok (.invokevirtual 40, 3) := by decide +kernel
theorem dX6_inHopper_11 : decode cX6_inHopper 11 = .ok (.if_icmp .ge 18, 3) := by decide +kernel
theorem dX6_inHopper_14 : decode cX6_inHopper 14 = .ok (.iload_n 2, 1) := by decide +kernel
theorem dX6_inHopper_15 : decode cX6_inHopper 15 = .ok (.aload_n 0, 1) := by decide +kernel
theorem dX6_inHopper_16 : decode cX6_inHopper 16 = .ok (.iload_n 1, 1) := by decide +kernel
theorem dX6_inHopper_17 : decode cX6_inHopper 17 = .ok (.iload_n 3, 1) := by decide +kernel
theorem dX6_inHopper_18 : decode cX6_inHopper 18 = .ok (.invokevirtual 44, 3) := by decide +kernel
theorem dX6_inHopper_21 : decode cX6_inHopper 21 = .ok (.iadd, 1) := by decide +kernel
theorem dX6_inHopper_22 : decode cX6_inHopper 22 = .ok (.istore_n 2, 1) := by decide +kernel
theorem dX6_inHopper_23 : decode cX6_inHopper 23 = .ok (.iinc 3 1, 3) := by decide +kernel
theorem dX6_inHopper_26 : decode cX6_inHopper 26 = .ok (.goto (-22), 3) := by decide +kernel
theorem dX6_inHopper_29 : decode cX6_inHopper 29 = .ok (.iload_n 2, 1) := by decide +kernel
theorem dX6_inHopper_30 : decode cX6_inHopper 30 = .ok (.ireturn, 1) := by decide +kernel
def st_X6_inHopper_L4 (x1 : Int32) (Q : Int32 → Sg → Prop) (K4 : Int32 → Int32 → Sg → Prop) (v2 : Int32) (v3 : Int32) (σ : Sg) : Prop := wp_X6_lane x1 (0 : Int32) σ (fun r1 σ2 => ((r1 ≤ v3 → Q v2 σ2) ∧ (¬ r1 ≤ v3 → wp_X6_heapMany x1 v3 σ2 (fun r4 σ5 => ∀ z6 : Int32, z6 = (v2 + r4) → ∀ z7 : Int32, z7 = v3 + (1 : Int32) → K4 z6 z7 σ5))))
def wp_X6_inHopper_L4 (x1 : Int32) (Q : Int32 → Sg → Prop) (v2 : Int32) (v3 : Int32) (σ : Sg) : Prop := ∃ n : Nat, lpN (fun (K : Int32 × Int32 × Sg → Prop) (a : Int32 × Int32 × Sg) => st_X6_inHopper_L4 x1 Q (fun v2 v3 σ => K (v2, v3, σ)) (a.1) (a.2.1) (a.2.2)) n (v2, v3, σ)
set_option maxRecDepth 100000 in
set_option maxHeartbeats 4000000 in
theorem gs_X6_inHopper_L4 {X : Tx} {Q : Int32 → Sg → Prop} (C : Cx X cX6_inHopper "SweetWrapsModel" (some .int) 2 44 4 (QI (tE X) Q)) {x1 : Int32} {K4 : Int32 → Int32 → Sg → Prop} (hK4 : ∀ (v2 : Int32) (v3 : Int32) (σ : Sg), K4 v2 v3 σ → G X σ [(0, .ref (ad (tE X) 12 18 0)), (1, .int x1), (2, .int v2), (3, .int v3)] [] 4) {v2 : Int32} {v3 : Int32} {σ : Sg} (hw : st_X6_inHopper_L4 x1 Q K4 v2 v3 σ) : G X σ [(0, .ref (ad (tE X) 12 18 0)), (1, .int x1), (2, .int v2), (3, .int v3)] [] 4 := by
  unfold st_X6_inHopper_L4 at hw
  refine gx_iload_n C dX6_inHopper_4 3 rfl ?_
  refine gx_aload_n C dX6_inHopper_5 0 rfl ?_
  refine gx_iload_n C dX6_inHopper_6 1 rfl ?_
  refine gx_iconst (v := (0 : Int32)) C dX6_inHopper_7 (by decide) ?_
  refine gx_vcalli (As := [.int x1, .int (0 : Int32)]) (rest := [.int v3]) C (c_X6_lane _ _ hw) okg_18 rfl rfl bw_740 bw_742 bs_31 bw_7 bw_743 hy_X6_lane ⟨by decide, by decide⟩ rfl (Nat.le_of_ble_eq_true rfl) dX6_inHopper_8 (fun r1 σ2 hw => ?_)
  refine gx_icmp_ge (tgt := 29) C dX6_inHopper_11 (by decide) (fun c3 => ?_) (fun c3 => ?_)
  · replace hw := hw.1 c3
    refine gx_iload_n C dX6_inHopper_29 2 rfl ?_
    exact gx_iret C rfl rfl dX6_inHopper_30 hw
  · replace hw := hw.2 c3
    refine gx_iload_n C dX6_inHopper_14 2 rfl ?_
    refine gx_aload_n C dX6_inHopper_15 0 rfl ?_
    refine gx_iload_n C dX6_inHopper_16 1 rfl ?_
    refine gx_iload_n C dX6_inHopper_17 3 rfl ?_
    refine gx_vcalli (As := [.int x1, .int v3]) (rest := [.int v2]) C (c_X6_heapMany _ _ hw) okg_18 rfl rfl bw_748 bw_750 bs_33 bw_7 bw_751 hy_X6_heapMany ⟨by decide, by decide⟩ rfl (Nat.le_of_ble_eq_true rfl) dX6_inHopper_18 (fun r4 σ5 hw => ?_)
    refine gx_iadd C dX6_inHopper_21 ?_
    obtain ⟨z6, e_z6⟩ : ∃ z : Int32, z = (v2 + r4) := ⟨_, rfl⟩
    replace hw := hw z6 e_z6
    refine gx_top e_z6 ?_
    refine gx_istore_n (lv' := [(2, .int z6), (0, .ref (ad (tE X) 12 18 0)), (1, .int x1), (3, .int v3)]) C dX6_inHopper_22 (by decide) rfl ?_
    obtain ⟨z7, e_z7⟩ : ∃ z : Int32, z = v3 + (1 : Int32) := ⟨_, rfl⟩
    replace hw := hw z7 e_z7
    refine gx_iinc (v := z7) (lv' := [(3, .int z7), (2, .int z6), (0, .ref (ad (tE X) 12 18 0)), (1, .int x1)]) C dX6_inHopper_23 3 rfl (by rw [e_z7]; rfl) (by decide) rfl ?_
    refine gx_goto (tgt := 4) C dX6_inHopper_26 (by decide) ?_
    refine gx_sub (lv' := [(0, .ref (ad (tE X) 12 18 0)), (1, .int x1), (2, .int z6), (3, .int z7)]) [2, 3, 1, 0] rfl ?_
    exact hK4 _ _ _ hw
set_option maxRecDepth 100000 in
set_option maxHeartbeats 4000000 in
theorem g_X6_inHopper_L4 {X : Tx} {Q : Int32 → Sg → Prop} (C : Cx X cX6_inHopper "SweetWrapsModel" (some .int) 2 44 4 (QI (tE X) Q)) {x1 : Int32} {v2 : Int32} {v3 : Int32} {σ : Sg} (hw : wp_X6_inHopper_L4 x1 Q v2 v3 σ) : G X σ [(0, .ref (ad (tE X) 12 18 0)), (1, .int x1), (2, .int v2), (3, .int v3)] [] 4 := by
  obtain ⟨n, hw⟩ := hw
  exact lpN_G (P := (fun (a : Int32 × Int32 × Sg) => G X (a.2.2) [(0, .ref (ad (tE X) 12 18 0)), (1, .int x1), (2, .int (a.1)), (3, .int (a.2.1))] [] 4)) (fun K a hK h => gs_X6_inHopper_L4 C (fun v2 v3 σ h => hK (v2, v3, σ) h) h) n _ hw
def wp_X6_inHopper (x1 : Int32) (σ : Sg) (Q : Int32 → Sg → Prop) : Prop := wp_X6_inHopper_L4 x1 Q (0 : Int32) (0 : Int32) σ
set_option maxRecDepth 100000 in
set_option maxHeartbeats 4000000 in
theorem c_X6_inHopper (l : Launch) (E : Ev) {x1 : Int32} {σ : Sg} {Q : Int32 → Sg → Prop} (hw : wp_X6_inHopper x1 σ Q) : CT l E yX6_inHopper cX6_inHopper 4 (some .int) 2 44 [.ref (ad E 12 18 0), .int x1] σ (QI E Q) := by
  refine CT_of (by decide) (Nat.le_of_ble_eq_true rfl) (fun X h1 h2 C => ?_)
  subst h1; subst h2
  have C : Cx X cX6_inHopper "SweetWrapsModel" (some .int) 2 44 4 (QI (tE X) Q) := C
  show G X σ [(0, .ref (ad (tE X) 12 18 0)), (1, .int x1)] [] 0
  unfold wp_X6_inHopper at hw
  refine gx_iconst (v := (0 : Int32)) C dX6_inHopper_0 (by decide) ?_
  refine gx_istore_n (lv' := [(2, .int (0 : Int32)), (0, .ref (ad (tE X) 12 18 0)), (1, .int x1)]) C dX6_inHopper_1 (by decide) rfl ?_
  refine gx_iconst (v := (0 : Int32)) C dX6_inHopper_2 (by decide) ?_
  refine gx_istore_n (lv' := [(3, .int (0 : Int32)), (2, .int (0 : Int32)), (0, .ref (ad (tE X) 12 18 0)), (1, .int x1)]) C dX6_inHopper_3 (by decide) rfl ?_
  refine gx_sub (lv' := [(0, .ref (ad (tE X) 12 18 0)), (1, .int x1), (2, .int (0 : Int32)), (3, .int (0 : Int32))]) [2, 3, 1, 0] rfl ?_
  exact g_X6_inHopper_L4 C hw
theorem hy_X6_inHopper : yX6_inHopper.cls = "SweetWrapsModel" ∧ yX6_inHopper.cls ≠ "java/lang/invoke/MethodHandle" ∧ yX6_inHopper.cls ≠ "java/lang/invoke/VarHandle" ∧ (parseMethodDescriptor yX6_inHopper.desc).map (fun d => d.parameters.length) = some 1 := by decide +kernel

theorem dX6_takeSweet_0 : decode cX6_takeSweet 0 = .ok (.iconst 4, 1) := by decide +kernel
theorem dX6_takeSweet_1 : decode cX6_takeSweet 1 = .ok (.bipush 17, 2) := by decide +kernel
theorem dX6_takeSweet_3 : decode cX6_takeSweet 3 = .ok (.iload_n 1, 1) := by decide +kernel
theorem dX6_takeSweet_4 : decode cX6_takeSweet 4 = .ok (.imul, 1) := by decide +kernel
theorem dX6_takeSweet_5 : decode cX6_takeSweet 5 = .ok (.iadd, 1) := by decide +kernel
theorem dX6_takeSweet_6 : decode cX6_takeSweet 6 = .ok (.istore_n 2, 1) := by decide +kernel
theorem dX6_takeSweet_7 : decode cX6_takeSweet 7 = .ok (.aload_n 0, 1) := by decide +kernel
theorem dX6_takeSweet_8 : decode cX6_takeSweet 8 = .ok (.getfield 7, 3) := by decide +kernel
theorem dX6_takeSweet_11 : decode cX6_takeSweet 11 = .ok (.iload_n 2, 1) := by decide +kernel
theorem dX6_takeSweet_12 : decode cX6_takeSweet 12 = .ok (.iconst 2, 1) := by decide +kernel
theorem dX6_takeSweet_13 : decode cX6_takeSweet 13 = .ok (.iadd, 1) := by decide +kernel
theorem dX6_takeSweet_14 : decode cX6_takeSweet 14 = .ok (.dup2, 1) := by decide +kernel
theorem dX6_takeSweet_15 : decode cX6_takeSweet 15 = .ok (.iaload, 1) := by decide +kernel
theorem dX6_takeSweet_16 : decode cX6_takeSweet 16 = .ok (.iconst 1, 1) := by decide +kernel
theorem dX6_takeSweet_17 : decode cX6_takeSweet 17 = .ok (.isub, 1) := by decide +kernel
theorem dX6_takeSweet_18 : decode cX6_takeSweet 18 = .ok (.iastore, 1) := by decide +kernel
theorem dX6_takeSweet_19 : decode cX6_takeSweet 19 = .ok (.aload_n 0, 1) := by decide +kernel
theorem dX6_takeSweet_20 : decode cX6_takeSweet 20 = .ok (.getfield 7, 3) := by decide +kernel
theorem dX6_takeSweet_23 : decode cX6_takeSweet 23 = .ok (.iload_n 2, 1) := by decide +kernel
theorem dX6_takeSweet_24 : decode cX6_takeSweet 24 = .ok (.iconst 2, 1) := by decide +kernel
theorem dX6_takeSweet_25 : decode cX6_takeSweet 25 = .ok (.iadd, 1) := by decide +kernel
theorem dX6_takeSweet_26 : decode cX6_takeSweet 26 = .ok (.iaload, 1) := by decide +kernel
theorem dX6_takeSweet_27 : decode cX6_takeSweet 27 = .ok (.ifCond .ne 89, 3) := by decide +kernel
theorem dX6_takeSweet_30 : decode cX6_takeSweet 30 = .ok (.aload_n 0, 1) := by decide +kernel
theorem dX6_takeSweet_31 : decode cX6_takeSweet 31 = .ok (.getfield 7, 3) := by decide +kernel
theorem dX6_takeSweet_34 : decode cX6_takeSweet 34 = .ok (.iload_n 2, 1) := by decide +kernel
theorem dX6_takeSweet_35 : decode cX6_takeSweet 35 = .ok (.dup2, 1) := by decide +kernel
theorem dX6_takeSweet_36 : decode cX6_takeSweet 36 = .ok (.iaload, 1) := by decide +kernel
theorem dX6_takeSweet_37 : decode cX6_takeSweet 37 = .ok (.iconst 1, 1) := by decide +kernel
theorem dX6_takeSweet_38 : decode cX6_takeSweet 38 = .ok (.isub, 1) := by decide +kernel
theorem dX6_takeSweet_39 : decode cX6_takeSweet 39 = .ok (.iastore, 1) := by decide +kernel
theorem dX6_takeSweet_40 : decode cX6_takeSweet 40 = .ok (.iconst 0, 1) := by decide +kernel
theorem dX6_takeSweet_41 : decode cX6_takeSweet 41 = .ok (.istore_n 3, 1) := by decide +kernel
theorem dX6_takeSweet_42 : decode cX6_takeSweet 42 = .ok (.iload_n 3, 1) := by decide +kernel
theorem dX6_takeSweet_43 : decode cX6_takeSweet 43 = .ok (.iconst 2, 1) := by decide +kernel
theorem dX6_takeSweet_44 : decode cX6_takeSweet 44 = .ok (.aload_n 0, 1) := by decide +kernel
theorem dX6_takeSweet_45 : decode cX6_takeSweet 45 = .ok (.getfield 7, 3) := by decide +kernel
theorem dX6_takeSweet_48 : decode cX6_takeSweet 48 = .ok (.iload_n 2, 1) := by decide +kernel
theorem dX6_takeSweet_49 : decode cX6_takeSweet 49 = .ok (.iaload, 1) := by decide +kernel
theorem dX6_takeSweet_50 : decode cX6_takeSweet 50 = .ok (.imul, 1) := by decide +kernel
theorem dX6_takeSweet_51 : decode cX6_takeSweet 51 = .ok (.if_icmp .ge 29, 3) := by decide +kernel
theorem dX6_takeSweet_54 : decode cX6_takeSweet 54 = .ok (.aload_n 0, 1) := by decide +kernel
theorem dX6_takeSweet_55 : decode cX6_takeSweet 55 = .ok (.getfield 7, 3) := by decide +kernel
theorem dX6_takeSweet_58 : decode cX6_takeSweet 58 = .ok (.iload_n 2, 1) := by decide +kernel
theorem dX6_takeSweet_59 : decode cX6_takeSweet 59 = .ok (.iconst 1, 1) := by decide +kernel
theorem dX6_takeSweet_60 : decode cX6_takeSweet 60 = .ok (.iadd, 1) := by decide +kernel
theorem dX6_takeSweet_61 : decode cX6_takeSweet 61 = .ok (.iload_n 3, 1) := by decide +kernel
theorem dX6_takeSweet_62 : decode cX6_takeSweet 62 = .ok (.iadd, 1) := by decide +kernel
theorem dX6_takeSweet_63 : decode cX6_takeSweet 63 = .ok (.aload_n 0, 1) := by decide +kernel
theorem dX6_takeSweet_64 : decode cX6_takeSweet 64 = .ok (.getfield 7, 3) := by decide +kernel
theorem dX6_takeSweet_67 : decode cX6_takeSweet 67 = .ok (.iload_n 2, 1) := by decide +kernel
theorem dX6_takeSweet_68 : decode cX6_takeSweet 68 = .ok (.iconst 3, 1) := by decide +kernel
theorem dX6_takeSweet_69 : decode cX6_takeSweet 69 = .ok (.iadd, 1) := by decide +kernel
theorem dX6_takeSweet_70 : decode cX6_takeSweet 70 = .ok (.iload_n 3, 1) := by decide +kernel
theorem dX6_takeSweet_71 : decode cX6_takeSweet 71 = .ok (.iadd, 1) := by decide +kernel
theorem dX6_takeSweet_72 : decode cX6_takeSweet 72 = .ok (.iaload, 1) := by decide +kernel
theorem dX6_takeSweet_73 : decode cX6_takeSweet 73 = .ok (.iastore, 1) := by decide +kernel
theorem dX6_takeSweet_74 : decode cX6_takeSweet 74 = .ok (.iinc 3 1, 3) := by decide +kernel
theorem dX6_takeSweet_77 : decode cX6_takeSweet 77 = .ok (.goto (-35), 3) := by decide +kernel
theorem dX6_takeSweet_80 : decode cX6_takeSweet 80 = .ok (.aload_n 0, 1) := by decide +kernel
theorem dX6_takeSweet_81 : decode cX6_takeSweet 81 = .ok (.getfield 7, 3) := by decide +kernel
theorem dX6_takeSweet_84 : decode cX6_takeSweet 84 = .ok (.iload_n 2, 1) := by decide +kernel
theorem dX6_takeSweet_85 : decode cX6_takeSweet 85 = .ok (.iconst 1, 1) := by decide +kernel
theorem dX6_takeSweet_86 : decode cX6_takeSweet 86 = .ok (.iadd, 1) := by decide +kernel
theorem dX6_takeSweet_87 : decode cX6_takeSweet 87 = .ok (.iconst 2, 1) := by decide +kernel
theorem dX6_takeSweet_88 : decode cX6_takeSweet 88 = .ok (.aload_n 0, 1) := by decide +kernel
theorem dX6_takeSweet_89 : decode cX6_takeSweet 89 = .ok (.getfield 7, 3) := by decide +kernel
theorem dX6_takeSweet_92 : decode cX6_takeSweet 92 = .ok (.iload_n 2, 1) := by decide +kernel
theorem dX6_takeSweet_93 : decode cX6_takeSweet 93 = .ok (.iaload, 1) := by decide +kernel
theorem dX6_takeSweet_94 : decode cX6_takeSweet 94 = .ok (.imul, 1) := by decide +kernel
theorem dX6_takeSweet_95 : decode cX6_takeSweet 95 = .ok (.iadd, 1) := by decide +kernel
theorem dX6_takeSweet_96 : decode cX6_takeSweet 96 = .ok (.iconst 0, 1) := by decide +kernel
theorem dX6_takeSweet_97 : decode cX6_takeSweet 97 = .ok (.iastore, 1) := by decide +kernel
theorem dX6_takeSweet_98 : decode cX6_takeSweet 98 = .ok (.aload_n 0, 1) := by decide +kernel
theorem dX6_takeSweet_99 : decode cX6_takeSweet 99 = .ok (.getfield 7, 3) := by decide +kernel
theorem dX6_takeSweet_102 : decode cX6_takeSweet 102 = .ok (.iload_n 2, 1) := by decide +kernel
theorem dX6_takeSweet_103 : decode cX6_takeSweet 103 = .ok (.iconst 2, 1) := by decide +kernel
theorem dX6_takeSweet_104 : decode cX6_takeSweet 104 = .ok (.iadd, 1) := by decide +kernel
theorem dX6_takeSweet_105 : decode cX6_takeSweet 105 = .ok (.iconst 2, 1) := by decide +kernel
theorem dX6_takeSweet_106 : decode cX6_takeSweet 106 = .ok (.aload_n 0, 1) := by decide +kernel
theorem dX6_takeSweet_107 : decode cX6_takeSweet 107 = .ok (.getfield 7, 3) := by decide +kernel
theorem dX6_takeSweet_110 : decode cX6_takeSweet 110 = .ok (.iload_n 2, 1) := by decide +kernel
theorem dX6_takeSweet_111 : decode cX6_takeSweet 111 = .ok (.iaload, 1) := by decide +kernel
theorem dX6_takeSweet_112 : decode cX6_takeSweet 112 = .ok (.imul, 1) := by decide +kernel
theorem dX6_takeSweet_113 : decode cX6_takeSweet 113 = .ok (.iadd, 1) := by decide +kernel
theorem dX6_takeSweet_114 : decode cX6_takeSweet 114 = .ok (.iconst 0, 1) := by decide +kernel
theorem dX6_takeSweet_115 : decode cX6_takeSweet 115 = .ok (.iastore, 1) := by decide +kernel
theorem dX6_takeSweet_116 : decode cX6_takeSweet 116 = .ok (.return_, 1) := by decide +kernel
def st_X6_takeSweet_L42 (x1 : Int32) (Q : Sg → Prop) (K42 : Int32 → Int32 → Sg → Prop) (v2 : Int32) (v3 : Int32) (σ : Sg) : Prop := (vp_in v2 194 ∧ ((((2 : Int32) * (σ 12 19 0 v2.toNatClampNeg)) ≤ v3 → (vp_in v2 194 ∧ (vp_in ((v2 + (1 : Int32)) + ((2 : Int32) * (σ 12 19 0 v2.toNatClampNeg))) 194 ∧ ∀ σ7 : Sg, σ7 = up σ 12 19 0 ((v2 + (1 : Int32)) + ((2 : Int32) * (σ 12 19 0 v2.toNatClampNeg))).toNatClampNeg (0 : Int32) → (vp_in v2 194 ∧ (vp_in ((v2 + (2 : Int32)) + ((2 : Int32) * (σ7 12 19 0 v2.toNatClampNeg))) 194 ∧ ∀ σ8 : Sg, σ8 = up σ7 12 19 0 ((v2 + (2 : Int32)) + ((2 : Int32) * (σ7 12 19 0 v2.toNatClampNeg))).toNatClampNeg (0 : Int32) → Q σ8))))) ∧ (¬ ((2 : Int32) * (σ 12 19 0 v2.toNatClampNeg)) ≤ v3 → (vp_in ((v2 + (3 : Int32)) + v3) 194 ∧ (vp_in ((v2 + (1 : Int32)) + v3) 194 ∧ ∀ σ9 : Sg, σ9 = up σ 12 19 0 ((v2 + (1 : Int32)) + v3).toNatClampNeg (σ 12 19 0 ((v2 + (3 : Int32)) + v3).toNatClampNeg) → ∀ z10 : Int32, z10 = v3 + (1 : Int32) → K42 v2 z10 σ9)))))
def wp_X6_takeSweet_L42 (x1 : Int32) (Q : Sg → Prop) (v2 : Int32) (v3 : Int32) (σ : Sg) : Prop := ∃ n : Nat, lpN (fun (K : Int32 × Int32 × Sg → Prop) (a : Int32 × Int32 × Sg) => st_X6_takeSweet_L42 x1 Q (fun v2 v3 σ => K (v2, v3, σ)) (a.1) (a.2.1) (a.2.2)) n (v2, v3, σ)
set_option maxRecDepth 100000 in
set_option maxHeartbeats 4000000 in
theorem gs_X6_takeSweet_L42 {X : Tx} {Q : Sg → Prop} (C : Cx X cX6_takeSweet "SweetWrapsModel" none 0 0 4 (QV (tE X) Q)) {x1 : Int32} {K42 : Int32 → Int32 → Sg → Prop} (hK42 : ∀ (v2 : Int32) (v3 : Int32) (σ : Sg), K42 v2 v3 σ → G X σ [(0, .ref (ad (tE X) 12 18 0)), (2, .int v2), (3, .int v3)] [] 42) {v2 : Int32} {v3 : Int32} {σ : Sg} (hw : st_X6_takeSweet_L42 x1 Q K42 v2 v3 σ) : G X σ [(0, .ref (ad (tE X) 12 18 0)), (2, .int v2), (3, .int v3)] [] 42 := by
  unfold st_X6_takeSweet_L42 at hw
  refine gx_iload_n C dX6_takeSweet_42 2 rfl ?_
  refine gx_iconst (v := (2 : Int32)) C dX6_takeSweet_43 (by decide) ?_
  refine gx_aload_n C dX6_takeSweet_44 0 rfl ?_
  refine gx_get C okg_18 rfl rfl inX6 (ref := "SweetWrapsModel") 0 (by decide) bw_673 rfl rfl dX6_takeSweet_45 ?_
  refine gx_iload_n C dX6_takeSweet_48 1 rfl ?_
  refine gx_iald C okg_19 rfl hw.1 _ rfl dX6_takeSweet_49 ?_
  replace hw := hw.2
  refine gx_imul C dX6_takeSweet_50 ?_
  refine gx_icmp_ge (tgt := 80) C dX6_takeSweet_51 (by decide) (fun c6 => ?_) (fun c6 => ?_)
  · replace hw := hw.1 c6
    refine gx_aload_n C dX6_takeSweet_80 0 rfl ?_
    refine gx_get C okg_18 rfl rfl inX6 (ref := "SweetWrapsModel") 0 (by decide) bw_673 rfl rfl dX6_takeSweet_81 ?_
    refine gx_iload_n C dX6_takeSweet_84 1 rfl ?_
    refine gx_iconst (v := (1 : Int32)) C dX6_takeSweet_85 (by decide) ?_
    refine gx_iadd C dX6_takeSweet_86 ?_
    refine gx_iconst (v := (2 : Int32)) C dX6_takeSweet_87 (by decide) ?_
    refine gx_aload_n C dX6_takeSweet_88 0 rfl ?_
    refine gx_get C okg_18 rfl rfl inX6 (ref := "SweetWrapsModel") 0 (by decide) bw_673 rfl rfl dX6_takeSweet_89 ?_
    refine gx_iload_n C dX6_takeSweet_92 1 rfl ?_
    refine gx_iald C okg_19 rfl hw.1 _ rfl dX6_takeSweet_93 ?_
    replace hw := hw.2
    refine gx_imul C dX6_takeSweet_94 ?_
    refine gx_iadd C dX6_takeSweet_95 ?_
    refine gx_iconst (v := (0 : Int32)) C dX6_takeSweet_96 (by decide) ?_
    refine gx_iast C okg_19 (fun _ => rfl) hw.1 _ rfl rfl dX6_takeSweet_97 ?_
    replace hw := hw.2
    obtain ⟨σ7, e_σ7⟩ : ∃ z : Sg, z = up σ 12 19 0 ((v2 + (1 : Int32)) + ((2 : Int32) * (σ 12 19 0 v2.toNatClampNeg))).toNatClampNeg (0 : Int32) := ⟨_, rfl⟩
    replace hw := hw σ7 e_σ7
    refine gx_st e_σ7 ?_
    refine gx_aload_n C dX6_takeSweet_98 0 rfl ?_
    refine gx_get C okg_18 rfl rfl inX6 (ref := "SweetWrapsModel") 0 (by decide) bw_673 rfl rfl dX6_takeSweet_99 ?_
    refine gx_iload_n C dX6_takeSweet_102 1 rfl ?_
    refine gx_iconst (v := (2 : Int32)) C dX6_takeSweet_103 (by decide) ?_
    refine gx_iadd C dX6_takeSweet_104 ?_
    refine gx_iconst (v := (2 : Int32)) C dX6_takeSweet_105 (by decide) ?_
    refine gx_aload_n C dX6_takeSweet_106 0 rfl ?_
    refine gx_get C okg_18 rfl rfl inX6 (ref := "SweetWrapsModel") 0 (by decide) bw_673 rfl rfl dX6_takeSweet_107 ?_
    refine gx_iload_n C dX6_takeSweet_110 1 rfl ?_
    refine gx_iald C okg_19 rfl hw.1 _ rfl dX6_takeSweet_111 ?_
    replace hw := hw.2
    refine gx_imul C dX6_takeSweet_112 ?_
    refine gx_iadd C dX6_takeSweet_113 ?_
    refine gx_iconst (v := (0 : Int32)) C dX6_takeSweet_114 (by decide) ?_
    refine gx_iast C okg_19 (fun _ => rfl) hw.1 _ rfl rfl dX6_takeSweet_115 ?_
    replace hw := hw.2
    obtain ⟨σ8, e_σ8⟩ : ∃ z : Sg, z = up σ7 12 19 0 ((v2 + (2 : Int32)) + ((2 : Int32) * (σ7 12 19 0 v2.toNatClampNeg))).toNatClampNeg (0 : Int32) := ⟨_, rfl⟩
    replace hw := hw σ8 e_σ8
    refine gx_st e_σ8 ?_
    exact gx_vret C dX6_takeSweet_116 hw
  · replace hw := hw.2 c6
    refine gx_aload_n C dX6_takeSweet_54 0 rfl ?_
    refine gx_get C okg_18 rfl rfl inX6 (ref := "SweetWrapsModel") 0 (by decide) bw_673 rfl rfl dX6_takeSweet_55 ?_
    refine gx_iload_n C dX6_takeSweet_58 1 rfl ?_
    refine gx_iconst (v := (1 : Int32)) C dX6_takeSweet_59 (by decide) ?_
    refine gx_iadd C dX6_takeSweet_60 ?_
    refine gx_iload_n C dX6_takeSweet_61 2 rfl ?_
    refine gx_iadd C dX6_takeSweet_62 ?_
    refine gx_aload_n C dX6_takeSweet_63 0 rfl ?_
    refine gx_get C okg_18 rfl rfl inX6 (ref := "SweetWrapsModel") 0 (by decide) bw_673 rfl rfl dX6_takeSweet_64 ?_
    refine gx_iload_n C dX6_takeSweet_67 1 rfl ?_
    refine gx_iconst (v := (3 : Int32)) C dX6_takeSweet_68 (by decide) ?_
    refine gx_iadd C dX6_takeSweet_69 ?_
    refine gx_iload_n C dX6_takeSweet_70 2 rfl ?_
    refine gx_iadd C dX6_takeSweet_71 ?_
    refine gx_iald C okg_19 rfl hw.1 _ rfl dX6_takeSweet_72 ?_
    replace hw := hw.2
    refine gx_iast C okg_19 (fun _ => rfl) hw.1 _ rfl rfl dX6_takeSweet_73 ?_
    replace hw := hw.2
    obtain ⟨σ9, e_σ9⟩ : ∃ z : Sg, z = up σ 12 19 0 ((v2 + (1 : Int32)) + v3).toNatClampNeg (σ 12 19 0 ((v2 + (3 : Int32)) + v3).toNatClampNeg) := ⟨_, rfl⟩
    replace hw := hw σ9 e_σ9
    refine gx_st e_σ9 ?_
    obtain ⟨z10, e_z10⟩ : ∃ z : Int32, z = v3 + (1 : Int32) := ⟨_, rfl⟩
    replace hw := hw z10 e_z10
    refine gx_iinc (v := z10) (lv' := [(3, .int z10), (0, .ref (ad (tE X) 12 18 0)), (2, .int v2)]) C dX6_takeSweet_74 2 rfl (by rw [e_z10]; rfl) (by decide) rfl ?_
    refine gx_goto (tgt := 42) C dX6_takeSweet_77 (by decide) ?_
    refine gx_sub (lv' := [(0, .ref (ad (tE X) 12 18 0)), (2, .int v2), (3, .int z10)]) [1, 2, 0] rfl ?_
    exact hK42 _ _ _ hw
set_option maxRecDepth 100000 in
set_option maxHeartbeats 4000000 in
theorem g_X6_takeSweet_L42 {X : Tx} {Q : Sg → Prop} (C : Cx X cX6_takeSweet "SweetWrapsModel" none 0 0 4 (QV (tE X) Q)) {x1 : Int32} {v2 : Int32} {v3 : Int32} {σ : Sg} (hw : wp_X6_takeSweet_L42 x1 Q v2 v3 σ) : G X σ [(0, .ref (ad (tE X) 12 18 0)), (2, .int v2), (3, .int v3)] [] 42 := by
  obtain ⟨n, hw⟩ := hw
  exact lpN_G (P := (fun (a : Int32 × Int32 × Sg) => G X (a.2.2) [(0, .ref (ad (tE X) 12 18 0)), (2, .int (a.1)), (3, .int (a.2.1))] [] 42)) (fun K a hK h => gs_X6_takeSweet_L42 C (fun v2 v3 σ h => hK (v2, v3, σ) h) h) n _ hw
def wp_X6_takeSweet (x1 : Int32) (σ : Sg) (Q : Sg → Prop) : Prop := ∀ z1 : Int32, z1 = ((4 : Int32) + ((17 : Int32) * x1)) → ∀ z2 : Int32, z2 = (z1 + (2 : Int32)) → (vp_in z2 194 ∧ (vp_in z2 194 ∧ ∀ σ3 : Sg, σ3 = up σ 12 19 0 z2.toNatClampNeg ((σ 12 19 0 z2.toNatClampNeg) - (1 : Int32)) → (vp_in (z1 + (2 : Int32)) 194 ∧ ((¬ (σ3 12 19 0 (z1 + (2 : Int32)).toNatClampNeg) = 0 → Q σ3) ∧ ((σ3 12 19 0 (z1 + (2 : Int32)).toNatClampNeg) = 0 → (vp_in z1 194 ∧ (vp_in z1 194 ∧ ∀ σ5 : Sg, σ5 = up σ3 12 19 0 z1.toNatClampNeg ((σ3 12 19 0 z1.toNatClampNeg) - (1 : Int32)) → wp_X6_takeSweet_L42 x1 Q z1 (0 : Int32) σ5)))))))
set_option maxRecDepth 100000 in
set_option maxHeartbeats 4000000 in
theorem c_X6_takeSweet (l : Launch) (E : Ev) {x1 : Int32} {σ : Sg} {Q : Sg → Prop} (hw : wp_X6_takeSweet x1 σ Q) : CT l E yX6_takeSweet cX6_takeSweet 4 none 0 0 [.ref (ad E 12 18 0), .int x1] σ (QV E Q) := by
  refine CT_of (by decide) (Nat.le_of_ble_eq_true rfl) (fun X h1 h2 C => ?_)
  subst h1; subst h2
  have C : Cx X cX6_takeSweet "SweetWrapsModel" none 0 0 4 (QV (tE X) Q) := C
  show G X σ [(0, .ref (ad (tE X) 12 18 0)), (1, .int x1)] [] 0
  unfold wp_X6_takeSweet at hw
  refine gx_iconst (v := (4 : Int32)) C dX6_takeSweet_0 (by decide) ?_
  refine gx_bipush (v := (17 : Int32)) C dX6_takeSweet_1 (by decide) ?_
  refine gx_iload_n C dX6_takeSweet_3 1 rfl ?_
  refine gx_imul C dX6_takeSweet_4 ?_
  refine gx_iadd C dX6_takeSweet_5 ?_
  obtain ⟨z1, e_z1⟩ : ∃ z : Int32, z = ((4 : Int32) + ((17 : Int32) * x1)) := ⟨_, rfl⟩
  replace hw := hw z1 e_z1
  refine gx_top e_z1 ?_
  refine gx_istore_n (lv' := [(2, .int z1), (0, .ref (ad (tE X) 12 18 0)), (1, .int x1)]) C dX6_takeSweet_6 (by decide) rfl ?_
  refine gx_aload_n C dX6_takeSweet_7 1 rfl ?_
  refine gx_get C okg_18 rfl rfl inX6 (ref := "SweetWrapsModel") 0 (by decide) bw_673 rfl rfl dX6_takeSweet_8 ?_
  refine gx_iload_n C dX6_takeSweet_11 0 rfl ?_
  refine gx_iconst (v := (2 : Int32)) C dX6_takeSweet_12 (by decide) ?_
  refine gx_iadd C dX6_takeSweet_13 ?_
  obtain ⟨z2, e_z2⟩ : ∃ z : Int32, z = (z1 + (2 : Int32)) := ⟨_, rfl⟩
  replace hw := hw z2 e_z2
  refine gx_top e_z2 ?_
  refine gx_dup2 C dX6_takeSweet_14 rfl rfl ?_
  refine gx_iald C okg_19 rfl hw.1 _ rfl dX6_takeSweet_15 ?_
  replace hw := hw.2
  refine gx_iconst (v := (1 : Int32)) C dX6_takeSweet_16 (by decide) ?_
  refine gx_isub C dX6_takeSweet_17 ?_
  refine gx_iast C okg_19 (fun _ => rfl) hw.1 _ rfl rfl dX6_takeSweet_18 ?_
  replace hw := hw.2
  obtain ⟨σ3, e_σ3⟩ : ∃ z : Sg, z = up σ 12 19 0 z2.toNatClampNeg ((σ 12 19 0 z2.toNatClampNeg) - (1 : Int32)) := ⟨_, rfl⟩
  replace hw := hw σ3 e_σ3
  refine gx_st e_σ3 ?_
  refine gx_aload_n C dX6_takeSweet_19 1 rfl ?_
  refine gx_get C okg_18 rfl rfl inX6 (ref := "SweetWrapsModel") 0 (by decide) bw_673 rfl rfl dX6_takeSweet_20 ?_
  refine gx_iload_n C dX6_takeSweet_23 0 rfl ?_
  refine gx_iconst (v := (2 : Int32)) C dX6_takeSweet_24 (by decide) ?_
  refine gx_iadd C dX6_takeSweet_25 ?_
  refine gx_iald C okg_19 rfl hw.1 _ rfl dX6_takeSweet_26 ?_
  replace hw := hw.2
  refine gx_if_ne (tgt := 116) C dX6_takeSweet_27 (by decide) (fun c4 => ?_) (fun c4 => ?_)
  · replace hw := hw.1 c4
    exact gx_vret C dX6_takeSweet_116 hw
  · replace hw := hw.2 c4
    refine gx_aload_n C dX6_takeSweet_30 1 rfl ?_
    refine gx_get C okg_18 rfl rfl inX6 (ref := "SweetWrapsModel") 0 (by decide) bw_673 rfl rfl dX6_takeSweet_31 ?_
    refine gx_iload_n C dX6_takeSweet_34 0 rfl ?_
    refine gx_dup2 C dX6_takeSweet_35 rfl rfl ?_
    refine gx_iald C okg_19 rfl hw.1 _ rfl dX6_takeSweet_36 ?_
    replace hw := hw.2
    refine gx_iconst (v := (1 : Int32)) C dX6_takeSweet_37 (by decide) ?_
    refine gx_isub C dX6_takeSweet_38 ?_
    refine gx_iast C okg_19 (fun _ => rfl) hw.1 _ rfl rfl dX6_takeSweet_39 ?_
    replace hw := hw.2
    obtain ⟨σ5, e_σ5⟩ : ∃ z : Sg, z = up σ3 12 19 0 z1.toNatClampNeg ((σ3 12 19 0 z1.toNatClampNeg) - (1 : Int32)) := ⟨_, rfl⟩
    replace hw := hw σ5 e_σ5
    refine gx_st e_σ5 ?_
    refine gx_iconst (v := (0 : Int32)) C dX6_takeSweet_40 (by decide) ?_
    refine gx_istore_n (lv' := [(3, .int (0 : Int32)), (2, .int z1), (0, .ref (ad (tE X) 12 18 0)), (1, .int x1)]) C dX6_takeSweet_41 (by decide) rfl ?_
    refine gx_sub (lv' := [(0, .ref (ad (tE X) 12 18 0)), (2, .int z1), (3, .int (0 : Int32))]) [2, 1, 0] rfl ?_
    exact g_X6_takeSweet_L42 C hw
theorem hy_X6_takeSweet : yX6_takeSweet.cls = "SweetWrapsModel" ∧ yX6_takeSweet.cls ≠ "java/lang/invoke/MethodHandle" ∧ yX6_takeSweet.cls ≠ "java/lang/invoke/VarHandle" ∧ (parseMethodDescriptor yX6_takeSweet.desc).map (fun d => d.parameters.length) = some 1 := by decide +kernel

theorem dX6_inside_0 : decode cX6_inside 0 = .ok (.aload_n 0, 1) := by decide +kernel
theorem dX6_inside_1 : decode cX6_inside 1 = .ok (.getfield 7, 3) := by decide +kernel
theorem dX6_inside_4 : decode cX6_inside 4 = .ok (.bipush 73, 2) := by decide +kernel
theorem dX6_inside_6 : decode cX6_inside 6 = .ok (.bipush 7, 2) := by decide +kernel
theorem dX6_inside_8 : decode cX6_inside 8 = .ok (.iload_n 1, 1) := by decide +kernel
theorem dX6_inside_9 : decode cX6_inside 9 = .ok (.imul, 1) := by decide +kernel
theorem dX6_inside_10 : decode cX6_inside 10 = .ok (.iadd, 1) := by decide +kernel
theorem dX6_inside_11 : decode cX6_inside 11 = .ok (.iconst 1, 1) := by decide +kernel
theorem dX6_inside_12 : decode cX6_inside 12 = .ok (.iadd, 1) := by decide +kernel
theorem dX6_inside_13 : decode cX6_inside 13 = .ok (.iload_n 2, 1) := by decide +kernel
theorem dX6_inside_14 : decode cX6_inside 14 = .ok (.iadd, 1) := by decide +kernel
theorem dX6_inside_15 : decode cX6_inside 15 = .ok (.iaload, 1) := by decide +kernel
theorem dX6_inside_16 : decode cX6_inside 16 = .ok (.ireturn, 1) := by decide +kernel
def wp_X6_inside (x1 : Int32) (x2 : Int32) (σ : Sg) (Q : Int32 → Sg → Prop) : Prop := (vp_in ((((73 : Int32) + ((7 : Int32) * x1)) + (1 : Int32)) + x2) 194 ∧ Q (σ 12 19 0 ((((73 : Int32) + ((7 : Int32) * x1)) + (1 : Int32)) + x2).toNatClampNeg) σ)
set_option maxRecDepth 100000 in
set_option maxHeartbeats 4000000 in
theorem c_X6_inside (l : Launch) (E : Ev) {x1 : Int32} {x2 : Int32} {σ : Sg} {Q : Int32 → Sg → Prop} (hw : wp_X6_inside x1 x2 σ Q) : CT l E yX6_inside cX6_inside 3 (some .int) 0 0 [.ref (ad E 12 18 0), .int x1, .int x2] σ (QI E Q) := by
  refine CT_of (by decide) (Nat.le_of_ble_eq_true rfl) (fun X h1 h2 C => ?_)
  subst h1; subst h2
  have C : Cx X cX6_inside "SweetWrapsModel" (some .int) 0 0 3 (QI (tE X) Q) := C
  show G X σ [(0, .ref (ad (tE X) 12 18 0)), (1, .int x1), (2, .int x2)] [] 0
  unfold wp_X6_inside at hw
  refine gx_aload_n C dX6_inside_0 0 rfl ?_
  refine gx_get C okg_18 rfl rfl inX6 (ref := "SweetWrapsModel") 0 (by decide) bw_673 rfl rfl dX6_inside_1 ?_
  refine gx_bipush (v := (73 : Int32)) C dX6_inside_4 (by decide) ?_
  refine gx_bipush (v := (7 : Int32)) C dX6_inside_6 (by decide) ?_
  refine gx_iload_n C dX6_inside_8 1 rfl ?_
  refine gx_imul C dX6_inside_9 ?_
  refine gx_iadd C dX6_inside_10 ?_
  refine gx_iconst (v := (1 : Int32)) C dX6_inside_11 (by decide) ?_
  refine gx_iadd C dX6_inside_12 ?_
  refine gx_iload_n C dX6_inside_13 2 rfl ?_
  refine gx_iadd C dX6_inside_14 ?_
  refine gx_iald C okg_19 rfl hw.1 _ rfl dX6_inside_15 ?_
  replace hw := hw.2
  exact gx_iret C rfl rfl dX6_inside_16 hw
theorem hy_X6_inside : yX6_inside.cls = "SweetWrapsModel" ∧ yX6_inside.cls ≠ "java/lang/invoke/MethodHandle" ∧ yX6_inside.cls ≠ "java/lang/invoke/VarHandle" ∧ (parseMethodDescriptor yX6_inside.desc).map (fun d => d.parameters.length) = some 2 := by decide +kernel

theorem dX6_isShipped_0 : decode cX6_isShipped 0 = .ok (.aload_n 0, 1) := by decide +kernel
theorem dX6_isShipped_1 : decode cX6_isShipped 1 = .ok (.getfield 7, 3) := by decide +kernel
theorem dX6_isShipped_4 : decode cX6_isShipped 4 = .ok (.bipush 73, 2) := by decide +kernel
theorem dX6_isShipped_6 : decode cX6_isShipped 6 = .ok (.bipush 7, 2) := by decide +kernel
theorem dX6_isShipped_8 : decode cX6_isShipped 8 = .ok (.iload_n 1, 1) := by decide +kernel
theorem dX6_isShipped_9 : decode cX6_isShipped 9 = .ok (.imul, 1) := by decide +kernel
theorem dX6_isShipped_10 : decode cX6_isShipped 10 = .ok (.iadd, 1) := by decide +kernel
theorem dX6_isShipped_11 : decode cX6_isShipped 11 = .ok (.iaload, 1) := by decide +kernel
theorem dX6_isShipped_12 : decode cX6_isShipped 12 = .ok (.iconst 1, 1) := by decide +kernel
theorem dX6_isShipped_13 : decode cX6_isShipped 13 = .ok (.if_icmp .ne 7, 3) := by decide +kernel
theorem dX6_isShipped_16 : decode cX6_isShipped 16 = .ok (.iconst 1, 1) := by decide +kernel
theorem dX6_isShipped_17 : decode cX6_isShipped 17 = .ok (.goto 4, 3) := by decide +kernel
theorem dX6_isShipped_20 : decode cX6_isShipped 20 = .ok (.iconst 0, 1) := by decide +kernel
theorem dX6_isShipped_21 : decode cX6_isShipped 21 = .ok (.ireturn, 1) := by decide +kernel
def wp_X6_isShipped (x1 : Int32) (σ : Sg) (Q : Int32 → Sg → Prop) : Prop := (vp_in ((73 : Int32) + ((7 : Int32) * x1)) 194 ∧ ((¬ (σ 12 19 0 ((73 : Int32) + ((7 : Int32) * x1)).toNatClampNeg) = (1 : Int32) → Q (0 : Int32) σ) ∧ ((σ 12 19 0 ((73 : Int32) + ((7 : Int32) * x1)).toNatClampNeg) = (1 : Int32) → Q (1 : Int32) σ)))
set_option maxRecDepth 100000 in
set_option maxHeartbeats 4000000 in
theorem c_X6_isShipped (l : Launch) (E : Ev) {x1 : Int32} {σ : Sg} {Q : Int32 → Sg → Prop} (hw : wp_X6_isShipped x1 σ Q) : CT l E yX6_isShipped cX6_isShipped 2 (some .boolean) 0 0 [.ref (ad E 12 18 0), .int x1] σ (QI E Q) := by
  refine CT_of (by decide) (Nat.le_of_ble_eq_true rfl) (fun X h1 h2 C => ?_)
  subst h1; subst h2
  have C : Cx X cX6_isShipped "SweetWrapsModel" (some .boolean) 0 0 2 (QI (tE X) Q) := C
  show G X σ [(0, .ref (ad (tE X) 12 18 0)), (1, .int x1)] [] 0
  unfold wp_X6_isShipped at hw
  refine gx_aload_n C dX6_isShipped_0 0 rfl ?_
  refine gx_get C okg_18 rfl rfl inX6 (ref := "SweetWrapsModel") 0 (by decide) bw_673 rfl rfl dX6_isShipped_1 ?_
  refine gx_bipush (v := (73 : Int32)) C dX6_isShipped_4 (by decide) ?_
  refine gx_bipush (v := (7 : Int32)) C dX6_isShipped_6 (by decide) ?_
  refine gx_iload_n C dX6_isShipped_8 1 rfl ?_
  refine gx_imul C dX6_isShipped_9 ?_
  refine gx_iadd C dX6_isShipped_10 ?_
  refine gx_iald C okg_19 rfl hw.1 _ rfl dX6_isShipped_11 ?_
  replace hw := hw.2
  refine gx_iconst (v := (1 : Int32)) C dX6_isShipped_12 (by decide) ?_
  refine gx_icmp_ne (tgt := 20) C dX6_isShipped_13 (by decide) (fun c1 => ?_) (fun c1 => ?_)
  · replace hw := hw.1 c1
    refine gx_iconst (v := (0 : Int32)) C dX6_isShipped_20 (by decide) ?_
    exact gx_iret C rfl rfl dX6_isShipped_21 hw
  · replace hw := hw.2 c1
    refine gx_iconst (v := (1 : Int32)) C dX6_isShipped_16 (by decide) ?_
    refine gx_goto (tgt := 21) C dX6_isShipped_17 (by decide) ?_
    exact gx_iret C rfl rfl dX6_isShipped_21 hw
theorem hy_X6_isShipped : yX6_isShipped.cls = "SweetWrapsModel" ∧ yX6_isShipped.cls ≠ "java/lang/invoke/MethodHandle" ∧ yX6_isShipped.cls ≠ "java/lang/invoke/VarHandle" ∧ (parseMethodDescriptor yX6_isShipped.desc).map (fun d => d.parameters.length) = some 1 := by decide +kernel

theorem dX6_sweets_0 : decode cX6_sweets 0 = .ok (.iconst 0, 1) := by decide +kernel
theorem dX6_sweets_1 : decode cX6_sweets 1 = .ok (.istore_n 2, 1) := by decide +kernel
theorem dX6_sweets_2 : decode cX6_sweets 2 = .ok (.iconst 0, 1) := by decide +kernel
theorem dX6_sweets_3 : decode cX6_sweets 3 = .ok (.istore_n 3, 1) := by decide +kernel
theorem dX6_sweets_4 : decode cX6_sweets 4 = .ok (.iload_n 3, 1) := by decide +kernel
theorem dX6_sweets_5 : decode cX6_sweets 5 = .ok (.bipush 6, 2) := by decide +kernel
theorem dX6_sweets_7 : decode cX6_sweets 7 = .ok (.if_icmp .ge 18, 3) := by decide +kernel
theorem dX6_sweets_10 : decode cX6_sweets 10 = .ok (.iload_n 2, 1) := by decide +kernel
theorem dX6_sweets_11 : decode cX6_sweets 11 = .ok (.aload_n 0, 1) := by decide +kernel
theorem dX6_sweets_12 : decode cX6_sweets 12 = .ok (.iload_n 1, 1) := by decide +kernel
theorem dX6_sweets_13 : decode cX6_sweets 13 = .ok (.iload_n 3, 1) := by decide +kernel
theorem dX6_sweets_14 : decode cX6_sweets 14 = .ok (.invokevirtual 47, 3) := by decide +kernel
theorem dX6_sweets_17 : decode cX6_sweets 17 = .ok (.iadd, 1) := by decide +kernel
theorem dX6_sweets_18 : decode cX6_sweets 18 = .ok (.istore_n 2, 1) := by decide +kernel
theorem dX6_sweets_19 : decode cX6_sweets 19 = .ok (.iinc 3 1, 3) := by decide +kernel
theorem dX6_sweets_22 : decode cX6_sweets 22 = .ok (.goto (-18), 3) := by decide +kernel
theorem dX6_sweets_25 : decode cX6_sweets 25 = .ok (.iload_n 2, 1) := by decide +kernel
theorem dX6_sweets_26 : decode cX6_sweets 26 = .ok (.ireturn, 1) := by decide +kernel
def st_X6_sweets_L4 (x1 : Int32) (Q : Int32 → Sg → Prop) (K4 : Int32 → Int32 → Sg → Prop) (v2 : Int32) (v3 : Int32) (σ : Sg) : Prop := (((6 : Int32) ≤ v3 → Q v2 σ) ∧ (¬ (6 : Int32) ≤ v3 → wp_X6_inside x1 v3 σ (fun r2 σ3 => ∀ z4 : Int32, z4 = (v2 + r2) → ∀ z5 : Int32, z5 = v3 + (1 : Int32) → K4 z4 z5 σ3)))
def wp_X6_sweets_L4 (x1 : Int32) (Q : Int32 → Sg → Prop) (v2 : Int32) (v3 : Int32) (σ : Sg) : Prop := ∃ n : Nat, lpN (fun (K : Int32 × Int32 × Sg → Prop) (a : Int32 × Int32 × Sg) => st_X6_sweets_L4 x1 Q (fun v2 v3 σ => K (v2, v3, σ)) (a.1) (a.2.1) (a.2.2)) n (v2, v3, σ)
set_option maxRecDepth 100000 in
set_option maxHeartbeats 4000000 in
theorem gs_X6_sweets_L4 {X : Tx} {Q : Int32 → Sg → Prop} (C : Cx X cX6_sweets "SweetWrapsModel" (some .int) 1 22 4 (QI (tE X) Q)) {x1 : Int32} {K4 : Int32 → Int32 → Sg → Prop} (hK4 : ∀ (v2 : Int32) (v3 : Int32) (σ : Sg), K4 v2 v3 σ → G X σ [(0, .ref (ad (tE X) 12 18 0)), (1, .int x1), (2, .int v2), (3, .int v3)] [] 4) {v2 : Int32} {v3 : Int32} {σ : Sg} (hw : st_X6_sweets_L4 x1 Q K4 v2 v3 σ) : G X σ [(0, .ref (ad (tE X) 12 18 0)), (1, .int x1), (2, .int v2), (3, .int v3)] [] 4 := by
  unfold st_X6_sweets_L4 at hw
  refine gx_iload_n C dX6_sweets_4 3 rfl ?_
  refine gx_bipush (v := (6 : Int32)) C dX6_sweets_5 (by decide) ?_
  refine gx_icmp_ge (tgt := 25) C dX6_sweets_7 (by decide) (fun c1 => ?_) (fun c1 => ?_)
  · replace hw := hw.1 c1
    refine gx_iload_n C dX6_sweets_25 2 rfl ?_
    exact gx_iret C rfl rfl dX6_sweets_26 hw
  · replace hw := hw.2 c1
    refine gx_iload_n C dX6_sweets_10 2 rfl ?_
    refine gx_aload_n C dX6_sweets_11 0 rfl ?_
    refine gx_iload_n C dX6_sweets_12 1 rfl ?_
    refine gx_iload_n C dX6_sweets_13 3 rfl ?_
    refine gx_vcalli (As := [.int x1, .int v3]) (rest := [.int v2]) C (c_X6_inside _ _ hw) okg_18 rfl rfl bw_788 bw_790 bs_40 bw_7 bw_791 hy_X6_inside ⟨by decide, by decide⟩ rfl (Nat.le_of_ble_eq_true rfl) dX6_sweets_14 (fun r2 σ3 hw => ?_)
    refine gx_iadd C dX6_sweets_17 ?_
    obtain ⟨z4, e_z4⟩ : ∃ z : Int32, z = (v2 + r2) := ⟨_, rfl⟩
    replace hw := hw z4 e_z4
    refine gx_top e_z4 ?_
    refine gx_istore_n (lv' := [(2, .int z4), (0, .ref (ad (tE X) 12 18 0)), (1, .int x1), (3, .int v3)]) C dX6_sweets_18 (by decide) rfl ?_
    obtain ⟨z5, e_z5⟩ : ∃ z : Int32, z = v3 + (1 : Int32) := ⟨_, rfl⟩
    replace hw := hw z5 e_z5
    refine gx_iinc (v := z5) (lv' := [(3, .int z5), (2, .int z4), (0, .ref (ad (tE X) 12 18 0)), (1, .int x1)]) C dX6_sweets_19 3 rfl (by rw [e_z5]; rfl) (by decide) rfl ?_
    refine gx_goto (tgt := 4) C dX6_sweets_22 (by decide) ?_
    refine gx_sub (lv' := [(0, .ref (ad (tE X) 12 18 0)), (1, .int x1), (2, .int z4), (3, .int z5)]) [2, 3, 1, 0] rfl ?_
    exact hK4 _ _ _ hw
set_option maxRecDepth 100000 in
set_option maxHeartbeats 4000000 in
theorem g_X6_sweets_L4 {X : Tx} {Q : Int32 → Sg → Prop} (C : Cx X cX6_sweets "SweetWrapsModel" (some .int) 1 22 4 (QI (tE X) Q)) {x1 : Int32} {v2 : Int32} {v3 : Int32} {σ : Sg} (hw : wp_X6_sweets_L4 x1 Q v2 v3 σ) : G X σ [(0, .ref (ad (tE X) 12 18 0)), (1, .int x1), (2, .int v2), (3, .int v3)] [] 4 := by
  obtain ⟨n, hw⟩ := hw
  exact lpN_G (P := (fun (a : Int32 × Int32 × Sg) => G X (a.2.2) [(0, .ref (ad (tE X) 12 18 0)), (1, .int x1), (2, .int (a.1)), (3, .int (a.2.1))] [] 4)) (fun K a hK h => gs_X6_sweets_L4 C (fun v2 v3 σ h => hK (v2, v3, σ) h) h) n _ hw
def wp_X6_sweets (x1 : Int32) (σ : Sg) (Q : Int32 → Sg → Prop) : Prop := wp_X6_sweets_L4 x1 Q (0 : Int32) (0 : Int32) σ
set_option maxRecDepth 100000 in
set_option maxHeartbeats 4000000 in
theorem c_X6_sweets (l : Launch) (E : Ev) {x1 : Int32} {σ : Sg} {Q : Int32 → Sg → Prop} (hw : wp_X6_sweets x1 σ Q) : CT l E yX6_sweets cX6_sweets 4 (some .int) 1 22 [.ref (ad E 12 18 0), .int x1] σ (QI E Q) := by
  refine CT_of (by decide) (Nat.le_of_ble_eq_true rfl) (fun X h1 h2 C => ?_)
  subst h1; subst h2
  have C : Cx X cX6_sweets "SweetWrapsModel" (some .int) 1 22 4 (QI (tE X) Q) := C
  show G X σ [(0, .ref (ad (tE X) 12 18 0)), (1, .int x1)] [] 0
  unfold wp_X6_sweets at hw
  refine gx_iconst (v := (0 : Int32)) C dX6_sweets_0 (by decide) ?_
  refine gx_istore_n (lv' := [(2, .int (0 : Int32)), (0, .ref (ad (tE X) 12 18 0)), (1, .int x1)]) C dX6_sweets_1 (by decide) rfl ?_
  refine gx_iconst (v := (0 : Int32)) C dX6_sweets_2 (by decide) ?_
  refine gx_istore_n (lv' := [(3, .int (0 : Int32)), (2, .int (0 : Int32)), (0, .ref (ad (tE X) 12 18 0)), (1, .int x1)]) C dX6_sweets_3 (by decide) rfl ?_
  refine gx_sub (lv' := [(0, .ref (ad (tE X) 12 18 0)), (1, .int x1), (2, .int (0 : Int32)), (3, .int (0 : Int32))]) [2, 3, 1, 0] rfl ?_
  exact g_X6_sweets_L4 C hw
theorem hy_X6_sweets : yX6_sweets.cls = "SweetWrapsModel" ∧ yX6_sweets.cls ≠ "java/lang/invoke/MethodHandle" ∧ yX6_sweets.cls ≠ "java/lang/invoke/VarHandle" ∧ (parseMethodDescriptor yX6_sweets.desc).map (fun d => d.parameters.length) = some 1 := by decide +kernel

theorem dX6_flavoursOf_0 : decode cX6_flavoursOf 0 = .ok (.iconst 0, 1) := by decide +kernel
theorem dX6_flavoursOf_1 : decode cX6_flavoursOf 1 = .ok (.istore_n 2, 1) := by decide +kernel
theorem dX6_flavoursOf_2 : decode cX6_flavoursOf 2 = .ok (.iconst 0, 1) := by decide +kernel
theorem dX6_flavoursOf_3 : decode cX6_flavoursOf 3 = .ok (.istore_n 3, 1) := by decide +kernel
theorem dX6_flavoursOf_4 : decode cX6_flavoursOf 4 = .ok (.iload_n 3, 1) := by decide +kernel
theorem dX6_flavoursOf_5 : decode cX6_flavoursOf 5 = .ok (.bipush 6, 2) := by decide +kernel
theorem dX6_flavoursOf_7 : decode cX6_flavoursOf 7 = .ok (.if_icmp .ge 28, 3) := by decide +kernel
theorem dX6_flavoursOf_10 : decode cX6_flavoursOf 10 = .ok (.iload_n 2, 1) := by decide +kernel
theorem dX6_flavoursOf_11 : decode cX6_flavoursOf 11 = .ok (.aload_n 0, 1) := by decide +kernel
theorem dX6_flavoursOf_12 : decode cX6_flavoursOf 12 = .ok (.iload_n 1, 1) := by decide +kernel
theorem dX6_flavoursOf_13 : decode cX6_flavoursOf 13 = .ok (.iload_n 3, 1) := by decide +kernel
theorem dX6_flavoursOf_14 : decode cX6_flavoursOf 14 = .ok (.invokevirtual 47, 3) := by decide +kernel
theorem dX6_flavoursOf_17 : decode cX6_flavoursOf 17 = .ok (.ifCond .le 9, 3) := by decide +kernel
theorem dX6_flavoursOf_20 : decode cX6_flavoursOf 20 = .ok (.iconst 1, 1) := by decide +kernel
theorem dX6_flavoursOf_21 : decode cX6_flavoursOf 21 = .ok (.iload_n 3, 1) := by decide +kernel
theorem dX6_flavoursOf_22 : decode cX6_flavoursOf 22 = .ok (.ishl, 1) := by decide +kernel
theorem dX6_flavoursOf_23 : decode cX6_flavoursOf 23 = .ok (.goto 4, 3) := by decide +kernel
theorem dX6_flavoursOf_26 : decode cX6_flavoursOf 26 = .ok (.iconst 0, 1) := by decide +kernel
theorem dX6_flavoursOf_27 : decode cX6_flavoursOf 27 = .ok (.ior, 1) := by decide +kernel
theorem dX6_flavoursOf_28 : decode cX6_flavoursOf 28 = .ok (.istore_n 2, 1) := by decide +kernel
theorem dX6_flavoursOf_29 : decode cX6_flavoursOf 29 = .ok (.iinc 3 1, 3) := by decide +kernel
theorem dX6_flavoursOf_32 : decode cX6_flavoursOf 32 = .ok (.goto (-28), 3) := by decide +kernel
theorem dX6_flavoursOf_35 : decode cX6_flavoursOf 35 = .ok (.iload_n 2, 1) := by decide +kernel
theorem dX6_flavoursOf_36 : decode cX6_flavoursOf 36 = .ok (.ireturn, 1) := by decide +kernel
def wp_X6_flavoursOf_b27 (x1 : Int32) (K4 : Int32 → Int32 → Sg → Prop) (Q : Int32 → Sg → Prop) (v3 : Int32) (s0 : Int32) (s1 : Int32) (σ : Sg) : Prop := ∀ z5 : Int32, z5 = (s1 ||| s0) → ∀ z6 : Int32, z6 = v3 + (1 : Int32) → K4 z5 z6 σ
set_option maxRecDepth 100000 in
set_option maxHeartbeats 4000000 in
theorem g_X6_flavoursOf_b27 {X : Tx} {Q : Int32 → Sg → Prop} (C : Cx X cX6_flavoursOf "SweetWrapsModel" (some .int) 1 22 4 (QI (tE X) Q)) {x1 : Int32} {K4 : Int32 → Int32 → Sg → Prop} (hK4 : ∀ (v2 : Int32) (v3 : Int32) (σ : Sg), K4 v2 v3 σ → G X σ [(0, .ref (ad (tE X) 12 18 0)), (1, .int x1), (2, .int v2), (3, .int v3)] [] 4) {v3 : Int32} {s0 : Int32} {s1 : Int32} {σ : Sg} (hw : wp_X6_flavoursOf_b27 x1 K4 Q v3 s0 s1 σ) : G X σ [(0, .ref (ad (tE X) 12 18 0)), (1, .int x1), (3, .int v3)] [.int s0, .int s1] 27 := by
  unfold wp_X6_flavoursOf_b27 at hw
  refine gx_ior C dX6_flavoursOf_27 ?_
  obtain ⟨z5, e_z5⟩ : ∃ z : Int32, z = (s1 ||| s0) := ⟨_, rfl⟩
  replace hw := hw z5 e_z5
  refine gx_top e_z5 ?_
  refine gx_istore_n (lv' := [(2, .int z5), (0, .ref (ad (tE X) 12 18 0)), (1, .int x1), (3, .int v3)]) C dX6_flavoursOf_28 (by decide) rfl ?_
  obtain ⟨z6, e_z6⟩ : ∃ z : Int32, z = v3 + (1 : Int32) := ⟨_, rfl⟩
  replace hw := hw z6 e_z6
  refine gx_iinc (v := z6) (lv' := [(3, .int z6), (2, .int z5), (0, .ref (ad (tE X) 12 18 0)), (1, .int x1)]) C dX6_flavoursOf_29 3 rfl (by rw [e_z6]; rfl) (by decide) rfl ?_
  refine gx_goto (tgt := 4) C dX6_flavoursOf_32 (by decide) ?_
  refine gx_sub (lv' := [(0, .ref (ad (tE X) 12 18 0)), (1, .int x1), (2, .int z5), (3, .int z6)]) [2, 3, 1, 0] rfl ?_
  exact hK4 _ _ _ hw
def st_X6_flavoursOf_L4 (x1 : Int32) (Q : Int32 → Sg → Prop) (K4 : Int32 → Int32 → Sg → Prop) (v2 : Int32) (v3 : Int32) (σ : Sg) : Prop := (((6 : Int32) ≤ v3 → Q v2 σ) ∧ (¬ (6 : Int32) ≤ v3 → wp_X6_inside x1 v3 σ (fun r2 σ3 => ((r2 ≤ 0 → wp_X6_flavoursOf_b27 x1 K4 Q v3 (0 : Int32) v2 σ3) ∧ (¬ r2 ≤ 0 → wp_X6_flavoursOf_b27 x1 K4 Q v3 ((1 : Int32) <<< (v3 &&& 31)) v2 σ3)))))
def wp_X6_flavoursOf_L4 (x1 : Int32) (Q : Int32 → Sg → Prop) (v2 : Int32) (v3 : Int32) (σ : Sg) : Prop := ∃ n : Nat, lpN (fun (K : Int32 × Int32 × Sg → Prop) (a : Int32 × Int32 × Sg) => st_X6_flavoursOf_L4 x1 Q (fun v2 v3 σ => K (v2, v3, σ)) (a.1) (a.2.1) (a.2.2)) n (v2, v3, σ)
set_option maxRecDepth 100000 in
set_option maxHeartbeats 4000000 in
theorem gs_X6_flavoursOf_L4 {X : Tx} {Q : Int32 → Sg → Prop} (C : Cx X cX6_flavoursOf "SweetWrapsModel" (some .int) 1 22 4 (QI (tE X) Q)) {x1 : Int32} {K4 : Int32 → Int32 → Sg → Prop} (hK4 : ∀ (v2 : Int32) (v3 : Int32) (σ : Sg), K4 v2 v3 σ → G X σ [(0, .ref (ad (tE X) 12 18 0)), (1, .int x1), (2, .int v2), (3, .int v3)] [] 4) {v2 : Int32} {v3 : Int32} {σ : Sg} (hw : st_X6_flavoursOf_L4 x1 Q K4 v2 v3 σ) : G X σ [(0, .ref (ad (tE X) 12 18 0)), (1, .int x1), (2, .int v2), (3, .int v3)] [] 4 := by
  unfold st_X6_flavoursOf_L4 at hw
  refine gx_iload_n C dX6_flavoursOf_4 3 rfl ?_
  refine gx_bipush (v := (6 : Int32)) C dX6_flavoursOf_5 (by decide) ?_
  refine gx_icmp_ge (tgt := 35) C dX6_flavoursOf_7 (by decide) (fun c1 => ?_) (fun c1 => ?_)
  · replace hw := hw.1 c1
    refine gx_iload_n C dX6_flavoursOf_35 2 rfl ?_
    exact gx_iret C rfl rfl dX6_flavoursOf_36 hw
  · replace hw := hw.2 c1
    refine gx_iload_n C dX6_flavoursOf_10 2 rfl ?_
    refine gx_aload_n C dX6_flavoursOf_11 0 rfl ?_
    refine gx_iload_n C dX6_flavoursOf_12 1 rfl ?_
    refine gx_iload_n C dX6_flavoursOf_13 3 rfl ?_
    refine gx_vcalli (As := [.int x1, .int v3]) (rest := [.int v2]) C (c_X6_inside _ _ hw) okg_18 rfl rfl bw_788 bw_790 bs_40 bw_7 bw_791 hy_X6_inside ⟨by decide, by decide⟩ rfl (Nat.le_of_ble_eq_true rfl) dX6_flavoursOf_14 (fun r2 σ3 hw => ?_)
    refine gx_if_le (tgt := 26) C dX6_flavoursOf_17 (by decide) (fun c4 => ?_) (fun c4 => ?_)
    · replace hw := hw.1 c4
      refine gx_iconst (v := (0 : Int32)) C dX6_flavoursOf_26 (by decide) ?_
      refine gx_sub (lv' := [(0, .ref (ad (tE X) 12 18 0)), (1, .int x1), (3, .int v3)]) [0, 1, 3] rfl ?_
      exact g_X6_flavoursOf_b27 C hK4 hw
    · replace hw := hw.2 c4
      refine gx_iconst (v := (1 : Int32)) C dX6_flavoursOf_20 (by decide) ?_
      refine gx_iload_n C dX6_flavoursOf_21 3 rfl ?_
      refine gx_ishl C dX6_flavoursOf_22 ?_
      refine gx_goto (tgt := 27) C dX6_flavoursOf_23 (by decide) ?_
      refine gx_sub (lv' := [(0, .ref (ad (tE X) 12 18 0)), (1, .int x1), (3, .int v3)]) [0, 1, 3] rfl ?_
      exact g_X6_flavoursOf_b27 C hK4 hw
set_option maxRecDepth 100000 in
set_option maxHeartbeats 4000000 in
theorem g_X6_flavoursOf_L4 {X : Tx} {Q : Int32 → Sg → Prop} (C : Cx X cX6_flavoursOf "SweetWrapsModel" (some .int) 1 22 4 (QI (tE X) Q)) {x1 : Int32} {v2 : Int32} {v3 : Int32} {σ : Sg} (hw : wp_X6_flavoursOf_L4 x1 Q v2 v3 σ) : G X σ [(0, .ref (ad (tE X) 12 18 0)), (1, .int x1), (2, .int v2), (3, .int v3)] [] 4 := by
  obtain ⟨n, hw⟩ := hw
  exact lpN_G (P := (fun (a : Int32 × Int32 × Sg) => G X (a.2.2) [(0, .ref (ad (tE X) 12 18 0)), (1, .int x1), (2, .int (a.1)), (3, .int (a.2.1))] [] 4)) (fun K a hK h => gs_X6_flavoursOf_L4 C (fun v2 v3 σ h => hK (v2, v3, σ) h) h) n _ hw
def wp_X6_flavoursOf (x1 : Int32) (σ : Sg) (Q : Int32 → Sg → Prop) : Prop := wp_X6_flavoursOf_L4 x1 Q (0 : Int32) (0 : Int32) σ
set_option maxRecDepth 100000 in
set_option maxHeartbeats 4000000 in
theorem c_X6_flavoursOf (l : Launch) (E : Ev) {x1 : Int32} {σ : Sg} {Q : Int32 → Sg → Prop} (hw : wp_X6_flavoursOf x1 σ Q) : CT l E yX6_flavoursOf cX6_flavoursOf 4 (some .int) 1 22 [.ref (ad E 12 18 0), .int x1] σ (QI E Q) := by
  refine CT_of (by decide) (Nat.le_of_ble_eq_true rfl) (fun X h1 h2 C => ?_)
  subst h1; subst h2
  have C : Cx X cX6_flavoursOf "SweetWrapsModel" (some .int) 1 22 4 (QI (tE X) Q) := C
  show G X σ [(0, .ref (ad (tE X) 12 18 0)), (1, .int x1)] [] 0
  unfold wp_X6_flavoursOf at hw
  refine gx_iconst (v := (0 : Int32)) C dX6_flavoursOf_0 (by decide) ?_
  refine gx_istore_n (lv' := [(2, .int (0 : Int32)), (0, .ref (ad (tE X) 12 18 0)), (1, .int x1)]) C dX6_flavoursOf_1 (by decide) rfl ?_
  refine gx_iconst (v := (0 : Int32)) C dX6_flavoursOf_2 (by decide) ?_
  refine gx_istore_n (lv' := [(3, .int (0 : Int32)), (2, .int (0 : Int32)), (0, .ref (ad (tE X) 12 18 0)), (1, .int x1)]) C dX6_flavoursOf_3 (by decide) rfl ?_
  refine gx_sub (lv' := [(0, .ref (ad (tE X) 12 18 0)), (1, .int x1), (2, .int (0 : Int32)), (3, .int (0 : Int32))]) [2, 3, 1, 0] rfl ?_
  exact g_X6_flavoursOf_L4 C hw
theorem hy_X6_flavoursOf : yX6_flavoursOf.cls = "SweetWrapsModel" ∧ yX6_flavoursOf.cls ≠ "java/lang/invoke/MethodHandle" ∧ yX6_flavoursOf.cls ≠ "java/lang/invoke/VarHandle" ∧ (parseMethodDescriptor yX6_flavoursOf.desc).map (fun d => d.parameters.length) = some 1 := by decide +kernel

theorem dX6_takes_0 : decode cX6_takes 0 = .ok (.aload_n 0, 1) := by decide +kernel
theorem dX6_takes_1 : decode cX6_takes 1 = .ok (.iload_n 1, 1) := by decide +kernel
theorem dX6_takes_2 : decode cX6_takes 2 = .ok (.invokevirtual 50, 3) := by decide +kernel
theorem dX6_takes_5 : decode cX6_takes 5 = .ok (.ifCond .ne 40, 3) := by decide +kernel
theorem dX6_takes_8 : decode cX6_takes 8 = .ok (.aload_n 0, 1) := by decide +kernel
theorem dX6_takes_9 : decode cX6_takes 9 = .ok (.iload_n 1, 1) := by decide +kernel
theorem dX6_takes_10 : decode cX6_takes 10 = .ok (.invokevirtual 54, 3) := by decide +kernel
theorem dX6_takes_13 : decode cX6_takes 13 = .ok (.aload_n 0, 1) := by decide +kernel
theorem dX6_takes_14 : decode cX6_takes 14 = .ok (.getfield 7, 3) := by decide +kernel
theorem dX6_takes_17 : decode cX6_takes 17 = .ok (.iconst 2, 1) := by decide +kernel
theorem dX6_takes_18 : decode cX6_takes 18 = .ok (.iaload, 1) := by decide +kernel
theorem dX6_takes_19 : decode cX6_takes 19 = .ok (.if_icmp .ge 26, 3) := by decide +kernel
theorem dX6_takes_22 : decode cX6_takes 22 = .ok (.aload_n 0, 1) := by decide +kernel
theorem dX6_takes_23 : decode cX6_takes 23 = .ok (.iload_n 1, 1) := by decide +kernel
theorem dX6_takes_24 : decode cX6_takes 24 = .ok (.invokevirtual 58, 3) := by decide +kernel
theorem dX6_takes_27 : decode cX6_takes 27 = .ok (.aload_n 0, 1) := by decide +kernel
theorem dX6_takes_28 : decode cX6_takes 28 = .ok (.getfield 7, 3) := by decide +kernel
theorem dX6_takes_31 : decode cX6_takes 31 = .ok (.sipush 185, 3) := by decide +kernel
theorem dX6_takes_34 : decode cX6_takes 34 = .ok (.iload_n 2, 1) := by decide +kernel
theorem dX6_takes_35 : decode cX6_takes 35 = .ok (.iadd, 1) := by decide +kernel
theorem dX6_takes_36 : decode cX6_takes 36 = .ok (.iaload, 1) := by decide +kernel
theorem dX6_takes_37 : decode cX6_takes 37 = .ok (.iand, 1) := by decide +kernel
theorem dX6_takes_38 : decode cX6_takes 38 = .ok (.ifCond .ne 7, 3) := by decide +kernel
theorem dX6_takes_41 : decode cX6_takes 41 = .ok (.iconst 1, 1) := by decide +kernel
theorem dX6_takes_42 : decode cX6_takes 42 = .ok (.goto 4, 3) := by decide +kernel
theorem dX6_takes_45 : decode cX6_takes 45 = .ok (.iconst 0, 1) := by decide +kernel
theorem dX6_takes_46 : decode cX6_takes 46 = .ok (.ireturn, 1) := by decide +kernel
def wp_X6_takes (x1 : Int32) (x2 : Int32) (σ : Sg) (Q : Int32 → Sg → Prop) : Prop := wp_X6_isShipped x1 σ (fun r1 σ2 => ((¬ r1 = 0 → Q (0 : Int32) σ2) ∧ (r1 = 0 → wp_X6_sweets x1 σ2 (fun r4 σ5 => (((σ5 12 19 0 2) ≤ r4 → Q (0 : Int32) σ5) ∧ (¬ (σ5 12 19 0 2) ≤ r4 → wp_X6_flavoursOf x1 σ5 (fun r7 σ8 => (vp_in ((185 : Int32) + x2) 194 ∧ ((¬ (r7 &&& (σ8 12 19 0 ((185 : Int32) + x2).toNatClampNeg)) = 0 → Q (0 : Int32) σ8) ∧ ((r7 &&& (σ8 12 19 0 ((185 : Int32) + x2).toNatClampNeg)) = 0 → Q (1 : Int32) σ8))))))))))
set_option maxRecDepth 100000 in
set_option maxHeartbeats 4000000 in
theorem c_X6_takes (l : Launch) (E : Ev) {x1 : Int32} {x2 : Int32} {σ : Sg} {Q : Int32 → Sg → Prop} (hw : wp_X6_takes x1 x2 σ Q) : CT l E yX6_takes cX6_takes 3 (some .boolean) 2 45 [.ref (ad E 12 18 0), .int x1, .int x2] σ (QI E Q) := by
  refine CT_of (by decide) (Nat.le_of_ble_eq_true rfl) (fun X h1 h2 C => ?_)
  subst h1; subst h2
  have C : Cx X cX6_takes "SweetWrapsModel" (some .boolean) 2 45 3 (QI (tE X) Q) := C
  show G X σ [(0, .ref (ad (tE X) 12 18 0)), (1, .int x1), (2, .int x2)] [] 0
  unfold wp_X6_takes at hw
  refine gx_aload_n C dX6_takes_0 0 rfl ?_
  refine gx_iload_n C dX6_takes_1 1 rfl ?_
  refine gx_vcalli (As := [.int x1]) (rest := []) C (c_X6_isShipped _ _ hw) okg_18 rfl rfl bw_780 bw_782 bs_38 bw_7 bw_783 hy_X6_isShipped ⟨by decide, by decide⟩ rfl (Nat.le_of_ble_eq_true rfl) dX6_takes_2 (fun r1 σ2 hw => ?_)
  refine gx_if_ne (tgt := 45) C dX6_takes_5 (by decide) (fun c3 => ?_) (fun c3 => ?_)
  · replace hw := hw.1 c3
    refine gx_iconst (v := (0 : Int32)) C dX6_takes_45 (by decide) ?_
    exact gx_iret C rfl rfl dX6_takes_46 hw
  · replace hw := hw.2 c3
    refine gx_aload_n C dX6_takes_8 0 rfl ?_
    refine gx_iload_n C dX6_takes_9 1 rfl ?_
    refine gx_vcalli (As := [.int x1]) (rest := []) C (c_X6_sweets _ _ hw) okg_18 rfl rfl bw_784 bw_786 bs_39 bw_7 bw_787 hy_X6_sweets ⟨by decide, by decide⟩ rfl (Nat.le_of_ble_eq_true rfl) dX6_takes_10 (fun r4 σ5 hw => ?_)
    refine gx_aload_n C dX6_takes_13 0 rfl ?_
    refine gx_get C okg_18 rfl rfl inX6 (ref := "SweetWrapsModel") 0 (by decide) bw_673 rfl rfl dX6_takes_14 ?_
    refine gx_iconst (v := (2 : Int32)) C dX6_takes_17 (by decide) ?_
    refine gx_iald C okg_19 rfl (n := 194) (x := (2 : Int32)) (by unfold vp_in; decide) 2 (by decide) dX6_takes_18 ?_
    refine gx_icmp_ge (tgt := 45) C dX6_takes_19 (by decide) (fun c6 => ?_) (fun c6 => ?_)
    · replace hw := hw.1 c6
      refine gx_iconst (v := (0 : Int32)) C dX6_takes_45 (by decide) ?_
      exact gx_iret C rfl rfl dX6_takes_46 hw
    · replace hw := hw.2 c6
      refine gx_aload_n C dX6_takes_22 0 rfl ?_
      refine gx_iload_n C dX6_takes_23 1 rfl ?_
      refine gx_vcalli (As := [.int x1]) (rest := []) C (c_X6_flavoursOf _ _ hw) okg_18 rfl rfl bw_836 bw_838 bs_50 bw_7 bw_839 hy_X6_flavoursOf ⟨by decide, by decide⟩ rfl (Nat.le_of_ble_eq_true rfl) dX6_takes_24 (fun r7 σ8 hw => ?_)
      refine gx_aload_n C dX6_takes_27 0 rfl ?_
      refine gx_get C okg_18 rfl rfl inX6 (ref := "SweetWrapsModel") 0 (by decide) bw_673 rfl rfl dX6_takes_28 ?_
      refine gx_sipush (v := (185 : Int32)) C dX6_takes_31 (by decide) ?_
      refine gx_iload_n C dX6_takes_34 2 rfl ?_
      refine gx_iadd C dX6_takes_35 ?_
      refine gx_iald C okg_19 rfl hw.1 _ rfl dX6_takes_36 ?_
      replace hw := hw.2
      refine gx_iand C dX6_takes_37 ?_
      refine gx_if_ne (tgt := 45) C dX6_takes_38 (by decide) (fun c9 => ?_) (fun c9 => ?_)
      · replace hw := hw.1 c9
        refine gx_iconst (v := (0 : Int32)) C dX6_takes_45 (by decide) ?_
        exact gx_iret C rfl rfl dX6_takes_46 hw
      · replace hw := hw.2 c9
        refine gx_iconst (v := (1 : Int32)) C dX6_takes_41 (by decide) ?_
        refine gx_goto (tgt := 46) C dX6_takes_42 (by decide) ?_
        exact gx_iret C rfl rfl dX6_takes_46 hw
theorem hy_X6_takes : yX6_takes.cls = "SweetWrapsModel" ∧ yX6_takes.cls ≠ "java/lang/invoke/MethodHandle" ∧ yX6_takes.cls ≠ "java/lang/invoke/VarHandle" ∧ (parseMethodDescriptor yX6_takes.desc).map (fun d => d.parameters.length) = some 2 := by decide +kernel

theorem dX6_tinFor_0 : decode cX6_tinFor 0 = .ok (.iconst 0, 1) := by decide +kernel
theorem dX6_tinFor_1 : decode cX6_tinFor 1 = .ok (.istore_n 2, 1) := by decide +kernel
theorem dX6_tinFor_2 : decode cX6_tinFor 2 = .ok (.iload_n 2, 1) := by decide +kernel
theorem dX6_tinFor_3 : decode cX6_tinFor 3 = .ok (.aload_n 0, 1) := by decide +kernel
theorem dX6_tinFor_4 : decode cX6_tinFor 4 = .ok (.getfield 7, 3) := by decide +kernel
theorem dX6_tinFor_7 : decode cX6_tinFor 7 = .ok (.bipush 72, 2) := by decide +kernel
theorem dX6_tinFor_9 : decode cX6_tinFor 9 = .ok (.iaload, 1) := by decide +kernel
theorem dX6_tinFor_10 : decode cX6_tinFor 10 = .ok (.if_icmp .ge 20, 3) := by decide +kernel
theorem dX6_tinFor_13 : decode cX6_tinFor 13 = .ok (.aload_n 0, 1) := by decide +kernel
theorem dX6_tinFor_14 : decode cX6_tinFor 14 = .ok (.iload_n 2, 1) := by decide +kernel
theorem dX6_tinFor_15 : decode cX6_tinFor 15 = .ok (.iload_n 1, 1) := by decide +kernel
theorem dX6_tinFor_16 : decode cX6_tinFor 16 = .ok (.invokevirtual 61, 3) := by decide +kernel
theorem dX6_tinFor_19 : decode cX6_tinFor 19 = .ok (.ifCond .eq 5, 3) := by decide +kernel
theorem dX6_tinFor_22 : decode cX6_tinFor 22 = .ok (.iload_n 2, 1) := by decide +kernel
theorem dX6_tinFor_23 : decode cX6_tinFor 23 = .ok (.ireturn, 1) := by decide +kernel
theorem dX6_tinFor_24 : decode cX6_tinFor 24 = .ok (.iinc 2 1, 3) := by decide +kernel
theorem dX6_tinFor_27 : decode cX6_tinFor 27 = .ok (.goto (-25), 3) := by decide +kernel
theorem dX6_tinFor_30 : decode cX6_tinFor 30 = .ok (.bipush (-6), 2) := by decide +kernel
theorem dX6_tinFor_32 : decode cX6_tinFor 32 = .ok (.ireturn, 1) := by decide +kernel
def st_X6_tinFor_L2 (x1 : Int32) (Q : Int32 → Sg → Prop) (K2 : Int32 → Sg → Prop) (v2 : Int32) (σ : Sg) : Prop := (((σ 12 19 0 72) ≤ v2 → Q (-6 : Int32) σ) ∧ (¬ (σ 12 19 0 72) ≤ v2 → wp_X6_takes v2 x1 σ (fun r2 σ3 => ((r2 = 0 → ∀ z5 : Int32, z5 = v2 + (1 : Int32) → K2 z5 σ3) ∧ (¬ r2 = 0 → Q v2 σ3)))))
def wp_X6_tinFor_L2 (x1 : Int32) (Q : Int32 → Sg → Prop) (v2 : Int32) (σ : Sg) : Prop := ∃ n : Nat, lpN (fun (K : Int32 × Sg → Prop) (a : Int32 × Sg) => st_X6_tinFor_L2 x1 Q (fun v2 σ => K (v2, σ)) (a.1) (a.2)) n (v2, σ)
set_option maxRecDepth 100000 in
set_option maxHeartbeats 4000000 in
theorem gs_X6_tinFor_L2 {X : Tx} {Q : Int32 → Sg → Prop} (C : Cx X cX6_tinFor "SweetWrapsModel" (some .int) 3 67 3 (QI (tE X) Q)) {x1 : Int32} {K2 : Int32 → Sg → Prop} (hK2 : ∀ (v2 : Int32) (σ : Sg), K2 v2 σ → G X σ [(0, .ref (ad (tE X) 12 18 0)), (1, .int x1), (2, .int v2)] [] 2) {v2 : Int32} {σ : Sg} (hw : st_X6_tinFor_L2 x1 Q K2 v2 σ) : G X σ [(0, .ref (ad (tE X) 12 18 0)), (1, .int x1), (2, .int v2)] [] 2 := by
  unfold st_X6_tinFor_L2 at hw
  refine gx_iload_n C dX6_tinFor_2 2 rfl ?_
  refine gx_aload_n C dX6_tinFor_3 0 rfl ?_
  refine gx_get C okg_18 rfl rfl inX6 (ref := "SweetWrapsModel") 0 (by decide) bw_673 rfl rfl dX6_tinFor_4 ?_
  refine gx_bipush (v := (72 : Int32)) C dX6_tinFor_7 (by decide) ?_
  refine gx_iald C okg_19 rfl (n := 194) (x := (72 : Int32)) (by unfold vp_in; decide) 72 (by decide) dX6_tinFor_9 ?_
  refine gx_icmp_ge (tgt := 30) C dX6_tinFor_10 (by decide) (fun c1 => ?_) (fun c1 => ?_)
  · replace hw := hw.1 c1
    refine gx_bipush (v := (-6 : Int32)) C dX6_tinFor_30 (by decide) ?_
    exact gx_iret C rfl rfl dX6_tinFor_32 hw
  · replace hw := hw.2 c1
    refine gx_aload_n C dX6_tinFor_13 0 rfl ?_
    refine gx_iload_n C dX6_tinFor_14 2 rfl ?_
    refine gx_iload_n C dX6_tinFor_15 1 rfl ?_
    refine gx_vcalli (As := [.int v2, .int x1]) (rest := []) C (c_X6_takes _ _ hw) okg_18 rfl rfl bw_832 bw_834 bs_49 bw_7 bw_835 hy_X6_takes ⟨by decide, by decide⟩ rfl (Nat.le_of_ble_eq_true rfl) dX6_tinFor_16 (fun r2 σ3 hw => ?_)
    refine gx_if_eq (tgt := 24) C dX6_tinFor_19 (by decide) (fun c4 => ?_) (fun c4 => ?_)
    · replace hw := hw.1 c4
      obtain ⟨z5, e_z5⟩ : ∃ z : Int32, z = v2 + (1 : Int32) := ⟨_, rfl⟩
      replace hw := hw z5 e_z5
      refine gx_iinc (v := z5) (lv' := [(2, .int z5), (0, .ref (ad (tE X) 12 18 0)), (1, .int x1)]) C dX6_tinFor_24 2 rfl (by rw [e_z5]; rfl) (by decide) rfl ?_
      refine gx_goto (tgt := 2) C dX6_tinFor_27 (by decide) ?_
      refine gx_sub (lv' := [(0, .ref (ad (tE X) 12 18 0)), (1, .int x1), (2, .int z5)]) [1, 2, 0] rfl ?_
      exact hK2 _ _ hw
    · replace hw := hw.2 c4
      refine gx_iload_n C dX6_tinFor_22 2 rfl ?_
      exact gx_iret C rfl rfl dX6_tinFor_23 hw
set_option maxRecDepth 100000 in
set_option maxHeartbeats 4000000 in
theorem g_X6_tinFor_L2 {X : Tx} {Q : Int32 → Sg → Prop} (C : Cx X cX6_tinFor "SweetWrapsModel" (some .int) 3 67 3 (QI (tE X) Q)) {x1 : Int32} {v2 : Int32} {σ : Sg} (hw : wp_X6_tinFor_L2 x1 Q v2 σ) : G X σ [(0, .ref (ad (tE X) 12 18 0)), (1, .int x1), (2, .int v2)] [] 2 := by
  obtain ⟨n, hw⟩ := hw
  exact lpN_G (P := (fun (a : Int32 × Sg) => G X (a.2) [(0, .ref (ad (tE X) 12 18 0)), (1, .int x1), (2, .int (a.1))] [] 2)) (fun K a hK h => gs_X6_tinFor_L2 C (fun v2 σ h => hK (v2, σ) h) h) n _ hw
def wp_X6_tinFor (x1 : Int32) (σ : Sg) (Q : Int32 → Sg → Prop) : Prop := wp_X6_tinFor_L2 x1 Q (0 : Int32) σ
set_option maxRecDepth 100000 in
set_option maxHeartbeats 4000000 in
theorem c_X6_tinFor (l : Launch) (E : Ev) {x1 : Int32} {σ : Sg} {Q : Int32 → Sg → Prop} (hw : wp_X6_tinFor x1 σ Q) : CT l E yX6_tinFor cX6_tinFor 3 (some .int) 3 67 [.ref (ad E 12 18 0), .int x1] σ (QI E Q) := by
  refine CT_of (by decide) (Nat.le_of_ble_eq_true rfl) (fun X h1 h2 C => ?_)
  subst h1; subst h2
  have C : Cx X cX6_tinFor "SweetWrapsModel" (some .int) 3 67 3 (QI (tE X) Q) := C
  show G X σ [(0, .ref (ad (tE X) 12 18 0)), (1, .int x1)] [] 0
  unfold wp_X6_tinFor at hw
  refine gx_iconst (v := (0 : Int32)) C dX6_tinFor_0 (by decide) ?_
  refine gx_istore_n (lv' := [(2, .int (0 : Int32)), (0, .ref (ad (tE X) 12 18 0)), (1, .int x1)]) C dX6_tinFor_1 (by decide) rfl ?_
  refine gx_sub (lv' := [(0, .ref (ad (tE X) 12 18 0)), (1, .int x1), (2, .int (0 : Int32))]) [1, 2, 0] rfl ?_
  exact g_X6_tinFor_L2 C hw
theorem hy_X6_tinFor : yX6_tinFor.cls = "SweetWrapsModel" ∧ yX6_tinFor.cls ≠ "java/lang/invoke/MethodHandle" ∧ yX6_tinFor.cls ≠ "java/lang/invoke/VarHandle" ∧ (parseMethodDescriptor yX6_tinFor.desc).map (fun d => d.parameters.length) = some 1 := by decide +kernel

theorem dX6_reason_0 : decode cX6_reason 0 = .ok (.aload_n 0, 1) := by decide +kernel
theorem dX6_reason_1 : decode cX6_reason 1 = .ok (.iload_n 1, 1) := by decide +kernel
theorem dX6_reason_2 : decode cX6_reason 2 = .ok (.iconst 0, 1) := by decide +kernel
theorem dX6_reason_3 : decode cX6_reason 3 = .ok (.invokevirtual 40, 3) := by decide +kernel
theorem dX6_reason_6 : decode cX6_reason 6 = .ok (.ifCond .ne 5, 3) := by decide +kernel
theorem dX6_reason_9 : decode cX6_reason 9 = .ok (.iconst 1, 1) := by decide +kernel
theorem dX6_reason_10 : decode cX6_reason 10 = .ok (.ireturn, 1) := by decide +kernel
theorem dX6_reason_11 : decode cX6_reason 11 = .ok (.aload_n 0, 1) := by decide +kernel
theorem dX6_reason_12 : decode cX6_reason 12 = .ok (.aload_n 0, 1) := by decide +kernel
theorem dX6_reason_13 : decode cX6_reason 13 = .ok (.iload_n 1, 1) := by decide +kernel
theorem dX6_reason_14 : decode cX6_reason 14 = .ok (.iconst 0, 1) := by decide +kernel
theorem dX6_reason_15 : decode cX6_reason 15 = .ok (.invokevirtual 65, 3) := by decide +kernel
theorem dX6_reason_18 : decode cX6_reason 18 = .ok (.invokevirtual 68, 3) := by decide +kernel
theorem dX6_reason_21 : decode cX6_reason 21 = .ok (.bipush (-6), 2) := by decide +kernel
theorem dX6_reason_23 : decode cX6_reason 23 = .ok (.if_icmp .ne 5, 3) := by decide +kernel
theorem dX6_reason_26 : decode cX6_reason 26 = .ok (.iconst 2, 1) := by decide +kernel
theorem dX6_reason_27 : decode cX6_reason 27 = .ok (.ireturn, 1) := by decide +kernel
theorem dX6_reason_28 : decode cX6_reason 28 = .ok (.aload_n 0, 1) := by decide +kernel
theorem dX6_reason_29 : decode cX6_reason 29 = .ok (.iload_n 1, 1) := by decide +kernel
theorem dX6_reason_30 : decode cX6_reason 30 = .ok (.bipush 13, 2) := by decide +kernel
theorem dX6_reason_32 : decode cX6_reason 32 = .ok (.invokevirtual 40, 3) := by decide +kernel
theorem dX6_reason_35 : decode cX6_reason 35 = .ok (.iconst 2, 1) := by decide +kernel
theorem dX6_reason_36 : decode cX6_reason 36 = .ok (.aload_n 0, 1) := by decide +kernel
theorem dX6_reason_37 : decode cX6_reason 37 = .ok (.getfield 7, 3) := by decide +kernel
theorem dX6_reason_40 : decode cX6_reason 40 = .ok (.iconst 3, 1) := by decide +kernel
theorem dX6_reason_41 : decode cX6_reason 41 = .ok (.iaload, 1) := by decide +kernel
theorem dX6_reason_42 : decode cX6_reason 42 = .ok (.iadd, 1) := by decide +kernel
theorem dX6_reason_43 : decode cX6_reason 43 = .ok (.if_icmp .ge 7, 3) := by decide +kernel
theorem dX6_reason_46 : decode cX6_reason 46 = .ok (.iconst 3, 1) := by decide +kernel
theorem dX6_reason_47 : decode cX6_reason 47 = .ok (.goto 4, 3) := by decide +kernel
theorem dX6_reason_50 : decode cX6_reason 50 = .ok (.iconst 0, 1) := by decide +kernel
theorem dX6_reason_51 : decode cX6_reason 51 = .ok (.ireturn, 1) := by decide +kernel
def wp_X6_reason (x1 : Int32) (σ : Sg) (Q : Int32 → Sg → Prop) : Prop := wp_X6_lane x1 (0 : Int32) σ (fun r1 σ2 => ((¬ r1 = 0 → wp_X6_heapFlavour x1 (0 : Int32) σ2 (fun r4 σ5 => wp_X6_tinFor r4 σ5 (fun r6 σ7 => ((¬ r6 = (-6 : Int32) → wp_X6_lane x1 (13 : Int32) σ7 (fun r9 σ10 => ((((2 : Int32) + (σ10 12 19 0 3)) ≤ r9 → Q (0 : Int32) σ10) ∧ (¬ ((2 : Int32) + (σ10 12 19 0 3)) ≤ r9 → Q (3 : Int32) σ10)))) ∧ (r6 = (-6 : Int32) → Q (2 : Int32) σ7))))) ∧ (r1 = 0 → Q (1 : Int32) σ2)))
set_option maxRecDepth 100000 in
set_option maxHeartbeats 4000000 in
theorem c_X6_reason (l : Launch) (E : Ev) {x1 : Int32} {σ : Sg} {Q : Int32 → Sg → Prop} (hw : wp_X6_reason x1 σ Q) : CT l E yX6_reason cX6_reason 2 (some .int) 4 89 [.ref (ad E 12 18 0), .int x1] σ (QI E Q) := by
  refine CT_of (by decide) (Nat.le_of_ble_eq_true rfl) (fun X h1 h2 C => ?_)
  subst h1; subst h2
  have C : Cx X cX6_reason "SweetWrapsModel" (some .int) 4 89 2 (QI (tE X) Q) := C
  show G X σ [(0, .ref (ad (tE X) 12 18 0)), (1, .int x1)] [] 0
  unfold wp_X6_reason at hw
  refine gx_aload_n C dX6_reason_0 0 rfl ?_
  refine gx_iload_n C dX6_reason_1 1 rfl ?_
  refine gx_iconst (v := (0 : Int32)) C dX6_reason_2 (by decide) ?_
  refine gx_vcalli (As := [.int x1, .int (0 : Int32)]) (rest := []) C (c_X6_lane _ _ hw) okg_18 rfl rfl bw_740 bw_742 bs_31 bw_7 bw_743 hy_X6_lane ⟨by decide, by decide⟩ rfl (Nat.le_of_ble_eq_true rfl) dX6_reason_3 (fun r1 σ2 hw => ?_)
  refine gx_if_ne (tgt := 11) C dX6_reason_6 (by decide) (fun c3 => ?_) (fun c3 => ?_)
  · replace hw := hw.1 c3
    refine gx_aload_n C dX6_reason_11 0 rfl ?_
    refine gx_aload_n C dX6_reason_12 0 rfl ?_
    refine gx_iload_n C dX6_reason_13 1 rfl ?_
    refine gx_iconst (v := (0 : Int32)) C dX6_reason_14 (by decide) ?_
    refine gx_vcalli (As := [.int x1, .int (0 : Int32)]) (rest := [.ref (ad (tE X) 12 18 0)]) C (c_X6_heapFlavour _ _ hw) okg_18 rfl rfl bw_736 bw_738 bs_30 bw_7 bw_739 hy_X6_heapFlavour ⟨by decide, by decide⟩ rfl (Nat.le_of_ble_eq_true rfl) dX6_reason_15 (fun r4 σ5 hw => ?_)
    refine gx_vcalli (As := [.int r4]) (rest := []) C (c_X6_tinFor _ _ hw) okg_18 rfl rfl bw_828 bw_830 bs_48 bw_7 bw_831 hy_X6_tinFor ⟨by decide, by decide⟩ rfl (Nat.le_of_ble_eq_true rfl) dX6_reason_18 (fun r6 σ7 hw => ?_)
    refine gx_bipush (v := (-6 : Int32)) C dX6_reason_21 (by decide) ?_
    refine gx_icmp_ne (tgt := 28) C dX6_reason_23 (by decide) (fun c8 => ?_) (fun c8 => ?_)
    · replace hw := hw.1 c8
      refine gx_aload_n C dX6_reason_28 0 rfl ?_
      refine gx_iload_n C dX6_reason_29 1 rfl ?_
      refine gx_bipush (v := (13 : Int32)) C dX6_reason_30 (by decide) ?_
      refine gx_vcalli (As := [.int x1, .int (13 : Int32)]) (rest := []) C (c_X6_lane _ _ hw) okg_18 rfl rfl bw_740 bw_742 bs_31 bw_7 bw_743 hy_X6_lane ⟨by decide, by decide⟩ rfl (Nat.le_of_ble_eq_true rfl) dX6_reason_32 (fun r9 σ10 hw => ?_)
      refine gx_iconst (v := (2 : Int32)) C dX6_reason_35 (by decide) ?_
      refine gx_aload_n C dX6_reason_36 0 rfl ?_
      refine gx_get C okg_18 rfl rfl inX6 (ref := "SweetWrapsModel") 0 (by decide) bw_673 rfl rfl dX6_reason_37 ?_
      refine gx_iconst (v := (3 : Int32)) C dX6_reason_40 (by decide) ?_
      refine gx_iald C okg_19 rfl (n := 194) (x := (3 : Int32)) (by unfold vp_in; decide) 3 (by decide) dX6_reason_41 ?_
      refine gx_iadd C dX6_reason_42 ?_
      refine gx_icmp_ge (tgt := 50) C dX6_reason_43 (by decide) (fun c11 => ?_) (fun c11 => ?_)
      · replace hw := hw.1 c11
        refine gx_iconst (v := (0 : Int32)) C dX6_reason_50 (by decide) ?_
        exact gx_iret C rfl rfl dX6_reason_51 hw
      · replace hw := hw.2 c11
        refine gx_iconst (v := (3 : Int32)) C dX6_reason_46 (by decide) ?_
        refine gx_goto (tgt := 51) C dX6_reason_47 (by decide) ?_
        exact gx_iret C rfl rfl dX6_reason_51 hw
    · replace hw := hw.2 c8
      refine gx_iconst (v := (2 : Int32)) C dX6_reason_26 (by decide) ?_
      exact gx_iret C rfl rfl dX6_reason_27 hw
  · replace hw := hw.2 c3
    refine gx_iconst (v := (1 : Int32)) C dX6_reason_9 (by decide) ?_
    exact gx_iret C rfl rfl dX6_reason_10 hw
theorem hy_X6_reason : yX6_reason.cls = "SweetWrapsModel" ∧ yX6_reason.cls ≠ "java/lang/invoke/MethodHandle" ∧ yX6_reason.cls ≠ "java/lang/invoke/VarHandle" ∧ (parseMethodDescriptor yX6_reason.desc).map (fun d => d.parameters.length) = some 1 := by decide +kernel

theorem dX6_tryOnce_0 : decode cX6_tryOnce 0 = .ok (.iconst 4, 1) := by decide +kernel
theorem dX6_tryOnce_1 : decode cX6_tryOnce 1 = .ok (.bipush 17, 2) := by decide +kernel
theorem dX6_tryOnce_3 : decode cX6_tryOnce 3 = .ok (.iload_n 1, 1) := by decide +kernel
theorem dX6_tryOnce_4 : decode cX6_tryOnce 4 = .ok (.imul, 1) := by decide +kernel
theorem dX6_tryOnce_5 : decode cX6_tryOnce 5 = .ok (.iadd, 1) := by decide +kernel
theorem dX6_tryOnce_6 : decode cX6_tryOnce 6 = .ok (.istore_n 2, 1) := by decide +kernel
theorem dX6_tryOnce_7 : decode cX6_tryOnce 7 = .ok (.iconst 2, 1) := by decide +kernel
theorem dX6_tryOnce_8 : decode cX6_tryOnce 8 = .ok (.aload_n 0, 1) := by decide +kernel
theorem dX6_tryOnce_9 : decode cX6_tryOnce 9 = .ok (.getfield 7, 3) := by decide +kernel
theorem dX6_tryOnce_12 : decode cX6_tryOnce 12 = .ok (.iconst 3, 1) := by decide +kernel
theorem dX6_tryOnce_13 : decode cX6_tryOnce 13 = .ok (.iaload, 1) := by decide +kernel
theorem dX6_tryOnce_14 : decode cX6_tryOnce 14 = .ok (.iadd, 1) := by decide +kernel
theorem dX6_tryOnce_15 : decode cX6_tryOnce 15 = .ok (.istore_n 3, 1) := by decide +kernel
theorem dX6_tryOnce_16 : decode cX6_tryOnce 16 = .ok (.aload_n 0, 1) := by decide +kernel
theorem dX6_tryOnce_17 : decode cX6_tryOnce 17 = .ok (.getfield 7, 3) := by decide +kernel
theorem dX6_tryOnce_20 : decode cX6_tryOnce 20 = .ok (.iconst 1, 1) := by decide +kernel
theorem dX6_tryOnce_21 : decode cX6_tryOnce 21 = .ok (.iaload, 1) := by decide +kernel
theorem dX6_tryOnce_22 : decode cX6_tryOnce 22 = .ok (.aload_n 0, 1) := by decide +kernel
theorem dX6_tryOnce_23 : decode cX6_tryOnce 23 = .ok (.getfield 7, 3) := by decide +kernel
theorem dX6_tryOnce_26 : decode cX6_tryOnce 26 = .ok (.iconst 0, 1) := by decide +kernel
theorem dX6_tryOnce_27 : decode cX6_tryOnce 27 = .ok (.iaload, 1) := by decide +kernel
theorem dX6_tryOnce_28 : decode cX6_tryOnce 28 = .ok (.idiv, 1) := by decide +kernel
theorem dX6_tryOnce_29 : decode cX6_tryOnce 29 = .ok (.istore 4, 2) := by decide +kernel
theorem dX6_tryOnce_31 : decode cX6_tryOnce 31 = .ok (.iload 4, 2) := by decide +kernel
theorem dX6_tryOnce_33 : decode cX6_tryOnce 33 = .ok (.iconst 2, 1) := by decide +kernel
theorem dX6_tryOnce_34 : decode cX6_tryOnce 34 = .ok (.if_icmp .ge 7, 3) := by decide +kernel
theorem dX6_tryOnce_37 : decode cX6_tryOnce 37 = .ok (.iconst 2, 1) := by decide +kernel
theorem dX6_tryOnce_38 : decode cX6_tryOnce 38 = .ok (.goto 5, 3) := by decide +kernel
theorem dX6_tryOnce_41 : decode cX6_tryOnce 41 = .ok (.iload 4, 2) := by decide +kernel
theorem dX6_tryOnce_43 : decode cX6_tryOnce 43 = .ok (.istore 4, 2) := by decide +kernel
theorem dX6_tryOnce_45 : decode cX6_tryOnce 45 = .ok (.aload_n 0, 1) := by decide +kernel
theorem dX6_tryOnce_46 : decode cX6_tryOnce 46 = .ok (.getfield 7, 3) := by decide +kernel
theorem dX6_tryOnce_49 : decode cX6_tryOnce 49 = .ok (.iload_n 2, 1) := by decide +kernel
theorem dX6_tryOnce_50 : decode cX6_tryOnce 50 = .ok (.bipush 17, 2) := by decide +kernel
theorem dX6_tryOnce_52 : decode cX6_tryOnce 52 = .ok (.iadd, 1) := by decide +kernel
theorem dX6_tryOnce_53 : decode cX6_tryOnce 53 = .ok (.iconst 4, 1) := by decide +kernel
theorem dX6_tryOnce_54 : decode cX6_tryOnce 54 = .ok (.isub, 1) := by decide +kernel
theorem dX6_tryOnce_55 : decode cX6_tryOnce 55 = .ok (.dup2, 1) := by decide +kernel
theorem dX6_tryOnce_56 : decode cX6_tryOnce 56 = .ok (.iaload, 1) := by decide +kernel
theorem dX6_tryOnce_57 : decode cX6_tryOnce 57 = .ok (.iload_n 3, 1) := by decide +kernel
theorem dX6_tryOnce_58 : decode cX6_tryOnce 58 = .ok (.isub, 1) := by decide +kernel
theorem dX6_tryOnce_59 : decode cX6_tryOnce 59 = .ok (.iastore, 1) := by decide +kernel
theorem dX6_tryOnce_60 : decode cX6_tryOnce 60 = .ok (.aload_n 0, 1) := by decide +kernel
theorem dX6_tryOnce_61 : decode cX6_tryOnce 61 = .ok (.getfield 7, 3) := by decide +kernel
theorem dX6_tryOnce_64 : decode cX6_tryOnce 64 = .ok (.iload_n 2, 1) := by decide +kernel
theorem dX6_tryOnce_65 : decode cX6_tryOnce 65 = .ok (.bipush 18, 2) := by decide +kernel
theorem dX6_tryOnce_67 : decode cX6_tryOnce 67 = .ok (.iadd, 1) := by decide +kernel
theorem dX6_tryOnce_68 : decode cX6_tryOnce 68 = .ok (.iconst 4, 1) := by decide +kernel
theorem dX6_tryOnce_69 : decode cX6_tryOnce 69 = .ok (.isub, 1) := by decide +kernel
theorem dX6_tryOnce_70 : decode cX6_tryOnce 70 = .ok (.dup2, 1) := by decide +kernel
theorem dX6_tryOnce_71 : decode cX6_tryOnce 71 = .ok (.iaload, 1) := by decide +kernel
theorem dX6_tryOnce_72 : decode cX6_tryOnce 72 = .ok (.iconst 1, 1) := by decide +kernel
theorem dX6_tryOnce_73 : decode cX6_tryOnce 73 = .ok (.iadd, 1) := by decide +kernel
theorem dX6_tryOnce_74 : decode cX6_tryOnce 74 = .ok (.iastore, 1) := by decide +kernel
theorem dX6_tryOnce_75 : decode cX6_tryOnce 75 = .ok (.aload_n 0, 1) := by decide +kernel
theorem dX6_tryOnce_76 : decode cX6_tryOnce 76 = .ok (.getfield 7, 3) := by decide +kernel
theorem dX6_tryOnce_79 : decode cX6_tryOnce 79 = .ok (.sipush 192, 3) := by decide +kernel
theorem dX6_tryOnce_82 : decode cX6_tryOnce 82 = .ok (.dup2, 1) := by decide +kernel
theorem dX6_tryOnce_83 : decode cX6_tryOnce 83 = .ok (.iaload, 1) := by decide +kernel
theorem dX6_tryOnce_84 : decode cX6_tryOnce 84 = .ok (.iload_n 3, 1) := by decide +kernel
theorem dX6_tryOnce_85 : decode cX6_tryOnce 85 = .ok (.iadd, 1) := by decide +kernel
theorem dX6_tryOnce_86 : decode cX6_tryOnce 86 = .ok (.iastore, 1) := by decide +kernel
theorem dX6_tryOnce_87 : decode cX6_tryOnce 87 = .ok (.aload_n 0, 1) := by decide +kernel
theorem dX6_tryOnce_88 : decode cX6_tryOnce 88 = .ok (.getfield 7, 3) := by decide +kernel
theorem dX6_tryOnce_91 : decode cX6_tryOnce 91 = .ok (.iload_n 2, 1) := by decide +kernel
theorem dX6_tryOnce_92 : decode cX6_tryOnce 92 = .ok (.bipush 18, 2) := by decide +kernel
theorem dX6_tryOnce_94 : decode cX6_tryOnce 94 = .ok (.iadd, 1) := by decide +kernel
theorem dX6_tryOnce_95 : decode cX6_tryOnce 95 = .ok (.iconst 4, 1) := by decide +kernel
theorem dX6_tryOnce_96 : decode cX6_tryOnce 96 = .ok (.isub, 1) := by decide +kernel
theorem dX6_tryOnce_97 : decode cX6_tryOnce 97 = .ok (.iaload, 1) := by decide +kernel
theorem dX6_tryOnce_98 : decode cX6_tryOnce 98 = .ok (.iload 4, 2) := by decide +kernel
theorem dX6_tryOnce_100 : decode cX6_tryOnce 100 = .ok (.irem, 1) := by decide +kernel
theorem dX6_tryOnce_101 : decode cX6_tryOnce 101 = .ok (.ifCond .ne 32, 3) := by decide +kernel
theorem dX6_tryOnce_104 : decode cX6_tryOnce 104 = .ok (.aload_n 0, 1) := by decide +kernel
theorem dX6_tryOnce_105 : decode cX6_tryOnce 105 = .ok (.getfield 7, 3) := by decide +kernel
theorem dX6_tryOnce_108 : decode cX6_tryOnce 108 = .ok (.iload_n 2, 1) := by decide +kernel
theorem dX6_tryOnce_109 : decode cX6_tryOnce 109 = .ok (.bipush 19, 2) := by decide +kernel
theorem dX6_tryOnce_111 : decode cX6_tryOnce 111 = .ok (.iadd, 1) := by decide +kernel
theorem dX6_tryOnce_112 : decode cX6_tryOnce 112 = .ok (.iconst 4, 1) := by decide +kernel
theorem dX6_tryOnce_113 : decode cX6_tryOnce 113 = .ok (.isub, 1) := by decide +kernel
theorem dX6_tryOnce_114 : decode cX6_tryOnce 114 = .ok (.dup2, 1) := by decide +kernel
theorem dX6_tryOnce_115 : decode cX6_tryOnce 115 = .ok (.iaload, 1) := by decide +kernel
theorem dX6_tryOnce_116 : decode cX6_tryOnce 116 = .ok (.iconst 1, 1) := by decide +kernel
theorem dX6_tryOnce_117 : decode cX6_tryOnce 117 = .ok (.iadd, 1) := by decide +kernel
theorem dX6_tryOnce_118 : decode cX6_tryOnce 118 = .ok (.iastore, 1) := by decide +kernel
theorem dX6_tryOnce_119 : decode cX6_tryOnce 119 = .ok (.aload_n 0, 1) := by decide +kernel
theorem dX6_tryOnce_120 : decode cX6_tryOnce 120 = .ok (.getfield 7, 3) := by decide +kernel
theorem dX6_tryOnce_123 : decode cX6_tryOnce 123 = .ok (.sipush 193, 3) := by decide +kernel
theorem dX6_tryOnce_126 : decode cX6_tryOnce 126 = .ok (.dup2, 1) := by decide +kernel
theorem dX6_tryOnce_127 : decode cX6_tryOnce 127 = .ok (.iaload, 1) := by decide +kernel
theorem dX6_tryOnce_128 : decode cX6_tryOnce 128 = .ok (.iload_n 3, 1) := by decide +kernel
theorem dX6_tryOnce_129 : decode cX6_tryOnce 129 = .ok (.iadd, 1) := by decide +kernel
theorem dX6_tryOnce_130 : decode cX6_tryOnce 130 = .ok (.iastore, 1) := by decide +kernel
theorem dX6_tryOnce_131 : decode cX6_tryOnce 131 = .ok (.iconst 0, 1) := by decide +kernel
theorem dX6_tryOnce_132 : decode cX6_tryOnce 132 = .ok (.ireturn, 1) := by decide +kernel
theorem dX6_tryOnce_133 : decode cX6_tryOnce 133 = .ok (.aload_n 0, 1) := by decide +kernel
theorem dX6_tryOnce_134 : decode cX6_tryOnce 134 = .ok (.iload_n 1, 1) := by decide +kernel
theorem dX6_tryOnce_135 : decode cX6_tryOnce 135 = .ok (.iconst 0, 1) := by decide +kernel
theorem dX6_tryOnce_136 : decode cX6_tryOnce 136 = .ok (.invokevirtual 65, 3) := by decide +kernel
theorem dX6_tryOnce_139 : decode cX6_tryOnce 139 = .ok (.istore 5, 2) := by decide +kernel
theorem dX6_tryOnce_141 : decode cX6_tryOnce 141 = .ok (.aload_n 0, 1) := by decide +kernel
theorem dX6_tryOnce_142 : decode cX6_tryOnce 142 = .ok (.iload 5, 2) := by decide +kernel
theorem dX6_tryOnce_144 : decode cX6_tryOnce 144 = .ok (.invokevirtual 68, 3) := by decide +kernel
theorem dX6_tryOnce_147 : decode cX6_tryOnce 147 = .ok (.istore 6, 2) := by decide +kernel
theorem dX6_tryOnce_149 : decode cX6_tryOnce 149 = .ok (.aload_n 0, 1) := by decide +kernel
theorem dX6_tryOnce_150 : decode cX6_tryOnce 150 = .ok (.iload_n 1, 1) := by decide +kernel
theorem dX6_tryOnce_151 : decode cX6_tryOnce 151 = .ok (.invokevirtual 71, 3) := by decide +kernel
theorem dX6_tryOnce_154 : decode cX6_tryOnce 154 = .ok (.aload_n 0, 1) := by decide +kernel
theorem dX6_tryOnce_155 : decode cX6_tryOnce 155 = .ok (.getfield 7, 3) := by decide +kernel
theorem dX6_tryOnce_158 : decode cX6_tryOnce 158 = .ok (.bipush 73, 2) := by decide +kernel
theorem dX6_tryOnce_160 : decode cX6_tryOnce 160 = .ok (.bipush 7, 2) := by decide +kernel
theorem dX6_tryOnce_162 : decode cX6_tryOnce 162 = .ok (.iload 6, 2) := by decide +kernel
theorem dX6_tryOnce_164 : decode cX6_tryOnce 164 = .ok (.imul, 1) := by decide +kernel
theorem dX6_tryOnce_165 : decode cX6_tryOnce 165 = .ok (.iadd, 1) := by decide +kernel
theorem dX6_tryOnce_166 : decode cX6_tryOnce 166 = .ok (.iconst 1, 1) := by decide +kernel
theorem dX6_tryOnce_167 : decode cX6_tryOnce 167 = .ok (.iadd, 1) := by decide +kernel
theorem dX6_tryOnce_168 : decode cX6_tryOnce 168 = .ok (.iload 5, 2) := by decide +kernel
theorem dX6_tryOnce_170 : decode cX6_tryOnce 170 = .ok (.iadd, 1) := by decide +kernel
theorem dX6_tryOnce_171 : decode cX6_tryOnce 171 = .ok (.dup2, 1) := by decide +kernel
theorem dX6_tryOnce_172 : decode cX6_tryOnce 172 = .ok (.iaload, 1) := by decide +kernel
theorem dX6_tryOnce_173 : decode cX6_tryOnce 173 = .ok (.iconst 1, 1) := by decide +kernel
theorem dX6_tryOnce_174 : decode cX6_tryOnce 174 = .ok (.iadd, 1) := by decide +kernel
theorem dX6_tryOnce_175 : decode cX6_tryOnce 175 = .ok (.iastore, 1) := by decide +kernel
theorem dX6_tryOnce_176 : decode cX6_tryOnce 176 = .ok (.aload_n 0, 1) := by decide +kernel
theorem dX6_tryOnce_177 : decode cX6_tryOnce 177 = .ok (.getfield 7, 3) := by decide +kernel
theorem dX6_tryOnce_180 : decode cX6_tryOnce 180 = .ok (.iload_n 2, 1) := by decide +kernel
theorem dX6_tryOnce_181 : decode cX6_tryOnce 181 = .ok (.bipush 20, 2) := by decide +kernel
theorem dX6_tryOnce_183 : decode cX6_tryOnce 183 = .ok (.iadd, 1) := by decide +kernel
theorem dX6_tryOnce_184 : decode cX6_tryOnce 184 = .ok (.iconst 4, 1) := by decide +kernel
theorem dX6_tryOnce_185 : decode cX6_tryOnce 185 = .ok (.isub, 1) := by decide +kernel
theorem dX6_tryOnce_186 : decode cX6_tryOnce 186 = .ok (.dup2, 1) := by decide +kernel
theorem dX6_tryOnce_187 : decode cX6_tryOnce 187 = .ok (.iaload, 1) := by decide +kernel
theorem dX6_tryOnce_188 : decode cX6_tryOnce 188 = .ok (.iconst 1, 1) := by decide +kernel
theorem dX6_tryOnce_189 : decode cX6_tryOnce 189 = .ok (.iadd, 1) := by decide +kernel
theorem dX6_tryOnce_190 : decode cX6_tryOnce 190 = .ok (.iastore, 1) := by decide +kernel
theorem dX6_tryOnce_191 : decode cX6_tryOnce 191 = .ok (.iconst 1, 1) := by decide +kernel
theorem dX6_tryOnce_192 : decode cX6_tryOnce 192 = .ok (.ireturn, 1) := by decide +kernel
def wp_X6_tryOnce_b43 (x1 : Int32) (Q : Int32 → Sg → Prop) (v2 : Int32) (v3 : Int32) (s0 : Int32) (σ : Sg) : Prop := ∀ z5 : Int32, z5 = ((v2 + (17 : Int32)) - (4 : Int32)) → (vp_in z5 194 ∧ (vp_in z5 194 ∧ ∀ σ6 : Sg, σ6 = up σ 12 19 0 z5.toNatClampNeg ((σ 12 19 0 z5.toNatClampNeg) - v3) → ∀ z7 : Int32, z7 = ((v2 + (18 : Int32)) - (4 : Int32)) → (vp_in z7 194 ∧ (vp_in z7 194 ∧ ∀ σ8 : Sg, σ8 = up σ6 12 19 0 z7.toNatClampNeg ((σ6 12 19 0 z7.toNatClampNeg) + (1 : Int32)) → ∀ σ9 : Sg, σ9 = up σ8 12 19 0 192 ((σ8 12 19 0 192) + v3) → (vp_in ((v2 + (18 : Int32)) - (4 : Int32)) 194 ∧ (¬ s0 = 0 ∧ ((¬ ((σ9 12 19 0 ((v2 + (18 : Int32)) - (4 : Int32)).toNatClampNeg) - (σ9 12 19 0 ((v2 + (18 : Int32)) - (4 : Int32)).toNatClampNeg) / s0 * s0) = 0 → wp_X6_heapFlavour x1 (0 : Int32) σ9 (fun r11 σ12 => wp_X6_tinFor r11 σ12 (fun r13 σ14 => wp_X6_takeSweet x1 σ14 (fun σ15 => ∀ z16 : Int32, z16 = ((((73 : Int32) + ((7 : Int32) * r13)) + (1 : Int32)) + r11) → (vp_in z16 194 ∧ (vp_in z16 194 ∧ ∀ σ17 : Sg, σ17 = up σ15 12 19 0 z16.toNatClampNeg ((σ15 12 19 0 z16.toNatClampNeg) + (1 : Int32)) → ∀ z18 : Int32, z18 = ((v2 + (20 : Int32)) - (4 : Int32)) → (vp_in z18 194 ∧ (vp_in z18 194 ∧ ∀ σ19 : Sg, σ19 = up σ17 12 19 0 z18.toNatClampNeg ((σ17 12 19 0 z18.toNatClampNeg) + (1 : Int32)) → Q (1 : Int32) σ19)))))))) ∧ (((σ9 12 19 0 ((v2 + (18 : Int32)) - (4 : Int32)).toNatClampNeg) - (σ9 12 19 0 ((v2 + (18 : Int32)) - (4 : Int32)).toNatClampNeg) / s0 * s0) = 0 → ∀ z20 : Int32, z20 = ((v2 + (19 : Int32)) - (4 : Int32)) → (vp_in z20 194 ∧ (vp_in z20 194 ∧ ∀ σ21 : Sg, σ21 = up σ9 12 19 0 z20.toNatClampNeg ((σ9 12 19 0 z20.toNatClampNeg) + (1 : Int32)) → ∀ σ22 : Sg, σ22 = up σ21 12 19 0 193 ((σ21 12 19 0 193) + v3) → Q (0 : Int32) σ22))))))))))
set_option maxRecDepth 100000 in
set_option maxHeartbeats 4000000 in
theorem g_X6_tryOnce_b43 {X : Tx} {Q : Int32 → Sg → Prop} (C : Cx X cX6_tryOnce "SweetWrapsModel" (some .int) 4 89 7 (QI (tE X) Q)) {x1 : Int32} {v2 : Int32} {v3 : Int32} {s0 : Int32} {σ : Sg} (hw : wp_X6_tryOnce_b43 x1 Q v2 v3 s0 σ) : G X σ [(0, .ref (ad (tE X) 12 18 0)), (1, .int x1), (2, .int v2), (3, .int v3)] [.int s0] 43 := by
  unfold wp_X6_tryOnce_b43 at hw
  refine gx_istore (lv' := [(4, .int s0), (0, .ref (ad (tE X) 12 18 0)), (1, .int x1), (2, .int v2), (3, .int v3)]) C dX6_tryOnce_43 (by decide) rfl ?_
  refine gx_aload_n C dX6_tryOnce_45 1 rfl ?_
  refine gx_get C okg_18 rfl rfl inX6 (ref := "SweetWrapsModel") 0 (by decide) bw_673 rfl rfl dX6_tryOnce_46 ?_
  refine gx_iload_n C dX6_tryOnce_49 3 rfl ?_
  refine gx_bipush (v := (17 : Int32)) C dX6_tryOnce_50 (by decide) ?_
  refine gx_iadd C dX6_tryOnce_52 ?_
  refine gx_iconst (v := (4 : Int32)) C dX6_tryOnce_53 (by decide) ?_
  refine gx_isub C dX6_tryOnce_54 ?_
  obtain ⟨z5, e_z5⟩ : ∃ z : Int32, z = ((v2 + (17 : Int32)) - (4 : Int32)) := ⟨_, rfl⟩
  replace hw := hw z5 e_z5
  refine gx_top e_z5 ?_
  refine gx_dup2 C dX6_tryOnce_55 rfl rfl ?_
  refine gx_iald C okg_19 rfl hw.1 _ rfl dX6_tryOnce_56 ?_
  replace hw := hw.2
  refine gx_iload_n C dX6_tryOnce_57 4 rfl ?_
  refine gx_isub C dX6_tryOnce_58 ?_
  refine gx_iast C okg_19 (fun _ => rfl) hw.1 _ rfl rfl dX6_tryOnce_59 ?_
  replace hw := hw.2
  obtain ⟨σ6, e_σ6⟩ : ∃ z : Sg, z = up σ 12 19 0 z5.toNatClampNeg ((σ 12 19 0 z5.toNatClampNeg) - v3) := ⟨_, rfl⟩
  replace hw := hw σ6 e_σ6
  refine gx_st e_σ6 ?_
  refine gx_aload_n C dX6_tryOnce_60 1 rfl ?_
  refine gx_get C okg_18 rfl rfl inX6 (ref := "SweetWrapsModel") 0 (by decide) bw_673 rfl rfl dX6_tryOnce_61 ?_
  refine gx_iload_n C dX6_tryOnce_64 3 rfl ?_
  refine gx_bipush (v := (18 : Int32)) C dX6_tryOnce_65 (by decide) ?_
  refine gx_iadd C dX6_tryOnce_67 ?_
  refine gx_iconst (v := (4 : Int32)) C dX6_tryOnce_68 (by decide) ?_
  refine gx_isub C dX6_tryOnce_69 ?_
  obtain ⟨z7, e_z7⟩ : ∃ z : Int32, z = ((v2 + (18 : Int32)) - (4 : Int32)) := ⟨_, rfl⟩
  replace hw := hw z7 e_z7
  refine gx_top e_z7 ?_
  refine gx_dup2 C dX6_tryOnce_70 rfl rfl ?_
  refine gx_iald C okg_19 rfl hw.1 _ rfl dX6_tryOnce_71 ?_
  replace hw := hw.2
  refine gx_iconst (v := (1 : Int32)) C dX6_tryOnce_72 (by decide) ?_
  refine gx_iadd C dX6_tryOnce_73 ?_
  refine gx_iast C okg_19 (fun _ => rfl) hw.1 _ rfl rfl dX6_tryOnce_74 ?_
  replace hw := hw.2
  obtain ⟨σ8, e_σ8⟩ : ∃ z : Sg, z = up σ6 12 19 0 z7.toNatClampNeg ((σ6 12 19 0 z7.toNatClampNeg) + (1 : Int32)) := ⟨_, rfl⟩
  replace hw := hw σ8 e_σ8
  refine gx_st e_σ8 ?_
  refine gx_aload_n C dX6_tryOnce_75 1 rfl ?_
  refine gx_get C okg_18 rfl rfl inX6 (ref := "SweetWrapsModel") 0 (by decide) bw_673 rfl rfl dX6_tryOnce_76 ?_
  refine gx_sipush (v := (192 : Int32)) C dX6_tryOnce_79 (by decide) ?_
  refine gx_dup2 C dX6_tryOnce_82 rfl rfl ?_
  refine gx_iald C okg_19 rfl (n := 194) (x := (192 : Int32)) (by unfold vp_in; decide) 192 (by decide) dX6_tryOnce_83 ?_
  refine gx_iload_n C dX6_tryOnce_84 4 rfl ?_
  refine gx_iadd C dX6_tryOnce_85 ?_
  refine gx_iast C okg_19 (fun _ => rfl) (n := 194) (x := (192 : Int32)) (by unfold vp_in; decide) 192 (by decide) rfl dX6_tryOnce_86 ?_
  obtain ⟨σ9, e_σ9⟩ : ∃ z : Sg, z = up σ8 12 19 0 192 ((σ8 12 19 0 192) + v3) := ⟨_, rfl⟩
  replace hw := hw σ9 e_σ9
  refine gx_st e_σ9 ?_
  refine gx_aload_n C dX6_tryOnce_87 1 rfl ?_
  refine gx_get C okg_18 rfl rfl inX6 (ref := "SweetWrapsModel") 0 (by decide) bw_673 rfl rfl dX6_tryOnce_88 ?_
  refine gx_iload_n C dX6_tryOnce_91 3 rfl ?_
  refine gx_bipush (v := (18 : Int32)) C dX6_tryOnce_92 (by decide) ?_
  refine gx_iadd C dX6_tryOnce_94 ?_
  refine gx_iconst (v := (4 : Int32)) C dX6_tryOnce_95 (by decide) ?_
  refine gx_isub C dX6_tryOnce_96 ?_
  refine gx_iald C okg_19 rfl hw.1 _ rfl dX6_tryOnce_97 ?_
  replace hw := hw.2
  refine gx_iload C dX6_tryOnce_98 0 rfl ?_
  refine gx_irem C dX6_tryOnce_100 hw.1 ?_
  replace hw := hw.2
  refine gx_if_ne (tgt := 133) C dX6_tryOnce_101 (by decide) (fun c10 => ?_) (fun c10 => ?_)
  · replace hw := hw.1 c10
    refine gx_aload_n C dX6_tryOnce_133 1 rfl ?_
    refine gx_iload_n C dX6_tryOnce_134 2 rfl ?_
    refine gx_iconst (v := (0 : Int32)) C dX6_tryOnce_135 (by decide) ?_
    refine gx_vcalli (As := [.int x1, .int (0 : Int32)]) (rest := []) C (c_X6_heapFlavour _ _ hw) okg_18 rfl rfl bw_736 bw_738 bs_30 bw_7 bw_739 hy_X6_heapFlavour ⟨by decide, by decide⟩ rfl (Nat.le_of_ble_eq_true rfl) dX6_tryOnce_136 (fun r11 σ12 hw => ?_)
    refine gx_istore (lv' := [(5, .int r11), (4, .int s0), (0, .ref (ad (tE X) 12 18 0)), (1, .int x1), (2, .int v2), (3, .int v3)]) C dX6_tryOnce_139 (by decide) rfl ?_
    refine gx_aload_n C dX6_tryOnce_141 2 rfl ?_
    refine gx_iload C dX6_tryOnce_142 0 rfl ?_
    refine gx_vcalli (As := [.int r11]) (rest := []) C (c_X6_tinFor _ _ hw) okg_18 rfl rfl bw_828 bw_830 bs_48 bw_7 bw_831 hy_X6_tinFor ⟨by decide, by decide⟩ rfl (Nat.le_of_ble_eq_true rfl) dX6_tryOnce_144 (fun r13 σ14 hw => ?_)
    refine gx_istore (lv' := [(6, .int r13), (5, .int r11), (4, .int s0), (0, .ref (ad (tE X) 12 18 0)), (1, .int x1), (2, .int v2), (3, .int v3)]) C dX6_tryOnce_147 (by decide) rfl ?_
    refine gx_aload_n C dX6_tryOnce_149 3 rfl ?_
    refine gx_iload_n C dX6_tryOnce_150 4 rfl ?_
    refine gx_vcallv (As := [.int x1]) (rest := []) C (c_X6_takeSweet _ _ hw) okg_18 rfl rfl bw_844 bw_846 bs_52 bw_7 bw_847 hy_X6_takeSweet ⟨by decide, by decide⟩ rfl (Nat.le_of_ble_eq_true rfl) dX6_tryOnce_151 (fun σ15 hw => ?_)
    refine gx_aload_n C dX6_tryOnce_154 3 rfl ?_
    refine gx_get C okg_18 rfl rfl inX6 (ref := "SweetWrapsModel") 0 (by decide) bw_673 rfl rfl dX6_tryOnce_155 ?_
    refine gx_bipush (v := (73 : Int32)) C dX6_tryOnce_158 (by decide) ?_
    refine gx_bipush (v := (7 : Int32)) C dX6_tryOnce_160 (by decide) ?_
    refine gx_iload C dX6_tryOnce_162 0 rfl ?_
    refine gx_imul C dX6_tryOnce_164 ?_
    refine gx_iadd C dX6_tryOnce_165 ?_
    refine gx_iconst (v := (1 : Int32)) C dX6_tryOnce_166 (by decide) ?_
    refine gx_iadd C dX6_tryOnce_167 ?_
    refine gx_iload C dX6_tryOnce_168 1 rfl ?_
    refine gx_iadd C dX6_tryOnce_170 ?_
    obtain ⟨z16, e_z16⟩ : ∃ z : Int32, z = ((((73 : Int32) + ((7 : Int32) * r13)) + (1 : Int32)) + r11) := ⟨_, rfl⟩
    replace hw := hw z16 e_z16
    refine gx_top e_z16 ?_
    refine gx_dup2 C dX6_tryOnce_171 rfl rfl ?_
    refine gx_iald C okg_19 rfl hw.1 _ rfl dX6_tryOnce_172 ?_
    replace hw := hw.2
    refine gx_iconst (v := (1 : Int32)) C dX6_tryOnce_173 (by decide) ?_
    refine gx_iadd C dX6_tryOnce_174 ?_
    refine gx_iast C okg_19 (fun _ => rfl) hw.1 _ rfl rfl dX6_tryOnce_175 ?_
    replace hw := hw.2
    obtain ⟨σ17, e_σ17⟩ : ∃ z : Sg, z = up σ15 12 19 0 z16.toNatClampNeg ((σ15 12 19 0 z16.toNatClampNeg) + (1 : Int32)) := ⟨_, rfl⟩
    replace hw := hw σ17 e_σ17
    refine gx_st e_σ17 ?_
    refine gx_aload_n C dX6_tryOnce_176 3 rfl ?_
    refine gx_get C okg_18 rfl rfl inX6 (ref := "SweetWrapsModel") 0 (by decide) bw_673 rfl rfl dX6_tryOnce_177 ?_
    refine gx_iload_n C dX6_tryOnce_180 5 rfl ?_
    refine gx_bipush (v := (20 : Int32)) C dX6_tryOnce_181 (by decide) ?_
    refine gx_iadd C dX6_tryOnce_183 ?_
    refine gx_iconst (v := (4 : Int32)) C dX6_tryOnce_184 (by decide) ?_
    refine gx_isub C dX6_tryOnce_185 ?_
    obtain ⟨z18, e_z18⟩ : ∃ z : Int32, z = ((v2 + (20 : Int32)) - (4 : Int32)) := ⟨_, rfl⟩
    replace hw := hw z18 e_z18
    refine gx_top e_z18 ?_
    refine gx_dup2 C dX6_tryOnce_186 rfl rfl ?_
    refine gx_iald C okg_19 rfl hw.1 _ rfl dX6_tryOnce_187 ?_
    replace hw := hw.2
    refine gx_iconst (v := (1 : Int32)) C dX6_tryOnce_188 (by decide) ?_
    refine gx_iadd C dX6_tryOnce_189 ?_
    refine gx_iast C okg_19 (fun _ => rfl) hw.1 _ rfl rfl dX6_tryOnce_190 ?_
    replace hw := hw.2
    obtain ⟨σ19, e_σ19⟩ : ∃ z : Sg, z = up σ17 12 19 0 z18.toNatClampNeg ((σ17 12 19 0 z18.toNatClampNeg) + (1 : Int32)) := ⟨_, rfl⟩
    replace hw := hw σ19 e_σ19
    refine gx_st e_σ19 ?_
    refine gx_iconst (v := (1 : Int32)) C dX6_tryOnce_191 (by decide) ?_
    exact gx_iret C rfl rfl dX6_tryOnce_192 hw
  · replace hw := hw.2 c10
    refine gx_aload_n C dX6_tryOnce_104 1 rfl ?_
    refine gx_get C okg_18 rfl rfl inX6 (ref := "SweetWrapsModel") 0 (by decide) bw_673 rfl rfl dX6_tryOnce_105 ?_
    refine gx_iload_n C dX6_tryOnce_108 3 rfl ?_
    refine gx_bipush (v := (19 : Int32)) C dX6_tryOnce_109 (by decide) ?_
    refine gx_iadd C dX6_tryOnce_111 ?_
    refine gx_iconst (v := (4 : Int32)) C dX6_tryOnce_112 (by decide) ?_
    refine gx_isub C dX6_tryOnce_113 ?_
    obtain ⟨z20, e_z20⟩ : ∃ z : Int32, z = ((v2 + (19 : Int32)) - (4 : Int32)) := ⟨_, rfl⟩
    replace hw := hw z20 e_z20
    refine gx_top e_z20 ?_
    refine gx_dup2 C dX6_tryOnce_114 rfl rfl ?_
    refine gx_iald C okg_19 rfl hw.1 _ rfl dX6_tryOnce_115 ?_
    replace hw := hw.2
    refine gx_iconst (v := (1 : Int32)) C dX6_tryOnce_116 (by decide) ?_
    refine gx_iadd C dX6_tryOnce_117 ?_
    refine gx_iast C okg_19 (fun _ => rfl) hw.1 _ rfl rfl dX6_tryOnce_118 ?_
    replace hw := hw.2
    obtain ⟨σ21, e_σ21⟩ : ∃ z : Sg, z = up σ9 12 19 0 z20.toNatClampNeg ((σ9 12 19 0 z20.toNatClampNeg) + (1 : Int32)) := ⟨_, rfl⟩
    replace hw := hw σ21 e_σ21
    refine gx_st e_σ21 ?_
    refine gx_aload_n C dX6_tryOnce_119 1 rfl ?_
    refine gx_get C okg_18 rfl rfl inX6 (ref := "SweetWrapsModel") 0 (by decide) bw_673 rfl rfl dX6_tryOnce_120 ?_
    refine gx_sipush (v := (193 : Int32)) C dX6_tryOnce_123 (by decide) ?_
    refine gx_dup2 C dX6_tryOnce_126 rfl rfl ?_
    refine gx_iald C okg_19 rfl (n := 194) (x := (193 : Int32)) (by unfold vp_in; decide) 193 (by decide) dX6_tryOnce_127 ?_
    refine gx_iload_n C dX6_tryOnce_128 4 rfl ?_
    refine gx_iadd C dX6_tryOnce_129 ?_
    refine gx_iast C okg_19 (fun _ => rfl) (n := 194) (x := (193 : Int32)) (by unfold vp_in; decide) 193 (by decide) rfl dX6_tryOnce_130 ?_
    obtain ⟨σ22, e_σ22⟩ : ∃ z : Sg, z = up σ21 12 19 0 193 ((σ21 12 19 0 193) + v3) := ⟨_, rfl⟩
    replace hw := hw σ22 e_σ22
    refine gx_st e_σ22 ?_
    refine gx_iconst (v := (0 : Int32)) C dX6_tryOnce_131 (by decide) ?_
    exact gx_iret C rfl rfl dX6_tryOnce_132 hw
def wp_X6_tryOnce (x1 : Int32) (σ : Sg) (Q : Int32 → Sg → Prop) : Prop := ∀ z1 : Int32, z1 = ((4 : Int32) + ((17 : Int32) * x1)) → ∀ z2 : Int32, z2 = ((2 : Int32) + (σ 12 19 0 3)) → (¬ (σ 12 19 0 0) = 0 ∧ ∀ z3 : Int32, z3 = ((σ 12 19 0 1) / (σ 12 19 0 0)) → (((2 : Int32) ≤ z3 → wp_X6_tryOnce_b43 x1 Q z1 z2 z3 σ) ∧ (¬ (2 : Int32) ≤ z3 → wp_X6_tryOnce_b43 x1 Q z1 z2 (2 : Int32) σ)))
set_option maxRecDepth 100000 in
set_option maxHeartbeats 4000000 in
theorem c_X6_tryOnce (l : Launch) (E : Ev) {x1 : Int32} {σ : Sg} {Q : Int32 → Sg → Prop} (hw : wp_X6_tryOnce x1 σ Q) : CT l E yX6_tryOnce cX6_tryOnce 7 (some .int) 4 89 [.ref (ad E 12 18 0), .int x1] σ (QI E Q) := by
  refine CT_of (by decide) (Nat.le_of_ble_eq_true rfl) (fun X h1 h2 C => ?_)
  subst h1; subst h2
  have C : Cx X cX6_tryOnce "SweetWrapsModel" (some .int) 4 89 7 (QI (tE X) Q) := C
  show G X σ [(0, .ref (ad (tE X) 12 18 0)), (1, .int x1)] [] 0
  unfold wp_X6_tryOnce at hw
  refine gx_iconst (v := (4 : Int32)) C dX6_tryOnce_0 (by decide) ?_
  refine gx_bipush (v := (17 : Int32)) C dX6_tryOnce_1 (by decide) ?_
  refine gx_iload_n C dX6_tryOnce_3 1 rfl ?_
  refine gx_imul C dX6_tryOnce_4 ?_
  refine gx_iadd C dX6_tryOnce_5 ?_
  obtain ⟨z1, e_z1⟩ : ∃ z : Int32, z = ((4 : Int32) + ((17 : Int32) * x1)) := ⟨_, rfl⟩
  replace hw := hw z1 e_z1
  refine gx_top e_z1 ?_
  refine gx_istore_n (lv' := [(2, .int z1), (0, .ref (ad (tE X) 12 18 0)), (1, .int x1)]) C dX6_tryOnce_6 (by decide) rfl ?_
  refine gx_iconst (v := (2 : Int32)) C dX6_tryOnce_7 (by decide) ?_
  refine gx_aload_n C dX6_tryOnce_8 1 rfl ?_
  refine gx_get C okg_18 rfl rfl inX6 (ref := "SweetWrapsModel") 0 (by decide) bw_673 rfl rfl dX6_tryOnce_9 ?_
  refine gx_iconst (v := (3 : Int32)) C dX6_tryOnce_12 (by decide) ?_
  refine gx_iald C okg_19 rfl (n := 194) (x := (3 : Int32)) (by unfold vp_in; decide) 3 (by decide) dX6_tryOnce_13 ?_
  refine gx_iadd C dX6_tryOnce_14 ?_
  obtain ⟨z2, e_z2⟩ : ∃ z : Int32, z = ((2 : Int32) + (σ 12 19 0 3)) := ⟨_, rfl⟩
  replace hw := hw z2 e_z2
  refine gx_top e_z2 ?_
  refine gx_istore_n (lv' := [(3, .int z2), (2, .int z1), (0, .ref (ad (tE X) 12 18 0)), (1, .int x1)]) C dX6_tryOnce_15 (by decide) rfl ?_
  refine gx_aload_n C dX6_tryOnce_16 2 rfl ?_
  refine gx_get C okg_18 rfl rfl inX6 (ref := "SweetWrapsModel") 0 (by decide) bw_673 rfl rfl dX6_tryOnce_17 ?_
  refine gx_iconst (v := (1 : Int32)) C dX6_tryOnce_20 (by decide) ?_
  refine gx_iald C okg_19 rfl (n := 194) (x := (1 : Int32)) (by unfold vp_in; decide) 1 (by decide) dX6_tryOnce_21 ?_
  refine gx_aload_n C dX6_tryOnce_22 2 rfl ?_
  refine gx_get C okg_18 rfl rfl inX6 (ref := "SweetWrapsModel") 0 (by decide) bw_673 rfl rfl dX6_tryOnce_23 ?_
  refine gx_iconst (v := (0 : Int32)) C dX6_tryOnce_26 (by decide) ?_
  refine gx_iald C okg_19 rfl (n := 194) (x := (0 : Int32)) (by unfold vp_in; decide) 0 (by decide) dX6_tryOnce_27 ?_
  refine gx_idiv C dX6_tryOnce_28 hw.1 ?_
  replace hw := hw.2
  obtain ⟨z3, e_z3⟩ : ∃ z : Int32, z = ((σ 12 19 0 1) / (σ 12 19 0 0)) := ⟨_, rfl⟩
  replace hw := hw z3 e_z3
  refine gx_top e_z3 ?_
  refine gx_istore (lv' := [(4, .int z3), (3, .int z2), (2, .int z1), (0, .ref (ad (tE X) 12 18 0)), (1, .int x1)]) C dX6_tryOnce_29 (by decide) rfl ?_
  refine gx_iload C dX6_tryOnce_31 0 rfl ?_
  refine gx_iconst (v := (2 : Int32)) C dX6_tryOnce_33 (by decide) ?_
  refine gx_icmp_ge (tgt := 41) C dX6_tryOnce_34 (by decide) (fun c4 => ?_) (fun c4 => ?_)
  · replace hw := hw.1 c4
    refine gx_iload C dX6_tryOnce_41 0 rfl ?_
    refine gx_sub (lv' := [(0, .ref (ad (tE X) 12 18 0)), (1, .int x1), (2, .int z1), (3, .int z2)]) [3, 4, 2, 1] rfl ?_
    exact g_X6_tryOnce_b43 C hw
  · replace hw := hw.2 c4
    refine gx_iconst (v := (2 : Int32)) C dX6_tryOnce_37 (by decide) ?_
    refine gx_goto (tgt := 43) C dX6_tryOnce_38 (by decide) ?_
    refine gx_sub (lv' := [(0, .ref (ad (tE X) 12 18 0)), (1, .int x1), (2, .int z1), (3, .int z2)]) [3, 4, 2, 1] rfl ?_
    exact g_X6_tryOnce_b43 C hw
theorem hy_X6_tryOnce : yX6_tryOnce.cls = "SweetWrapsModel" ∧ yX6_tryOnce.cls ≠ "java/lang/invoke/MethodHandle" ∧ yX6_tryOnce.cls ≠ "java/lang/invoke/VarHandle" ∧ (parseMethodDescriptor yX6_tryOnce.desc).map (fun d => d.parameters.length) = some 1 := by decide +kernel

theorem dX6_tick_0 : decode cX6_tick 0 = .ok (.iconst 0, 1) := by decide +kernel
theorem dX6_tick_1 : decode cX6_tick 1 = .ok (.istore_n 1, 1) := by decide +kernel
theorem dX6_tick_2 : decode cX6_tick 2 = .ok (.iconst 0, 1) := by decide +kernel
theorem dX6_tick_3 : decode cX6_tick 3 = .ok (.istore_n 2, 1) := by decide +kernel
theorem dX6_tick_4 : decode cX6_tick 4 = .ok (.iload_n 2, 1) := by decide +kernel
theorem dX6_tick_5 : decode cX6_tick 5 = .ok (.iconst 4, 1) := by decide +kernel
theorem dX6_tick_6 : decode cX6_tick 6 = .ok (.if_icmp .ge 75, 3) := by decide +kernel
theorem dX6_tick_9 : decode cX6_tick 9 = .ok (.aload_n 0, 1) := by decide +kernel
theorem dX6_tick_10 : decode cX6_tick 10 = .ok (.getfield 29, 3) := by decide +kernel
theorem dX6_tick_13 : decode cX6_tick 13 = .ok (.iload_n 2, 1) := by decide +kernel
theorem dX6_tick_14 : decode cX6_tick 14 = .ok (.iconst 0, 1) := by decide +kernel
theorem dX6_tick_15 : decode cX6_tick 15 = .ok (.iastore, 1) := by decide +kernel
theorem dX6_tick_16 : decode cX6_tick 16 = .ok (.iconst 0, 1) := by decide +kernel
theorem dX6_tick_17 : decode cX6_tick 17 = .ok (.istore_n 3, 1) := by decide +kernel
theorem dX6_tick_18 : decode cX6_tick 18 = .ok (.iload_n 3, 1) := by decide +kernel
theorem dX6_tick_19 : decode cX6_tick 19 = .ok (.aload_n 0, 1) := by decide +kernel
theorem dX6_tick_20 : decode cX6_tick 20 = .ok (.getfield 7, 3) := by decide +kernel
theorem dX6_tick_23 : decode cX6_tick 23 = .ok (.iconst 0, 1) := by decide +kernel
theorem dX6_tick_24 : decode cX6_tick 24 = .ok (.iaload, 1) := by decide +kernel
theorem dX6_tick_25 : decode cX6_tick 25 = .ok (.if_icmp .ge 50, 3) := by decide +kernel
theorem dX6_tick_28 : decode cX6_tick 28 = .ok (.aload_n 0, 1) := by decide +kernel
theorem dX6_tick_29 : decode cX6_tick 29 = .ok (.getfield 29, 3) := by decide +kernel
theorem dX6_tick_32 : decode cX6_tick 32 = .ok (.iload_n 2, 1) := by decide +kernel
theorem dX6_tick_33 : decode cX6_tick 33 = .ok (.iaload, 1) := by decide +kernel
theorem dX6_tick_34 : decode cX6_tick 34 = .ok (.ifCond .ne 41, 3) := by decide +kernel
theorem dX6_tick_37 : decode cX6_tick 37 = .ok (.aload_n 0, 1) := by decide +kernel
theorem dX6_tick_38 : decode cX6_tick 38 = .ok (.getfield 29, 3) := by decide +kernel
theorem dX6_tick_41 : decode cX6_tick 41 = .ok (.iload_n 2, 1) := by decide +kernel
theorem dX6_tick_42 : decode cX6_tick 42 = .ok (.aload_n 0, 1) := by decide +kernel
theorem dX6_tick_43 : decode cX6_tick 43 = .ok (.iload_n 2, 1) := by decide +kernel
theorem dX6_tick_44 : decode cX6_tick 44 = .ok (.invokevirtual 75, 3) := by decide +kernel
theorem dX6_tick_47 : decode cX6_tick 47 = .ok (.iastore, 1) := by decide +kernel
theorem dX6_tick_48 : decode cX6_tick 48 = .ok (.iload_n 1, 1) := by decide +kernel
theorem dX6_tick_49 : decode cX6_tick 49 = .ok (.aload_n 0, 1) := by decide +kernel
theorem dX6_tick_50 : decode cX6_tick 50 = .ok (.getfield 29, 3) := by decide +kernel
theorem dX6_tick_53 : decode cX6_tick 53 = .ok (.iload_n 2, 1) := by decide +kernel
theorem dX6_tick_54 : decode cX6_tick 54 = .ok (.iaload, 1) := by decide +kernel
theorem dX6_tick_55 : decode cX6_tick 55 = .ok (.ifCond .ne 11, 3) := by decide +kernel
theorem dX6_tick_58 : decode cX6_tick 58 = .ok (.aload_n 0, 1) := by decide +kernel
theorem dX6_tick_59 : decode cX6_tick 59 = .ok (.iload_n 2, 1) := by decide +kernel
theorem dX6_tick_60 : decode cX6_tick 60 = .ok (.invokevirtual 78, 3) := by decide +kernel
theorem dX6_tick_63 : decode cX6_tick 63 = .ok (.goto 4, 3) := by decide +kernel
theorem dX6_tick_66 : decode cX6_tick 66 = .ok (.iconst 0, 1) := by decide +kernel
theorem dX6_tick_67 : decode cX6_tick 67 = .ok (.iadd, 1) := by decide +kernel
theorem dX6_tick_68 : decode cX6_tick 68 = .ok (.istore_n 1, 1) := by decide +kernel
theorem dX6_tick_69 : decode cX6_tick 69 = .ok (.iinc 3 1, 3) := by decide +kernel
theorem dX6_tick_72 : decode cX6_tick 72 = .ok (.goto (-54), 3) := by decide +kernel
theorem dX6_tick_75 : decode cX6_tick 75 = .ok (.iinc 2 1, 3) := by decide +kernel
theorem dX6_tick_78 : decode cX6_tick 78 = .ok (.goto (-74), 3) := by decide +kernel
theorem dX6_tick_81 : decode cX6_tick 81 = .ok (.aload_n 0, 1) := by decide +kernel
theorem dX6_tick_82 : decode cX6_tick 82 = .ok (.getfield 7, 3) := by decide +kernel
theorem dX6_tick_85 : decode cX6_tick 85 = .ok (.sipush 191, 3) := by decide +kernel
theorem dX6_tick_88 : decode cX6_tick 88 = .ok (.dup2, 1) := by decide +kernel
theorem dX6_tick_89 : decode cX6_tick 89 = .ok (.iaload, 1) := by decide +kernel
theorem dX6_tick_90 : decode cX6_tick 90 = .ok (.iconst 1, 1) := by decide +kernel
theorem dX6_tick_91 : decode cX6_tick 91 = .ok (.iadd, 1) := by decide +kernel
theorem dX6_tick_92 : decode cX6_tick 92 = .ok (.iastore, 1) := by decide +kernel
theorem dX6_tick_93 : decode cX6_tick 93 = .ok (.iload_n 1, 1) := by decide +kernel
theorem dX6_tick_94 : decode cX6_tick 94 = .ok (.ireturn, 1) := by decide +kernel
def wp_X6_tick_b75 (K4 : Int32 → Int32 → Sg → Prop) (Q : Int32 → Sg → Prop) (v1 : Int32) (v2 : Int32) (σ : Sg) : Prop := ∀ z12 : Int32, z12 = v2 + (1 : Int32) → K4 v1 z12 σ
set_option maxRecDepth 100000 in
set_option maxHeartbeats 4000000 in
theorem g_X6_tick_b75 {X : Tx} {Q : Int32 → Sg → Prop} (C : Cx X cX6_tick "SweetWrapsModel" (some .int) 5 115 4 (QI (tE X) Q)) {K4 : Int32 → Int32 → Sg → Prop} (hK4 : ∀ (v1 : Int32) (v2 : Int32) (σ : Sg), K4 v1 v2 σ → G X σ [(0, .ref (ad (tE X) 12 18 0)), (1, .int v1), (2, .int v2)] [] 4) {v1 : Int32} {v2 : Int32} {σ : Sg} (hw : wp_X6_tick_b75 K4 Q v1 v2 σ) : G X σ [(0, .ref (ad (tE X) 12 18 0)), (1, .int v1), (2, .int v2)] [] 75 := by
  unfold wp_X6_tick_b75 at hw
  obtain ⟨z12, e_z12⟩ : ∃ z : Int32, z = v2 + (1 : Int32) := ⟨_, rfl⟩
  replace hw := hw z12 e_z12
  refine gx_iinc (v := z12) (lv' := [(2, .int z12), (0, .ref (ad (tE X) 12 18 0)), (1, .int v1)]) C dX6_tick_75 2 rfl (by rw [e_z12]; rfl) (by decide) rfl ?_
  refine gx_goto (tgt := 4) C dX6_tick_78 (by decide) ?_
  refine gx_sub (lv' := [(0, .ref (ad (tE X) 12 18 0)), (1, .int v1), (2, .int z12)]) [1, 2, 0] rfl ?_
  exact hK4 _ _ _ hw
def wp_X6_tick_b67 (K4 : Int32 → Int32 → Sg → Prop) (K18 : Int32 → Int32 → Int32 → Sg → Prop) (Q : Int32 → Sg → Prop) (v2 : Int32) (v3 : Int32) (s0 : Int32) (s1 : Int32) (σ : Sg) : Prop := ∀ z13 : Int32, z13 = (s1 + s0) → ∀ z14 : Int32, z14 = v3 + (1 : Int32) → K18 z13 v2 z14 σ
set_option maxRecDepth 100000 in
set_option maxHeartbeats 4000000 in
theorem g_X6_tick_b67 {X : Tx} {Q : Int32 → Sg → Prop} (C : Cx X cX6_tick "SweetWrapsModel" (some .int) 5 115 4 (QI (tE X) Q)) {K4 : Int32 → Int32 → Sg → Prop} {K18 : Int32 → Int32 → Int32 → Sg → Prop} (hK4 : ∀ (v1 : Int32) (v2 : Int32) (σ : Sg), K4 v1 v2 σ → G X σ [(0, .ref (ad (tE X) 12 18 0)), (1, .int v1), (2, .int v2)] [] 4) (hK18 : ∀ (v1 : Int32) (v2 : Int32) (v3 : Int32) (σ : Sg), K18 v1 v2 v3 σ → G X σ [(0, .ref (ad (tE X) 12 18 0)), (1, .int v1), (2, .int v2), (3, .int v3)] [] 18) {v2 : Int32} {v3 : Int32} {s0 : Int32} {s1 : Int32} {σ : Sg} (hw : wp_X6_tick_b67 K4 K18 Q v2 v3 s0 s1 σ) : G X σ [(0, .ref (ad (tE X) 12 18 0)), (2, .int v2), (3, .int v3)] [.int s0, .int s1] 67 := by
  unfold wp_X6_tick_b67 at hw
  refine gx_iadd C dX6_tick_67 ?_
  obtain ⟨z13, e_z13⟩ : ∃ z : Int32, z = (s1 + s0) := ⟨_, rfl⟩
  replace hw := hw z13 e_z13
  refine gx_top e_z13 ?_
  refine gx_istore_n (lv' := [(1, .int z13), (0, .ref (ad (tE X) 12 18 0)), (2, .int v2), (3, .int v3)]) C dX6_tick_68 (by decide) rfl ?_
  obtain ⟨z14, e_z14⟩ : ∃ z : Int32, z = v3 + (1 : Int32) := ⟨_, rfl⟩
  replace hw := hw z14 e_z14
  refine gx_iinc (v := z14) (lv' := [(3, .int z14), (1, .int z13), (0, .ref (ad (tE X) 12 18 0)), (2, .int v2)]) C dX6_tick_69 3 rfl (by rw [e_z14]; rfl) (by decide) rfl ?_
  refine gx_goto (tgt := 18) C dX6_tick_72 (by decide) ?_
  refine gx_sub (lv' := [(0, .ref (ad (tE X) 12 18 0)), (1, .int z13), (2, .int v2), (3, .int z14)]) [2, 1, 3, 0] rfl ?_
  exact hK18 _ _ _ _ hw
def st_X6_tick_L18 (K4 : Int32 → Int32 → Sg → Prop) (Q : Int32 → Sg → Prop) (K18 : Int32 → Int32 → Int32 → Sg → Prop) (v1 : Int32) (v2 : Int32) (v3 : Int32) (σ : Sg) : Prop := (((σ 12 19 0 0) ≤ v3 → wp_X6_tick_b75 K4 Q v1 v2 σ) ∧ (¬ (σ 12 19 0 0) ≤ v3 → (vp_in v2 4 ∧ ((¬ (σ 12 25 0 v2.toNatClampNeg) = 0 → wp_X6_tick_b75 K4 Q v1 v2 σ) ∧ ((σ 12 25 0 v2.toNatClampNeg) = 0 → wp_X6_reason v2 σ (fun r6 σ7 => (vp_in v2 4 ∧ ∀ σ8 : Sg, σ8 = up σ7 12 25 0 v2.toNatClampNeg r6 → (vp_in v2 4 ∧ ((¬ (σ8 12 25 0 v2.toNatClampNeg) = 0 → wp_X6_tick_b67 K4 K18 Q v2 v3 (0 : Int32) v1 σ8) ∧ ((σ8 12 25 0 v2.toNatClampNeg) = 0 → wp_X6_tryOnce v2 σ8 (fun r10 σ11 => wp_X6_tick_b67 K4 K18 Q v2 v3 r10 v1 σ11)))))))))))
def wp_X6_tick_L18 (K4 : Int32 → Int32 → Sg → Prop) (Q : Int32 → Sg → Prop) (v1 : Int32) (v2 : Int32) (v3 : Int32) (σ : Sg) : Prop := ∃ n : Nat, lpN (fun (K : Int32 × Int32 × Int32 × Sg → Prop) (a : Int32 × Int32 × Int32 × Sg) => st_X6_tick_L18 K4 Q (fun v1 v2 v3 σ => K (v1, v2, v3, σ)) (a.1) (a.2.1) (a.2.2.1) (a.2.2.2)) n (v1, v2, v3, σ)
set_option maxRecDepth 100000 in
set_option maxHeartbeats 4000000 in
theorem gs_X6_tick_L18 {X : Tx} {Q : Int32 → Sg → Prop} (C : Cx X cX6_tick "SweetWrapsModel" (some .int) 5 115 4 (QI (tE X) Q)) {K4 : Int32 → Int32 → Sg → Prop} (hK4 : ∀ (v1 : Int32) (v2 : Int32) (σ : Sg), K4 v1 v2 σ → G X σ [(0, .ref (ad (tE X) 12 18 0)), (1, .int v1), (2, .int v2)] [] 4) {K18 : Int32 → Int32 → Int32 → Sg → Prop} (hK18 : ∀ (v1 : Int32) (v2 : Int32) (v3 : Int32) (σ : Sg), K18 v1 v2 v3 σ → G X σ [(0, .ref (ad (tE X) 12 18 0)), (1, .int v1), (2, .int v2), (3, .int v3)] [] 18) {v1 : Int32} {v2 : Int32} {v3 : Int32} {σ : Sg} (hw : st_X6_tick_L18 K4 Q K18 v1 v2 v3 σ) : G X σ [(0, .ref (ad (tE X) 12 18 0)), (1, .int v1), (2, .int v2), (3, .int v3)] [] 18 := by
  unfold st_X6_tick_L18 at hw
  refine gx_iload_n C dX6_tick_18 3 rfl ?_
  refine gx_aload_n C dX6_tick_19 0 rfl ?_
  refine gx_get C okg_18 rfl rfl inX6 (ref := "SweetWrapsModel") 0 (by decide) bw_673 rfl rfl dX6_tick_20 ?_
  refine gx_iconst (v := (0 : Int32)) C dX6_tick_23 (by decide) ?_
  refine gx_iald C okg_19 rfl (n := 194) (x := (0 : Int32)) (by unfold vp_in; decide) 0 (by decide) dX6_tick_24 ?_
  refine gx_icmp_ge (tgt := 75) C dX6_tick_25 (by decide) (fun c4 => ?_) (fun c4 => ?_)
  · replace hw := hw.1 c4
    refine gx_sub (lv' := [(0, .ref (ad (tE X) 12 18 0)), (1, .int v1), (2, .int v2)]) [0, 1, 2] rfl ?_
    exact g_X6_tick_b75 C hK4 hw
  · replace hw := hw.2 c4
    refine gx_aload_n C dX6_tick_28 0 rfl ?_
    refine gx_get C okg_18 rfl rfl inX6 (ref := "SweetWrapsModel") 8 (by decide) bw_681 rfl rfl dX6_tick_29 ?_
    refine gx_iload_n C dX6_tick_32 2 rfl ?_
    refine gx_iald C okg_25 rfl hw.1 _ rfl dX6_tick_33 ?_
    replace hw := hw.2
    refine gx_if_ne (tgt := 75) C dX6_tick_34 (by decide) (fun c5 => ?_) (fun c5 => ?_)
    · replace hw := hw.1 c5
      refine gx_sub (lv' := [(0, .ref (ad (tE X) 12 18 0)), (1, .int v1), (2, .int v2)]) [0, 1, 2] rfl ?_
      exact g_X6_tick_b75 C hK4 hw
    · replace hw := hw.2 c5
      refine gx_aload_n C dX6_tick_37 0 rfl ?_
      refine gx_get C okg_18 rfl rfl inX6 (ref := "SweetWrapsModel") 8 (by decide) bw_681 rfl rfl dX6_tick_38 ?_
      refine gx_iload_n C dX6_tick_41 2 rfl ?_
      refine gx_aload_n C dX6_tick_42 0 rfl ?_
      refine gx_iload_n C dX6_tick_43 2 rfl ?_
      refine gx_vcalli (As := [.int v2]) (rest := [.int v2, .ref (ad (tE X) 12 25 0)]) C (c_X6_reason _ _ hw) okg_18 rfl rfl bw_824 bw_826 bs_47 bw_7 bw_827 hy_X6_reason ⟨by decide, by decide⟩ rfl (Nat.le_of_ble_eq_true rfl) dX6_tick_44 (fun r6 σ7 hw => ?_)
      refine gx_iast C okg_25 (fun _ => rfl) hw.1 _ rfl rfl dX6_tick_47 ?_
      replace hw := hw.2
      obtain ⟨σ8, e_σ8⟩ : ∃ z : Sg, z = up σ7 12 25 0 v2.toNatClampNeg r6 := ⟨_, rfl⟩
      replace hw := hw σ8 e_σ8
      refine gx_st e_σ8 ?_
      refine gx_iload_n C dX6_tick_48 1 rfl ?_
      refine gx_aload_n C dX6_tick_49 0 rfl ?_
      refine gx_get C okg_18 rfl rfl inX6 (ref := "SweetWrapsModel") 8 (by decide) bw_681 rfl rfl dX6_tick_50 ?_
      refine gx_iload_n C dX6_tick_53 2 rfl ?_
      refine gx_iald C okg_25 rfl hw.1 _ rfl dX6_tick_54 ?_
      replace hw := hw.2
      refine gx_if_ne (tgt := 66) C dX6_tick_55 (by decide) (fun c9 => ?_) (fun c9 => ?_)
      · replace hw := hw.1 c9
        refine gx_iconst (v := (0 : Int32)) C dX6_tick_66 (by decide) ?_
        refine gx_sub (lv' := [(0, .ref (ad (tE X) 12 18 0)), (2, .int v2), (3, .int v3)]) [0, 2, 3] rfl ?_
        exact g_X6_tick_b67 C hK4 hK18 hw
      · replace hw := hw.2 c9
        refine gx_aload_n C dX6_tick_58 0 rfl ?_
        refine gx_iload_n C dX6_tick_59 2 rfl ?_
        refine gx_vcalli (As := [.int v2]) (rest := [.int v1]) C (c_X6_tryOnce _ _ hw) okg_18 rfl rfl bw_840 bw_842 bs_51 bw_7 bw_843 hy_X6_tryOnce ⟨by decide, by decide⟩ rfl (Nat.le_of_ble_eq_true rfl) dX6_tick_60 (fun r10 σ11 hw => ?_)
        refine gx_goto (tgt := 67) C dX6_tick_63 (by decide) ?_
        refine gx_sub (lv' := [(0, .ref (ad (tE X) 12 18 0)), (2, .int v2), (3, .int v3)]) [0, 2, 3] rfl ?_
        exact g_X6_tick_b67 C hK4 hK18 hw
set_option maxRecDepth 100000 in
set_option maxHeartbeats 4000000 in
theorem g_X6_tick_L18 {X : Tx} {Q : Int32 → Sg → Prop} (C : Cx X cX6_tick "SweetWrapsModel" (some .int) 5 115 4 (QI (tE X) Q)) {K4 : Int32 → Int32 → Sg → Prop} (hK4 : ∀ (v1 : Int32) (v2 : Int32) (σ : Sg), K4 v1 v2 σ → G X σ [(0, .ref (ad (tE X) 12 18 0)), (1, .int v1), (2, .int v2)] [] 4) {v1 : Int32} {v2 : Int32} {v3 : Int32} {σ : Sg} (hw : wp_X6_tick_L18 K4 Q v1 v2 v3 σ) : G X σ [(0, .ref (ad (tE X) 12 18 0)), (1, .int v1), (2, .int v2), (3, .int v3)] [] 18 := by
  obtain ⟨n, hw⟩ := hw
  exact lpN_G (P := (fun (a : Int32 × Int32 × Int32 × Sg) => G X (a.2.2.2) [(0, .ref (ad (tE X) 12 18 0)), (1, .int (a.1)), (2, .int (a.2.1)), (3, .int (a.2.2.1))] [] 18)) (fun K a hK h => gs_X6_tick_L18 C hK4 (fun v1 v2 v3 σ h => hK (v1, v2, v3, σ) h) h) n _ hw
def st_X6_tick_L4 (Q : Int32 → Sg → Prop) (K4 : Int32 → Int32 → Sg → Prop) (v1 : Int32) (v2 : Int32) (σ : Sg) : Prop := (((4 : Int32) ≤ v2 → ∀ σ2 : Sg, σ2 = up σ 12 19 0 191 ((σ 12 19 0 191) + (1 : Int32)) → Q v1 σ2) ∧ (¬ (4 : Int32) ≤ v2 → (vp_in v2 4 ∧ ∀ σ3 : Sg, σ3 = up σ 12 25 0 v2.toNatClampNeg (0 : Int32) → wp_X6_tick_L18 K4 Q v1 v2 (0 : Int32) σ3)))
def wp_X6_tick_L4 (Q : Int32 → Sg → Prop) (v1 : Int32) (v2 : Int32) (σ : Sg) : Prop := ∃ n : Nat, lpN (fun (K : Int32 × Int32 × Sg → Prop) (a : Int32 × Int32 × Sg) => st_X6_tick_L4 Q (fun v1 v2 σ => K (v1, v2, σ)) (a.1) (a.2.1) (a.2.2)) n (v1, v2, σ)
set_option maxRecDepth 100000 in
set_option maxHeartbeats 4000000 in
theorem gs_X6_tick_L4 {X : Tx} {Q : Int32 → Sg → Prop} (C : Cx X cX6_tick "SweetWrapsModel" (some .int) 5 115 4 (QI (tE X) Q)) {K4 : Int32 → Int32 → Sg → Prop} (hK4 : ∀ (v1 : Int32) (v2 : Int32) (σ : Sg), K4 v1 v2 σ → G X σ [(0, .ref (ad (tE X) 12 18 0)), (1, .int v1), (2, .int v2)] [] 4) {v1 : Int32} {v2 : Int32} {σ : Sg} (hw : st_X6_tick_L4 Q K4 v1 v2 σ) : G X σ [(0, .ref (ad (tE X) 12 18 0)), (1, .int v1), (2, .int v2)] [] 4 := by
  unfold st_X6_tick_L4 at hw
  refine gx_iload_n C dX6_tick_4 2 rfl ?_
  refine gx_iconst (v := (4 : Int32)) C dX6_tick_5 (by decide) ?_
  refine gx_icmp_ge (tgt := 81) C dX6_tick_6 (by decide) (fun c1 => ?_) (fun c1 => ?_)
  · replace hw := hw.1 c1
    refine gx_aload_n C dX6_tick_81 0 rfl ?_
    refine gx_get C okg_18 rfl rfl inX6 (ref := "SweetWrapsModel") 0 (by decide) bw_673 rfl rfl dX6_tick_82 ?_
    refine gx_sipush (v := (191 : Int32)) C dX6_tick_85 (by decide) ?_
    refine gx_dup2 C dX6_tick_88 rfl rfl ?_
    refine gx_iald C okg_19 rfl (n := 194) (x := (191 : Int32)) (by unfold vp_in; decide) 191 (by decide) dX6_tick_89 ?_
    refine gx_iconst (v := (1 : Int32)) C dX6_tick_90 (by decide) ?_
    refine gx_iadd C dX6_tick_91 ?_
    refine gx_iast C okg_19 (fun _ => rfl) (n := 194) (x := (191 : Int32)) (by unfold vp_in; decide) 191 (by decide) rfl dX6_tick_92 ?_
    obtain ⟨σ2, e_σ2⟩ : ∃ z : Sg, z = up σ 12 19 0 191 ((σ 12 19 0 191) + (1 : Int32)) := ⟨_, rfl⟩
    replace hw := hw σ2 e_σ2
    refine gx_st e_σ2 ?_
    refine gx_iload_n C dX6_tick_93 1 rfl ?_
    exact gx_iret C rfl rfl dX6_tick_94 hw
  · replace hw := hw.2 c1
    refine gx_aload_n C dX6_tick_9 0 rfl ?_
    refine gx_get C okg_18 rfl rfl inX6 (ref := "SweetWrapsModel") 8 (by decide) bw_681 rfl rfl dX6_tick_10 ?_
    refine gx_iload_n C dX6_tick_13 2 rfl ?_
    refine gx_iconst (v := (0 : Int32)) C dX6_tick_14 (by decide) ?_
    refine gx_iast C okg_25 (fun _ => rfl) hw.1 _ rfl rfl dX6_tick_15 ?_
    replace hw := hw.2
    obtain ⟨σ3, e_σ3⟩ : ∃ z : Sg, z = up σ 12 25 0 v2.toNatClampNeg (0 : Int32) := ⟨_, rfl⟩
    replace hw := hw σ3 e_σ3
    refine gx_st e_σ3 ?_
    refine gx_iconst (v := (0 : Int32)) C dX6_tick_16 (by decide) ?_
    refine gx_istore_n (lv' := [(3, .int (0 : Int32)), (0, .ref (ad (tE X) 12 18 0)), (1, .int v1), (2, .int v2)]) C dX6_tick_17 (by decide) rfl ?_
    refine gx_sub (lv' := [(0, .ref (ad (tE X) 12 18 0)), (1, .int v1), (2, .int v2), (3, .int (0 : Int32))]) [1, 2, 3, 0] rfl ?_
    exact g_X6_tick_L18 C hK4 hw
set_option maxRecDepth 100000 in
set_option maxHeartbeats 4000000 in
theorem g_X6_tick_L4 {X : Tx} {Q : Int32 → Sg → Prop} (C : Cx X cX6_tick "SweetWrapsModel" (some .int) 5 115 4 (QI (tE X) Q)) {v1 : Int32} {v2 : Int32} {σ : Sg} (hw : wp_X6_tick_L4 Q v1 v2 σ) : G X σ [(0, .ref (ad (tE X) 12 18 0)), (1, .int v1), (2, .int v2)] [] 4 := by
  obtain ⟨n, hw⟩ := hw
  exact lpN_G (P := (fun (a : Int32 × Int32 × Sg) => G X (a.2.2) [(0, .ref (ad (tE X) 12 18 0)), (1, .int (a.1)), (2, .int (a.2.1))] [] 4)) (fun K a hK h => gs_X6_tick_L4 C (fun v1 v2 σ h => hK (v1, v2, σ) h) h) n _ hw
def wp_X6_tick (σ : Sg) (Q : Int32 → Sg → Prop) : Prop := wp_X6_tick_L4 Q (0 : Int32) (0 : Int32) σ
set_option maxRecDepth 100000 in
set_option maxHeartbeats 4000000 in
theorem c_X6_tick (l : Launch) (E : Ev) {σ : Sg} {Q : Int32 → Sg → Prop} (hw : wp_X6_tick σ Q) : CT l E yX6_tick cX6_tick 4 (some .int) 5 115 [.ref (ad E 12 18 0)] σ (QI E Q) := by
  refine CT_of (by decide) (Nat.le_of_ble_eq_true rfl) (fun X h1 h2 C => ?_)
  subst h1; subst h2
  have C : Cx X cX6_tick "SweetWrapsModel" (some .int) 5 115 4 (QI (tE X) Q) := C
  show G X σ [(0, .ref (ad (tE X) 12 18 0))] [] 0
  unfold wp_X6_tick at hw
  refine gx_iconst (v := (0 : Int32)) C dX6_tick_0 (by decide) ?_
  refine gx_istore_n (lv' := [(1, .int (0 : Int32)), (0, .ref (ad (tE X) 12 18 0))]) C dX6_tick_1 (by decide) rfl ?_
  refine gx_iconst (v := (0 : Int32)) C dX6_tick_2 (by decide) ?_
  refine gx_istore_n (lv' := [(2, .int (0 : Int32)), (1, .int (0 : Int32)), (0, .ref (ad (tE X) 12 18 0))]) C dX6_tick_3 (by decide) rfl ?_
  refine gx_sub (lv' := [(0, .ref (ad (tE X) 12 18 0)), (1, .int (0 : Int32)), (2, .int (0 : Int32))]) [2, 1, 0] rfl ?_
  exact g_X6_tick_L4 C hw
theorem hy_X6_tick : yX6_tick.cls = "SweetWrapsModel" ∧ yX6_tick.cls ≠ "java/lang/invoke/MethodHandle" ∧ yX6_tick.cls ≠ "java/lang/invoke/VarHandle" ∧ (parseMethodDescriptor yX6_tick.desc).map (fun d => d.parameters.length) = some 0 := by decide +kernel

theorem dX6_runs_0 : decode cX6_runs 0 = .ok (.iconst 0, 1) := by decide +kernel
theorem dX6_runs_1 : decode cX6_runs 1 = .ok (.istore_n 2, 1) := by decide +kernel
theorem dX6_runs_2 : decode cX6_runs 2 = .ok (.iconst 0, 1) := by decide +kernel
theorem dX6_runs_3 : decode cX6_runs 3 = .ok (.istore_n 3, 1) := by decide +kernel
theorem dX6_runs_4 : decode cX6_runs 4 = .ok (.iload_n 3, 1) := by decide +kernel
theorem dX6_runs_5 : decode cX6_runs 5 = .ok (.iload_n 1, 1) := by decide +kernel
theorem dX6_runs_6 : decode cX6_runs 6 = .ok (.if_icmp .ge 16, 3) := by decide +kernel
theorem dX6_runs_9 : decode cX6_runs 9 = .ok (.iload_n 2, 1) := by decide +kernel
theorem dX6_runs_10 : decode cX6_runs 10 = .ok (.aload_n 0, 1) := by decide +kernel
theorem dX6_runs_11 : decode cX6_runs 11 = .ok (.invokevirtual 81, 3) := by decide +kernel
theorem dX6_runs_14 : decode cX6_runs 14 = .ok (.iadd, 1) := by decide +kernel
theorem dX6_runs_15 : decode cX6_runs 15 = .ok (.istore_n 2, 1) := by decide +kernel
theorem dX6_runs_16 : decode cX6_runs 16 = .ok (.iinc 3 1, 3) := by decide +kernel
theorem dX6_runs_19 : decode cX6_runs 19 = .ok (.goto (-15), 3) := by decide +kernel
theorem dX6_runs_22 : decode cX6_runs 22 = .ok (.iload_n 2, 1) := by decide +kernel
theorem dX6_runs_23 : decode cX6_runs 23 = .ok (.ireturn, 1) := by decide +kernel
def st_X6_runs_L4 (x1 : Int32) (Q : Int32 → Sg → Prop) (K4 : Int32 → Int32 → Sg → Prop) (v2 : Int32) (v3 : Int32) (σ : Sg) : Prop := ((x1 ≤ v3 → Q v2 σ) ∧ (¬ x1 ≤ v3 → wp_X6_tick σ (fun r2 σ3 => ∀ z4 : Int32, z4 = (v2 + r2) → ∀ z5 : Int32, z5 = v3 + (1 : Int32) → K4 z4 z5 σ3)))
def wp_X6_runs_L4 (x1 : Int32) (Q : Int32 → Sg → Prop) (v2 : Int32) (v3 : Int32) (σ : Sg) : Prop := ∃ n : Nat, lpN (fun (K : Int32 × Int32 × Sg → Prop) (a : Int32 × Int32 × Sg) => st_X6_runs_L4 x1 Q (fun v2 v3 σ => K (v2, v3, σ)) (a.1) (a.2.1) (a.2.2)) n (v2, v3, σ)
set_option maxRecDepth 100000 in
set_option maxHeartbeats 4000000 in
theorem gs_X6_runs_L4 {X : Tx} {Q : Int32 → Sg → Prop} (C : Cx X cX6_runs "SweetWrapsModel" (some .int) 6 138 4 (QI (tE X) Q)) {x1 : Int32} {K4 : Int32 → Int32 → Sg → Prop} (hK4 : ∀ (v2 : Int32) (v3 : Int32) (σ : Sg), K4 v2 v3 σ → G X σ [(0, .ref (ad (tE X) 12 18 0)), (1, .int x1), (2, .int v2), (3, .int v3)] [] 4) {v2 : Int32} {v3 : Int32} {σ : Sg} (hw : st_X6_runs_L4 x1 Q K4 v2 v3 σ) : G X σ [(0, .ref (ad (tE X) 12 18 0)), (1, .int x1), (2, .int v2), (3, .int v3)] [] 4 := by
  unfold st_X6_runs_L4 at hw
  refine gx_iload_n C dX6_runs_4 3 rfl ?_
  refine gx_iload_n C dX6_runs_5 1 rfl ?_
  refine gx_icmp_ge (tgt := 22) C dX6_runs_6 (by decide) (fun c1 => ?_) (fun c1 => ?_)
  · replace hw := hw.1 c1
    refine gx_iload_n C dX6_runs_22 2 rfl ?_
    exact gx_iret C rfl rfl dX6_runs_23 hw
  · replace hw := hw.2 c1
    refine gx_iload_n C dX6_runs_9 2 rfl ?_
    refine gx_aload_n C dX6_runs_10 0 rfl ?_
    refine gx_vcalli (As := []) (rest := [.int v2]) C (c_X6_tick _ _ hw) okg_18 rfl rfl bw_820 bw_822 bs_46 bw_7 bw_823 hy_X6_tick ⟨by decide, by decide⟩ rfl (Nat.le_of_ble_eq_true rfl) dX6_runs_11 (fun r2 σ3 hw => ?_)
    refine gx_iadd C dX6_runs_14 ?_
    obtain ⟨z4, e_z4⟩ : ∃ z : Int32, z = (v2 + r2) := ⟨_, rfl⟩
    replace hw := hw z4 e_z4
    refine gx_top e_z4 ?_
    refine gx_istore_n (lv' := [(2, .int z4), (0, .ref (ad (tE X) 12 18 0)), (1, .int x1), (3, .int v3)]) C dX6_runs_15 (by decide) rfl ?_
    obtain ⟨z5, e_z5⟩ : ∃ z : Int32, z = v3 + (1 : Int32) := ⟨_, rfl⟩
    replace hw := hw z5 e_z5
    refine gx_iinc (v := z5) (lv' := [(3, .int z5), (2, .int z4), (0, .ref (ad (tE X) 12 18 0)), (1, .int x1)]) C dX6_runs_16 3 rfl (by rw [e_z5]; rfl) (by decide) rfl ?_
    refine gx_goto (tgt := 4) C dX6_runs_19 (by decide) ?_
    refine gx_sub (lv' := [(0, .ref (ad (tE X) 12 18 0)), (1, .int x1), (2, .int z4), (3, .int z5)]) [2, 3, 1, 0] rfl ?_
    exact hK4 _ _ _ hw
set_option maxRecDepth 100000 in
set_option maxHeartbeats 4000000 in
theorem g_X6_runs_L4 {X : Tx} {Q : Int32 → Sg → Prop} (C : Cx X cX6_runs "SweetWrapsModel" (some .int) 6 138 4 (QI (tE X) Q)) {x1 : Int32} {v2 : Int32} {v3 : Int32} {σ : Sg} (hw : wp_X6_runs_L4 x1 Q v2 v3 σ) : G X σ [(0, .ref (ad (tE X) 12 18 0)), (1, .int x1), (2, .int v2), (3, .int v3)] [] 4 := by
  obtain ⟨n, hw⟩ := hw
  exact lpN_G (P := (fun (a : Int32 × Int32 × Sg) => G X (a.2.2) [(0, .ref (ad (tE X) 12 18 0)), (1, .int x1), (2, .int (a.1)), (3, .int (a.2.1))] [] 4)) (fun K a hK h => gs_X6_runs_L4 C (fun v2 v3 σ h => hK (v2, v3, σ) h) h) n _ hw
def wp_X6_runs (x1 : Int32) (σ : Sg) (Q : Int32 → Sg → Prop) : Prop := wp_X6_runs_L4 x1 Q (0 : Int32) (0 : Int32) σ
set_option maxRecDepth 100000 in
set_option maxHeartbeats 4000000 in
theorem c_X6_runs (l : Launch) (E : Ev) {x1 : Int32} {σ : Sg} {Q : Int32 → Sg → Prop} (hw : wp_X6_runs x1 σ Q) : CT l E yX6_runs cX6_runs 4 (some .int) 6 138 [.ref (ad E 12 18 0), .int x1] σ (QI E Q) := by
  refine CT_of (by decide) (Nat.le_of_ble_eq_true rfl) (fun X h1 h2 C => ?_)
  subst h1; subst h2
  have C : Cx X cX6_runs "SweetWrapsModel" (some .int) 6 138 4 (QI (tE X) Q) := C
  show G X σ [(0, .ref (ad (tE X) 12 18 0)), (1, .int x1)] [] 0
  unfold wp_X6_runs at hw
  refine gx_iconst (v := (0 : Int32)) C dX6_runs_0 (by decide) ?_
  refine gx_istore_n (lv' := [(2, .int (0 : Int32)), (0, .ref (ad (tE X) 12 18 0)), (1, .int x1)]) C dX6_runs_1 (by decide) rfl ?_
  refine gx_iconst (v := (0 : Int32)) C dX6_runs_2 (by decide) ?_
  refine gx_istore_n (lv' := [(3, .int (0 : Int32)), (2, .int (0 : Int32)), (0, .ref (ad (tE X) 12 18 0)), (1, .int x1)]) C dX6_runs_3 (by decide) rfl ?_
  refine gx_sub (lv' := [(0, .ref (ad (tE X) 12 18 0)), (1, .int x1), (2, .int (0 : Int32)), (3, .int (0 : Int32))]) [2, 3, 1, 0] rfl ?_
  exact g_X6_runs_L4 C hw
theorem hy_X6_runs : yX6_runs.cls = "SweetWrapsModel" ∧ yX6_runs.cls ≠ "java/lang/invoke/MethodHandle" ∧ yX6_runs.cls ≠ "java/lang/invoke/VarHandle" ∧ (parseMethodDescriptor yX6_runs.desc).map (fun d => d.parameters.length) = some 1 := by decide +kernel

theorem dX6_heaps_0 : decode cX6_heaps 0 = .ok (.iload_n 1, 1) := by decide +kernel
theorem dX6_heaps_1 : decode cX6_heaps 1 = .ok (.invokestatic 85, 3) := by decide +kernel
theorem dX6_heaps_4 : decode cX6_heaps 4 = .ok (.ifCond .eq 10, 3) := by decide +kernel
theorem dX6_heaps_7 : decode cX6_heaps 7 = .ok (.iload_n 2, 1) := by decide +kernel
theorem dX6_heaps_8 : decode cX6_heaps 8 = .ok (.invokestatic 88, 3) := by decide +kernel
theorem dX6_heaps_11 : decode cX6_heaps 11 = .ok (.ifCond .ne 5, 3) := by decide +kernel
theorem dX6_heaps_14 : decode cX6_heaps 14 = .ok (.iconst (-1), 1) := by decide +kernel
theorem dX6_heaps_15 : decode cX6_heaps 15 = .ok (.ireturn, 1) := by decide +kernel
theorem dX6_heaps_16 : decode cX6_heaps 16 = .ok (.iload_n 3, 1) := by decide +kernel
theorem dX6_heaps_17 : decode cX6_heaps 17 = .ok (.iconst 1, 1) := by decide +kernel
theorem dX6_heaps_18 : decode cX6_heaps 18 = .ok (.sipush 200, 3) := by decide +kernel
theorem dX6_heaps_21 : decode cX6_heaps 21 = .ok (.invokestatic 36, 3) := by decide +kernel
theorem dX6_heaps_24 : decode cX6_heaps 24 = .ok (.ifCond .ne 6, 3) := by decide +kernel
theorem dX6_heaps_27 : decode cX6_heaps 27 = .ok (.bipush (-2), 2) := by decide +kernel
theorem dX6_heaps_29 : decode cX6_heaps 29 = .ok (.ireturn, 1) := by decide +kernel
theorem dX6_heaps_30 : decode cX6_heaps 30 = .ok (.iconst 4, 1) := by decide +kernel
theorem dX6_heaps_31 : decode cX6_heaps 31 = .ok (.bipush 17, 2) := by decide +kernel
theorem dX6_heaps_33 : decode cX6_heaps 33 = .ok (.iload_n 1, 1) := by decide +kernel
theorem dX6_heaps_34 : decode cX6_heaps 34 = .ok (.imul, 1) := by decide +kernel
theorem dX6_heaps_35 : decode cX6_heaps 35 = .ok (.iadd, 1) := by decide +kernel
theorem dX6_heaps_36 : decode cX6_heaps 36 = .ok (.istore 4, 2) := by decide +kernel
theorem dX6_heaps_38 : decode cX6_heaps 38 = .ok (.aload_n 0, 1) := by decide +kernel
theorem dX6_heaps_39 : decode cX6_heaps 39 = .ok (.getfield 7, 3) := by decide +kernel
theorem dX6_heaps_42 : decode cX6_heaps 42 = .ok (.iload 4, 2) := by decide +kernel
theorem dX6_heaps_44 : decode cX6_heaps 44 = .ok (.iaload, 1) := by decide +kernel
theorem dX6_heaps_45 : decode cX6_heaps 45 = .ok (.istore 5, 2) := by decide +kernel
theorem dX6_heaps_47 : decode cX6_heaps 47 = .ok (.iload 5, 2) := by decide +kernel
theorem dX6_heaps_49 : decode cX6_heaps 49 = .ok (.ifCond .le 20, 3) := by decide +kernel
theorem dX6_heaps_52 : decode cX6_heaps 52 = .ok (.aload_n 0, 1) := by decide +kernel
theorem dX6_heaps_53 : decode cX6_heaps 53 = .ok (.iload_n 1, 1) := by decide +kernel
theorem dX6_heaps_54 : decode cX6_heaps 54 = .ok (.iload 5, 2) := by decide +kernel
theorem dX6_heaps_56 : decode cX6_heaps 56 = .ok (.iconst 1, 1) := by decide +kernel
theorem dX6_heaps_57 : decode cX6_heaps 57 = .ok (.isub, 1) := by decide +kernel
theorem dX6_heaps_58 : decode cX6_heaps 58 = .ok (.invokevirtual 65, 3) := by decide +kernel
theorem dX6_heaps_61 : decode cX6_heaps 61 = .ok (.iload_n 2, 1) := by decide +kernel
theorem dX6_heaps_62 : decode cX6_heaps 62 = .ok (.if_icmp .ne 7, 3) := by decide +kernel
theorem dX6_heaps_65 : decode cX6_heaps 65 = .ok (.iconst 1, 1) := by decide +kernel
theorem dX6_heaps_66 : decode cX6_heaps 66 = .ok (.goto 4, 3) := by decide +kernel
theorem dX6_heaps_69 : decode cX6_heaps 69 = .ok (.iconst 0, 1) := by decide +kernel
theorem dX6_heaps_70 : decode cX6_heaps 70 = .ok (.istore 6, 2) := by decide +kernel
theorem dX6_heaps_72 : decode cX6_heaps 72 = .ok (.iload 6, 2) := by decide +kernel
theorem dX6_heaps_74 : decode cX6_heaps 74 = .ok (.ifCond .ne 10, 3) := by decide +kernel
theorem dX6_heaps_77 : decode cX6_heaps 77 = .ok (.iload 5, 2) := by decide +kernel
theorem dX6_heaps_79 : decode cX6_heaps 79 = .ok (.bipush 6, 2) := by decide +kernel
theorem dX6_heaps_81 : decode cX6_heaps 81 = .ok (.if_icmp .eq 16, 3) := by decide +kernel
theorem dX6_heaps_84 : decode cX6_heaps 84 = .ok (.aload_n 0, 1) := by decide +kernel
theorem dX6_heaps_85 : decode cX6_heaps 85 = .ok (.iload_n 1, 1) := by decide +kernel
theorem dX6_heaps_86 : decode cX6_heaps 86 = .ok (.invokevirtual 91, 3) := by decide +kernel
theorem dX6_heaps_89 : decode cX6_heaps 89 = .ok (.iload_n 3, 1) := by decide +kernel
theorem dX6_heaps_90 : decode cX6_heaps 90 = .ok (.iadd, 1) := by decide +kernel
theorem dX6_heaps_91 : decode cX6_heaps 91 = .ok (.sipush 999, 3) := by decide +kernel
theorem dX6_heaps_94 : decode cX6_heaps 94 = .ok (.if_icmp .le 6, 3) := by decide +kernel
theorem dX6_heaps_97 : decode cX6_heaps 97 = .ok (.bipush (-4), 2) := by decide +kernel
theorem dX6_heaps_99 : decode cX6_heaps 99 = .ok (.ireturn, 1) := by decide +kernel
theorem dX6_heaps_100 : decode cX6_heaps 100 = .ok (.iload 6, 2) := by decide +kernel
theorem dX6_heaps_102 : decode cX6_heaps 102 = .ok (.ifCond .eq 22, 3) := by decide +kernel
theorem dX6_heaps_105 : decode cX6_heaps 105 = .ok (.aload_n 0, 1) := by decide +kernel
theorem dX6_heaps_106 : decode cX6_heaps 106 = .ok (.getfield 7, 3) := by decide +kernel
theorem dX6_heaps_109 : decode cX6_heaps 109 = .ok (.iload 4, 2) := by decide +kernel
theorem dX6_heaps_111 : decode cX6_heaps 111 = .ok (.iconst 2, 1) := by decide +kernel
theorem dX6_heaps_112 : decode cX6_heaps 112 = .ok (.iload 5, 2) := by decide +kernel
theorem dX6_heaps_114 : decode cX6_heaps 114 = .ok (.imul, 1) := by decide +kernel
theorem dX6_heaps_115 : decode cX6_heaps 115 = .ok (.iadd, 1) := by decide +kernel
theorem dX6_heaps_116 : decode cX6_heaps 116 = .ok (.dup2, 1) := by decide +kernel
theorem dX6_heaps_117 : decode cX6_heaps 117 = .ok (.iaload, 1) := by decide +kernel
theorem dX6_heaps_118 : decode cX6_heaps 118 = .ok (.iload_n 3, 1) := by decide +kernel
theorem dX6_heaps_119 : decode cX6_heaps 119 = .ok (.iadd, 1) := by decide +kernel
theorem dX6_heaps_120 : decode cX6_heaps 120 = .ok (.iastore, 1) := by decide +kernel
theorem dX6_heaps_121 : decode cX6_heaps 121 = .ok (.goto 44, 3) := by decide +kernel
theorem dX6_heaps_124 : decode cX6_heaps 124 = .ok (.aload_n 0, 1) := by decide +kernel
theorem dX6_heaps_125 : decode cX6_heaps 125 = .ok (.getfield 7, 3) := by decide +kernel
theorem dX6_heaps_128 : decode cX6_heaps 128 = .ok (.iload 4, 2) := by decide +kernel
theorem dX6_heaps_130 : decode cX6_heaps 130 = .ok (.iconst 1, 1) := by decide +kernel
theorem dX6_heaps_131 : decode cX6_heaps 131 = .ok (.iadd, 1) := by decide +kernel
theorem dX6_heaps_132 : decode cX6_heaps 132 = .ok (.iconst 2, 1) := by decide +kernel
theorem dX6_heaps_133 : decode cX6_heaps 133 = .ok (.iload 5, 2) := by decide +kernel
theorem dX6_heaps_135 : decode cX6_heaps 135 = .ok (.imul, 1) := by decide +kernel
theorem dX6_heaps_136 : decode cX6_heaps 136 = .ok (.iadd, 1) := by decide +kernel
theorem dX6_heaps_137 : decode cX6_heaps 137 = .ok (.iload_n 2, 1) := by decide +kernel
theorem dX6_heaps_138 : decode cX6_heaps 138 = .ok (.iastore, 1) := by decide +kernel
theorem dX6_heaps_139 : decode cX6_heaps 139 = .ok (.aload_n 0, 1) := by decide +kernel
theorem dX6_heaps_140 : decode cX6_heaps 140 = .ok (.getfield 7, 3) := by decide +kernel
theorem dX6_heaps_143 : decode cX6_heaps 143 = .ok (.iload 4, 2) := by decide +kernel
theorem dX6_heaps_145 : decode cX6_heaps 145 = .ok (.iconst 2, 1) := by decide +kernel
theorem dX6_heaps_146 : decode cX6_heaps 146 = .ok (.iadd, 1) := by decide +kernel
theorem dX6_heaps_147 : decode cX6_heaps 147 = .ok (.iconst 2, 1) := by decide +kernel
theorem dX6_heaps_148 : decode cX6_heaps 148 = .ok (.iload 5, 2) := by decide +kernel
theorem dX6_heaps_150 : decode cX6_heaps 150 = .ok (.imul, 1) := by decide +kernel
theorem dX6_heaps_151 : decode cX6_heaps 151 = .ok (.iadd, 1) := by decide +kernel
theorem dX6_heaps_152 : decode cX6_heaps 152 = .ok (.iload_n 3, 1) := by decide +kernel
theorem dX6_heaps_153 : decode cX6_heaps 153 = .ok (.iastore, 1) := by decide +kernel
theorem dX6_heaps_154 : decode cX6_heaps 154 = .ok (.aload_n 0, 1) := by decide +kernel
theorem dX6_heaps_155 : decode cX6_heaps 155 = .ok (.getfield 7, 3) := by decide +kernel
theorem dX6_heaps_158 : decode cX6_heaps 158 = .ok (.iload 4, 2) := by decide +kernel
theorem dX6_heaps_160 : decode cX6_heaps 160 = .ok (.dup2, 1) := by decide +kernel
theorem dX6_heaps_161 : decode cX6_heaps 161 = .ok (.iaload, 1) := by decide +kernel
theorem dX6_heaps_162 : decode cX6_heaps 162 = .ok (.iconst 1, 1) := by decide +kernel
theorem dX6_heaps_163 : decode cX6_heaps 163 = .ok (.iadd, 1) := by decide +kernel
theorem dX6_heaps_164 : decode cX6_heaps 164 = .ok (.iastore, 1) := by decide +kernel
theorem dX6_heaps_165 : decode cX6_heaps 165 = .ok (.aload_n 0, 1) := by decide +kernel
theorem dX6_heaps_166 : decode cX6_heaps 166 = .ok (.iload_n 1, 1) := by decide +kernel
theorem dX6_heaps_167 : decode cX6_heaps 167 = .ok (.invokevirtual 91, 3) := by decide +kernel
theorem dX6_heaps_170 : decode cX6_heaps 170 = .ok (.ireturn, 1) := by decide +kernel
def wp_X6_heaps_b165 (x1 : Int32) (x2 : Int32) (x3 : Int32) (Q : Int32 → Sg → Prop) (σ : Sg) : Prop := wp_X6_inHopper x1 σ (fun r27 σ28 => Q r27 σ28)
set_option maxRecDepth 100000 in
set_option maxHeartbeats 4000000 in
theorem g_X6_heaps_b165 {X : Tx} {Q : Int32 → Sg → Prop} (C : Cx X cX6_heaps "SweetWrapsModel" (some .int) 3 67 7 (QI (tE X) Q)) {x1 : Int32} {x2 : Int32} {x3 : Int32} {σ : Sg} (hw : wp_X6_heaps_b165 x1 x2 x3 Q σ) : G X σ [(0, .ref (ad (tE X) 12 18 0)), (1, .int x1)] [] 165 := by
  unfold wp_X6_heaps_b165 at hw
  refine gx_aload_n C dX6_heaps_165 0 rfl ?_
  refine gx_iload_n C dX6_heaps_166 1 rfl ?_
  refine gx_vcalli (As := [.int x1]) (rest := []) C (c_X6_inHopper _ _ hw) okg_18 rfl rfl bw_744 bw_746 bs_32 bw_7 bw_747 hy_X6_inHopper ⟨by decide, by decide⟩ rfl (Nat.le_of_ble_eq_true rfl) dX6_heaps_167 (fun r27 σ28 hw => ?_)
  exact gx_iret C rfl rfl dX6_heaps_170 hw
def wp_X6_heaps_b84 (x1 : Int32) (x2 : Int32) (x3 : Int32) (Q : Int32 → Sg → Prop) (v4 : Int32) (v5 : Int32) (v6 : Int32) (σ : Sg) : Prop := wp_X6_inHopper x1 σ (fun r18 σ19 => (((r18 + x3) ≤ (999 : Int32) → ((v6 = 0 → (vp_in ((v4 + (1 : Int32)) + ((2 : Int32) * v5)) 194 ∧ ∀ σ22 : Sg, σ22 = up σ19 12 19 0 ((v4 + (1 : Int32)) + ((2 : Int32) * v5)).toNatClampNeg x2 → (vp_in ((v4 + (2 : Int32)) + ((2 : Int32) * v5)) 194 ∧ ∀ σ23 : Sg, σ23 = up σ22 12 19 0 ((v4 + (2 : Int32)) + ((2 : Int32) * v5)).toNatClampNeg x3 → (vp_in v4 194 ∧ (vp_in v4 194 ∧ ∀ σ24 : Sg, σ24 = up σ23 12 19 0 v4.toNatClampNeg ((σ23 12 19 0 v4.toNatClampNeg) + (1 : Int32)) → wp_X6_heaps_b165 x1 x2 x3 Q σ24))))) ∧ (¬ v6 = 0 → ∀ z25 : Int32, z25 = (v4 + ((2 : Int32) * v5)) → (vp_in z25 194 ∧ (vp_in z25 194 ∧ ∀ σ26 : Sg, σ26 = up σ19 12 19 0 z25.toNatClampNeg ((σ19 12 19 0 z25.toNatClampNeg) + x3) → wp_X6_heaps_b165 x1 x2 x3 Q σ26))))) ∧ (¬ (r18 + x3) ≤ (999 : Int32) → Q (-4 : Int32) σ19)))
set_option maxRecDepth 100000 in
set_option maxHeartbeats 4000000 in
theorem g_X6_heaps_b84 {X : Tx} {Q : Int32 → Sg → Prop} (C : Cx X cX6_heaps "SweetWrapsModel" (some .int) 3 67 7 (QI (tE X) Q)) {x1 : Int32} {x2 : Int32} {x3 : Int32} {v4 : Int32} {v5 : Int32} {v6 : Int32} {σ : Sg} (hw : wp_X6_heaps_b84 x1 x2 x3 Q v4 v5 v6 σ) : G X σ [(0, .ref (ad (tE X) 12 18 0)), (1, .int x1), (2, .int x2), (3, .int x3), (4, .int v4), (5, .int v5), (6, .int v6)] [] 84 := by
  unfold wp_X6_heaps_b84 at hw
  refine gx_aload_n C dX6_heaps_84 0 rfl ?_
  refine gx_iload_n C dX6_heaps_85 1 rfl ?_
  refine gx_vcalli (As := [.int x1]) (rest := []) C (c_X6_inHopper _ _ hw) okg_18 rfl rfl bw_744 bw_746 bs_32 bw_7 bw_747 hy_X6_inHopper ⟨by decide, by decide⟩ rfl (Nat.le_of_ble_eq_true rfl) dX6_heaps_86 (fun r18 σ19 hw => ?_)
  refine gx_iload_n C dX6_heaps_89 3 rfl ?_
  refine gx_iadd C dX6_heaps_90 ?_
  refine gx_sipush (v := (999 : Int32)) C dX6_heaps_91 (by decide) ?_
  refine gx_icmp_le (tgt := 100) C dX6_heaps_94 (by decide) (fun c20 => ?_) (fun c20 => ?_)
  · replace hw := hw.1 c20
    refine gx_iload C dX6_heaps_100 6 rfl ?_
    refine gx_if_eq (tgt := 124) C dX6_heaps_102 (by decide) (fun c21 => ?_) (fun c21 => ?_)
    · replace hw := hw.1 c21
      refine gx_aload_n C dX6_heaps_124 0 rfl ?_
      refine gx_get C okg_18 rfl rfl inX6 (ref := "SweetWrapsModel") 0 (by decide) bw_673 rfl rfl dX6_heaps_125 ?_
      refine gx_iload C dX6_heaps_128 4 rfl ?_
      refine gx_iconst (v := (1 : Int32)) C dX6_heaps_130 (by decide) ?_
      refine gx_iadd C dX6_heaps_131 ?_
      refine gx_iconst (v := (2 : Int32)) C dX6_heaps_132 (by decide) ?_
      refine gx_iload C dX6_heaps_133 5 rfl ?_
      refine gx_imul C dX6_heaps_135 ?_
      refine gx_iadd C dX6_heaps_136 ?_
      refine gx_iload_n C dX6_heaps_137 2 rfl ?_
      refine gx_iast C okg_19 (fun _ => rfl) hw.1 _ rfl rfl dX6_heaps_138 ?_
      replace hw := hw.2
      obtain ⟨σ22, e_σ22⟩ : ∃ z : Sg, z = up σ19 12 19 0 ((v4 + (1 : Int32)) + ((2 : Int32) * v5)).toNatClampNeg x2 := ⟨_, rfl⟩
      replace hw := hw σ22 e_σ22
      refine gx_st e_σ22 ?_
      refine gx_aload_n C dX6_heaps_139 0 rfl ?_
      refine gx_get C okg_18 rfl rfl inX6 (ref := "SweetWrapsModel") 0 (by decide) bw_673 rfl rfl dX6_heaps_140 ?_
      refine gx_iload C dX6_heaps_143 4 rfl ?_
      refine gx_iconst (v := (2 : Int32)) C dX6_heaps_145 (by decide) ?_
      refine gx_iadd C dX6_heaps_146 ?_
      refine gx_iconst (v := (2 : Int32)) C dX6_heaps_147 (by decide) ?_
      refine gx_iload C dX6_heaps_148 5 rfl ?_
      refine gx_imul C dX6_heaps_150 ?_
      refine gx_iadd C dX6_heaps_151 ?_
      refine gx_iload_n C dX6_heaps_152 3 rfl ?_
      refine gx_iast C okg_19 (fun _ => rfl) hw.1 _ rfl rfl dX6_heaps_153 ?_
      replace hw := hw.2
      obtain ⟨σ23, e_σ23⟩ : ∃ z : Sg, z = up σ22 12 19 0 ((v4 + (2 : Int32)) + ((2 : Int32) * v5)).toNatClampNeg x3 := ⟨_, rfl⟩
      replace hw := hw σ23 e_σ23
      refine gx_st e_σ23 ?_
      refine gx_aload_n C dX6_heaps_154 0 rfl ?_
      refine gx_get C okg_18 rfl rfl inX6 (ref := "SweetWrapsModel") 0 (by decide) bw_673 rfl rfl dX6_heaps_155 ?_
      refine gx_iload C dX6_heaps_158 4 rfl ?_
      refine gx_dup2 C dX6_heaps_160 rfl rfl ?_
      refine gx_iald C okg_19 rfl hw.1 _ rfl dX6_heaps_161 ?_
      replace hw := hw.2
      refine gx_iconst (v := (1 : Int32)) C dX6_heaps_162 (by decide) ?_
      refine gx_iadd C dX6_heaps_163 ?_
      refine gx_iast C okg_19 (fun _ => rfl) hw.1 _ rfl rfl dX6_heaps_164 ?_
      replace hw := hw.2
      obtain ⟨σ24, e_σ24⟩ : ∃ z : Sg, z = up σ23 12 19 0 v4.toNatClampNeg ((σ23 12 19 0 v4.toNatClampNeg) + (1 : Int32)) := ⟨_, rfl⟩
      replace hw := hw σ24 e_σ24
      refine gx_st e_σ24 ?_
      refine gx_sub (lv' := [(0, .ref (ad (tE X) 12 18 0)), (1, .int x1)]) [0, 1] rfl ?_
      exact g_X6_heaps_b165 C hw
    · replace hw := hw.2 c21
      refine gx_aload_n C dX6_heaps_105 0 rfl ?_
      refine gx_get C okg_18 rfl rfl inX6 (ref := "SweetWrapsModel") 0 (by decide) bw_673 rfl rfl dX6_heaps_106 ?_
      refine gx_iload C dX6_heaps_109 4 rfl ?_
      refine gx_iconst (v := (2 : Int32)) C dX6_heaps_111 (by decide) ?_
      refine gx_iload C dX6_heaps_112 5 rfl ?_
      refine gx_imul C dX6_heaps_114 ?_
      refine gx_iadd C dX6_heaps_115 ?_
      obtain ⟨z25, e_z25⟩ : ∃ z : Int32, z = (v4 + ((2 : Int32) * v5)) := ⟨_, rfl⟩
      replace hw := hw z25 e_z25
      refine gx_top e_z25 ?_
      refine gx_dup2 C dX6_heaps_116 rfl rfl ?_
      refine gx_iald C okg_19 rfl hw.1 _ rfl dX6_heaps_117 ?_
      replace hw := hw.2
      refine gx_iload_n C dX6_heaps_118 3 rfl ?_
      refine gx_iadd C dX6_heaps_119 ?_
      refine gx_iast C okg_19 (fun _ => rfl) hw.1 _ rfl rfl dX6_heaps_120 ?_
      replace hw := hw.2
      obtain ⟨σ26, e_σ26⟩ : ∃ z : Sg, z = up σ19 12 19 0 z25.toNatClampNeg ((σ19 12 19 0 z25.toNatClampNeg) + x3) := ⟨_, rfl⟩
      replace hw := hw σ26 e_σ26
      refine gx_st e_σ26 ?_
      refine gx_goto (tgt := 165) C dX6_heaps_121 (by decide) ?_
      refine gx_sub (lv' := [(0, .ref (ad (tE X) 12 18 0)), (1, .int x1)]) [0, 1] rfl ?_
      exact g_X6_heaps_b165 C hw
  · replace hw := hw.2 c20
    refine gx_bipush (v := (-4 : Int32)) C dX6_heaps_97 (by decide) ?_
    exact gx_iret C rfl rfl dX6_heaps_99 hw
def wp_X6_heaps_b70 (x1 : Int32) (x2 : Int32) (x3 : Int32) (Q : Int32 → Sg → Prop) (v4 : Int32) (v5 : Int32) (s0 : Int32) (σ : Sg) : Prop := ((¬ s0 = 0 → wp_X6_heaps_b84 x1 x2 x3 Q v4 v5 s0 σ) ∧ (s0 = 0 → ((v5 = (6 : Int32) → Q (-4 : Int32) σ) ∧ (¬ v5 = (6 : Int32) → wp_X6_heaps_b84 x1 x2 x3 Q v4 v5 s0 σ))))
set_option maxRecDepth 100000 in
set_option maxHeartbeats 4000000 in
theorem g_X6_heaps_b70 {X : Tx} {Q : Int32 → Sg → Prop} (C : Cx X cX6_heaps "SweetWrapsModel" (some .int) 3 67 7 (QI (tE X) Q)) {x1 : Int32} {x2 : Int32} {x3 : Int32} {v4 : Int32} {v5 : Int32} {s0 : Int32} {σ : Sg} (hw : wp_X6_heaps_b70 x1 x2 x3 Q v4 v5 s0 σ) : G X σ [(0, .ref (ad (tE X) 12 18 0)), (1, .int x1), (2, .int x2), (3, .int x3), (4, .int v4), (5, .int v5)] [.int s0] 70 := by
  unfold wp_X6_heaps_b70 at hw
  refine gx_istore (lv' := [(6, .int s0), (0, .ref (ad (tE X) 12 18 0)), (1, .int x1), (2, .int x2), (3, .int x3), (4, .int v4), (5, .int v5)]) C dX6_heaps_70 (by decide) rfl ?_
  refine gx_iload C dX6_heaps_72 0 rfl ?_
  refine gx_if_ne (tgt := 84) C dX6_heaps_74 (by decide) (fun c16 => ?_) (fun c16 => ?_)
  · replace hw := hw.1 c16
    refine gx_sub (lv' := [(0, .ref (ad (tE X) 12 18 0)), (1, .int x1), (2, .int x2), (3, .int x3), (4, .int v4), (5, .int v5), (6, .int s0)]) [1, 2, 3, 4, 5, 6, 0] rfl ?_
    exact g_X6_heaps_b84 C hw
  · replace hw := hw.2 c16
    refine gx_iload C dX6_heaps_77 6 rfl ?_
    refine gx_bipush (v := (6 : Int32)) C dX6_heaps_79 (by decide) ?_
    refine gx_icmp_eq (tgt := 97) C dX6_heaps_81 (by decide) (fun c17 => ?_) (fun c17 => ?_)
    · replace hw := hw.1 c17
      refine gx_bipush (v := (-4 : Int32)) C dX6_heaps_97 (by decide) ?_
      exact gx_iret C rfl rfl dX6_heaps_99 hw
    · replace hw := hw.2 c17
      refine gx_sub (lv' := [(0, .ref (ad (tE X) 12 18 0)), (1, .int x1), (2, .int x2), (3, .int x3), (4, .int v4), (5, .int v5), (6, .int s0)]) [1, 2, 3, 4, 5, 6, 0] rfl ?_
      exact g_X6_heaps_b84 C hw
def wp_X6_heaps_b69 (x1 : Int32) (x2 : Int32) (x3 : Int32) (Q : Int32 → Sg → Prop) (v4 : Int32) (v5 : Int32) (σ : Sg) : Prop := wp_X6_heaps_b70 x1 x2 x3 Q v4 v5 (0 : Int32) σ
set_option maxRecDepth 100000 in
set_option maxHeartbeats 4000000 in
theorem g_X6_heaps_b69 {X : Tx} {Q : Int32 → Sg → Prop} (C : Cx X cX6_heaps "SweetWrapsModel" (some .int) 3 67 7 (QI (tE X) Q)) {x1 : Int32} {x2 : Int32} {x3 : Int32} {v4 : Int32} {v5 : Int32} {σ : Sg} (hw : wp_X6_heaps_b69 x1 x2 x3 Q v4 v5 σ) : G X σ [(0, .ref (ad (tE X) 12 18 0)), (1, .int x1), (2, .int x2), (3, .int x3), (4, .int v4), (5, .int v5)] [] 69 := by
  unfold wp_X6_heaps_b69 at hw
  refine gx_iconst (v := (0 : Int32)) C dX6_heaps_69 (by decide) ?_
  exact g_X6_heaps_b70 C hw
def wp_X6_heaps (x1 : Int32) (x2 : Int32) (x3 : Int32) (σ : Sg) (Q : Int32 → Sg → Prop) : Prop := wp_X6_isLane x1 σ (fun r1 σ2 => ((r1 = 0 → Q (-1 : Int32) σ2) ∧ (¬ r1 = 0 → wp_X6_isFlavour x2 σ2 (fun r4 σ5 => ((¬ r4 = 0 → wp_X6_in x3 (1 : Int32) (200 : Int32) σ5 (fun r7 σ8 => ((¬ r7 = 0 → ∀ z10 : Int32, z10 = ((4 : Int32) + ((17 : Int32) * x1)) → (vp_in z10 194 ∧ ∀ z11 : Int32, z11 = (σ8 12 19 0 z10.toNatClampNeg) → ((z11 ≤ 0 → wp_X6_heaps_b69 x1 x2 x3 Q z10 z11 σ8) ∧ (¬ z11 ≤ 0 → wp_X6_heapFlavour x1 (z11 - (1 : Int32)) σ8 (fun r13 σ14 => ((¬ r13 = x2 → wp_X6_heaps_b69 x1 x2 x3 Q z10 z11 σ14) ∧ (r13 = x2 → wp_X6_heaps_b70 x1 x2 x3 Q z10 z11 (1 : Int32) σ14))))))) ∧ (r7 = 0 → Q (-2 : Int32) σ8)))) ∧ (r4 = 0 → Q (-1 : Int32) σ5))))))
set_option maxRecDepth 100000 in
set_option maxHeartbeats 4000000 in
theorem c_X6_heaps (l : Launch) (E : Ev) {x1 : Int32} {x2 : Int32} {x3 : Int32} {σ : Sg} {Q : Int32 → Sg → Prop} (hw : wp_X6_heaps x1 x2 x3 σ Q) : CT l E yX6_heaps cX6_heaps 7 (some .int) 3 67 [.ref (ad E 12 18 0), .int x1, .int x2, .int x3] σ (QI E Q) := by
  refine CT_of (by decide) (Nat.le_of_ble_eq_true rfl) (fun X h1 h2 C => ?_)
  subst h1; subst h2
  have C : Cx X cX6_heaps "SweetWrapsModel" (some .int) 3 67 7 (QI (tE X) Q) := C
  show G X σ [(0, .ref (ad (tE X) 12 18 0)), (1, .int x1), (2, .int x2), (3, .int x3)] [] 0
  unfold wp_X6_heaps at hw
  refine gx_iload_n C dX6_heaps_0 1 rfl ?_
  refine gx_scalli (As := [.int x1]) (rest := []) C (c_X6_isLane _ _ hw) bw_730 bw_731 bw_7 bw_732 hyS_X6_isLane ⟨by decide, by decide⟩ rfl (Nat.le_of_ble_eq_true rfl) dX6_heaps_1 (fun r1 σ2 hw => ?_)
  refine gx_if_eq (tgt := 14) C dX6_heaps_4 (by decide) (fun c3 => ?_) (fun c3 => ?_)
  · replace hw := hw.1 c3
    refine gx_iconst (v := (-1 : Int32)) C dX6_heaps_14 (by decide) ?_
    exact gx_iret C rfl rfl dX6_heaps_15 hw
  · replace hw := hw.2 c3
    refine gx_iload_n C dX6_heaps_7 2 rfl ?_
    refine gx_scalli (As := [.int x2]) (rest := []) C (c_X6_isFlavour _ _ hw) bw_733 bw_734 bw_7 bw_735 hyS_X6_isFlavour ⟨by decide, by decide⟩ rfl (Nat.le_of_ble_eq_true rfl) dX6_heaps_8 (fun r4 σ5 hw => ?_)
    refine gx_if_ne (tgt := 16) C dX6_heaps_11 (by decide) (fun c6 => ?_) (fun c6 => ?_)
    · replace hw := hw.1 c6
      refine gx_iload_n C dX6_heaps_16 3 rfl ?_
      refine gx_iconst (v := (1 : Int32)) C dX6_heaps_17 (by decide) ?_
      refine gx_sipush (v := (200 : Int32)) C dX6_heaps_18 (by decide) ?_
      refine gx_scalli (As := [.int x3, .int (1 : Int32), .int (200 : Int32)]) (rest := []) C (c_X6_in _ _ hw) bw_711 bw_712 bw_7 bw_713 hyS_X6_in ⟨by decide, by decide⟩ rfl (Nat.le_of_ble_eq_true rfl) dX6_heaps_21 (fun r7 σ8 hw => ?_)
      refine gx_if_ne (tgt := 30) C dX6_heaps_24 (by decide) (fun c9 => ?_) (fun c9 => ?_)
      · replace hw := hw.1 c9
        refine gx_iconst (v := (4 : Int32)) C dX6_heaps_30 (by decide) ?_
        refine gx_bipush (v := (17 : Int32)) C dX6_heaps_31 (by decide) ?_
        refine gx_iload_n C dX6_heaps_33 1 rfl ?_
        refine gx_imul C dX6_heaps_34 ?_
        refine gx_iadd C dX6_heaps_35 ?_
        obtain ⟨z10, e_z10⟩ : ∃ z : Int32, z = ((4 : Int32) + ((17 : Int32) * x1)) := ⟨_, rfl⟩
        replace hw := hw z10 e_z10
        refine gx_top e_z10 ?_
        refine gx_istore (lv' := [(4, .int z10), (0, .ref (ad (tE X) 12 18 0)), (1, .int x1), (2, .int x2), (3, .int x3)]) C dX6_heaps_36 (by decide) rfl ?_
        refine gx_aload_n C dX6_heaps_38 1 rfl ?_
        refine gx_get C okg_18 rfl rfl inX6 (ref := "SweetWrapsModel") 0 (by decide) bw_673 rfl rfl dX6_heaps_39 ?_
        refine gx_iload C dX6_heaps_42 0 rfl ?_
        refine gx_iald C okg_19 rfl hw.1 _ rfl dX6_heaps_44 ?_
        replace hw := hw.2
        obtain ⟨z11, e_z11⟩ : ∃ z : Int32, z = (σ8 12 19 0 z10.toNatClampNeg) := ⟨_, rfl⟩
        replace hw := hw z11 e_z11
        refine gx_top e_z11 ?_
        refine gx_istore (lv' := [(5, .int z11), (4, .int z10), (0, .ref (ad (tE X) 12 18 0)), (1, .int x1), (2, .int x2), (3, .int x3)]) C dX6_heaps_45 (by decide) rfl ?_
        refine gx_iload C dX6_heaps_47 0 rfl ?_
        refine gx_if_le (tgt := 69) C dX6_heaps_49 (by decide) (fun c12 => ?_) (fun c12 => ?_)
        · replace hw := hw.1 c12
          refine gx_sub (lv' := [(0, .ref (ad (tE X) 12 18 0)), (1, .int x1), (2, .int x2), (3, .int x3), (4, .int z10), (5, .int z11)]) [2, 3, 4, 5, 1, 0] rfl ?_
          exact g_X6_heaps_b69 C hw
        · replace hw := hw.2 c12
          refine gx_aload_n C dX6_heaps_52 2 rfl ?_
          refine gx_iload_n C dX6_heaps_53 3 rfl ?_
          refine gx_iload C dX6_heaps_54 0 rfl ?_
          refine gx_iconst (v := (1 : Int32)) C dX6_heaps_56 (by decide) ?_
          refine gx_isub C dX6_heaps_57 ?_
          refine gx_vcalli (As := [.int x1, .int (z11 - (1 : Int32))]) (rest := []) C (c_X6_heapFlavour _ _ hw) okg_18 rfl rfl bw_736 bw_738 bs_30 bw_7 bw_739 hy_X6_heapFlavour ⟨by decide, by decide⟩ rfl (Nat.le_of_ble_eq_true rfl) dX6_heaps_58 (fun r13 σ14 hw => ?_)
          refine gx_iload_n C dX6_heaps_61 4 rfl ?_
          refine gx_icmp_ne (tgt := 69) C dX6_heaps_62 (by decide) (fun c15 => ?_) (fun c15 => ?_)
          · replace hw := hw.1 c15
            refine gx_sub (lv' := [(0, .ref (ad (tE X) 12 18 0)), (1, .int x1), (2, .int x2), (3, .int x3), (4, .int z10), (5, .int z11)]) [2, 3, 4, 5, 1, 0] rfl ?_
            exact g_X6_heaps_b69 C hw
          · replace hw := hw.2 c15
            refine gx_iconst (v := (1 : Int32)) C dX6_heaps_65 (by decide) ?_
            refine gx_goto (tgt := 70) C dX6_heaps_66 (by decide) ?_
            refine gx_sub (lv' := [(0, .ref (ad (tE X) 12 18 0)), (1, .int x1), (2, .int x2), (3, .int x3), (4, .int z10), (5, .int z11)]) [2, 3, 4, 5, 1, 0] rfl ?_
            exact g_X6_heaps_b70 C hw
      · replace hw := hw.2 c9
        refine gx_bipush (v := (-2 : Int32)) C dX6_heaps_27 (by decide) ?_
        exact gx_iret C rfl rfl dX6_heaps_29 hw
    · replace hw := hw.2 c6
      refine gx_iconst (v := (-1 : Int32)) C dX6_heaps_14 (by decide) ?_
      exact gx_iret C rfl rfl dX6_heaps_15 hw
theorem hy_X6_heaps : yX6_heaps.cls = "SweetWrapsModel" ∧ yX6_heaps.cls ≠ "java/lang/invoke/MethodHandle" ∧ yX6_heaps.cls ≠ "java/lang/invoke/VarHandle" ∧ (parseMethodDescriptor yX6_heaps.desc).map (fun d => d.parameters.length) = some 3 := by decide +kernel
