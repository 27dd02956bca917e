theorem dX6_foils_0 : decode cX6_foils 0 = .ok (.iload_n 1, 1) := by decide +kernel
theorem dX6_foils_1 : decode cX6_foils 1 = .ok (.invokestatic 85, 3) := by decide +kernel
theorem dX6_foils_4 : decode cX6_foils 4 = .ok (.ifCond .ne 5, 3) := by decide +kernel
theorem dX6_foils_7 : decode cX6_foils 7 = .ok (.iconst (-1), 1) := by decide +kernel
theorem dX6_foils_8 : decode cX6_foils 8 = .ok (.ireturn, 1) := by decide +kernel
theorem dX6_foils_9 : decode cX6_foils 9 = .ok (.iload_n 2, 1) := by decide +kernel
theorem dX6_foils_10 : decode cX6_foils 10 = .ok (.iconst 1, 1) := by decide +kernel
theorem dX6_foils_11 : decode cX6_foils 11 = .ok (.sipush 999, 3) := by decide +kernel
theorem dX6_foils_14 : decode cX6_foils 14 = .ok (.invokestatic 36, 3) := by decide +kernel
theorem dX6_foils_17 : decode cX6_foils 17 = .ok (.ifCond .ne 6, 3) := by decide +kernel
theorem dX6_foils_20 : decode cX6_foils 20 = .ok (.bipush (-2), 2) := by decide +kernel
theorem dX6_foils_22 : decode cX6_foils 22 = .ok (.ireturn, 1) := by decide +kernel
theorem dX6_foils_23 : decode cX6_foils 23 = .ok (.aload_n 0, 1) := by decide +kernel
theorem dX6_foils_24 : decode cX6_foils 24 = .ok (.iload_n 1, 1) := by decide +kernel
theorem dX6_foils_25 : decode cX6_foils 25 = .ok (.bipush 13, 2) := by decide +kernel
theorem dX6_foils_27 : decode cX6_foils 27 = .ok (.invokevirtual 40, 3) := by decide +kernel
theorem dX6_foils_30 : decode cX6_foils 30 = .ok (.iload_n 2, 1) := by decide +kernel
theorem dX6_foils_31 : decode cX6_foils 31 = .ok (.iadd, 1) := by decide +kernel
theorem dX6_foils_32 : decode cX6_foils 32 = .ok (.sipush 9999, 3) := by decide +kernel
theorem dX6_foils_35 : decode cX6_foils 35 = .ok (.if_icmp .le 6, 3) := by decide +kernel
theorem dX6_foils_38 : decode cX6_foils 38 = .ok (.bipush (-4), 2) := by decide +kernel
theorem dX6_foils_40 : decode cX6_foils 40 = .ok (.ireturn, 1) := by decide +kernel
theorem dX6_foils_41 : decode cX6_foils 41 = .ok (.aload_n 0, 1) := by decide +kernel
theorem dX6_foils_42 : decode cX6_foils 42 = .ok (.getfield 7, 3) := by decide +kernel
theorem dX6_foils_45 : decode cX6_foils 45 = .ok (.iconst 4, 1) := by decide +kernel
theorem dX6_foils_46 : decode cX6_foils 46 = .ok (.bipush 17, 2) := by decide +kernel
theorem dX6_foils_48 : decode cX6_foils 48 = .ok (.iload_n 1, 1) := by decide +kernel
theorem dX6_foils_49 : decode cX6_foils 49 = .ok (.imul, 1) := by decide +kernel
theorem dX6_foils_50 : decode cX6_foils 50 = .ok (.iadd, 1) := by decide +kernel
theorem dX6_foils_51 : decode cX6_foils 51 = .ok (.bipush 17, 2) := by decide +kernel
theorem dX6_foils_53 : decode cX6_foils 53 = .ok (.iadd, 1) := by decide +kernel
theorem dX6_foils_54 : decode cX6_foils 54 = .ok (.iconst 4, 1) := by decide +kernel
theorem dX6_foils_55 : decode cX6_foils 55 = .ok (.isub, 1) := by decide +kernel
theorem dX6_foils_56 : decode cX6_foils 56 = .ok (.dup2, 1) := by decide +kernel
theorem dX6_foils_57 : decode cX6_foils 57 = .ok (.iaload, 1) := by decide +kernel
theorem dX6_foils_58 : decode cX6_foils 58 = .ok (.iload_n 2, 1) := by decide +kernel
theorem dX6_foils_59 : decode cX6_foils 59 = .ok (.iadd, 1) := by decide +kernel
theorem dX6_foils_60 : decode cX6_foils 60 = .ok (.iastore, 1) := by decide +kernel
theorem dX6_foils_61 : decode cX6_foils 61 = .ok (.aload_n 0, 1) := by decide +kernel
theorem dX6_foils_62 : decode cX6_foils 62 = .ok (.iload_n 1, 1) := by decide +kernel
theorem dX6_foils_63 : decode cX6_foils 63 = .ok (.bipush 13, 2) := by decide +kernel
theorem dX6_foils_65 : decode cX6_foils 65 = .ok (.invokevirtual 40, 3) := by decide +kernel
theorem dX6_foils_68 : decode cX6_foils 68 = .ok (.ireturn, 1) := by decide +kernel
def wp_X6_foils (x1 : Int32) (x2 : Int32) (σ : Sg) (Q : Int32 → Sg → Prop) : Prop := wp_X6_isLane x1 σ (fun r1 σ2 => ((¬ r1 = 0 → wp_X6_in x2 (1 : Int32) (999 : Int32) σ2 (fun r4 σ5 => ((¬ r4 = 0 → wp_X6_lane x1 (13 : Int32) σ5 (fun r7 σ8 => (((r7 + x2) ≤ (9999 : Int32) → ∀ z10 : Int32, z10 = ((((4 : Int32) + ((17 : Int32) * x1)) + (17 : Int32)) - (4 : Int32)) → (vp_in z10 194 ∧ (vp_in z10 194 ∧ ∀ σ11 : Sg, σ11 = up σ8 12 19 0 z10.toNatClampNeg ((σ8 12 19 0 z10.toNatClampNeg) + x2) → wp_X6_lane x1 (13 : Int32) σ11 (fun r12 σ13 => Q r12 σ13)))) ∧ (¬ (r7 + x2) ≤ (9999 : Int32) → Q (-4 : Int32) σ8)))) ∧ (r4 = 0 → Q (-2 : Int32) σ5)))) ∧ (r1 = 0 → Q (-1 : Int32) σ2)))
set_option maxRecDepth 100000 in
set_option maxHeartbeats 4000000 in
theorem c_X6_foils (l : Launch) (E : Ev) {x1 : Int32} {x2 : Int32} {σ : Sg} {Q : Int32 → Sg → Prop} (hw : wp_X6_foils x1 x2 σ Q) : CT l E yX6_foils cX6_foils 3 (some .int) 2 42 [.ref (ad E 12 18 0), .int x1, .int x2] σ (QI E Q) := by
  refine CT_of (by decide) (Nat.le_of_ble_eq_true rfl) (fun X h1 h2 C => ?_)
  subst h1; subst h2
  have C : Cx X cX6_foils "SweetWrapsModel" (some .int) 2 42 3 (QI (tE X) Q) := C
  show G X σ [(0, .ref (ad (tE X) 12 18 0)), (1, .int x1), (2, .int x2)] [] 0
  unfold wp_X6_foils at hw
  refine gx_iload_n C dX6_foils_0 1 rfl ?_
  refine gx_scalli (As := [.int x1]) (rest := []) C (c_X6_isLane _ _ hw) bw_730 bw_731 bw_7 bw_732 hyS_X6_isLane ⟨by decide, by decide⟩ rfl (Nat.le_of_ble_eq_true rfl) dX6_foils_1 (fun r1 σ2 hw => ?_)
  refine gx_if_ne (tgt := 9) C dX6_foils_4 (by decide) (fun c3 => ?_) (fun c3 => ?_)
  · replace hw := hw.1 c3
    refine gx_iload_n C dX6_foils_9 2 rfl ?_
    refine gx_iconst (v := (1 : Int32)) C dX6_foils_10 (by decide) ?_
    refine gx_sipush (v := (999 : Int32)) C dX6_foils_11 (by decide) ?_
    refine gx_scalli (As := [.int x2, .int (1 : Int32), .int (999 : Int32)]) (rest := []) C (c_X6_in _ _ hw) bw_711 bw_712 bw_7 bw_713 hyS_X6_in ⟨by decide, by decide⟩ rfl (Nat.le_of_ble_eq_true rfl) dX6_foils_14 (fun r4 σ5 hw => ?_)
    refine gx_if_ne (tgt := 23) C dX6_foils_17 (by decide) (fun c6 => ?_) (fun c6 => ?_)
    · replace hw := hw.1 c6
      refine gx_aload_n C dX6_foils_23 0 rfl ?_
      refine gx_iload_n C dX6_foils_24 1 rfl ?_
      refine gx_bipush (v := (13 : Int32)) C dX6_foils_25 (by decide) ?_
      refine gx_vcalli (As := [.int x1, .int (13 : Int32)]) (rest := []) C (c_X6_lane _ _ hw) okg_18 rfl rfl bw_740 bw_742 bs_31 bw_7 bw_743 hy_X6_lane ⟨by decide, by decide⟩ rfl (Nat.le_of_ble_eq_true rfl) dX6_foils_27 (fun r7 σ8 hw => ?_)
      refine gx_iload_n C dX6_foils_30 2 rfl ?_
      refine gx_iadd C dX6_foils_31 ?_
      refine gx_sipush (v := (9999 : Int32)) C dX6_foils_32 (by decide) ?_
      refine gx_icmp_le (tgt := 41) C dX6_foils_35 (by decide) (fun c9 => ?_) (fun c9 => ?_)
      · replace hw := hw.1 c9
        refine gx_aload_n C dX6_foils_41 0 rfl ?_
        refine gx_get C okg_18 rfl rfl inX6 (ref := "SweetWrapsModel") 0 (by decide) bw_673 rfl rfl dX6_foils_42 ?_
        refine gx_iconst (v := (4 : Int32)) C dX6_foils_45 (by decide) ?_
        refine gx_bipush (v := (17 : Int32)) C dX6_foils_46 (by decide) ?_
        refine gx_iload_n C dX6_foils_48 1 rfl ?_
        refine gx_imul C dX6_foils_49 ?_
        refine gx_iadd C dX6_foils_50 ?_
        refine gx_bipush (v := (17 : Int32)) C dX6_foils_51 (by decide) ?_
        refine gx_iadd C dX6_foils_53 ?_
        refine gx_iconst (v := (4 : Int32)) C dX6_foils_54 (by decide) ?_
        refine gx_isub C dX6_foils_55 ?_
        obtain ⟨z10, e_z10⟩ : ∃ z : Int32, z = ((((4 : Int32) + ((17 : Int32) * x1)) + (17 : Int32)) - (4 : Int32)) := ⟨_, rfl⟩
        replace hw := hw z10 e_z10
        refine gx_top e_z10 ?_
        refine gx_dup2 C dX6_foils_56 rfl rfl ?_
        refine gx_iald C okg_19 rfl hw.1 _ rfl dX6_foils_57 ?_
        replace hw := hw.2
        refine gx_iload_n C dX6_foils_58 2 rfl ?_
        refine gx_iadd C dX6_foils_59 ?_
        refine gx_iast C okg_19 (fun _ => rfl) hw.1 _ rfl rfl dX6_foils_60 ?_
        replace hw := hw.2
        obtain ⟨σ11, e_σ11⟩ : ∃ z : Sg, z = up σ8 12 19 0 z10.toNatClampNeg ((σ8 12 19 0 z10.toNatClampNeg) + x2) := ⟨_, rfl⟩
        replace hw := hw σ11 e_σ11
        refine gx_st e_σ11 ?_
        refine gx_aload_n C dX6_foils_61 0 rfl ?_
        refine gx_iload_n C dX6_foils_62 1 rfl ?_
        refine gx_bipush (v := (13 : Int32)) C dX6_foils_63 (by decide) ?_
        refine gx_vcalli (As := [.int x1, .int (13 : Int32)]) (rest := []) C (c_X6_lane _ _ hw) okg_18 rfl rfl bw_740 bw_742 bs_31 bw_7 bw_743 hy_X6_lane ⟨by decide, by decide⟩ rfl (Nat.le_of_ble_eq_true rfl) dX6_foils_65 (fun r12 σ13 hw => ?_)
        exact gx_iret C rfl rfl dX6_foils_68 hw
      · replace hw := hw.2 c9
        refine gx_bipush (v := (-4 : Int32)) C dX6_foils_38 (by decide) ?_
        exact gx_iret C rfl rfl dX6_foils_40 hw
    · replace hw := hw.2 c6
      refine gx_bipush (v := (-2 : Int32)) C dX6_foils_20 (by decide) ?_
      exact gx_iret C rfl rfl dX6_foils_22 hw
  · replace hw := hw.2 c3
    refine gx_iconst (v := (-1 : Int32)) C dX6_foils_7 (by decide) ?_
    exact gx_iret C rfl rfl dX6_foils_8 hw
theorem hy_X6_foils : yX6_foils.cls = "SweetWrapsModel" ∧ yX6_foils.cls ≠ "java/lang/invoke/MethodHandle" ∧ yX6_foils.cls ≠ "java/lang/invoke/VarHandle" ∧ (parseMethodDescriptor yX6_foils.desc).map (fun d => d.parameters.length) = some 2 := by decide +kernel

theorem dX6_tins_0 : decode cX6_tins 0 = .ok (.aload_n 0, 1) := by decide +kernel
theorem dX6_tins_1 : decode cX6_tins 1 = .ok (.getfield 7, 3) := by decide +kernel
theorem dX6_tins_4 : decode cX6_tins 4 = .ok (.bipush 72, 2) := by decide +kernel
theorem dX6_tins_6 : decode cX6_tins 6 = .ok (.iaload, 1) := by decide +kernel
theorem dX6_tins_7 : decode cX6_tins 7 = .ok (.bipush 16, 2) := by decide +kernel
theorem dX6_tins_9 : decode cX6_tins 9 = .ok (.if_icmp .ne 6, 3) := by decide +kernel
theorem dX6_tins_12 : decode cX6_tins 12 = .ok (.bipush (-4), 2) := by decide +kernel
theorem dX6_tins_14 : decode cX6_tins 14 = .ok (.ireturn, 1) := by decide +kernel
theorem dX6_tins_15 : decode cX6_tins 15 = .ok (.aload_n 0, 1) := by decide +kernel
theorem dX6_tins_16 : decode cX6_tins 16 = .ok (.getfield 7, 3) := by decide +kernel
theorem dX6_tins_19 : decode cX6_tins 19 = .ok (.bipush 72, 2) := by decide +kernel
theorem dX6_tins_21 : decode cX6_tins 21 = .ok (.dup2, 1) := by decide +kernel
theorem dX6_tins_22 : decode cX6_tins 22 = .ok (.iaload, 1) := by decide +kernel
theorem dX6_tins_23 : decode cX6_tins 23 = .ok (.iconst 1, 1) := by decide +kernel
theorem dX6_tins_24 : decode cX6_tins 24 = .ok (.iadd, 1) := by decide +kernel
theorem dX6_tins_25 : decode cX6_tins 25 = .ok (.iastore, 1) := by decide +kernel
theorem dX6_tins_26 : decode cX6_tins 26 = .ok (.aload_n 0, 1) := by decide +kernel
theorem dX6_tins_27 : decode cX6_tins 27 = .ok (.getfield 7, 3) := by decide +kernel
theorem dX6_tins_30 : decode cX6_tins 30 = .ok (.bipush 72, 2) := by decide +kernel
theorem dX6_tins_32 : decode cX6_tins 32 = .ok (.iaload, 1) := by decide +kernel
theorem dX6_tins_33 : decode cX6_tins 33 = .ok (.iconst 1, 1) := by decide +kernel
theorem dX6_tins_34 : decode cX6_tins 34 = .ok (.isub, 1) := by decide +kernel
theorem dX6_tins_35 : decode cX6_tins 35 = .ok (.ireturn, 1) := by decide +kernel
def wp_X6_tins (σ : Sg) (Q : Int32 → Sg → Prop) : Prop := ((¬ (σ 12 19 0 72) = (16 : Int32) → ∀ σ2 : Sg, σ2 = up σ 12 19 0 72 ((σ 12 19 0 72) + (1 : Int32)) → Q ((σ2 12 19 0 72) - (1 : Int32)) σ2) ∧ ((σ 12 19 0 72) = (16 : Int32) → Q (-4 : Int32) σ))
set_option maxRecDepth 100000 in
set_option maxHeartbeats 4000000 in
theorem c_X6_tins (l : Launch) (E : Ev) {σ : Sg} {Q : Int32 → Sg → Prop} (hw : wp_X6_tins σ Q) : CT l E yX6_tins cX6_tins 1 (some .int) 0 0 [.ref (ad E 12 18 0)] σ (QI E Q) := by
  refine CT_of (by decide) (Nat.le_of_ble_eq_true rfl) (fun X h1 h2 C => ?_)
  subst h1; subst h2
  have C : Cx X cX6_tins "SweetWrapsModel" (some .int) 0 0 1 (QI (tE X) Q) := C
  show G X σ [(0, .ref (ad (tE X) 12 18 0))] [] 0
  unfold wp_X6_tins at hw
  refine gx_aload_n C dX6_tins_0 0 rfl ?_
  refine gx_get C okg_18 rfl rfl inX6 (ref := "SweetWrapsModel") 0 (by decide) bw_673 rfl rfl dX6_tins_1 ?_
  refine gx_bipush (v := (72 : Int32)) C dX6_tins_4 (by decide) ?_
  refine gx_iald C okg_19 rfl (n := 194) (x := (72 : Int32)) (by unfold vp_in; decide) 72 (by decide) dX6_tins_6 ?_
  refine gx_bipush (v := (16 : Int32)) C dX6_tins_7 (by decide) ?_
  refine gx_icmp_ne (tgt := 15) C dX6_tins_9 (by decide) (fun c1 => ?_) (fun c1 => ?_)
  · replace hw := hw.1 c1
    refine gx_aload_n C dX6_tins_15 0 rfl ?_
    refine gx_get C okg_18 rfl rfl inX6 (ref := "SweetWrapsModel") 0 (by decide) bw_673 rfl rfl dX6_tins_16 ?_
    refine gx_bipush (v := (72 : Int32)) C dX6_tins_19 (by decide) ?_
    refine gx_dup2 C dX6_tins_21 rfl rfl ?_
    refine gx_iald C okg_19 rfl (n := 194) (x := (72 : Int32)) (by unfold vp_in; decide) 72 (by decide) dX6_tins_22 ?_
    refine gx_iconst (v := (1 : Int32)) C dX6_tins_23 (by decide) ?_
    refine gx_iadd C dX6_tins_24 ?_
    refine gx_iast C okg_19 (fun _ => rfl) (n := 194) (x := (72 : Int32)) (by unfold vp_in; decide) 72 (by decide) rfl dX6_tins_25 ?_
    obtain ⟨σ2, e_σ2⟩ : ∃ z : Sg, z = up σ 12 19 0 72 ((σ 12 19 0 72) + (1 : Int32)) := ⟨_, rfl⟩
    replace hw := hw σ2 e_σ2
    refine gx_st e_σ2 ?_
    refine gx_aload_n C dX6_tins_26 0 rfl ?_
    refine gx_get C okg_18 rfl rfl inX6 (ref := "SweetWrapsModel") 0 (by decide) bw_673 rfl rfl dX6_tins_27 ?_
    refine gx_bipush (v := (72 : Int32)) C dX6_tins_30 (by decide) ?_
    refine gx_iald C okg_19 rfl (n := 194) (x := (72 : Int32)) (by unfold vp_in; decide) 72 (by decide) dX6_tins_32 ?_
    refine gx_iconst (v := (1 : Int32)) C dX6_tins_33 (by decide) ?_
    refine gx_isub C dX6_tins_34 ?_
    exact gx_iret C rfl rfl dX6_tins_35 hw
  · replace hw := hw.2 c1
    refine gx_bipush (v := (-4 : Int32)) C dX6_tins_12 (by decide) ?_
    exact gx_iret C rfl rfl dX6_tins_14 hw
theorem hy_X6_tins : yX6_tins.cls = "SweetWrapsModel" ∧ yX6_tins.cls ≠ "java/lang/invoke/MethodHandle" ∧ yX6_tins.cls ≠ "java/lang/invoke/VarHandle" ∧ (parseMethodDescriptor yX6_tins.desc).map (fun d => d.parameters.length) = some 0 := by decide +kernel

theorem dX6_ships_0 : decode cX6_ships 0 = .ok (.iload_n 1, 1) := by decide +kernel
theorem dX6_ships_1 : decode cX6_ships 1 = .ok (.iconst 0, 1) := by decide +kernel
theorem dX6_ships_2 : decode cX6_ships 2 = .ok (.aload_n 0, 1) := by decide +kernel
theorem dX6_ships_3 : decode cX6_ships 3 = .ok (.getfield 7, 3) := by decide +kernel
theorem dX6_ships_6 : decode cX6_ships 6 = .ok (.bipush 72, 2) := by decide +kernel
theorem dX6_ships_8 : decode cX6_ships 8 = .ok (.iaload, 1) := by decide +kernel
theorem dX6_ships_9 : decode cX6_ships 9 = .ok (.iconst 1, 1) := by decide +kernel
theorem dX6_ships_10 : decode cX6_ships 10 = .ok (.isub, 1) := by decide +kernel
theorem dX6_ships_11 : decode cX6_ships 11 = .ok (.invokestatic 36, 3) := by decide +kernel
theorem dX6_ships_14 : decode cX6_ships 14 = .ok (.ifCond .ne 5, 3) := by decide +kernel
theorem dX6_ships_17 : decode cX6_ships 17 = .ok (.iconst (-1), 1) := by decide +kernel
theorem dX6_ships_18 : decode cX6_ships 18 = .ok (.ireturn, 1) := by decide +kernel
theorem dX6_ships_19 : decode cX6_ships 19 = .ok (.aload_n 0, 1) := by decide +kernel
theorem dX6_ships_20 : decode cX6_ships 20 = .ok (.iload_n 1, 1) := by decide +kernel
theorem dX6_ships_21 : decode cX6_ships 21 = .ok (.invokevirtual 50, 3) := by decide +kernel
theorem dX6_ships_24 : decode cX6_ships 24 = .ok (.ifCond .ne 11, 3) := by decide +kernel
theorem dX6_ships_27 : decode cX6_ships 27 = .ok (.aload_n 0, 1) := by decide +kernel
theorem dX6_ships_28 : decode cX6_ships 28 = .ok (.iload_n 1, 1) := by decide +kernel
theorem dX6_ships_29 : decode cX6_ships 29 = .ok (.invokevirtual 54, 3) := by decide +kernel
theorem dX6_ships_32 : decode cX6_ships 32 = .ok (.ifCond .ne 6, 3) := by decide +kernel
theorem dX6_ships_35 : decode cX6_ships 35 = .ok (.bipush (-5), 2) := by decide +kernel
theorem dX6_ships_37 : decode cX6_ships 37 = .ok (.ireturn, 1) := by decide +kernel
theorem dX6_ships_38 : decode cX6_ships 38 = .ok (.aload_n 0, 1) := by decide +kernel
theorem dX6_ships_39 : decode cX6_ships 39 = .ok (.getfield 7, 3) := by decide +kernel
theorem dX6_ships_42 : decode cX6_ships 42 = .ok (.bipush 73, 2) := by decide +kernel
theorem dX6_ships_44 : decode cX6_ships 44 = .ok (.bipush 7, 2) := by decide +kernel
theorem dX6_ships_46 : decode cX6_ships 46 = .ok (.iload_n 1, 1) := by decide +kernel
theorem dX6_ships_47 : decode cX6_ships 47 = .ok (.imul, 1) := by decide +kernel
theorem dX6_ships_48 : decode cX6_ships 48 = .ok (.iadd, 1) := by decide +kernel
theorem dX6_ships_49 : decode cX6_ships 49 = .ok (.iconst 1, 1) := by decide +kernel
theorem dX6_ships_50 : decode cX6_ships 50 = .ok (.iastore, 1) := by decide +kernel
theorem dX6_ships_51 : decode cX6_ships 51 = .ok (.aload_n 0, 1) := by decide +kernel
theorem dX6_ships_52 : decode cX6_ships 52 = .ok (.iload_n 1, 1) := by decide +kernel
theorem dX6_ships_53 : decode cX6_ships 53 = .ok (.invokevirtual 54, 3) := by decide +kernel
theorem dX6_ships_56 : decode cX6_ships 56 = .ok (.ireturn, 1) := by decide +kernel
def wp_X6_ships (x1 : Int32) (σ : Sg) (Q : Int32 → Sg → Prop) : Prop := wp_X6_in x1 (0 : Int32) ((σ 12 19 0 72) - (1 : Int32)) σ (fun r1 σ2 => ((¬ r1 = 0 → wp_X6_isShipped x1 σ2 (fun r4 σ5 => ((¬ r4 = 0 → Q (-5 : Int32) σ5) ∧ (r4 = 0 → wp_X6_sweets x1 σ5 (fun r7 σ8 => ((¬ r7 = 0 → (vp_in ((73 : Int32) + ((7 : Int32) * x1)) 194 ∧ ∀ σ10 : Sg, σ10 = up σ8 12 19 0 ((73 : Int32) + ((7 : Int32) * x1)).toNatClampNeg (1 : Int32) → wp_X6_sweets x1 σ10 (fun r11 σ12 => Q r11 σ12))) ∧ (r7 = 0 → Q (-5 : Int32) σ8))))))) ∧ (r1 = 0 → Q (-1 : Int32) σ2)))
set_option maxRecDepth 100000 in
set_option maxHeartbeats 4000000 in
theorem c_X6_ships (l : Launch) (E : Ev) {x1 : Int32} {σ : Sg} {Q : Int32 → Sg → Prop} (hw : wp_X6_ships x1 σ Q) : CT l E yX6_ships cX6_ships 2 (some .int) 2 45 [.ref (ad E 12 18 0), .int x1] σ (QI E Q) := by
  refine CT_of (by decide) (Nat.le_of_ble_eq_true rfl) (fun X h1 h2 C => ?_)
  subst h1; subst h2
  have C : Cx X cX6_ships "SweetWrapsModel" (some .int) 2 45 2 (QI (tE X) Q) := C
  show G X σ [(0, .ref (ad (tE X) 12 18 0)), (1, .int x1)] [] 0
  unfold wp_X6_ships at hw
  refine gx_iload_n C dX6_ships_0 1 rfl ?_
  refine gx_iconst (v := (0 : Int32)) C dX6_ships_1 (by decide) ?_
  refine gx_aload_n C dX6_ships_2 0 rfl ?_
  refine gx_get C okg_18 rfl rfl inX6 (ref := "SweetWrapsModel") 0 (by decide) bw_673 rfl rfl dX6_ships_3 ?_
  refine gx_bipush (v := (72 : Int32)) C dX6_ships_6 (by decide) ?_
  refine gx_iald C okg_19 rfl (n := 194) (x := (72 : Int32)) (by unfold vp_in; decide) 72 (by decide) dX6_ships_8 ?_
  refine gx_iconst (v := (1 : Int32)) C dX6_ships_9 (by decide) ?_
  refine gx_isub C dX6_ships_10 ?_
  refine gx_scalli (As := [.int x1, .int (0 : Int32), .int ((σ 12 19 0 72) - (1 : Int32))]) (rest := []) C (c_X6_in _ _ hw) bw_711 bw_712 bw_7 bw_713 hyS_X6_in ⟨by decide, by decide⟩ rfl (Nat.le_of_ble_eq_true rfl) dX6_ships_11 (fun r1 σ2 hw => ?_)
  refine gx_if_ne (tgt := 19) C dX6_ships_14 (by decide) (fun c3 => ?_) (fun c3 => ?_)
  · replace hw := hw.1 c3
    refine gx_aload_n C dX6_ships_19 0 rfl ?_
    refine gx_iload_n C dX6_ships_20 1 rfl ?_
    refine gx_vcalli (As := [.int x1]) (rest := []) C (c_X6_isShipped _ _ hw) okg_18 rfl rfl bw_780 bw_782 bs_38 bw_7 bw_783 hy_X6_isShipped ⟨by decide, by decide⟩ rfl (Nat.le_of_ble_eq_true rfl) dX6_ships_21 (fun r4 σ5 hw => ?_)
    refine gx_if_ne (tgt := 35) C dX6_ships_24 (by decide) (fun c6 => ?_) (fun c6 => ?_)
    · replace hw := hw.1 c6
      refine gx_bipush (v := (-5 : Int32)) C dX6_ships_35 (by decide) ?_
      exact gx_iret C rfl rfl dX6_ships_37 hw
    · replace hw := hw.2 c6
      refine gx_aload_n C dX6_ships_27 0 rfl ?_
      refine gx_iload_n C dX6_ships_28 1 rfl ?_
      refine gx_vcalli (As := [.int x1]) (rest := []) C (c_X6_sweets _ _ hw) okg_18 rfl rfl bw_784 bw_786 bs_39 bw_7 bw_787 hy_X6_sweets ⟨by decide, by decide⟩ rfl (Nat.le_of_ble_eq_true rfl) dX6_ships_29 (fun r7 σ8 hw => ?_)
      refine gx_if_ne (tgt := 38) C dX6_ships_32 (by decide) (fun c9 => ?_) (fun c9 => ?_)
      · replace hw := hw.1 c9
        refine gx_aload_n C dX6_ships_38 0 rfl ?_
        refine gx_get C okg_18 rfl rfl inX6 (ref := "SweetWrapsModel") 0 (by decide) bw_673 rfl rfl dX6_ships_39 ?_
        refine gx_bipush (v := (73 : Int32)) C dX6_ships_42 (by decide) ?_
        refine gx_bipush (v := (7 : Int32)) C dX6_ships_44 (by decide) ?_
        refine gx_iload_n C dX6_ships_46 1 rfl ?_
        refine gx_imul C dX6_ships_47 ?_
        refine gx_iadd C dX6_ships_48 ?_
        refine gx_iconst (v := (1 : Int32)) C dX6_ships_49 (by decide) ?_
        refine gx_iast C okg_19 (fun _ => rfl) hw.1 _ rfl rfl dX6_ships_50 ?_
        replace hw := hw.2
        obtain ⟨σ10, e_σ10⟩ : ∃ z : Sg, z = up σ8 12 19 0 ((73 : Int32) + ((7 : Int32) * x1)).toNatClampNeg (1 : Int32) := ⟨_, rfl⟩
        replace hw := hw σ10 e_σ10
        refine gx_st e_σ10 ?_
        refine gx_aload_n C dX6_ships_51 0 rfl ?_
        refine gx_iload_n C dX6_ships_52 1 rfl ?_
        refine gx_vcalli (As := [.int x1]) (rest := []) C (c_X6_sweets _ _ hw) okg_18 rfl rfl bw_784 bw_786 bs_39 bw_7 bw_787 hy_X6_sweets ⟨by decide, by decide⟩ rfl (Nat.le_of_ble_eq_true rfl) dX6_ships_53 (fun r11 σ12 hw => ?_)
        exact gx_iret C rfl rfl dX6_ships_56 hw
      · replace hw := hw.2 c9
        refine gx_bipush (v := (-5 : Int32)) C dX6_ships_35 (by decide) ?_
        exact gx_iret C rfl rfl dX6_ships_37 hw
  · replace hw := hw.2 c3
    refine gx_iconst (v := (-1 : Int32)) C dX6_ships_17 (by decide) ?_
    exact gx_iret C rfl rfl dX6_ships_18 hw
theorem hy_X6_ships : yX6_ships.cls = "SweetWrapsModel" ∧ yX6_ships.cls ≠ "java/lang/invoke/MethodHandle" ∧ yX6_ships.cls ≠ "java/lang/invoke/VarHandle" ∧ (parseMethodDescriptor yX6_ships.desc).map (fun d => d.parameters.length) = some 1 := by decide +kernel

theorem dX6_areApart_0 : decode cX6_areApart 0 = .ok (.aload_n 0, 1) := by decide +kernel
theorem dX6_areApart_1 : decode cX6_areApart 1 = .ok (.getfield 7, 3) := by decide +kernel
theorem dX6_areApart_4 : decode cX6_areApart 4 = .ok (.sipush 185, 3) := by decide +kernel
theorem dX6_areApart_7 : decode cX6_areApart 7 = .ok (.iload_n 1, 1) := by decide +kernel
theorem dX6_areApart_8 : decode cX6_areApart 8 = .ok (.iadd, 1) := by decide +kernel
theorem dX6_areApart_9 : decode cX6_areApart 9 = .ok (.iaload, 1) := by decide +kernel
theorem dX6_areApart_10 : decode cX6_areApart 10 = .ok (.iload_n 2, 1) := by decide +kernel
theorem dX6_areApart_11 : decode cX6_areApart 11 = .ok (.ishr, 1) := by decide +kernel
theorem dX6_areApart_12 : decode cX6_areApart 12 = .ok (.iconst 1, 1) := by decide +kernel
theorem dX6_areApart_13 : decode cX6_areApart 13 = .ok (.iand, 1) := by decide +kernel
theorem dX6_areApart_14 : decode cX6_areApart 14 = .ok (.iconst 1, 1) := by decide +kernel
theorem dX6_areApart_15 : decode cX6_areApart 15 = .ok (.if_icmp .ne 7, 3) := by decide +kernel
theorem dX6_areApart_18 : decode cX6_areApart 18 = .ok (.iconst 1, 1) := by decide +kernel
theorem dX6_areApart_19 : decode cX6_areApart 19 = .ok (.goto 4, 3) := by decide +kernel
theorem dX6_areApart_22 : decode cX6_areApart 22 = .ok (.iconst 0, 1) := by decide +kernel
theorem dX6_areApart_23 : decode cX6_areApart 23 = .ok (.ireturn, 1) := by decide +kernel
def wp_X6_areApart (x1 : Int32) (x2 : Int32) (σ : Sg) (Q : Int32 → Sg → Prop) : Prop := (vp_in ((185 : Int32) + x1) 194 ∧ ((¬ (((σ 12 19 0 ((185 : Int32) + x1).toNatClampNeg) >>> (x2 &&& 31)) &&& (1 : Int32)) = (1 : Int32) → Q (0 : Int32) σ) ∧ ((((σ 12 19 0 ((185 : Int32) + x1).toNatClampNeg) >>> (x2 &&& 31)) &&& (1 : Int32)) = (1 : Int32) → Q (1 : Int32) σ)))
set_option maxRecDepth 100000 in
set_option maxHeartbeats 4000000 in
theorem c_X6_areApart (l : Launch) (E : Ev) {x1 : Int32} {x2 : Int32} {σ : Sg} {Q : Int32 → Sg → Prop} (hw : wp_X6_areApart x1 x2 σ Q) : CT l E yX6_areApart cX6_areApart 3 (some .boolean) 0 0 [.ref (ad E 12 18 0), .int x1, .int x2] σ (QI E Q) := by
  refine CT_of (by decide) (Nat.le_of_ble_eq_true rfl) (fun X h1 h2 C => ?_)
  subst h1; subst h2
  have C : Cx X cX6_areApart "SweetWrapsModel" (some .boolean) 0 0 3 (QI (tE X) Q) := C
  show G X σ [(0, .ref (ad (tE X) 12 18 0)), (1, .int x1), (2, .int x2)] [] 0
  unfold wp_X6_areApart at hw
  refine gx_aload_n C dX6_areApart_0 0 rfl ?_
  refine gx_get C okg_18 rfl rfl inX6 (ref := "SweetWrapsModel") 0 (by decide) bw_673 rfl rfl dX6_areApart_1 ?_
  refine gx_sipush (v := (185 : Int32)) C dX6_areApart_4 (by decide) ?_
  refine gx_iload_n C dX6_areApart_7 1 rfl ?_
  refine gx_iadd C dX6_areApart_8 ?_
  refine gx_iald C okg_19 rfl hw.1 _ rfl dX6_areApart_9 ?_
  replace hw := hw.2
  refine gx_iload_n C dX6_areApart_10 2 rfl ?_
  refine gx_ishr C dX6_areApart_11 ?_
  refine gx_iconst (v := (1 : Int32)) C dX6_areApart_12 (by decide) ?_
  refine gx_iand C dX6_areApart_13 ?_
  refine gx_iconst (v := (1 : Int32)) C dX6_areApart_14 (by decide) ?_
  refine gx_icmp_ne (tgt := 22) C dX6_areApart_15 (by decide) (fun c1 => ?_) (fun c1 => ?_)
  · replace hw := hw.1 c1
    refine gx_iconst (v := (0 : Int32)) C dX6_areApart_22 (by decide) ?_
    exact gx_iret C rfl rfl dX6_areApart_23 hw
  · replace hw := hw.2 c1
    refine gx_iconst (v := (1 : Int32)) C dX6_areApart_18 (by decide) ?_
    refine gx_goto (tgt := 23) C dX6_areApart_19 (by decide) ?_
    exact gx_iret C rfl rfl dX6_areApart_23 hw
theorem hy_X6_areApart : yX6_areApart.cls = "SweetWrapsModel" ∧ yX6_areApart.cls ≠ "java/lang/invoke/MethodHandle" ∧ yX6_areApart.cls ≠ "java/lang/invoke/VarHandle" ∧ (parseMethodDescriptor yX6_areApart.desc).map (fun d => d.parameters.length) = some 2 := by decide +kernel

theorem dX6_turn_0 : decode cX6_turn 0 = .ok (.aload_n 0, 1) := by decide +kernel
theorem dX6_turn_1 : decode cX6_turn 1 = .ok (.getfield 7, 3) := by decide +kernel
theorem dX6_turn_4 : decode cX6_turn 4 = .ok (.sipush 185, 3) := by decide +kernel
theorem dX6_turn_7 : decode cX6_turn 7 = .ok (.iload_n 1, 1) := by decide +kernel
theorem dX6_turn_8 : decode cX6_turn 8 = .ok (.iadd, 1) := by decide +kernel
theorem dX6_turn_9 : decode cX6_turn 9 = .ok (.dup2, 1) := by decide +kernel
theorem dX6_turn_10 : decode cX6_turn 10 = .ok (.iaload, 1) := by decide +kernel
theorem dX6_turn_11 : decode cX6_turn 11 = .ok (.iconst 1, 1) := by decide +kernel
theorem dX6_turn_12 : decode cX6_turn 12 = .ok (.iload_n 2, 1) := by decide +kernel
theorem dX6_turn_13 : decode cX6_turn 13 = .ok (.ishl, 1) := by decide +kernel
theorem dX6_turn_14 : decode cX6_turn 14 = .ok (.ixor, 1) := by decide +kernel
theorem dX6_turn_15 : decode cX6_turn 15 = .ok (.iastore, 1) := by decide +kernel
theorem dX6_turn_16 : decode cX6_turn 16 = .ok (.aload_n 0, 1) := by decide +kernel
theorem dX6_turn_17 : decode cX6_turn 17 = .ok (.getfield 7, 3) := by decide +kernel
theorem dX6_turn_20 : decode cX6_turn 20 = .ok (.sipush 185, 3) := by decide +kernel
theorem dX6_turn_23 : decode cX6_turn 23 = .ok (.iload_n 2, 1) := by decide +kernel
theorem dX6_turn_24 : decode cX6_turn 24 = .ok (.iadd, 1) := by decide +kernel
theorem dX6_turn_25 : decode cX6_turn 25 = .ok (.dup2, 1) := by decide +kernel
theorem dX6_turn_26 : decode cX6_turn 26 = .ok (.iaload, 1) := by decide +kernel
theorem dX6_turn_27 : decode cX6_turn 27 = .ok (.iconst 1, 1) := by decide +kernel
theorem dX6_turn_28 : decode cX6_turn 28 = .ok (.iload_n 1, 1) := by decide +kernel
theorem dX6_turn_29 : decode cX6_turn 29 = .ok (.ishl, 1) := by decide +kernel
theorem dX6_turn_30 : decode cX6_turn 30 = .ok (.ixor, 1) := by decide +kernel
theorem dX6_turn_31 : decode cX6_turn 31 = .ok (.iastore, 1) := by decide +kernel
theorem dX6_turn_32 : decode cX6_turn 32 = .ok (.return_, 1) := by decide +kernel
def wp_X6_turn (x1 : Int32) (x2 : Int32) (σ : Sg) (Q : Sg → Prop) : Prop := ∀ z1 : Int32, z1 = ((185 : Int32) + x1) → (vp_in z1 194 ∧ (vp_in z1 194 ∧ ∀ σ2 : Sg, σ2 = up σ 12 19 0 z1.toNatClampNeg ((σ 12 19 0 z1.toNatClampNeg) ^^^ ((1 : Int32) <<< (x2 &&& 31))) → ∀ z3 : Int32, z3 = ((185 : Int32) + x2) → (vp_in z3 194 ∧ (vp_in z3 194 ∧ ∀ σ4 : Sg, σ4 = up σ2 12 19 0 z3.toNatClampNeg ((σ2 12 19 0 z3.toNatClampNeg) ^^^ ((1 : Int32) <<< (x1 &&& 31))) → Q σ4))))
set_option maxRecDepth 100000 in
set_option maxHeartbeats 4000000 in
theorem c_X6_turn (l : Launch) (E : Ev) {x1 : Int32} {x2 : Int32} {σ : Sg} {Q : Sg → Prop} (hw : wp_X6_turn x1 x2 σ Q) : CT l E yX6_turn cX6_turn 3 none 0 0 [.ref (ad E 12 18 0), .int x1, .int x2] σ (QV E Q) := by
  refine CT_of (by decide) (Nat.le_of_ble_eq_true rfl) (fun X h1 h2 C => ?_)
  subst h1; subst h2
  have C : Cx X cX6_turn "SweetWrapsModel" none 0 0 3 (QV (tE X) Q) := C
  show G X σ [(0, .ref (ad (tE X) 12 18 0)), (1, .int x1), (2, .int x2)] [] 0
  unfold wp_X6_turn at hw
  refine gx_aload_n C dX6_turn_0 0 rfl ?_
  refine gx_get C okg_18 rfl rfl inX6 (ref := "SweetWrapsModel") 0 (by decide) bw_673 rfl rfl dX6_turn_1 ?_
  refine gx_sipush (v := (185 : Int32)) C dX6_turn_4 (by decide) ?_
  refine gx_iload_n C dX6_turn_7 1 rfl ?_
  refine gx_iadd C dX6_turn_8 ?_
  obtain ⟨z1, e_z1⟩ : ∃ z : Int32, z = ((185 : Int32) + x1) := ⟨_, rfl⟩
  replace hw := hw z1 e_z1
  refine gx_top e_z1 ?_
  refine gx_dup2 C dX6_turn_9 rfl rfl ?_
  refine gx_iald C okg_19 rfl hw.1 _ rfl dX6_turn_10 ?_
  replace hw := hw.2
  refine gx_iconst (v := (1 : Int32)) C dX6_turn_11 (by decide) ?_
  refine gx_iload_n C dX6_turn_12 2 rfl ?_
  refine gx_ishl C dX6_turn_13 ?_
  refine gx_ixor C dX6_turn_14 ?_
  refine gx_iast C okg_19 (fun _ => rfl) hw.1 _ rfl rfl dX6_turn_15 ?_
  replace hw := hw.2
  obtain ⟨σ2, e_σ2⟩ : ∃ z : Sg, z = up σ 12 19 0 z1.toNatClampNeg ((σ 12 19 0 z1.toNatClampNeg) ^^^ ((1 : Int32) <<< (x2 &&& 31))) := ⟨_, rfl⟩
  replace hw := hw σ2 e_σ2
  refine gx_st e_σ2 ?_
  refine gx_aload_n C dX6_turn_16 0 rfl ?_
  refine gx_get C okg_18 rfl rfl inX6 (ref := "SweetWrapsModel") 0 (by decide) bw_673 rfl rfl dX6_turn_17 ?_
  refine gx_sipush (v := (185 : Int32)) C dX6_turn_20 (by decide) ?_
  refine gx_iload_n C dX6_turn_23 2 rfl ?_
  refine gx_iadd C dX6_turn_24 ?_
  obtain ⟨z3, e_z3⟩ : ∃ z : Int32, z = ((185 : Int32) + x2) := ⟨_, rfl⟩
  replace hw := hw z3 e_z3
  refine gx_top e_z3 ?_
  refine gx_dup2 C dX6_turn_25 rfl rfl ?_
  refine gx_iald C okg_19 rfl hw.1 _ rfl dX6_turn_26 ?_
  replace hw := hw.2
  refine gx_iconst (v := (1 : Int32)) C dX6_turn_27 (by decide) ?_
  refine gx_iload_n C dX6_turn_28 1 rfl ?_
  refine gx_ishl C dX6_turn_29 ?_
  refine gx_ixor C dX6_turn_30 ?_
  refine gx_iast C okg_19 (fun _ => rfl) hw.1 _ rfl rfl dX6_turn_31 ?_
  replace hw := hw.2
  obtain ⟨σ4, e_σ4⟩ : ∃ z : Sg, z = up σ2 12 19 0 z3.toNatClampNeg ((σ2 12 19 0 z3.toNatClampNeg) ^^^ ((1 : Int32) <<< (x1 &&& 31))) := ⟨_, rfl⟩
  replace hw := hw σ4 e_σ4
  refine gx_st e_σ4 ?_
  exact gx_vret C dX6_turn_32 hw
theorem hy_X6_turn : yX6_turn.cls = "SweetWrapsModel" ∧ yX6_turn.cls ≠ "java/lang/invoke/MethodHandle" ∧ yX6_turn.cls ≠ "java/lang/invoke/VarHandle" ∧ (parseMethodDescriptor yX6_turn.desc).map (fun d => d.parameters.length) = some 2 := by decide +kernel

theorem dX6_keepsApart_0 : decode cX6_keepsApart 0 = .ok (.iload_n 1, 1) := by decide +kernel
theorem dX6_keepsApart_1 : decode cX6_keepsApart 1 = .ok (.invokestatic 88, 3) := by decide +kernel
theorem dX6_keepsApart_4 : decode cX6_keepsApart 4 = .ok (.ifCond .eq 10, 3) := by decide +kernel
theorem dX6_keepsApart_7 : decode cX6_keepsApart 7 = .ok (.iload_n 2, 1) := by decide +kernel
theorem dX6_keepsApart_8 : decode cX6_keepsApart 8 = .ok (.invokestatic 88, 3) := by decide +kernel
theorem dX6_keepsApart_11 : decode cX6_keepsApart 11 = .ok (.ifCond .ne 5, 3) := by decide +kernel
theorem dX6_keepsApart_14 : decode cX6_keepsApart 14 = .ok (.iconst (-1), 1) := by decide +kernel
theorem dX6_keepsApart_15 : decode cX6_keepsApart 15 = .ok (.ireturn, 1) := by decide +kernel
theorem dX6_keepsApart_16 : decode cX6_keepsApart 16 = .ok (.iload_n 1, 1) := by decide +kernel
theorem dX6_keepsApart_17 : decode cX6_keepsApart 17 = .ok (.iload_n 2, 1) := by decide +kernel
theorem dX6_keepsApart_18 : decode cX6_keepsApart 18 = .ok (.if_icmp .ne 6, 3) := by decide +kernel
theorem dX6_keepsApart_21 : decode cX6_keepsApart 21 = .ok (.bipush (-2), 2) := by decide +kernel
theorem dX6_keepsApart_23 : decode cX6_keepsApart 23 = .ok (.ireturn, 1) := by decide +kernel
theorem dX6_keepsApart_24 : decode cX6_keepsApart 24 = .ok (.iconst 0, 1) := by decide +kernel
theorem dX6_keepsApart_25 : decode cX6_keepsApart 25 = .ok (.istore_n 3, 1) := by decide +kernel
theorem dX6_keepsApart_26 : decode cX6_keepsApart 26 = .ok (.iload_n 3, 1) := by decide +kernel
theorem dX6_keepsApart_27 : decode cX6_keepsApart 27 = .ok (.aload_n 0, 1) := by decide +kernel
theorem dX6_keepsApart_28 : decode cX6_keepsApart 28 = .ok (.getfield 7, 3) := by decide +kernel
theorem dX6_keepsApart_31 : decode cX6_keepsApart 31 = .ok (.bipush 72, 2) := by decide +kernel
theorem dX6_keepsApart_33 : decode cX6_keepsApart 33 = .ok (.iaload, 1) := by decide +kernel
theorem dX6_keepsApart_34 : decode cX6_keepsApart 34 = .ok (.if_icmp .ge 47, 3) := by decide +kernel
theorem dX6_keepsApart_37 : decode cX6_keepsApart 37 = .ok (.aload_n 0, 1) := by decide +kernel
theorem dX6_keepsApart_38 : decode cX6_keepsApart 38 = .ok (.iload_n 1, 1) := by decide +kernel
theorem dX6_keepsApart_39 : decode cX6_keepsApart 39 = .ok (.iload_n 2, 1) := by decide +kernel
theorem dX6_keepsApart_40 : decode cX6_keepsApart 40 = .ok (.invokevirtual 94, 3) := by decide +kernel
theorem dX6_keepsApart_43 : decode cX6_keepsApart 43 = .ok (.ifCond .ne 32, 3) := by decide +kernel
theorem dX6_keepsApart_46 : decode cX6_keepsApart 46 = .ok (.aload_n 0, 1) := by decide +kernel
theorem dX6_keepsApart_47 : decode cX6_keepsApart 47 = .ok (.iload_n 3, 1) := by decide +kernel
theorem dX6_keepsApart_48 : decode cX6_keepsApart 48 = .ok (.invokevirtual 50, 3) := by decide +kernel
theorem dX6_keepsApart_51 : decode cX6_keepsApart 51 = .ok (.ifCond .ne 24, 3) := by decide +kernel
theorem dX6_keepsApart_54 : decode cX6_keepsApart 54 = .ok (.aload_n 0, 1) := by decide +kernel
theorem dX6_keepsApart_55 : decode cX6_keepsApart 55 = .ok (.iload_n 3, 1) := by decide +kernel
theorem dX6_keepsApart_56 : decode cX6_keepsApart 56 = .ok (.iload_n 1, 1) := by decide +kernel
theorem dX6_keepsApart_57 : decode cX6_keepsApart 57 = .ok (.invokevirtual 47, 3) := by decide +kernel
theorem dX6_keepsApart_60 : decode cX6_keepsApart 60 = .ok (.ifCond .le 15, 3) := by decide +kernel
theorem dX6_keepsApart_63 : decode cX6_keepsApart 63 = .ok (.aload_n 0, 1) := by decide +kernel
theorem dX6_keepsApart_64 : decode cX6_keepsApart 64 = .ok (.iload_n 3, 1) := by decide +kernel
theorem dX6_keepsApart_65 : decode cX6_keepsApart 65 = .ok (.iload_n 2, 1) := by decide +kernel
theorem dX6_keepsApart_66 : decode cX6_keepsApart 66 = .ok (.invokevirtual 47, 3) := by decide +kernel
theorem dX6_keepsApart_69 : decode cX6_keepsApart 69 = .ok (.ifCond .le 6, 3) := by decide +kernel
theorem dX6_keepsApart_72 : decode cX6_keepsApart 72 = .ok (.bipush (-5), 2) := by decide +kernel
theorem dX6_keepsApart_74 : decode cX6_keepsApart 74 = .ok (.ireturn, 1) := by decide +kernel
theorem dX6_keepsApart_75 : decode cX6_keepsApart 75 = .ok (.iinc 3 1, 3) := by decide +kernel
theorem dX6_keepsApart_78 : decode cX6_keepsApart 78 = .ok (.goto (-52), 3) := by decide +kernel
theorem dX6_keepsApart_81 : decode cX6_keepsApart 81 = .ok (.aload_n 0, 1) := by decide +kernel
theorem dX6_keepsApart_82 : decode cX6_keepsApart 82 = .ok (.iload_n 1, 1) := by decide +kernel
theorem dX6_keepsApart_83 : decode cX6_keepsApart 83 = .ok (.iload_n 2, 1) := by decide +kernel
theorem dX6_keepsApart_84 : decode cX6_keepsApart 84 = .ok (.invokevirtual 97, 3) := by decide +kernel
theorem dX6_keepsApart_87 : decode cX6_keepsApart 87 = .ok (.aload_n 0, 1) := by decide +kernel
theorem dX6_keepsApart_88 : decode cX6_keepsApart 88 = .ok (.iload_n 1, 1) := by decide +kernel
theorem dX6_keepsApart_89 : decode cX6_keepsApart 89 = .ok (.iload_n 2, 1) := by decide +kernel
theorem dX6_keepsApart_90 : decode cX6_keepsApart 90 = .ok (.invokevirtual 94, 3) := by decide +kernel
theorem dX6_keepsApart_93 : decode cX6_keepsApart 93 = .ok (.ifCond .eq 7, 3) := by decide +kernel
theorem dX6_keepsApart_96 : decode cX6_keepsApart 96 = .ok (.iconst 1, 1) := by decide +kernel
theorem dX6_keepsApart_97 : decode cX6_keepsApart 97 = .ok (.goto 4, 3) := by decide +kernel
theorem dX6_keepsApart_100 : decode cX6_keepsApart 100 = .ok (.iconst 0, 1) := by decide +kernel
theorem dX6_keepsApart_101 : decode cX6_keepsApart 101 = .ok (.ireturn, 1) := by decide +kernel
def wp_X6_keepsApart_b75 (x1 : Int32) (x2 : Int32) (K26 : Int32 → Sg → Prop) (Q : Int32 → Sg → Prop) (v3 : Int32) (σ : Sg) : Prop := ∀ z25 : Int32, z25 = v3 + (1 : Int32) → K26 z25 σ
set_option maxRecDepth 100000 in
set_option maxHeartbeats 4000000 in
theorem g_X6_keepsApart_b75 {X : Tx} {Q : Int32 → Sg → Prop} (C : Cx X cX6_keepsApart "SweetWrapsModel" (some .int) 2 42 4 (QI (tE X) Q)) {x1 : Int32} {x2 : Int32} {K26 : Int32 → Sg → Prop} (hK26 : ∀ (v3 : Int32) (σ : Sg), K26 v3 σ → G X σ [(0, .ref (ad (tE X) 12 18 0)), (1, .int x1), (2, .int x2), (3, .int v3)] [] 26) {v3 : Int32} {σ : Sg} (hw : wp_X6_keepsApart_b75 x1 x2 K26 Q v3 σ) : G X σ [(0, .ref (ad (tE X) 12 18 0)), (1, .int x1), (2, .int x2), (3, .int v3)] [] 75 := by
  unfold wp_X6_keepsApart_b75 at hw
  obtain ⟨z25, e_z25⟩ : ∃ z : Int32, z = v3 + (1 : Int32) := ⟨_, rfl⟩
  replace hw := hw z25 e_z25
  refine gx_iinc (v := z25) (lv' := [(3, .int z25), (0, .ref (ad (tE X) 12 18 0)), (1, .int x1), (2, .int x2)]) C dX6_keepsApart_75 3 rfl (by rw [e_z25]; rfl) (by decide) rfl ?_
  refine gx_goto (tgt := 26) C dX6_keepsApart_78 (by decide) ?_
  refine gx_sub (lv' := [(0, .ref (ad (tE X) 12 18 0)), (1, .int x1), (2, .int x2), (3, .int z25)]) [1, 2, 3, 0] rfl ?_
  exact hK26 _ _ hw
def st_X6_keepsApart_L26 (x1 : Int32) (x2 : Int32) (Q : Int32 → Sg → Prop) (K26 : Int32 → Sg → Prop) (v3 : Int32) (σ : Sg) : Prop := (((σ 12 19 0 72) ≤ v3 → wp_X6_turn x1 x2 σ (fun σ9 => wp_X6_areApart x1 x2 σ9 (fun r10 σ11 => ((r10 = 0 → Q (0 : Int32) σ11) ∧ (¬ r10 = 0 → Q (1 : Int32) σ11))))) ∧ (¬ (σ 12 19 0 72) ≤ v3 → wp_X6_areApart x1 x2 σ (fun r13 σ14 => ((¬ r13 = 0 → wp_X6_keepsApart_b75 x1 x2 K26 Q v3 σ14) ∧ (r13 = 0 → wp_X6_isShipped v3 σ14 (fun r16 σ17 => ((¬ r16 = 0 → wp_X6_keepsApart_b75 x1 x2 K26 Q v3 σ17) ∧ (r16 = 0 → wp_X6_inside v3 x1 σ17 (fun r19 σ20 => ((r19 ≤ 0 → wp_X6_keepsApart_b75 x1 x2 K26 Q v3 σ20) ∧ (¬ r19 ≤ 0 → wp_X6_inside v3 x2 σ20 (fun r22 σ23 => ((r22 ≤ 0 → wp_X6_keepsApart_b75 x1 x2 K26 Q v3 σ23) ∧ (¬ r22 ≤ 0 → Q (-5 : Int32) σ23))))))))))))))
def wp_X6_keepsApart_L26 (x1 : Int32) (x2 : Int32) (Q : Int32 → Sg → Prop) (v3 : Int32) (σ : Sg) : Prop := ∃ n : Nat, lpN (fun (K : Int32 × Sg → Prop) (a : Int32 × Sg) => st_X6_keepsApart_L26 x1 x2 Q (fun v3 σ => K (v3, σ)) (a.1) (a.2)) n (v3, σ)
set_option maxRecDepth 100000 in
set_option maxHeartbeats 4000000 in
theorem gs_X6_keepsApart_L26 {X : Tx} {Q : Int32 → Sg → Prop} (C : Cx X cX6_keepsApart "SweetWrapsModel" (some .int) 2 42 4 (QI (tE X) Q)) {x1 : Int32} {x2 : Int32} {K26 : Int32 → Sg → Prop} (hK26 : ∀ (v3 : Int32) (σ : Sg), K26 v3 σ → G X σ [(0, .ref (ad (tE X) 12 18 0)), (1, .int x1), (2, .int x2), (3, .int v3)] [] 26) {v3 : Int32} {σ : Sg} (hw : st_X6_keepsApart_L26 x1 x2 Q K26 v3 σ) : G X σ [(0, .ref (ad (tE X) 12 18 0)), (1, .int x1), (2, .int x2), (3, .int v3)] [] 26 := by
  unfold st_X6_keepsApart_L26 at hw
  refine gx_iload_n C dX6_keepsApart_26 3 rfl ?_
  refine gx_aload_n C dX6_keepsApart_27 0 rfl ?_
  refine gx_get C okg_18 rfl rfl inX6 (ref := "SweetWrapsModel") 0 (by decide) bw_673 rfl rfl dX6_keepsApart_28 ?_
  refine gx_bipush (v := (72 : Int32)) C dX6_keepsApart_31 (by decide) ?_
  refine gx_iald C okg_19 rfl (n := 194) (x := (72 : Int32)) (by unfold vp_in; decide) 72 (by decide) dX6_keepsApart_33 ?_
  refine gx_icmp_ge (tgt := 81) C dX6_keepsApart_34 (by decide) (fun c8 => ?_) (fun c8 => ?_)
  · replace hw := hw.1 c8
    refine gx_aload_n C dX6_keepsApart_81 0 rfl ?_
    refine gx_iload_n C dX6_keepsApart_82 1 rfl ?_
    refine gx_iload_n C dX6_keepsApart_83 2 rfl ?_
    refine gx_vcallv (As := [.int x1, .int x2]) (rest := []) C (c_X6_turn _ _ hw) okg_18 rfl rfl bw_804 bw_806 bs_43 bw_7 bw_807 hy_X6_turn ⟨by decide, by decide⟩ rfl (Nat.le_of_ble_eq_true rfl) dX6_keepsApart_84 (fun σ9 hw => ?_)
    refine gx_aload_n C dX6_keepsApart_87 0 rfl ?_
    refine gx_iload_n C dX6_keepsApart_88 1 rfl ?_
    refine gx_iload_n C dX6_keepsApart_89 2 rfl ?_
    refine gx_vcalli (As := [.int x1, .int x2]) (rest := []) C (c_X6_areApart _ _ hw) okg_18 rfl rfl bw_800 bw_802 bs_42 bw_7 bw_803 hy_X6_areApart ⟨by decide, by decide⟩ rfl (Nat.le_of_ble_eq_true rfl) dX6_keepsApart_90 (fun r10 σ11 hw => ?_)
    refine gx_if_eq (tgt := 100) C dX6_keepsApart_93 (by decide) (fun c12 => ?_) (fun c12 => ?_)
    · replace hw := hw.1 c12
      refine gx_iconst (v := (0 : Int32)) C dX6_keepsApart_100 (by decide) ?_
      exact gx_iret C rfl rfl dX6_keepsApart_101 hw
    · replace hw := hw.2 c12
      refine gx_iconst (v := (1 : Int32)) C dX6_keepsApart_96 (by decide) ?_
      refine gx_goto (tgt := 101) C dX6_keepsApart_97 (by decide) ?_
      exact gx_iret C rfl rfl dX6_keepsApart_101 hw
  · replace hw := hw.2 c8
    refine gx_aload_n C dX6_keepsApart_37 0 rfl ?_
    refine gx_iload_n C dX6_keepsApart_38 1 rfl ?_
    refine gx_iload_n C dX6_keepsApart_39 2 rfl ?_
    refine gx_vcalli (As := [.int x1, .int x2]) (rest := []) C (c_X6_areApart _ _ hw) okg_18 rfl rfl bw_800 bw_802 bs_42 bw_7 bw_803 hy_X6_areApart ⟨by decide, by decide⟩ rfl (Nat.le_of_ble_eq_true rfl) dX6_keepsApart_40 (fun r13 σ14 hw => ?_)
    refine gx_if_ne (tgt := 75) C dX6_keepsApart_43 (by decide) (fun c15 => ?_) (fun c15 => ?_)
    · replace hw := hw.1 c15
      exact g_X6_keepsApart_b75 C hK26 hw
    · replace hw := hw.2 c15
      refine gx_aload_n C dX6_keepsApart_46 0 rfl ?_
      refine gx_iload_n C dX6_keepsApart_47 3 rfl ?_
      refine gx_vcalli (As := [.int v3]) (rest := []) C (c_X6_isShipped _ _ hw) okg_18 rfl rfl bw_780 bw_782 bs_38 bw_7 bw_783 hy_X6_isShipped ⟨by decide, by decide⟩ rfl (Nat.le_of_ble_eq_true rfl) dX6_keepsApart_48 (fun r16 σ17 hw => ?_)
      refine gx_if_ne (tgt := 75) C dX6_keepsApart_51 (by decide) (fun c18 => ?_) (fun c18 => ?_)
      · replace hw := hw.1 c18
        exact g_X6_keepsApart_b75 C hK26 hw
      · replace hw := hw.2 c18
        refine gx_aload_n C dX6_keepsApart_54 0 rfl ?_
        refine gx_iload_n C dX6_keepsApart_55 3 rfl ?_
        refine gx_iload_n C dX6_keepsApart_56 1 rfl ?_
        refine gx_vcalli (As := [.int v3, .int x1]) (rest := []) C (c_X6_inside _ _ hw) okg_18 rfl rfl bw_788 bw_790 bs_40 bw_7 bw_791 hy_X6_inside ⟨by decide, by decide⟩ rfl (Nat.le_of_ble_eq_true rfl) dX6_keepsApart_57 (fun r19 σ20 hw => ?_)
        refine gx_if_le (tgt := 75) C dX6_keepsApart_60 (by decide) (fun c21 => ?_) (fun c21 => ?_)
        · replace hw := hw.1 c21
          exact g_X6_keepsApart_b75 C hK26 hw
        · replace hw := hw.2 c21
          refine gx_aload_n C dX6_keepsApart_63 0 rfl ?_
          refine gx_iload_n C dX6_keepsApart_64 3 rfl ?_
          refine gx_iload_n C dX6_keepsApart_65 2 rfl ?_
          refine gx_vcalli (As := [.int v3, .int x2]) (rest := []) C (c_X6_inside _ _ hw) okg_18 rfl rfl bw_788 bw_790 bs_40 bw_7 bw_791 hy_X6_inside ⟨by decide, by decide⟩ rfl (Nat.le_of_ble_eq_true rfl) dX6_keepsApart_66 (fun r22 σ23 hw => ?_)
          refine gx_if_le (tgt := 75) C dX6_keepsApart_69 (by decide) (fun c24 => ?_) (fun c24 => ?_)
          · replace hw := hw.1 c24
            exact g_X6_keepsApart_b75 C hK26 hw
          · replace hw := hw.2 c24
            refine gx_bipush (v := (-5 : Int32)) C dX6_keepsApart_72 (by decide) ?_
            exact gx_iret C rfl rfl dX6_keepsApart_74 hw
set_option maxRecDepth 100000 in
set_option maxHeartbeats 4000000 in
theorem g_X6_keepsApart_L26 {X : Tx} {Q : Int32 → Sg → Prop} (C : Cx X cX6_keepsApart "SweetWrapsModel" (some .int) 2 42 4 (QI (tE X) Q)) {x1 : Int32} {x2 : Int32} {v3 : Int32} {σ : Sg} (hw : wp_X6_keepsApart_L26 x1 x2 Q v3 σ) : G X σ [(0, .ref (ad (tE X) 12 18 0)), (1, .int x1), (2, .int x2), (3, .int v3)] [] 26 := by
  obtain ⟨n, hw⟩ := hw
  exact lpN_G (P := (fun (a : Int32 × Sg) => G X (a.2) [(0, .ref (ad (tE X) 12 18 0)), (1, .int x1), (2, .int x2), (3, .int (a.1))] [] 26)) (fun K a hK h => gs_X6_keepsApart_L26 C (fun v3 σ h => hK (v3, σ) h) h) n _ hw
def wp_X6_keepsApart (x1 : Int32) (x2 : Int32) (σ : Sg) (Q : Int32 → Sg → Prop) : Prop := wp_X6_isFlavour x1 σ (fun r1 σ2 => ((r1 = 0 → Q (-1 : Int32) σ2) ∧ (¬ r1 = 0 → wp_X6_isFlavour x2 σ2 (fun r4 σ5 => ((¬ r4 = 0 → ((¬ x1 = x2 → wp_X6_keepsApart_L26 x1 x2 Q (0 : Int32) σ5) ∧ (x1 = x2 → Q (-2 : Int32) σ5))) ∧ (r4 = 0 → Q (-1 : Int32) σ5))))))
set_option maxRecDepth 100000 in
set_option maxHeartbeats 4000000 in
theorem c_X6_keepsApart (l : Launch) (E : Ev) {x1 : Int32} {x2 : Int32} {σ : Sg} {Q : Int32 → Sg → Prop} (hw : wp_X6_keepsApart x1 x2 σ Q) : CT l E yX6_keepsApart cX6_keepsApart 4 (some .int) 2 42 [.ref (ad E 12 18 0), .int x1, .int x2] σ (QI E Q) := by
  refine CT_of (by decide) (Nat.le_of_ble_eq_true rfl) (fun X h1 h2 C => ?_)
  subst h1; subst h2
  have C : Cx X cX6_keepsApart "SweetWrapsModel" (some .int) 2 42 4 (QI (tE X) Q) := C
  show G X σ [(0, .ref (ad (tE X) 12 18 0)), (1, .int x1), (2, .int x2)] [] 0
  unfold wp_X6_keepsApart at hw
  refine gx_iload_n C dX6_keepsApart_0 1 rfl ?_
  refine gx_scalli (As := [.int x1]) (rest := []) C (c_X6_isFlavour _ _ hw) bw_733 bw_734 bw_7 bw_735 hyS_X6_isFlavour ⟨by decide, by decide⟩ rfl (Nat.le_of_ble_eq_true rfl) dX6_keepsApart_1 (fun r1 σ2 hw => ?_)
  refine gx_if_eq (tgt := 14) C dX6_keepsApart_4 (by decide) (fun c3 => ?_) (fun c3 => ?_)
  · replace hw := hw.1 c3
    refine gx_iconst (v := (-1 : Int32)) C dX6_keepsApart_14 (by decide) ?_
    exact gx_iret C rfl rfl dX6_keepsApart_15 hw
  · replace hw := hw.2 c3
    refine gx_iload_n C dX6_keepsApart_7 2 rfl ?_
    refine gx_scalli (As := [.int x2]) (rest := []) C (c_X6_isFlavour _ _ hw) bw_733 bw_734 bw_7 bw_735 hyS_X6_isFlavour ⟨by decide, by decide⟩ rfl (Nat.le_of_ble_eq_true rfl) dX6_keepsApart_8 (fun r4 σ5 hw => ?_)
    refine gx_if_ne (tgt := 16) C dX6_keepsApart_11 (by decide) (fun c6 => ?_) (fun c6 => ?_)
    · replace hw := hw.1 c6
      refine gx_iload_n C dX6_keepsApart_16 1 rfl ?_
      refine gx_iload_n C dX6_keepsApart_17 2 rfl ?_
      refine gx_icmp_ne (tgt := 24) C dX6_keepsApart_18 (by decide) (fun c7 => ?_) (fun c7 => ?_)
      · replace hw := hw.1 c7
        refine gx_iconst (v := (0 : Int32)) C dX6_keepsApart_24 (by decide) ?_
        refine gx_istore_n (lv' := [(3, .int (0 : Int32)), (0, .ref (ad (tE X) 12 18 0)), (1, .int x1), (2, .int x2)]) C dX6_keepsApart_25 (by decide) rfl ?_
        refine gx_sub (lv' := [(0, .ref (ad (tE X) 12 18 0)), (1, .int x1), (2, .int x2), (3, .int (0 : Int32))]) [1, 2, 3, 0] rfl ?_
        exact g_X6_keepsApart_L26 C hw
      · replace hw := hw.2 c7
        refine gx_bipush (v := (-2 : Int32)) C dX6_keepsApart_21 (by decide) ?_
        exact gx_iret C rfl rfl dX6_keepsApart_23 hw
    · replace hw := hw.2 c6
      refine gx_iconst (v := (-1 : Int32)) C dX6_keepsApart_14 (by decide) ?_
      exact gx_iret C rfl rfl dX6_keepsApart_15 hw
theorem hy_X6_keepsApart : yX6_keepsApart.cls = "SweetWrapsModel" ∧ yX6_keepsApart.cls ≠ "java/lang/invoke/MethodHandle" ∧ yX6_keepsApart.cls ≠ "java/lang/invoke/VarHandle" ∧ (parseMethodDescriptor yX6_keepsApart.desc).map (fun d => d.parameters.length) = some 2 := by decide +kernel

theorem dX6_goes_0 : decode cX6_goes 0 = .ok (.iload_n 1, 1) := by decide +kernel
theorem dX6_goes_1 : decode cX6_goes 1 = .ok (.iconst 1, 1) := by decide +kernel
theorem dX6_goes_2 : decode cX6_goes 2 = .ok (.bipush 99, 2) := by decide +kernel
theorem dX6_goes_4 : decode cX6_goes 4 = .ok (.invokestatic 36, 3) := by decide +kernel
theorem dX6_goes_7 : decode cX6_goes 7 = .ok (.ifCond .ne 6, 3) := by decide +kernel
theorem dX6_goes_10 : decode cX6_goes 10 = .ok (.bipush (-2), 2) := by decide +kernel
theorem dX6_goes_12 : decode cX6_goes 12 = .ok (.ireturn, 1) := by decide +kernel
theorem dX6_goes_13 : decode cX6_goes 13 = .ok (.aload_n 0, 1) := by decide +kernel
theorem dX6_goes_14 : decode cX6_goes 14 = .ok (.getfield 7, 3) := by decide +kernel
theorem dX6_goes_17 : decode cX6_goes 17 = .ok (.sipush 191, 3) := by decide +kernel
theorem dX6_goes_20 : decode cX6_goes 20 = .ok (.iaload, 1) := by decide +kernel
theorem dX6_goes_21 : decode cX6_goes 21 = .ok (.iload_n 1, 1) := by decide +kernel
theorem dX6_goes_22 : decode cX6_goes 22 = .ok (.iadd, 1) := by decide +kernel
theorem dX6_goes_23 : decode cX6_goes 23 = .ok (.sipush 9999, 3) := by decide +kernel
theorem dX6_goes_26 : decode cX6_goes 26 = .ok (.if_icmp .le 8, 3) := by decide +kernel
theorem dX6_goes_29 : decode cX6_goes 29 = .ok (.bipush (-5), 2) := by decide +kernel
theorem dX6_goes_31 : decode cX6_goes 31 = .ok (.goto 8, 3) := by decide +kernel
theorem dX6_goes_34 : decode cX6_goes 34 = .ok (.aload_n 0, 1) := by decide +kernel
theorem dX6_goes_35 : decode cX6_goes 35 = .ok (.iload_n 1, 1) := by decide +kernel
theorem dX6_goes_36 : decode cX6_goes 36 = .ok (.invokevirtual 101, 3) := by decide +kernel
theorem dX6_goes_39 : decode cX6_goes 39 = .ok (.ireturn, 1) := by decide +kernel
def wp_X6_goes (x1 : Int32) (σ : Sg) (Q : Int32 → Sg → Prop) : Prop := wp_X6_in x1 (1 : Int32) (99 : Int32) σ (fun r1 σ2 => ((¬ r1 = 0 → ((((σ2 12 19 0 191) + x1) ≤ (9999 : Int32) → wp_X6_runs x1 σ2 (fun r5 σ6 => Q r5 σ6)) ∧ (¬ ((σ2 12 19 0 191) + x1) ≤ (9999 : Int32) → Q (-5 : Int32) σ2))) ∧ (r1 = 0 → Q (-2 : Int32) σ2)))
set_option maxRecDepth 100000 in
set_option maxHeartbeats 4000000 in
theorem c_X6_goes (l : Launch) (E : Ev) {x1 : Int32} {σ : Sg} {Q : Int32 → Sg → Prop} (hw : wp_X6_goes x1 σ Q) : CT l E yX6_goes cX6_goes 2 (some .int) 7 161 [.ref (ad E 12 18 0), .int x1] σ (QI E Q) := by
  refine CT_of (by decide) (Nat.le_of_ble_eq_true rfl) (fun X h1 h2 C => ?_)
  subst h1; subst h2
  have C : Cx X cX6_goes "SweetWrapsModel" (some .int) 7 161 2 (QI (tE X) Q) := C
  show G X σ [(0, .ref (ad (tE X) 12 18 0)), (1, .int x1)] [] 0
  unfold wp_X6_goes at hw
  refine gx_iload_n C dX6_goes_0 1 rfl ?_
  refine gx_iconst (v := (1 : Int32)) C dX6_goes_1 (by decide) ?_
  refine gx_bipush (v := (99 : Int32)) C dX6_goes_2 (by decide) ?_
  refine gx_scalli (As := [.int x1, .int (1 : Int32), .int (99 : Int32)]) (rest := []) C (c_X6_in _ _ hw) bw_711 bw_712 bw_7 bw_713 hyS_X6_in ⟨by decide, by decide⟩ rfl (Nat.le_of_ble_eq_true rfl) dX6_goes_4 (fun r1 σ2 hw => ?_)
  refine gx_if_ne (tgt := 13) C dX6_goes_7 (by decide) (fun c3 => ?_) (fun c3 => ?_)
  · replace hw := hw.1 c3
    refine gx_aload_n C dX6_goes_13 0 rfl ?_
    refine gx_get C okg_18 rfl rfl inX6 (ref := "SweetWrapsModel") 0 (by decide) bw_673 rfl rfl dX6_goes_14 ?_
    refine gx_sipush (v := (191 : Int32)) C dX6_goes_17 (by decide) ?_
    refine gx_iald C okg_19 rfl (n := 194) (x := (191 : Int32)) (by unfold vp_in; decide) 191 (by decide) dX6_goes_20 ?_
    refine gx_iload_n C dX6_goes_21 1 rfl ?_
    refine gx_iadd C dX6_goes_22 ?_
    refine gx_sipush (v := (9999 : Int32)) C dX6_goes_23 (by decide) ?_
    refine gx_icmp_le (tgt := 34) C dX6_goes_26 (by decide) (fun c4 => ?_) (fun c4 => ?_)
    · replace hw := hw.1 c4
      refine gx_aload_n C dX6_goes_34 0 rfl ?_
      refine gx_iload_n C dX6_goes_35 1 rfl ?_
      refine gx_vcalli (As := [.int x1]) (rest := []) C (c_X6_runs _ _ hw) okg_18 rfl rfl bw_816 bw_818 bs_45 bw_7 bw_819 hy_X6_runs ⟨by decide, by decide⟩ rfl (Nat.le_of_ble_eq_true rfl) dX6_goes_36 (fun r5 σ6 hw => ?_)
      exact gx_iret C rfl rfl dX6_goes_39 hw
    · replace hw := hw.2 c4
      refine gx_bipush (v := (-5 : Int32)) C dX6_goes_29 (by decide) ?_
      refine gx_goto (tgt := 39) C dX6_goes_31 (by decide) ?_
      exact gx_iret C rfl rfl dX6_goes_39 hw
  · replace hw := hw.2 c3
    refine gx_bipush (v := (-2 : Int32)) C dX6_goes_10 (by decide) ?_
    exact gx_iret C rfl rfl dX6_goes_12 hw
theorem hy_X6_goes : yX6_goes.cls = "SweetWrapsModel" ∧ yX6_goes.cls ≠ "java/lang/invoke/MethodHandle" ∧ yX6_goes.cls ≠ "java/lang/invoke/VarHandle" ∧ (parseMethodDescriptor yX6_goes.desc).map (fun d => d.parameters.length) = some 1 := by decide +kernel

theorem dX6_end_0 : decode cX6_end 0 = .ok (.iload_n 1, 1) := by decide +kernel
theorem dX6_end_1 : decode cX6_end 1 = .ok (.ifCond .lt 75, 3) := by decide +kernel
theorem dX6_end_4 : decode cX6_end 4 = .ok (.iconst 0, 1) := by decide +kernel
theorem dX6_end_5 : decode cX6_end 5 = .ok (.istore_n 2, 1) := by decide +kernel
theorem dX6_end_6 : decode cX6_end 6 = .ok (.iload_n 2, 1) := by decide +kernel
theorem dX6_end_7 : decode cX6_end 7 = .ok (.sipush 194, 3) := by decide +kernel
theorem dX6_end_10 : decode cX6_end 10 = .ok (.if_icmp .ge 35, 3) := by decide +kernel
theorem dX6_end_13 : decode cX6_end 13 = .ok (.aload_n 0, 1) := by decide +kernel
theorem dX6_end_14 : decode cX6_end 14 = .ok (.getfield 7, 3) := by decide +kernel
theorem dX6_end_17 : decode cX6_end 17 = .ok (.iload_n 2, 1) := by decide +kernel
theorem dX6_end_18 : decode cX6_end 18 = .ok (.iaload, 1) := by decide +kernel
theorem dX6_end_19 : decode cX6_end 19 = .ok (.istore_n 3, 1) := by decide +kernel
theorem dX6_end_20 : decode cX6_end 20 = .ok (.aload_n 0, 1) := by decide +kernel
theorem dX6_end_21 : decode cX6_end 21 = .ok (.getfield 7, 3) := by decide +kernel
theorem dX6_end_24 : decode cX6_end 24 = .ok (.iload_n 2, 1) := by decide +kernel
theorem dX6_end_25 : decode cX6_end 25 = .ok (.aload_n 0, 1) := by decide +kernel
theorem dX6_end_26 : decode cX6_end 26 = .ok (.getfield 13, 3) := by decide +kernel
theorem dX6_end_29 : decode cX6_end 29 = .ok (.iload_n 2, 1) := by decide +kernel
theorem dX6_end_30 : decode cX6_end 30 = .ok (.iaload, 1) := by decide +kernel
theorem dX6_end_31 : decode cX6_end 31 = .ok (.iastore, 1) := by decide +kernel
theorem dX6_end_32 : decode cX6_end 32 = .ok (.aload_n 0, 1) := by decide +kernel
theorem dX6_end_33 : decode cX6_end 33 = .ok (.getfield 13, 3) := by decide +kernel
theorem dX6_end_36 : decode cX6_end 36 = .ok (.iload_n 2, 1) := by decide +kernel
theorem dX6_end_37 : decode cX6_end 37 = .ok (.iload_n 3, 1) := by decide +kernel
theorem dX6_end_38 : decode cX6_end 38 = .ok (.iastore, 1) := by decide +kernel
theorem dX6_end_39 : decode cX6_end 39 = .ok (.iinc 2 1, 3) := by decide +kernel
theorem dX6_end_42 : decode cX6_end 42 = .ok (.goto (-36), 3) := by decide +kernel
theorem dX6_end_45 : decode cX6_end 45 = .ok (.aload_n 0, 1) := by decide +kernel
theorem dX6_end_46 : decode cX6_end 46 = .ok (.invokevirtual 104, 3) := by decide +kernel
theorem dX6_end_49 : decode cX6_end 49 = .ok (.iconst 0, 1) := by decide +kernel
theorem dX6_end_50 : decode cX6_end 50 = .ok (.istore_n 2, 1) := by decide +kernel
theorem dX6_end_51 : decode cX6_end 51 = .ok (.iload_n 2, 1) := by decide +kernel
theorem dX6_end_52 : decode cX6_end 52 = .ok (.sipush 194, 3) := by decide +kernel
theorem dX6_end_55 : decode cX6_end 55 = .ok (.if_icmp .ge 21, 3) := by decide +kernel
theorem dX6_end_58 : decode cX6_end 58 = .ok (.aload_n 0, 1) := by decide +kernel
theorem dX6_end_59 : decode cX6_end 59 = .ok (.getfield 7, 3) := by decide +kernel
theorem dX6_end_62 : decode cX6_end 62 = .ok (.iload_n 2, 1) := by decide +kernel
theorem dX6_end_63 : decode cX6_end 63 = .ok (.aload_n 0, 1) := by decide +kernel
theorem dX6_end_64 : decode cX6_end 64 = .ok (.getfield 13, 3) := by decide +kernel
theorem dX6_end_67 : decode cX6_end 67 = .ok (.iload_n 2, 1) := by decide +kernel
theorem dX6_end_68 : decode cX6_end 68 = .ok (.iaload, 1) := by decide +kernel
theorem dX6_end_69 : decode cX6_end 69 = .ok (.iastore, 1) := by decide +kernel
theorem dX6_end_70 : decode cX6_end 70 = .ok (.iinc 2 1, 3) := by decide +kernel
theorem dX6_end_73 : decode cX6_end 73 = .ok (.goto (-22), 3) := by decide +kernel
theorem dX6_end_76 : decode cX6_end 76 = .ok (.iload_n 1, 1) := by decide +kernel
theorem dX6_end_77 : decode cX6_end 77 = .ok (.ireturn, 1) := by decide +kernel
def st_X6_end_L51 (x1 : Int32) (Q : Int32 → Sg → Prop) (K51 : Int32 → Sg → Prop) (v2 : Int32) (σ : Sg) : Prop := (((194 : Int32) ≤ v2 → Q x1 σ) ∧ (¬ (194 : Int32) ≤ v2 → (vp_in v2 194 ∧ (vp_in v2 194 ∧ ∀ σ9 : Sg, σ9 = up σ 12 19 0 v2.toNatClampNeg (σ 12 20 0 v2.toNatClampNeg) → ∀ z10 : Int32, z10 = v2 + (1 : Int32) → K51 z10 σ9))))
def wp_X6_end_L51 (x1 : Int32) (Q : Int32 → Sg → Prop) (v2 : Int32) (σ : Sg) : Prop := ∃ n : Nat, lpN (fun (K : Int32 × Sg → Prop) (a : Int32 × Sg) => st_X6_end_L51 x1 Q (fun v2 σ => K (v2, σ)) (a.1) (a.2)) n (v2, σ)
set_option maxRecDepth 100000 in
set_option maxHeartbeats 4000000 in
theorem gs_X6_end_L51 {X : Tx} {Q : Int32 → Sg → Prop} (C : Cx X cX6_end "SweetWrapsModel" (some .int) 1 21 4 (QI (tE X) Q)) {x1 : Int32} {K51 : Int32 → Sg → Prop} (hK51 : ∀ (v2 : Int32) (σ : Sg), K51 v2 σ → G X σ [(0, .ref (ad (tE X) 12 18 0)), (1, .int x1), (2, .int v2)] [] 51) {v2 : Int32} {σ : Sg} (hw : st_X6_end_L51 x1 Q K51 v2 σ) : G X σ [(0, .ref (ad (tE X) 12 18 0)), (1, .int x1), (2, .int v2)] [] 51 := by
  unfold st_X6_end_L51 at hw
  refine gx_iload_n C dX6_end_51 2 rfl ?_
  refine gx_sipush (v := (194 : Int32)) C dX6_end_52 (by decide) ?_
  refine gx_icmp_ge (tgt := 76) C dX6_end_55 (by decide) (fun c8 => ?_) (fun c8 => ?_)
  · replace hw := hw.1 c8
    refine gx_iload_n C dX6_end_76 1 rfl ?_
    exact gx_iret C rfl rfl dX6_end_77 hw
  · replace hw := hw.2 c8
    refine gx_aload_n C dX6_end_58 0 rfl ?_
    refine gx_get C okg_18 rfl rfl inX6 (ref := "SweetWrapsModel") 0 (by decide) bw_673 rfl rfl dX6_end_59 ?_
    refine gx_iload_n C dX6_end_62 2 rfl ?_
    refine gx_aload_n C dX6_end_63 0 rfl ?_
    refine gx_get C okg_18 rfl rfl inX6 (ref := "SweetWrapsModel") 1 (by decide) bw_674 rfl rfl dX6_end_64 ?_
    refine gx_iload_n C dX6_end_67 2 rfl ?_
    refine gx_iald C okg_20 rfl hw.1 _ rfl dX6_end_68 ?_
    replace hw := hw.2
    refine gx_iast C okg_19 (fun _ => rfl) hw.1 _ rfl rfl dX6_end_69 ?_
    replace hw := hw.2
    obtain ⟨σ9, e_σ9⟩ : ∃ z : Sg, z = up σ 12 19 0 v2.toNatClampNeg (σ 12 20 0 v2.toNatClampNeg) := ⟨_, rfl⟩
    replace hw := hw σ9 e_σ9
    refine gx_st e_σ9 ?_
    obtain ⟨z10, e_z10⟩ : ∃ z : Int32, z = v2 + (1 : Int32) := ⟨_, rfl⟩
    replace hw := hw z10 e_z10
    refine gx_iinc (v := z10) (lv' := [(2, .int z10), (0, .ref (ad (tE X) 12 18 0)), (1, .int x1)]) C dX6_end_70 2 rfl (by rw [e_z10]; rfl) (by decide) rfl ?_
    refine gx_goto (tgt := 51) C dX6_end_73 (by decide) ?_
    refine gx_sub (lv' := [(0, .ref (ad (tE X) 12 18 0)), (1, .int x1), (2, .int z10)]) [1, 2, 0] rfl ?_
    exact hK51 _ _ hw
set_option maxRecDepth 100000 in
set_option maxHeartbeats 4000000 in
theorem g_X6_end_L51 {X : Tx} {Q : Int32 → Sg → Prop} (C : Cx X cX6_end "SweetWrapsModel" (some .int) 1 21 4 (QI (tE X) Q)) {x1 : Int32} {v2 : Int32} {σ : Sg} (hw : wp_X6_end_L51 x1 Q v2 σ) : G X σ [(0, .ref (ad (tE X) 12 18 0)), (1, .int x1), (2, .int v2)] [] 51 := by
  obtain ⟨n, hw⟩ := hw
  exact lpN_G (P := (fun (a : Int32 × Sg) => G X (a.2) [(0, .ref (ad (tE X) 12 18 0)), (1, .int x1), (2, .int (a.1))] [] 51)) (fun K a hK h => gs_X6_end_L51 C (fun v2 σ h => hK (v2, σ) h) h) n _ hw
def st_X6_end_L6 (x1 : Int32) (Q : Int32 → Sg → Prop) (K6 : Int32 → Sg → Prop) (v2 : Int32) (σ : Sg) : Prop := (((194 : Int32) ≤ v2 → wp_X6_record σ (fun σ3 => wp_X6_end_L51 x1 Q (0 : Int32) σ3)) ∧ (¬ (194 : Int32) ≤ v2 → (vp_in v2 194 ∧ ∀ z4 : Int32, z4 = (σ 12 19 0 v2.toNatClampNeg) → (vp_in v2 194 ∧ (vp_in v2 194 ∧ ∀ σ5 : Sg, σ5 = up σ 12 19 0 v2.toNatClampNeg (σ 12 20 0 v2.toNatClampNeg) → (vp_in v2 194 ∧ ∀ σ6 : Sg, σ6 = up σ5 12 20 0 v2.toNatClampNeg z4 → ∀ z7 : Int32, z7 = v2 + (1 : Int32) → K6 z7 σ6))))))
def wp_X6_end_L6 (x1 : Int32) (Q : Int32 → Sg → Prop) (v2 : Int32) (σ : Sg) : Prop := ∃ n : Nat, lpN (fun (K : Int32 × Sg → Prop) (a : Int32 × Sg) => st_X6_end_L6 x1 Q (fun v2 σ => K (v2, σ)) (a.1) (a.2)) n (v2, σ)
set_option maxRecDepth 100000 in
set_option maxHeartbeats 4000000 in
theorem gs_X6_end_L6 {X : Tx} {Q : Int32 → Sg → Prop} (C : Cx X cX6_end "SweetWrapsModel" (some .int) 1 21 4 (QI (tE X) Q)) {x1 : Int32} {K6 : Int32 → Sg → Prop} (hK6 : ∀ (v2 : Int32) (σ : Sg), K6 v2 σ → G X σ [(0, .ref (ad (tE X) 12 18 0)), (1, .int x1), (2, .int v2)] [] 6) {v2 : Int32} {σ : Sg} (hw : st_X6_end_L6 x1 Q K6 v2 σ) : G X σ [(0, .ref (ad (tE X) 12 18 0)), (1, .int x1), (2, .int v2)] [] 6 := by
  unfold st_X6_end_L6 at hw
  refine gx_iload_n C dX6_end_6 2 rfl ?_
  refine gx_sipush (v := (194 : Int32)) C dX6_end_7 (by decide) ?_
  refine gx_icmp_ge (tgt := 45) C dX6_end_10 (by decide) (fun c2 => ?_) (fun c2 => ?_)
  · replace hw := hw.1 c2
    refine gx_aload_n C dX6_end_45 0 rfl ?_
    refine gx_vcallv (As := []) (rest := []) C (c_X6_record _ _ hw) okg_18 rfl rfl bw_714 bw_716 bs_27 bw_7 bw_717 hy_X6_record ⟨by decide, by decide⟩ rfl (Nat.le_of_ble_eq_true rfl) dX6_end_46 (fun σ3 hw => ?_)
    refine gx_iconst (v := (0 : Int32)) C dX6_end_49 (by decide) ?_
    refine gx_istore_n (lv' := [(2, .int (0 : Int32)), (0, .ref (ad (tE X) 12 18 0)), (1, .int x1)]) C dX6_end_50 (by decide) rfl ?_
    refine gx_sub (lv' := [(0, .ref (ad (tE X) 12 18 0)), (1, .int x1), (2, .int (0 : Int32))]) [1, 2, 0] rfl ?_
    exact g_X6_end_L51 C hw
  · replace hw := hw.2 c2
    refine gx_aload_n C dX6_end_13 0 rfl ?_
    refine gx_get C okg_18 rfl rfl inX6 (ref := "SweetWrapsModel") 0 (by decide) bw_673 rfl rfl dX6_end_14 ?_
    refine gx_iload_n C dX6_end_17 2 rfl ?_
    refine gx_iald C okg_19 rfl hw.1 _ rfl dX6_end_18 ?_
    replace hw := hw.2
    obtain ⟨z4, e_z4⟩ : ∃ z : Int32, z = (σ 12 19 0 v2.toNatClampNeg) := ⟨_, rfl⟩
    replace hw := hw z4 e_z4
    refine gx_top e_z4 ?_
    refine gx_istore_n (lv' := [(3, .int z4), (0, .ref (ad (tE X) 12 18 0)), (1, .int x1), (2, .int v2)]) C dX6_end_19 (by decide) rfl ?_
    refine gx_aload_n C dX6_end_20 1 rfl ?_
    refine gx_get C okg_18 rfl rfl inX6 (ref := "SweetWrapsModel") 0 (by decide) bw_673 rfl rfl dX6_end_21 ?_
    refine gx_iload_n C dX6_end_24 3 rfl ?_
    refine gx_aload_n C dX6_end_25 1 rfl ?_
    refine gx_get C okg_18 rfl rfl inX6 (ref := "SweetWrapsModel") 1 (by decide) bw_674 rfl rfl dX6_end_26 ?_
    refine gx_iload_n C dX6_end_29 3 rfl ?_
    refine gx_iald C okg_20 rfl hw.1 _ rfl dX6_end_30 ?_
    replace hw := hw.2
    refine gx_iast C okg_19 (fun _ => rfl) hw.1 _ rfl rfl dX6_end_31 ?_
    replace hw := hw.2
    obtain ⟨σ5, e_σ5⟩ : ∃ z : Sg, z = up σ 12 19 0 v2.toNatClampNeg (σ 12 20 0 v2.toNatClampNeg) := ⟨_, rfl⟩
    replace hw := hw σ5 e_σ5
    refine gx_st e_σ5 ?_
    refine gx_aload_n C dX6_end_32 1 rfl ?_
    refine gx_get C okg_18 rfl rfl inX6 (ref := "SweetWrapsModel") 1 (by decide) bw_674 rfl rfl dX6_end_33 ?_
    refine gx_iload_n C dX6_end_36 3 rfl ?_
    refine gx_iload_n C dX6_end_37 0 rfl ?_
    refine gx_iast C okg_20 (fun _ => rfl) hw.1 _ rfl rfl dX6_end_38 ?_
    replace hw := hw.2
    obtain ⟨σ6, e_σ6⟩ : ∃ z : Sg, z = up σ5 12 20 0 v2.toNatClampNeg z4 := ⟨_, rfl⟩
    replace hw := hw σ6 e_σ6
    refine gx_st e_σ6 ?_
    obtain ⟨z7, e_z7⟩ : ∃ z : Int32, z = v2 + (1 : Int32) := ⟨_, rfl⟩
    replace hw := hw z7 e_z7
    refine gx_iinc (v := z7) (lv' := [(2, .int z7), (3, .int z4), (0, .ref (ad (tE X) 12 18 0)), (1, .int x1)]) C dX6_end_39 3 rfl (by rw [e_z7]; rfl) (by decide) rfl ?_
    refine gx_goto (tgt := 6) C dX6_end_42 (by decide) ?_
    refine gx_sub (lv' := [(0, .ref (ad (tE X) 12 18 0)), (1, .int x1), (2, .int z7)]) [2, 3, 0] rfl ?_
    exact hK6 _ _ hw
set_option maxRecDepth 100000 in
set_option maxHeartbeats 4000000 in
theorem g_X6_end_L6 {X : Tx} {Q : Int32 → Sg → Prop} (C : Cx X cX6_end "SweetWrapsModel" (some .int) 1 21 4 (QI (tE X) Q)) {x1 : Int32} {v2 : Int32} {σ : Sg} (hw : wp_X6_end_L6 x1 Q v2 σ) : G X σ [(0, .ref (ad (tE X) 12 18 0)), (1, .int x1), (2, .int v2)] [] 6 := by
  obtain ⟨n, hw⟩ := hw
  exact lpN_G (P := (fun (a : Int32 × Sg) => G X (a.2) [(0, .ref (ad (tE X) 12 18 0)), (1, .int x1), (2, .int (a.1))] [] 6)) (fun K a hK h => gs_X6_end_L6 C (fun v2 σ h => hK (v2, σ) h) h) n _ hw
def wp_X6_end (x1 : Int32) (σ : Sg) (Q : Int32 → Sg → Prop) : Prop := ((x1 < 0 → Q x1 σ) ∧ (¬ x1 < 0 → wp_X6_end_L6 x1 Q (0 : Int32) σ))
set_option maxRecDepth 100000 in
set_option maxHeartbeats 4000000 in
theorem c_X6_end (l : Launch) (E : Ev) {x1 : Int32} {σ : Sg} {Q : Int32 → Sg → Prop} (hw : wp_X6_end x1 σ Q) : CT l E yX6_end cX6_end 4 (some .int) 1 21 [.ref (ad E 12 18 0), .int x1] σ (QI E Q) := by
  refine CT_of (by decide) (Nat.le_of_ble_eq_true rfl) (fun X h1 h2 C => ?_)
  subst h1; subst h2
  have C : Cx X cX6_end "SweetWrapsModel" (some .int) 1 21 4 (QI (tE X) Q) := C
  show G X σ [(0, .ref (ad (tE X) 12 18 0)), (1, .int x1)] [] 0
  unfold wp_X6_end at hw
  refine gx_iload_n C dX6_end_0 1 rfl ?_
  refine gx_if_lt (tgt := 76) C dX6_end_1 (by decide) (fun c1 => ?_) (fun c1 => ?_)
  · replace hw := hw.1 c1
    refine gx_iload_n C dX6_end_76 1 rfl ?_
    exact gx_iret C rfl rfl dX6_end_77 hw
  · replace hw := hw.2 c1
    refine gx_iconst (v := (0 : Int32)) C dX6_end_4 (by decide) ?_
    refine gx_istore_n (lv' := [(2, .int (0 : Int32)), (0, .ref (ad (tE X) 12 18 0)), (1, .int x1)]) C dX6_end_5 (by decide) rfl ?_
    refine gx_sub (lv' := [(0, .ref (ad (tE X) 12 18 0)), (1, .int x1), (2, .int (0 : Int32))]) [1, 2, 0] rfl ?_
    exact g_X6_end_L6 C hw
theorem hy_X6_end : yX6_end.cls = "SweetWrapsModel" ∧ yX6_end.cls ≠ "java/lang/invoke/MethodHandle" ∧ yX6_end.cls ≠ "java/lang/invoke/VarHandle" ∧ (parseMethodDescriptor yX6_end.desc).map (fun d => d.parameters.length) = some 1 := by decide +kernel

theorem dX6_set_0 : decode cX6_set 0 = .ok (.iload_n 1, 1) := by decide +kernel
theorem dX6_set_1 : decode cX6_set 1 = .ok (.iconst 1, 1) := by decide +kernel
theorem dX6_set_2 : decode cX6_set 2 = .ok (.if_icmp .ne 7, 3) := by decide +kernel
theorem dX6_set_5 : decode cX6_set 5 = .ok (.iconst 4, 1) := by decide +kernel
theorem dX6_set_6 : decode cX6_set 6 = .ok (.goto 4, 3) := by decide +kernel
theorem dX6_set_9 : decode cX6_set 9 = .ok (.iconst 1, 1) := by decide +kernel
theorem dX6_set_10 : decode cX6_set 10 = .ok (.istore_n 3, 1) := by decide +kernel
theorem dX6_set_11 : decode cX6_set 11 = .ok (.iload_n 1, 1) := by decide +kernel
theorem dX6_set_12 : decode cX6_set 12 = .ok (.ifCond .ne 8, 3) := by decide +kernel
theorem dX6_set_15 : decode cX6_set 15 = .ok (.bipush 9, 2) := by decide +kernel
theorem dX6_set_17 : decode cX6_set 17 = .ok (.goto 24, 3) := by decide +kernel
theorem dX6_set_20 : decode cX6_set 20 = .ok (.iload_n 1, 1) := by decide +kernel
theorem dX6_set_21 : decode cX6_set 21 = .ok (.iconst 1, 1) := by decide +kernel
theorem dX6_set_22 : decode cX6_set 22 = .ok (.if_icmp .ne 8, 3) := by decide +kernel
theorem dX6_set_25 : decode cX6_set 25 = .ok (.bipush 60, 2) := by decide +kernel
theorem dX6_set_27 : decode cX6_set 27 = .ok (.goto 14, 3) := by decide +kernel
theorem dX6_set_30 : decode cX6_set 30 = .ok (.iload_n 1, 1) := by decide +kernel
theorem dX6_set_31 : decode cX6_set 31 = .ok (.iconst 2, 1) := by decide +kernel
theorem dX6_set_32 : decode cX6_set 32 = .ok (.if_icmp .ne 8, 3) := by decide +kernel
theorem dX6_set_35 : decode cX6_set 35 = .ok (.bipush 99, 2) := by decide +kernel
theorem dX6_set_37 : decode cX6_set 37 = .ok (.goto 4, 3) := by decide +kernel
theorem dX6_set_40 : decode cX6_set 40 = .ok (.iconst 2, 1) := by decide +kernel
theorem dX6_set_41 : decode cX6_set 41 = .ok (.istore 4, 2) := by decide +kernel
theorem dX6_set_43 : decode cX6_set 43 = .ok (.iload_n 1, 1) := by decide +kernel
theorem dX6_set_44 : decode cX6_set 44 = .ok (.iconst 0, 1) := by decide +kernel
theorem dX6_set_45 : decode cX6_set 45 = .ok (.iconst 3, 1) := by decide +kernel
theorem dX6_set_46 : decode cX6_set 46 = .ok (.invokestatic 36, 3) := by decide +kernel
theorem dX6_set_49 : decode cX6_set 49 = .ok (.ifCond .eq 13, 3) := by decide +kernel
theorem dX6_set_52 : decode cX6_set 52 = .ok (.iload_n 2, 1) := by decide +kernel
theorem dX6_set_53 : decode cX6_set 53 = .ok (.iload_n 3, 1) := by decide +kernel
theorem dX6_set_54 : decode cX6_set 54 = .ok (.iload 4, 2) := by decide +kernel
theorem dX6_set_56 : decode cX6_set 56 = .ok (.invokestatic 36, 3) := by decide +kernel
theorem dX6_set_59 : decode cX6_set 59 = .ok (.ifCond .ne 6, 3) := by decide +kernel
theorem dX6_set_62 : decode cX6_set 62 = .ok (.bipush (-2), 2) := by decide +kernel
theorem dX6_set_64 : decode cX6_set 64 = .ok (.ireturn, 1) := by decide +kernel
theorem dX6_set_65 : decode cX6_set 65 = .ok (.aload_n 0, 1) := by decide +kernel
theorem dX6_set_66 : decode cX6_set 66 = .ok (.invokevirtual 104, 3) := by decide +kernel
theorem dX6_set_69 : decode cX6_set 69 = .ok (.aload_n 0, 1) := by decide +kernel
theorem dX6_set_70 : decode cX6_set 70 = .ok (.getfield 7, 3) := by decide +kernel
theorem dX6_set_73 : decode cX6_set 73 = .ok (.iload_n 1, 1) := by decide +kernel
theorem dX6_set_74 : decode cX6_set 74 = .ok (.iaload, 1) := by decide +kernel
theorem dX6_set_75 : decode cX6_set 75 = .ok (.istore 5, 2) := by decide +kernel
theorem dX6_set_77 : decode cX6_set 77 = .ok (.aload_n 0, 1) := by decide +kernel
theorem dX6_set_78 : decode cX6_set 78 = .ok (.getfield 7, 3) := by decide +kernel
theorem dX6_set_81 : decode cX6_set 81 = .ok (.iload_n 1, 1) := by decide +kernel
theorem dX6_set_82 : decode cX6_set 82 = .ok (.iload_n 2, 1) := by decide +kernel
theorem dX6_set_83 : decode cX6_set 83 = .ok (.iastore, 1) := by decide +kernel
theorem dX6_set_84 : decode cX6_set 84 = .ok (.iload 5, 2) := by decide +kernel
theorem dX6_set_86 : decode cX6_set 86 = .ok (.ireturn, 1) := by decide +kernel
def wp_X6_set_b41 (x1 : Int32) (x2 : Int32) (Q : Int32 → Sg → Prop) (v3 : Int32) (s0 : Int32) (σ : Sg) : Prop := wp_X6_in x1 (0 : Int32) (3 : Int32) σ (fun r5 σ6 => ((r5 = 0 → Q (-2 : Int32) σ6) ∧ (¬ r5 = 0 → wp_X6_in x2 v3 s0 σ6 (fun r8 σ9 => ((¬ r8 = 0 → wp_X6_record σ9 (fun σ11 => (vp_in x1 194 ∧ ∀ z12 : Int32, z12 = (σ11 12 19 0 x1.toNatClampNeg) → (vp_in x1 194 ∧ ∀ σ13 : Sg, σ13 = up σ11 12 19 0 x1.toNatClampNeg x2 → Q z12 σ13)))) ∧ (r8 = 0 → Q (-2 : Int32) σ9))))))
set_option maxRecDepth 100000 in
set_option maxHeartbeats 4000000 in
theorem g_X6_set_b41 {X : Tx} {Q : Int32 → Sg → Prop} (C : Cx X cX6_set "SweetWrapsModel" (some .int) 1 22 6 (QI (tE X) Q)) {x1 : Int32} {x2 : Int32} {v3 : Int32} {s0 : Int32} {σ : Sg} (hw : wp_X6_set_b41 x1 x2 Q v3 s0 σ) : G X σ [(0, .ref (ad (tE X) 12 18 0)), (1, .int x1), (2, .int x2), (3, .int v3)] [.int s0] 41 := by
  unfold wp_X6_set_b41 at hw
  refine gx_istore (lv' := [(4, .int s0), (0, .ref (ad (tE X) 12 18 0)), (1, .int x1), (2, .int x2), (3, .int v3)]) C dX6_set_41 (by decide) rfl ?_
  refine gx_iload_n C dX6_set_43 2 rfl ?_
  refine gx_iconst (v := (0 : Int32)) C dX6_set_44 (by decide) ?_
  refine gx_iconst (v := (3 : Int32)) C dX6_set_45 (by decide) ?_
  refine gx_scalli (As := [.int x1, .int (0 : Int32), .int (3 : Int32)]) (rest := []) C (c_X6_in _ _ hw) bw_711 bw_712 bw_7 bw_713 hyS_X6_in ⟨by decide, by decide⟩ rfl (Nat.le_of_ble_eq_true rfl) dX6_set_46 (fun r5 σ6 hw => ?_)
  refine gx_if_eq (tgt := 62) C dX6_set_49 (by decide) (fun c7 => ?_) (fun c7 => ?_)
  · replace hw := hw.1 c7
    refine gx_bipush (v := (-2 : Int32)) C dX6_set_62 (by decide) ?_
    exact gx_iret C rfl rfl dX6_set_64 hw
  · replace hw := hw.2 c7
    refine gx_iload_n C dX6_set_52 3 rfl ?_
    refine gx_iload_n C dX6_set_53 4 rfl ?_
    refine gx_iload C dX6_set_54 0 rfl ?_
    refine gx_scalli (As := [.int x2, .int v3, .int s0]) (rest := []) C (c_X6_in _ _ hw) bw_711 bw_712 bw_7 bw_713 hyS_X6_in ⟨by decide, by decide⟩ rfl (Nat.le_of_ble_eq_true rfl) dX6_set_56 (fun r8 σ9 hw => ?_)
    refine gx_if_ne (tgt := 65) C dX6_set_59 (by decide) (fun c10 => ?_) (fun c10 => ?_)
    · replace hw := hw.1 c10
      refine gx_aload_n C dX6_set_65 1 rfl ?_
      refine gx_vcallv (As := []) (rest := []) C (c_X6_record _ _ hw) okg_18 rfl rfl bw_714 bw_716 bs_27 bw_7 bw_717 hy_X6_record ⟨by decide, by decide⟩ rfl (Nat.le_of_ble_eq_true rfl) dX6_set_66 (fun σ11 hw => ?_)
      refine gx_aload_n C dX6_set_69 1 rfl ?_
      refine gx_get C okg_18 rfl rfl inX6 (ref := "SweetWrapsModel") 0 (by decide) bw_673 rfl rfl dX6_set_70 ?_
      refine gx_iload_n C dX6_set_73 2 rfl ?_
      refine gx_iald C okg_19 rfl hw.1 _ rfl dX6_set_74 ?_
      replace hw := hw.2
      obtain ⟨z12, e_z12⟩ : ∃ z : Int32, z = (σ11 12 19 0 x1.toNatClampNeg) := ⟨_, rfl⟩
      replace hw := hw z12 e_z12
      refine gx_top e_z12 ?_
      refine gx_istore (lv' := [(5, .int z12), (4, .int s0), (0, .ref (ad (tE X) 12 18 0)), (1, .int x1), (2, .int x2), (3, .int v3)]) C dX6_set_75 (by decide) rfl ?_
      refine gx_aload_n C dX6_set_77 2 rfl ?_
      refine gx_get C okg_18 rfl rfl inX6 (ref := "SweetWrapsModel") 0 (by decide) bw_673 rfl rfl dX6_set_78 ?_
      refine gx_iload_n C dX6_set_81 3 rfl ?_
      refine gx_iload_n C dX6_set_82 4 rfl ?_
      refine gx_iast C okg_19 (fun _ => rfl) hw.1 _ rfl rfl dX6_set_83 ?_
      replace hw := hw.2
      obtain ⟨σ13, e_σ13⟩ : ∃ z : Sg, z = up σ11 12 19 0 x1.toNatClampNeg x2 := ⟨_, rfl⟩
      replace hw := hw σ13 e_σ13
      refine gx_st e_σ13 ?_
      refine gx_iload C dX6_set_84 0 rfl ?_
      exact gx_iret C rfl rfl dX6_set_86 hw
    · replace hw := hw.2 c10
      refine gx_bipush (v := (-2 : Int32)) C dX6_set_62 (by decide) ?_
      exact gx_iret C rfl rfl dX6_set_64 hw
def wp_X6_set_b10 (x1 : Int32) (x2 : Int32) (Q : Int32 → Sg → Prop) (s0 : Int32) (σ : Sg) : Prop := ((¬ x1 = 0 → ((¬ x1 = (1 : Int32) → ((¬ x1 = (2 : Int32) → wp_X6_set_b41 x1 x2 Q s0 (2 : Int32) σ) ∧ (x1 = (2 : Int32) → wp_X6_set_b41 x1 x2 Q s0 (99 : Int32) σ))) ∧ (x1 = (1 : Int32) → wp_X6_set_b41 x1 x2 Q s0 (60 : Int32) σ))) ∧ (x1 = 0 → wp_X6_set_b41 x1 x2 Q s0 (9 : Int32) σ))
set_option maxRecDepth 100000 in
set_option maxHeartbeats 4000000 in
theorem g_X6_set_b10 {X : Tx} {Q : Int32 → Sg → Prop} (C : Cx X cX6_set "SweetWrapsModel" (some .int) 1 22 6 (QI (tE X) Q)) {x1 : Int32} {x2 : Int32} {s0 : Int32} {σ : Sg} (hw : wp_X6_set_b10 x1 x2 Q s0 σ) : G X σ [(0, .ref (ad (tE X) 12 18 0)), (1, .int x1), (2, .int x2)] [.int s0] 10 := by
  unfold wp_X6_set_b10 at hw
  refine gx_istore_n (lv' := [(3, .int s0), (0, .ref (ad (tE X) 12 18 0)), (1, .int x1), (2, .int x2)]) C dX6_set_10 (by decide) rfl ?_
  refine gx_iload_n C dX6_set_11 2 rfl ?_
  refine gx_if_ne (tgt := 20) C dX6_set_12 (by decide) (fun c2 => ?_) (fun c2 => ?_)
  · replace hw := hw.1 c2
    refine gx_iload_n C dX6_set_20 2 rfl ?_
    refine gx_iconst (v := (1 : Int32)) C dX6_set_21 (by decide) ?_
    refine gx_icmp_ne (tgt := 30) C dX6_set_22 (by decide) (fun c3 => ?_) (fun c3 => ?_)
    · replace hw := hw.1 c3
      refine gx_iload_n C dX6_set_30 2 rfl ?_
      refine gx_iconst (v := (2 : Int32)) C dX6_set_31 (by decide) ?_
      refine gx_icmp_ne (tgt := 40) C dX6_set_32 (by decide) (fun c4 => ?_) (fun c4 => ?_)
      · replace hw := hw.1 c4
        refine gx_iconst (v := (2 : Int32)) C dX6_set_40 (by decide) ?_
        refine gx_sub (lv' := [(0, .ref (ad (tE X) 12 18 0)), (1, .int x1), (2, .int x2), (3, .int s0)]) [1, 2, 3, 0] rfl ?_
        exact g_X6_set_b41 C hw
      · replace hw := hw.2 c4
        refine gx_bipush (v := (99 : Int32)) C dX6_set_35 (by decide) ?_
        refine gx_goto (tgt := 41) C dX6_set_37 (by decide) ?_
        refine gx_sub (lv' := [(0, .ref (ad (tE X) 12 18 0)), (1, .int x1), (2, .int x2), (3, .int s0)]) [1, 2, 3, 0] rfl ?_
        exact g_X6_set_b41 C hw
    · replace hw := hw.2 c3
      refine gx_bipush (v := (60 : Int32)) C dX6_set_25 (by decide) ?_
      refine gx_goto (tgt := 41) C dX6_set_27 (by decide) ?_
      refine gx_sub (lv' := [(0, .ref (ad (tE X) 12 18 0)), (1, .int x1), (2, .int x2), (3, .int s0)]) [1, 2, 3, 0] rfl ?_
      exact g_X6_set_b41 C hw
  · replace hw := hw.2 c2
    refine gx_bipush (v := (9 : Int32)) C dX6_set_15 (by decide) ?_
    refine gx_goto (tgt := 41) C dX6_set_17 (by decide) ?_
    refine gx_sub (lv' := [(0, .ref (ad (tE X) 12 18 0)), (1, .int x1), (2, .int x2), (3, .int s0)]) [1, 2, 3, 0] rfl ?_
    exact g_X6_set_b41 C hw
def wp_X6_set (x1 : Int32) (x2 : Int32) (σ : Sg) (Q : Int32 → Sg → Prop) : Prop := ((¬ x1 = (1 : Int32) → wp_X6_set_b10 x1 x2 Q (1 : Int32) σ) ∧ (x1 = (1 : Int32) → wp_X6_set_b10 x1 x2 Q (4 : Int32) σ))
set_option maxRecDepth 100000 in
set_option maxHeartbeats 4000000 in
theorem c_X6_set (l : Launch) (E : Ev) {x1 : Int32} {x2 : Int32} {σ : Sg} {Q : Int32 → Sg → Prop} (hw : wp_X6_set x1 x2 σ Q) : CT l E yX6_set cX6_set 6 (some .int) 1 22 [.ref (ad E 12 18 0), .int x1, .int x2] σ (QI E Q) := by
  refine CT_of (by decide) (Nat.le_of_ble_eq_true rfl) (fun X h1 h2 C => ?_)
  subst h1; subst h2
  have C : Cx X cX6_set "SweetWrapsModel" (some .int) 1 22 6 (QI (tE X) Q) := C
  show G X σ [(0, .ref (ad (tE X) 12 18 0)), (1, .int x1), (2, .int x2)] [] 0
  unfold wp_X6_set at hw
  refine gx_iload_n C dX6_set_0 1 rfl ?_
  refine gx_iconst (v := (1 : Int32)) C dX6_set_1 (by decide) ?_
  refine gx_icmp_ne (tgt := 9) C dX6_set_2 (by decide) (fun c1 => ?_) (fun c1 => ?_)
  · replace hw := hw.1 c1
    refine gx_iconst (v := (1 : Int32)) C dX6_set_9 (by decide) ?_
    exact g_X6_set_b10 C hw
  · replace hw := hw.2 c1
    refine gx_iconst (v := (4 : Int32)) C dX6_set_5 (by decide) ?_
    refine gx_goto (tgt := 10) C dX6_set_6 (by decide) ?_
    exact g_X6_set_b10 C hw
theorem hy_X6_set : yX6_set.cls = "SweetWrapsModel" ∧ yX6_set.cls ≠ "java/lang/invoke/MethodHandle" ∧ yX6_set.cls ≠ "java/lang/invoke/VarHandle" ∧ (parseMethodDescriptor yX6_set.desc).map (fun d => d.parameters.length) = some 2 := by decide +kernel

theorem dX6_heap_0 : decode cX6_heap 0 = .ok (.aload_n 0, 1) := by decide +kernel
theorem dX6_heap_1 : decode cX6_heap 1 = .ok (.invokevirtual 107, 3) := by decide +kernel
theorem dX6_heap_4 : decode cX6_heap 4 = .ok (.aload_n 0, 1) := by decide +kernel
theorem dX6_heap_5 : decode cX6_heap 5 = .ok (.aload_n 0, 1) := by decide +kernel
theorem dX6_heap_6 : decode cX6_heap 6 = .ok (.iload_n 1, 1) := by decide +kernel
theorem dX6_heap_7 : decode cX6_heap 7 = .ok (.iload_n 2, 1) := by decide +kernel
theorem dX6_heap_8 : decode cX6_heap 8 = .ok (.iload_n 3, 1) := by decide +kernel
theorem dX6_heap_9 : decode cX6_heap 9 = .ok (.invokevirtual 110, 3) := by decide +kernel
theorem dX6_heap_12 : decode cX6_heap 12 = .ok (.invokevirtual 114, 3) := by decide +kernel
theorem dX6_heap_15 : decode cX6_heap 15 = .ok (.ireturn, 1) := by decide +kernel
def wp_X6_heap (x1 : Int32) (x2 : Int32) (x3 : Int32) (σ : Sg) (Q : Int32 → Sg → Prop) : Prop := wp_X6_putAside σ (fun σ1 => wp_X6_heaps x1 x2 x3 σ1 (fun r2 σ3 => wp_X6_end r2 σ3 (fun r4 σ5 => Q r4 σ5)))
set_option maxRecDepth 100000 in
set_option maxHeartbeats 4000000 in
theorem c_X6_heap (l : Launch) (E : Ev) {x1 : Int32} {x2 : Int32} {x3 : Int32} {σ : Sg} {Q : Int32 → Sg → Prop} (hw : wp_X6_heap x1 x2 x3 σ Q) : CT l E yX6_heap cX6_heap 4 (some .int) 4 93 [.ref (ad E 12 18 0), .int x1, .int x2, .int x3] σ (QI E Q) := by
  refine CT_of (by decide) (Nat.le_of_ble_eq_true rfl) (fun X h1 h2 C => ?_)
  subst h1; subst h2
  have C : Cx X cX6_heap "SweetWrapsModel" (some .int) 4 93 4 (QI (tE X) Q) := C
  show G X σ [(0, .ref (ad (tE X) 12 18 0)), (1, .int x1), (2, .int x2), (3, .int x3)] [] 0
  unfold wp_X6_heap at hw
  refine gx_aload_n C dX6_heap_0 0 rfl ?_
  refine gx_vcallv (As := []) (rest := []) C (c_X6_putAside _ _ hw) okg_18 rfl rfl bw_722 bw_724 bs_28 bw_7 bw_725 hy_X6_putAside ⟨by decide, by decide⟩ rfl (Nat.le_of_ble_eq_true rfl) dX6_heap_1 (fun σ1 hw => ?_)
  refine gx_aload_n C dX6_heap_4 0 rfl ?_
  refine gx_aload_n C dX6_heap_5 0 rfl ?_
  refine gx_iload_n C dX6_heap_6 1 rfl ?_
  refine gx_iload_n C dX6_heap_7 2 rfl ?_
  refine gx_iload_n C dX6_heap_8 3 rfl ?_
  refine gx_vcalli (As := [.int x1, .int x2, .int x3]) (rest := [.ref (ad (tE X) 12 18 0)]) C (c_X6_heaps _ _ hw) okg_18 rfl rfl bw_726 bw_728 bs_29 bw_7 bw_729 hy_X6_heaps ⟨by decide, by decide⟩ rfl (Nat.le_of_ble_eq_true rfl) dX6_heap_9 (fun r2 σ3 hw => ?_)
  refine gx_vcalli (As := [.int r2]) (rest := []) C (c_X6_end _ _ hw) okg_18 rfl rfl bw_752 bw_754 bs_34 bw_7 bw_755 hy_X6_end ⟨by decide, by decide⟩ rfl (Nat.le_of_ble_eq_true rfl) dX6_heap_12 (fun r4 σ5 hw => ?_)
  exact gx_iret C rfl rfl dX6_heap_15 hw
theorem hy_X6_heap : yX6_heap.cls = "SweetWrapsModel" ∧ yX6_heap.cls ≠ "java/lang/invoke/MethodHandle" ∧ yX6_heap.cls ≠ "java/lang/invoke/VarHandle" ∧ (parseMethodDescriptor yX6_heap.desc).map (fun d => d.parameters.length) = some 3 := by decide +kernel

theorem dX6_foil_0 : decode cX6_foil 0 = .ok (.aload_n 0, 1) := by decide +kernel
theorem dX6_foil_1 : decode cX6_foil 1 = .ok (.invokevirtual 107, 3) := by decide +kernel
theorem dX6_foil_4 : decode cX6_foil 4 = .ok (.aload_n 0, 1) := by decide +kernel
theorem dX6_foil_5 : decode cX6_foil 5 = .ok (.aload_n 0, 1) := by decide +kernel
theorem dX6_foil_6 : decode cX6_foil 6 = .ok (.iload_n 1, 1) := by decide +kernel
theorem dX6_foil_7 : decode cX6_foil 7 = .ok (.iload_n 2, 1) := by decide +kernel
theorem dX6_foil_8 : decode cX6_foil 8 = .ok (.invokevirtual 117, 3) := by decide +kernel
theorem dX6_foil_11 : decode cX6_foil 11 = .ok (.invokevirtual 114, 3) := by decide +kernel
theorem dX6_foil_14 : decode cX6_foil 14 = .ok (.ireturn, 1) := by decide +kernel
def wp_X6_foil (x1 : Int32) (x2 : Int32) (σ : Sg) (Q : Int32 → Sg → Prop) : Prop := wp_X6_putAside σ (fun σ1 => wp_X6_foils x1 x2 σ1 (fun r2 σ3 => wp_X6_end r2 σ3 (fun r4 σ5 => Q r4 σ5)))
set_option maxRecDepth 100000 in
set_option maxHeartbeats 4000000 in
theorem c_X6_foil (l : Launch) (E : Ev) {x1 : Int32} {x2 : Int32} {σ : Sg} {Q : Int32 → Sg → Prop} (hw : wp_X6_foil x1 x2 σ Q) : CT l E yX6_foil cX6_foil 3 (some .int) 3 64 [.ref (ad E 12 18 0), .int x1, .int x2] σ (QI E Q) := by
  refine CT_of (by decide) (Nat.le_of_ble_eq_true rfl) (fun X h1 h2 C => ?_)
  subst h1; subst h2
  have C : Cx X cX6_foil "SweetWrapsModel" (some .int) 3 64 3 (QI (tE X) Q) := C
  show G X σ [(0, .ref (ad (tE X) 12 18 0)), (1, .int x1), (2, .int x2)] [] 0
  unfold wp_X6_foil at hw
  refine gx_aload_n C dX6_foil_0 0 rfl ?_
  refine gx_vcallv (As := []) (rest := []) C (c_X6_putAside _ _ hw) okg_18 rfl rfl bw_722 bw_724 bs_28 bw_7 bw_725 hy_X6_putAside ⟨by decide, by decide⟩ rfl (Nat.le_of_ble_eq_true rfl) dX6_foil_1 (fun σ1 hw => ?_)
  refine gx_aload_n C dX6_foil_4 0 rfl ?_
  refine gx_aload_n C dX6_foil_5 0 rfl ?_
  refine gx_iload_n C dX6_foil_6 1 rfl ?_
  refine gx_iload_n C dX6_foil_7 2 rfl ?_
  refine gx_vcalli (As := [.int x1, .int x2]) (rest := [.ref (ad (tE X) 12 18 0)]) C (c_X6_foils _ _ hw) okg_18 rfl rfl bw_760 bw_762 bs_35 bw_7 bw_763 hy_X6_foils ⟨by decide, by decide⟩ rfl (Nat.le_of_ble_eq_true rfl) dX6_foil_8 (fun r2 σ3 hw => ?_)
  refine gx_vcalli (As := [.int r2]) (rest := []) C (c_X6_end _ _ hw) okg_18 rfl rfl bw_752 bw_754 bs_34 bw_7 bw_755 hy_X6_end ⟨by decide, by decide⟩ rfl (Nat.le_of_ble_eq_true rfl) dX6_foil_11 (fun r4 σ5 hw => ?_)
  exact gx_iret C rfl rfl dX6_foil_14 hw
theorem hy_X6_foil : yX6_foil.cls = "SweetWrapsModel" ∧ yX6_foil.cls ≠ "java/lang/invoke/MethodHandle" ∧ yX6_foil.cls ≠ "java/lang/invoke/VarHandle" ∧ (parseMethodDescriptor yX6_foil.desc).map (fun d => d.parameters.length) = some 2 := by decide +kernel

theorem dX6_tin_0 : decode cX6_tin 0 = .ok (.aload_n 0, 1) := by decide +kernel
theorem dX6_tin_1 : decode cX6_tin 1 = .ok (.invokevirtual 107, 3) := by decide +kernel
theorem dX6_tin_4 : decode cX6_tin 4 = .ok (.aload_n 0, 1) := by decide +kernel
theorem dX6_tin_5 : decode cX6_tin 5 = .ok (.aload_n 0, 1) := by decide +kernel
theorem dX6_tin_6 : decode cX6_tin 6 = .ok (.invokevirtual 120, 3) := by decide +kernel
theorem dX6_tin_9 : decode cX6_tin 9 = .ok (.invokevirtual 114, 3) := by decide +kernel
theorem dX6_tin_12 : decode cX6_tin 12 = .ok (.ireturn, 1) := by decide +kernel
def wp_X6_tin (σ : Sg) (Q : Int32 → Sg → Prop) : Prop := wp_X6_putAside σ (fun σ1 => wp_X6_tins σ1 (fun r2 σ3 => wp_X6_end r2 σ3 (fun r4 σ5 => Q r4 σ5)))
set_option maxRecDepth 100000 in
set_option maxHeartbeats 4000000 in
theorem c_X6_tin (l : Launch) (E : Ev) {σ : Sg} {Q : Int32 → Sg → Prop} (hw : wp_X6_tin σ Q) : CT l E yX6_tin cX6_tin 1 (some .int) 2 44 [.ref (ad E 12 18 0)] σ (QI E Q) := by
  refine CT_of (by decide) (Nat.le_of_ble_eq_true rfl) (fun X h1 h2 C => ?_)
  subst h1; subst h2
  have C : Cx X cX6_tin "SweetWrapsModel" (some .int) 2 44 1 (QI (tE X) Q) := C
  show G X σ [(0, .ref (ad (tE X) 12 18 0))] [] 0
  unfold wp_X6_tin at hw
  refine gx_aload_n C dX6_tin_0 0 rfl ?_
  refine gx_vcallv (As := []) (rest := []) C (c_X6_putAside _ _ hw) okg_18 rfl rfl bw_722 bw_724 bs_28 bw_7 bw_725 hy_X6_putAside ⟨by decide, by decide⟩ rfl (Nat.le_of_ble_eq_true rfl) dX6_tin_1 (fun σ1 hw => ?_)
  refine gx_aload_n C dX6_tin_4 0 rfl ?_
  refine gx_aload_n C dX6_tin_5 0 rfl ?_
  refine gx_vcalli (As := []) (rest := [.ref (ad (tE X) 12 18 0)]) C (c_X6_tins _ _ hw) okg_18 rfl rfl bw_768 bw_770 bs_36 bw_7 bw_771 hy_X6_tins ⟨by decide, by decide⟩ rfl (Nat.le_of_ble_eq_true rfl) dX6_tin_6 (fun r2 σ3 hw => ?_)
  refine gx_vcalli (As := [.int r2]) (rest := []) C (c_X6_end _ _ hw) okg_18 rfl rfl bw_752 bw_754 bs_34 bw_7 bw_755 hy_X6_end ⟨by decide, by decide⟩ rfl (Nat.le_of_ble_eq_true rfl) dX6_tin_9 (fun r4 σ5 hw => ?_)
  exact gx_iret C rfl rfl dX6_tin_12 hw
theorem hy_X6_tin : yX6_tin.cls = "SweetWrapsModel" ∧ yX6_tin.cls ≠ "java/lang/invoke/MethodHandle" ∧ yX6_tin.cls ≠ "java/lang/invoke/VarHandle" ∧ (parseMethodDescriptor yX6_tin.desc).map (fun d => d.parameters.length) = some 0 := by decide +kernel

theorem dX6_ship_0 : decode cX6_ship 0 = .ok (.aload_n 0, 1) := by decide +kernel
theorem dX6_ship_1 : decode cX6_ship 1 = .ok (.invokevirtual 107, 3) := by decide +kernel
theorem dX6_ship_4 : decode cX6_ship 4 = .ok (.aload_n 0, 1) := by decide +kernel
theorem dX6_ship_5 : decode cX6_ship 5 = .ok (.aload_n 0, 1) := by decide +kernel
theorem dX6_ship_6 : decode cX6_ship 6 = .ok (.iload_n 1, 1) := by decide +kernel
theorem dX6_ship_7 : decode cX6_ship 7 = .ok (.invokevirtual 123, 3) := by decide +kernel
theorem dX6_ship_10 : decode cX6_ship 10 = .ok (.invokevirtual 114, 3) := by decide +kernel
theorem dX6_ship_13 : decode cX6_ship 13 = .ok (.ireturn, 1) := by decide +kernel
def wp_X6_ship (x1 : Int32) (σ : Sg) (Q : Int32 → Sg → Prop) : Prop := wp_X6_putAside σ (fun σ1 => wp_X6_ships x1 σ1 (fun r2 σ3 => wp_X6_end r2 σ3 (fun r4 σ5 => Q r4 σ5)))
set_option maxRecDepth 100000 in
set_option maxHeartbeats 4000000 in
theorem c_X6_ship (l : Launch) (E : Ev) {x1 : Int32} {σ : Sg} {Q : Int32 → Sg → Prop} (hw : wp_X6_ship x1 σ Q) : CT l E yX6_ship cX6_ship 2 (some .int) 3 66 [.ref (ad E 12 18 0), .int x1] σ (QI E Q) := by
  refine CT_of (by decide) (Nat.le_of_ble_eq_true rfl) (fun X h1 h2 C => ?_)
  subst h1; subst h2
  have C : Cx X cX6_ship "SweetWrapsModel" (some .int) 3 66 2 (QI (tE X) Q) := C
  show G X σ [(0, .ref (ad (tE X) 12 18 0)), (1, .int x1)] [] 0
  unfold wp_X6_ship at hw
  refine gx_aload_n C dX6_ship_0 0 rfl ?_
  refine gx_vcallv (As := []) (rest := []) C (c_X6_putAside _ _ hw) okg_18 rfl rfl bw_722 bw_724 bs_28 bw_7 bw_725 hy_X6_putAside ⟨by decide, by decide⟩ rfl (Nat.le_of_ble_eq_true rfl) dX6_ship_1 (fun σ1 hw => ?_)
  refine gx_aload_n C dX6_ship_4 0 rfl ?_
  refine gx_aload_n C dX6_ship_5 0 rfl ?_
  refine gx_iload_n C dX6_ship_6 1 rfl ?_
  refine gx_vcalli (As := [.int x1]) (rest := [.ref (ad (tE X) 12 18 0)]) C (c_X6_ships _ _ hw) okg_18 rfl rfl bw_776 bw_778 bs_37 bw_7 bw_779 hy_X6_ships ⟨by decide, by decide⟩ rfl (Nat.le_of_ble_eq_true rfl) dX6_ship_7 (fun r2 σ3 hw => ?_)
  refine gx_vcalli (As := [.int r2]) (rest := []) C (c_X6_end _ _ hw) okg_18 rfl rfl bw_752 bw_754 bs_34 bw_7 bw_755 hy_X6_end ⟨by decide, by decide⟩ rfl (Nat.le_of_ble_eq_true rfl) dX6_ship_10 (fun r4 σ5 hw => ?_)
  exact gx_iret C rfl rfl dX6_ship_13 hw
theorem hy_X6_ship : yX6_ship.cls = "SweetWrapsModel" ∧ yX6_ship.cls ≠ "java/lang/invoke/MethodHandle" ∧ yX6_ship.cls ≠ "java/lang/invoke/VarHandle" ∧ (parseMethodDescriptor yX6_ship.desc).map (fun d => d.parameters.length) = some 1 := by decide +kernel

theorem dX6_apart_0 : decode cX6_apart 0 = .ok (.aload_n 0, 1) := by decide +kernel
theorem dX6_apart_1 : decode cX6_apart 1 = .ok (.invokevirtual 107, 3) := by decide +kernel
theorem dX6_apart_4 : decode cX6_apart 4 = .ok (.aload_n 0, 1) := by decide +kernel
theorem dX6_apart_5 : decode cX6_apart 5 = .ok (.aload_n 0, 1) := by decide +kernel
theorem dX6_apart_6 : decode cX6_apart 6 = .ok (.iload_n 1, 1) := by decide +kernel
theorem dX6_apart_7 : decode cX6_apart 7 = .ok (.iload_n 2, 1) := by decide +kernel
theorem dX6_apart_8 : decode cX6_apart 8 = .ok (.invokevirtual 126, 3) := by decide +kernel
theorem dX6_apart_11 : decode cX6_apart 11 = .ok (.invokevirtual 114, 3) := by decide +kernel
theorem dX6_apart_14 : decode cX6_apart 14 = .ok (.ireturn, 1) := by decide +kernel
def wp_X6_apart (x1 : Int32) (x2 : Int32) (σ : Sg) (Q : Int32 → Sg → Prop) : Prop := wp_X6_putAside σ (fun σ1 => wp_X6_keepsApart x1 x2 σ1 (fun r2 σ3 => wp_X6_end r2 σ3 (fun r4 σ5 => Q r4 σ5)))
set_option maxRecDepth 100000 in
set_option maxHeartbeats 4000000 in
theorem c_X6_apart (l : Launch) (E : Ev) {x1 : Int32} {x2 : Int32} {σ : Sg} {Q : Int32 → Sg → Prop} (hw : wp_X6_apart x1 x2 σ Q) : CT l E yX6_apart cX6_apart 3 (some .int) 3 65 [.ref (ad E 12 18 0), .int x1, .int x2] σ (QI E Q) := by
  refine CT_of (by decide) (Nat.le_of_ble_eq_true rfl) (fun X h1 h2 C => ?_)
  subst h1; subst h2
  have C : Cx X cX6_apart "SweetWrapsModel" (some .int) 3 65 3 (QI (tE X) Q) := C
  show G X σ [(0, .ref (ad (tE X) 12 18 0)), (1, .int x1), (2, .int x2)] [] 0
  unfold wp_X6_apart at hw
  refine gx_aload_n C dX6_apart_0 0 rfl ?_
  refine gx_vcallv (As := []) (rest := []) C (c_X6_putAside _ _ hw) okg_18 rfl rfl bw_722 bw_724 bs_28 bw_7 bw_725 hy_X6_putAside ⟨by decide, by decide⟩ rfl (Nat.le_of_ble_eq_true rfl) dX6_apart_1 (fun σ1 hw => ?_)
  refine gx_aload_n C dX6_apart_4 0 rfl ?_
  refine gx_aload_n C dX6_apart_5 0 rfl ?_
  refine gx_iload_n C dX6_apart_6 1 rfl ?_
  refine gx_iload_n C dX6_apart_7 2 rfl ?_
  refine gx_vcalli (As := [.int x1, .int x2]) (rest := [.ref (ad (tE X) 12 18 0)]) C (c_X6_keepsApart _ _ hw) okg_18 rfl rfl bw_796 bw_798 bs_41 bw_7 bw_799 hy_X6_keepsApart ⟨by decide, by decide⟩ rfl (Nat.le_of_ble_eq_true rfl) dX6_apart_8 (fun r2 σ3 hw => ?_)
  refine gx_vcalli (As := [.int r2]) (rest := []) C (c_X6_end _ _ hw) okg_18 rfl rfl bw_752 bw_754 bs_34 bw_7 bw_755 hy_X6_end ⟨by decide, by decide⟩ rfl (Nat.le_of_ble_eq_true rfl) dX6_apart_11 (fun r4 σ5 hw => ?_)
  exact gx_iret C rfl rfl dX6_apart_14 hw
theorem hy_X6_apart : yX6_apart.cls = "SweetWrapsModel" ∧ yX6_apart.cls ≠ "java/lang/invoke/MethodHandle" ∧ yX6_apart.cls ≠ "java/lang/invoke/VarHandle" ∧ (parseMethodDescriptor yX6_apart.desc).map (fun d => d.parameters.length) = some 2 := by decide +kernel

theorem dX6_run_0 : decode cX6_run 0 = .ok (.aload_n 0, 1) := by decide +kernel
theorem dX6_run_1 : decode cX6_run 1 = .ok (.invokevirtual 107, 3) := by decide +kernel
theorem dX6_run_4 : decode cX6_run 4 = .ok (.aload_n 0, 1) := by decide +kernel
theorem dX6_run_5 : decode cX6_run 5 = .ok (.aload_n 0, 1) := by decide +kernel
theorem dX6_run_6 : decode cX6_run 6 = .ok (.iload_n 1, 1) := by decide +kernel
theorem dX6_run_7 : decode cX6_run 7 = .ok (.invokevirtual 129, 3) := by decide +kernel
theorem dX6_run_10 : decode cX6_run 10 = .ok (.invokevirtual 114, 3) := by decide +kernel
theorem dX6_run_13 : decode cX6_run 13 = .ok (.ireturn, 1) := by decide +kernel
def wp_X6_run (x1 : Int32) (σ : Sg) (Q : Int32 → Sg → Prop) : Prop := wp_X6_putAside σ (fun σ1 => wp_X6_goes x1 σ1 (fun r2 σ3 => wp_X6_end r2 σ3 (fun r4 σ5 => Q r4 σ5)))
set_option maxRecDepth 100000 in
set_option maxHeartbeats 4000000 in
theorem c_X6_run (l : Launch) (E : Ev) {x1 : Int32} {σ : Sg} {Q : Int32 → Sg → Prop} (hw : wp_X6_run x1 σ Q) : CT l E yX6_run cX6_run 2 (some .int) 8 182 [.ref (ad E 12 18 0), .int x1] σ (QI E Q) := by
  refine CT_of (by decide) (Nat.le_of_ble_eq_true rfl) (fun X h1 h2 C => ?_)
  subst h1; subst h2
  have C : Cx X cX6_run "SweetWrapsModel" (some .int) 8 182 2 (QI (tE X) Q) := C
  show G X σ [(0, .ref (ad (tE X) 12 18 0)), (1, .int x1)] [] 0
  unfold wp_X6_run at hw
  refine gx_aload_n C dX6_run_0 0 rfl ?_
  refine gx_vcallv (As := []) (rest := []) C (c_X6_putAside _ _ hw) okg_18 rfl rfl bw_722 bw_724 bs_28 bw_7 bw_725 hy_X6_putAside ⟨by decide, by decide⟩ rfl (Nat.le_of_ble_eq_true rfl) dX6_run_1 (fun σ1 hw => ?_)
  refine gx_aload_n C dX6_run_4 0 rfl ?_
  refine gx_aload_n C dX6_run_5 0 rfl ?_
  refine gx_iload_n C dX6_run_6 1 rfl ?_
  refine gx_vcalli (As := [.int x1]) (rest := [.ref (ad (tE X) 12 18 0)]) C (c_X6_goes _ _ hw) okg_18 rfl rfl bw_812 bw_814 bs_44 bw_7 bw_815 hy_X6_goes ⟨by decide, by decide⟩ rfl (Nat.le_of_ble_eq_true rfl) dX6_run_7 (fun r2 σ3 hw => ?_)
  refine gx_vcalli (As := [.int r2]) (rest := []) C (c_X6_end _ _ hw) okg_18 rfl rfl bw_752 bw_754 bs_34 bw_7 bw_755 hy_X6_end ⟨by decide, by decide⟩ rfl (Nat.le_of_ble_eq_true rfl) dX6_run_10 (fun r4 σ5 hw => ?_)
  exact gx_iret C rfl rfl dX6_run_13 hw
theorem hy_X6_run : yX6_run.cls = "SweetWrapsModel" ∧ yX6_run.cls ≠ "java/lang/invoke/MethodHandle" ∧ yX6_run.cls ≠ "java/lang/invoke/VarHandle" ∧ (parseMethodDescriptor yX6_run.desc).map (fun d => d.parameters.length) = some 1 := by decide +kernel

theorem dX6_of_0 : decode cX6_of 0 = .ok (.iload_n 1, 1) := by decide +kernel
theorem dX6_of_1 : decode cX6_of 1 = .ok (.invokestatic 85, 3) := by decide +kernel
theorem dX6_of_4 : decode cX6_of 4 = .ok (.ifCond .ne 5, 3) := by decide +kernel
theorem dX6_of_7 : decode cX6_of 7 = .ok (.iconst (-1), 1) := by decide +kernel
theorem dX6_of_8 : decode cX6_of 8 = .ok (.ireturn, 1) := by decide +kernel
theorem dX6_of_9 : decode cX6_of 9 = .ok (.iload_n 2, 1) := by decide +kernel
theorem dX6_of_10 : decode cX6_of 10 = .ok (.tableswitch 98 0 7 #[46, 52, 59, 80, 80, 80, 80, 92], 46) := by decide +kernel
theorem dX6_of_56 : decode cX6_of 56 = .ok (.aload_n 0, 1) := by decide +kernel
theorem dX6_of_57 : decode cX6_of 57 = .ok (.iload_n 1, 1) := by decide +kernel
theorem dX6_of_58 : decode cX6_of 58 = .ok (.invokevirtual 91, 3) := by decide +kernel
theorem dX6_of_61 : decode cX6_of 61 = .ok (.ireturn, 1) := by decide +kernel
theorem dX6_of_62 : decode cX6_of 62 = .ok (.aload_n 0, 1) := by decide +kernel
theorem dX6_of_63 : decode cX6_of 63 = .ok (.iload_n 1, 1) := by decide +kernel
theorem dX6_of_64 : decode cX6_of 64 = .ok (.iconst 0, 1) := by decide +kernel
theorem dX6_of_65 : decode cX6_of 65 = .ok (.invokevirtual 40, 3) := by decide +kernel
theorem dX6_of_68 : decode cX6_of 68 = .ok (.ireturn, 1) := by decide +kernel
theorem dX6_of_69 : decode cX6_of 69 = .ok (.aload_n 0, 1) := by decide +kernel
theorem dX6_of_70 : decode cX6_of 70 = .ok (.iload_n 1, 1) := by decide +kernel
theorem dX6_of_71 : decode cX6_of 71 = .ok (.iconst 0, 1) := by decide +kernel
theorem dX6_of_72 : decode cX6_of 72 = .ok (.invokevirtual 40, 3) := by decide +kernel
theorem dX6_of_75 : decode cX6_of 75 = .ok (.ifCond .ne 8, 3) := by decide +kernel
theorem dX6_of_78 : decode cX6_of 78 = .ok (.bipush (-6), 2) := by decide +kernel
theorem dX6_of_80 : decode cX6_of 80 = .ok (.goto 9, 3) := by decide +kernel
theorem dX6_of_83 : decode cX6_of 83 = .ok (.aload_n 0, 1) := by decide +kernel
theorem dX6_of_84 : decode cX6_of 84 = .ok (.iload_n 1, 1) := by decide +kernel
theorem dX6_of_85 : decode cX6_of 85 = .ok (.iconst 0, 1) := by decide +kernel
theorem dX6_of_86 : decode cX6_of 86 = .ok (.invokevirtual 65, 3) := by decide +kernel
theorem dX6_of_89 : decode cX6_of 89 = .ok (.ireturn, 1) := by decide +kernel
theorem dX6_of_90 : decode cX6_of 90 = .ok (.aload_n 0, 1) := by decide +kernel
theorem dX6_of_91 : decode cX6_of 91 = .ok (.iload_n 1, 1) := by decide +kernel
theorem dX6_of_92 : decode cX6_of 92 = .ok (.bipush 13, 2) := by decide +kernel
theorem dX6_of_94 : decode cX6_of 94 = .ok (.iload_n 2, 1) := by decide +kernel
theorem dX6_of_95 : decode cX6_of 95 = .ok (.iadd, 1) := by decide +kernel
theorem dX6_of_96 : decode cX6_of 96 = .ok (.iconst 3, 1) := by decide +kernel
theorem dX6_of_97 : decode cX6_of 97 = .ok (.isub, 1) := by decide +kernel
theorem dX6_of_98 : decode cX6_of 98 = .ok (.invokevirtual 40, 3) := by decide +kernel
theorem dX6_of_101 : decode cX6_of 101 = .ok (.ireturn, 1) := by decide +kernel
theorem dX6_of_102 : decode cX6_of 102 = .ok (.aload_n 0, 1) := by decide +kernel
theorem dX6_of_103 : decode cX6_of 103 = .ok (.iload_n 1, 1) := by decide +kernel
theorem dX6_of_104 : decode cX6_of 104 = .ok (.invokevirtual 75, 3) := by decide +kernel
theorem dX6_of_107 : decode cX6_of 107 = .ok (.ireturn, 1) := by decide +kernel
theorem dX6_of_108 : decode cX6_of 108 = .ok (.bipush (-2), 2) := by decide +kernel
theorem dX6_of_110 : decode cX6_of 110 = .ok (.ireturn, 1) := by decide +kernel
def wp_X6_of (x1 : Int32) (x2 : Int32) (σ : Sg) (Q : Int32 → Sg → Prop) : Prop := wp_X6_isLane x1 σ (fun r1 σ2 => ((¬ r1 = 0 → ((x2 = (0 : Int32) → wp_X6_inHopper x1 σ2 (fun r12 σ13 => Q r12 σ13)) ∧ (¬ x2 = (0 : Int32) → ((x2 = (1 : Int32) → wp_X6_lane x1 (0 : Int32) σ2 (fun r14 σ15 => Q r14 σ15)) ∧ (¬ x2 = (1 : Int32) → ((x2 = (2 : Int32) → wp_X6_lane x1 (0 : Int32) σ2 (fun r16 σ17 => ((¬ r16 = 0 → wp_X6_heapFlavour x1 (0 : Int32) σ17 (fun r19 σ20 => Q r19 σ20)) ∧ (r16 = 0 → Q (-6 : Int32) σ17)))) ∧ (¬ x2 = (2 : Int32) → ((x2 = (3 : Int32) → wp_X6_lane x1 (((13 : Int32) + x2) - (3 : Int32)) σ2 (fun r21 σ22 => Q r21 σ22)) ∧ (¬ x2 = (3 : Int32) → ((x2 = (4 : Int32) → wp_X6_lane x1 (((13 : Int32) + x2) - (3 : Int32)) σ2 (fun r23 σ24 => Q r23 σ24)) ∧ (¬ x2 = (4 : Int32) → ((x2 = (5 : Int32) → wp_X6_lane x1 (((13 : Int32) + x2) - (3 : Int32)) σ2 (fun r25 σ26 => Q r25 σ26)) ∧ (¬ x2 = (5 : Int32) → ((x2 = (6 : Int32) → wp_X6_lane x1 (((13 : Int32) + x2) - (3 : Int32)) σ2 (fun r27 σ28 => Q r27 σ28)) ∧ (¬ x2 = (6 : Int32) → ((x2 = (7 : Int32) → wp_X6_reason x1 σ2 (fun r29 σ30 => Q r29 σ30)) ∧ (¬ x2 = (7 : Int32) → Q (-2 : Int32) σ2))))))))))))))))) ∧ (r1 = 0 → Q (-1 : Int32) σ2)))
set_option maxRecDepth 100000 in
set_option maxHeartbeats 4000000 in
theorem c_X6_of (l : Launch) (E : Ev) {x1 : Int32} {x2 : Int32} {σ : Sg} {Q : Int32 → Sg → Prop} (hw : wp_X6_of x1 x2 σ Q) : CT l E yX6_of cX6_of 3 (some .int) 5 110 [.ref (ad E 12 18 0), .int x1, .int x2] σ (QI E Q) := by
  refine CT_of (by decide) (Nat.le_of_ble_eq_true rfl) (fun X h1 h2 C => ?_)
  subst h1; subst h2
  have C : Cx X cX6_of "SweetWrapsModel" (some .int) 5 110 3 (QI (tE X) Q) := C
  show G X σ [(0, .ref (ad (tE X) 12 18 0)), (1, .int x1), (2, .int x2)] [] 0
  unfold wp_X6_of at hw
  refine gx_iload_n C dX6_of_0 1 rfl ?_
  refine gx_scalli (As := [.int x1]) (rest := []) C (c_X6_isLane _ _ hw) bw_730 bw_731 bw_7 bw_732 hyS_X6_isLane ⟨by decide, by decide⟩ rfl (Nat.le_of_ble_eq_true rfl) dX6_of_1 (fun r1 σ2 hw => ?_)
  refine gx_if_ne (tgt := 9) C dX6_of_4 (by decide) (fun c3 => ?_) (fun c3 => ?_)
  · replace hw := hw.1 c3
    refine gx_iload_n C dX6_of_9 2 rfl ?_
    by_cases c4 : x2 = (0 : Int32)
    · replace hw := hw.1 c4
      refine gx_table (tgt := 56) (off := 46) C dX6_of_10 (0 : Int32) c4 (by decide) (by decide) rfl (by decide) ?_
      refine gx_aload_n C dX6_of_56 0 rfl ?_
      refine gx_iload_n C dX6_of_57 1 rfl ?_
      refine gx_vcalli (As := [.int x1]) (rest := []) C (c_X6_inHopper _ _ hw) okg_18 rfl rfl bw_744 bw_746 bs_32 bw_7 bw_747 hy_X6_inHopper ⟨by decide, by decide⟩ rfl (Nat.le_of_ble_eq_true rfl) dX6_of_58 (fun r12 σ13 hw => ?_)
      exact gx_iret C rfl rfl dX6_of_61 hw
    · replace hw := hw.2 c4
      by_cases c5 : x2 = (1 : Int32)
      · replace hw := hw.1 c5
        refine gx_table (tgt := 62) (off := 52) C dX6_of_10 (1 : Int32) c5 (by decide) (by decide) rfl (by decide) ?_
        refine gx_aload_n C dX6_of_62 0 rfl ?_
        refine gx_iload_n C dX6_of_63 1 rfl ?_
        refine gx_iconst (v := (0 : Int32)) C dX6_of_64 (by decide) ?_
        refine gx_vcalli (As := [.int x1, .int (0 : Int32)]) (rest := []) C (c_X6_lane _ _ hw) okg_18 rfl rfl bw_740 bw_742 bs_31 bw_7 bw_743 hy_X6_lane ⟨by decide, by decide⟩ rfl (Nat.le_of_ble_eq_true rfl) dX6_of_65 (fun r14 σ15 hw => ?_)
        exact gx_iret C rfl rfl dX6_of_68 hw
      · replace hw := hw.2 c5
        by_cases c6 : x2 = (2 : Int32)
        · replace hw := hw.1 c6
          refine gx_table (tgt := 69) (off := 59) C dX6_of_10 (2 : Int32) c6 (by decide) (by decide) rfl (by decide) ?_
          refine gx_aload_n C dX6_of_69 0 rfl ?_
          refine gx_iload_n C dX6_of_70 1 rfl ?_
          refine gx_iconst (v := (0 : Int32)) C dX6_of_71 (by decide) ?_
          refine gx_vcalli (As := [.int x1, .int (0 : Int32)]) (rest := []) C (c_X6_lane _ _ hw) okg_18 rfl rfl bw_740 bw_742 bs_31 bw_7 bw_743 hy_X6_lane ⟨by decide, by decide⟩ rfl (Nat.le_of_ble_eq_true rfl) dX6_of_72 (fun r16 σ17 hw => ?_)
          refine gx_if_ne (tgt := 83) C dX6_of_75 (by decide) (fun c18 => ?_) (fun c18 => ?_)
          · replace hw := hw.1 c18
            refine gx_aload_n C dX6_of_83 0 rfl ?_
            refine gx_iload_n C dX6_of_84 1 rfl ?_
            refine gx_iconst (v := (0 : Int32)) C dX6_of_85 (by decide) ?_
            refine gx_vcalli (As := [.int x1, .int (0 : Int32)]) (rest := []) C (c_X6_heapFlavour _ _ hw) okg_18 rfl rfl bw_736 bw_738 bs_30 bw_7 bw_739 hy_X6_heapFlavour ⟨by decide, by decide⟩ rfl (Nat.le_of_ble_eq_true rfl) dX6_of_86 (fun r19 σ20 hw => ?_)
            exact gx_iret C rfl rfl dX6_of_89 hw
          · replace hw := hw.2 c18
            refine gx_bipush (v := (-6 : Int32)) C dX6_of_78 (by decide) ?_
            refine gx_goto (tgt := 89) C dX6_of_80 (by decide) ?_
            exact gx_iret C rfl rfl dX6_of_89 hw
        · replace hw := hw.2 c6
          by_cases c7 : x2 = (3 : Int32)
          · replace hw := hw.1 c7
            refine gx_table (tgt := 90) (off := 80) C dX6_of_10 (3 : Int32) c7 (by decide) (by decide) rfl (by decide) ?_
            refine gx_aload_n C dX6_of_90 0 rfl ?_
            refine gx_iload_n C dX6_of_91 1 rfl ?_
            refine gx_bipush (v := (13 : Int32)) C dX6_of_92 (by decide) ?_
            refine gx_iload_n C dX6_of_94 2 rfl ?_
            refine gx_iadd C dX6_of_95 ?_
            refine gx_iconst (v := (3 : Int32)) C dX6_of_96 (by decide) ?_
            refine gx_isub C dX6_of_97 ?_
            refine gx_vcalli (As := [.int x1, .int (((13 : Int32) + x2) - (3 : Int32))]) (rest := []) C (c_X6_lane _ _ hw) okg_18 rfl rfl bw_740 bw_742 bs_31 bw_7 bw_743 hy_X6_lane ⟨by decide, by decide⟩ rfl (Nat.le_of_ble_eq_true rfl) dX6_of_98 (fun r21 σ22 hw => ?_)
            exact gx_iret C rfl rfl dX6_of_101 hw
          · replace hw := hw.2 c7
            by_cases c8 : x2 = (4 : Int32)
            · replace hw := hw.1 c8
              refine gx_table (tgt := 90) (off := 80) C dX6_of_10 (4 : Int32) c8 (by decide) (by decide) rfl (by decide) ?_
              refine gx_aload_n C dX6_of_90 0 rfl ?_
              refine gx_iload_n C dX6_of_91 1 rfl ?_
              refine gx_bipush (v := (13 : Int32)) C dX6_of_92 (by decide) ?_
              refine gx_iload_n C dX6_of_94 2 rfl ?_
              refine gx_iadd C dX6_of_95 ?_
              refine gx_iconst (v := (3 : Int32)) C dX6_of_96 (by decide) ?_
              refine gx_isub C dX6_of_97 ?_
              refine gx_vcalli (As := [.int x1, .int (((13 : Int32) + x2) - (3 : Int32))]) (rest := []) C (c_X6_lane _ _ hw) okg_18 rfl rfl bw_740 bw_742 bs_31 bw_7 bw_743 hy_X6_lane ⟨by decide, by decide⟩ rfl (Nat.le_of_ble_eq_true rfl) dX6_of_98 (fun r23 σ24 hw => ?_)
              exact gx_iret C rfl rfl dX6_of_101 hw
            · replace hw := hw.2 c8
              by_cases c9 : x2 = (5 : Int32)
              · replace hw := hw.1 c9
                refine gx_table (tgt := 90) (off := 80) C dX6_of_10 (5 : Int32) c9 (by decide) (by decide) rfl (by decide) ?_
                refine gx_aload_n C dX6_of_90 0 rfl ?_
                refine gx_iload_n C dX6_of_91 1 rfl ?_
                refine gx_bipush (v := (13 : Int32)) C dX6_of_92 (by decide) ?_
                refine gx_iload_n C dX6_of_94 2 rfl ?_
                refine gx_iadd C dX6_of_95 ?_
                refine gx_iconst (v := (3 : Int32)) C dX6_of_96 (by decide) ?_
                refine gx_isub C dX6_of_97 ?_
                refine gx_vcalli (As := [.int x1, .int (((13 : Int32) + x2) - (3 : Int32))]) (rest := []) C (c_X6_lane _ _ hw) okg_18 rfl rfl bw_740 bw_742 bs_31 bw_7 bw_743 hy_X6_lane ⟨by decide, by decide⟩ rfl (Nat.le_of_ble_eq_true rfl) dX6_of_98 (fun r25 σ26 hw => ?_)
                exact gx_iret C rfl rfl dX6_of_101 hw
              · replace hw := hw.2 c9
                by_cases c10 : x2 = (6 : Int32)
                · replace hw := hw.1 c10
                  refine gx_table (tgt := 90) (off := 80) C dX6_of_10 (6 : Int32) c10 (by decide) (by decide) rfl (by decide) ?_
                  refine gx_aload_n C dX6_of_90 0 rfl ?_
                  refine gx_iload_n C dX6_of_91 1 rfl ?_
                  refine gx_bipush (v := (13 : Int32)) C dX6_of_92 (by decide) ?_
                  refine gx_iload_n C dX6_of_94 2 rfl ?_
                  refine gx_iadd C dX6_of_95 ?_
                  refine gx_iconst (v := (3 : Int32)) C dX6_of_96 (by decide) ?_
                  refine gx_isub C dX6_of_97 ?_
                  refine gx_vcalli (As := [.int x1, .int (((13 : Int32) + x2) - (3 : Int32))]) (rest := []) C (c_X6_lane _ _ hw) okg_18 rfl rfl bw_740 bw_742 bs_31 bw_7 bw_743 hy_X6_lane ⟨by decide, by decide⟩ rfl (Nat.le_of_ble_eq_true rfl) dX6_of_98 (fun r27 σ28 hw => ?_)
                  exact gx_iret C rfl rfl dX6_of_101 hw
                · replace hw := hw.2 c10
                  by_cases c11 : x2 = (7 : Int32)
                  · replace hw := hw.1 c11
                    refine gx_table (tgt := 102) (off := 92) C dX6_of_10 (7 : Int32) c11 (by decide) (by decide) rfl (by decide) ?_
                    refine gx_aload_n C dX6_of_102 0 rfl ?_
                    refine gx_iload_n C dX6_of_103 1 rfl ?_
                    refine gx_vcalli (As := [.int x1]) (rest := []) C (c_X6_reason _ _ hw) okg_18 rfl rfl bw_824 bw_826 bs_47 bw_7 bw_827 hy_X6_reason ⟨by decide, by decide⟩ rfl (Nat.le_of_ble_eq_true rfl) dX6_of_104 (fun r29 σ30 hw => ?_)
                    exact gx_iret C rfl rfl dX6_of_107 hw
                  · replace hw := hw.2 c11
                    refine gx_tableD (tgt := 108) C dX6_of_10 (by decide) [((46 : Int), (0 : Nat)), ((52 : Int), (1 : Nat)), ((59 : Int), (2 : Nat)), ((80 : Int), (3 : Nat)), ((80 : Int), (4 : Nat)), ((80 : Int), (5 : Nat)), ((80 : Int), (6 : Nat)), ((92 : Int), (7 : Nat))] rfl (List.forall_mem_cons.mpr ⟨Or.inr ⟨(0 : Int32), c4, by decide⟩, List.forall_mem_cons.mpr ⟨Or.inr ⟨(1 : Int32), c5, by decide⟩, List.forall_mem_cons.mpr ⟨Or.inr ⟨(2 : Int32), c6, by decide⟩, List.forall_mem_cons.mpr ⟨Or.inr ⟨(3 : Int32), c7, by decide⟩, List.forall_mem_cons.mpr ⟨Or.inr ⟨(4 : Int32), c8, by decide⟩, List.forall_mem_cons.mpr ⟨Or.inr ⟨(5 : Int32), c9, by decide⟩, List.forall_mem_cons.mpr ⟨Or.inr ⟨(6 : Int32), c10, by decide⟩, List.forall_mem_cons.mpr ⟨Or.inr ⟨(7 : Int32), c11, by decide⟩, fun _ h => absurd h List.not_mem_nil⟩⟩⟩⟩⟩⟩⟩⟩) (by decide) ?_
                    refine gx_bipush (v := (-2 : Int32)) C dX6_of_108 (by decide) ?_
                    exact gx_iret C rfl rfl dX6_of_110 hw
  · replace hw := hw.2 c3
    refine gx_iconst (v := (-1 : Int32)) C dX6_of_7 (by decide) ?_
    exact gx_iret C rfl rfl dX6_of_8 hw
theorem hy_X6_of : yX6_of.cls = "SweetWrapsModel" ∧ yX6_of.cls ≠ "java/lang/invoke/MethodHandle" ∧ yX6_of.cls ≠ "java/lang/invoke/VarHandle" ∧ (parseMethodDescriptor yX6_of.desc).map (fun d => d.parameters.length) = some 2 := by decide +kernel

theorem dX6_ofHeap_0 : decode cX6_ofHeap 0 = .ok (.iload_n 1, 1) := by decide +kernel
theorem dX6_ofHeap_1 : decode cX6_ofHeap 1 = .ok (.invokestatic 85, 3) := by decide +kernel
theorem dX6_ofHeap_4 : decode cX6_ofHeap 4 = .ok (.ifCond .eq 19, 3) := by decide +kernel
theorem dX6_ofHeap_7 : decode cX6_ofHeap 7 = .ok (.iload_n 2, 1) := by decide +kernel
theorem dX6_ofHeap_8 : decode cX6_ofHeap 8 = .ok (.iconst 0, 1) := by decide +kernel
theorem dX6_ofHeap_9 : decode cX6_ofHeap 9 = .ok (.aload_n 0, 1) := by decide +kernel
theorem dX6_ofHeap_10 : decode cX6_ofHeap 10 = .ok (.iload_n 1, 1) := by decide +kernel
theorem dX6_ofHeap_11 : decode cX6_ofHeap 11 = .ok (.iconst 0, 1) := by decide +kernel
theorem dX6_ofHeap_12 : decode cX6_ofHeap 12 = .ok (.invokevirtual 40, 3) := by decide +kernel
theorem dX6_ofHeap_15 : decode cX6_ofHeap 15 = .ok (.iconst 1, 1) := by decide +kernel
theorem dX6_ofHeap_16 : decode cX6_ofHeap 16 = .ok (.isub, 1) := by decide +kernel
theorem dX6_ofHeap_17 : decode cX6_ofHeap 17 = .ok (.invokestatic 36, 3) := by decide +kernel
theorem dX6_ofHeap_20 : decode cX6_ofHeap 20 = .ok (.ifCond .ne 5, 3) := by decide +kernel
theorem dX6_ofHeap_23 : decode cX6_ofHeap 23 = .ok (.iconst (-1), 1) := by decide +kernel
theorem dX6_ofHeap_24 : decode cX6_ofHeap 24 = .ok (.ireturn, 1) := by decide +kernel
theorem dX6_ofHeap_25 : decode cX6_ofHeap 25 = .ok (.iload_n 3, 1) := by decide +kernel
theorem dX6_ofHeap_26 : decode cX6_ofHeap 26 = .ok (.ifCond .ne 12, 3) := by decide +kernel
theorem dX6_ofHeap_29 : decode cX6_ofHeap 29 = .ok (.aload_n 0, 1) := by decide +kernel
theorem dX6_ofHeap_30 : decode cX6_ofHeap 30 = .ok (.iload_n 1, 1) := by decide +kernel
theorem dX6_ofHeap_31 : decode cX6_ofHeap 31 = .ok (.iload_n 2, 1) := by decide +kernel
theorem dX6_ofHeap_32 : decode cX6_ofHeap 32 = .ok (.invokevirtual 65, 3) := by decide +kernel
theorem dX6_ofHeap_35 : decode cX6_ofHeap 35 = .ok (.goto 19, 3) := by decide +kernel
theorem dX6_ofHeap_38 : decode cX6_ofHeap 38 = .ok (.iload_n 3, 1) := by decide +kernel
theorem dX6_ofHeap_39 : decode cX6_ofHeap 39 = .ok (.iconst 1, 1) := by decide +kernel
theorem dX6_ofHeap_40 : decode cX6_ofHeap 40 = .ok (.if_icmp .ne 12, 3) := by decide +kernel
theorem dX6_ofHeap_43 : decode cX6_ofHeap 43 = .ok (.aload_n 0, 1) := by decide +kernel
theorem dX6_ofHeap_44 : decode cX6_ofHeap 44 = .ok (.iload_n 1, 1) := by decide +kernel
theorem dX6_ofHeap_45 : decode cX6_ofHeap 45 = .ok (.iload_n 2, 1) := by decide +kernel
theorem dX6_ofHeap_46 : decode cX6_ofHeap 46 = .ok (.invokevirtual 44, 3) := by decide +kernel
theorem dX6_ofHeap_49 : decode cX6_ofHeap 49 = .ok (.goto 5, 3) := by decide +kernel
theorem dX6_ofHeap_52 : decode cX6_ofHeap 52 = .ok (.bipush (-2), 2) := by decide +kernel
theorem dX6_ofHeap_54 : decode cX6_ofHeap 54 = .ok (.ireturn, 1) := by decide +kernel
def wp_X6_ofHeap (x1 : Int32) (x2 : Int32) (x3 : Int32) (σ : Sg) (Q : Int32 → Sg → Prop) : Prop := wp_X6_isLane x1 σ (fun r1 σ2 => ((r1 = 0 → Q (-1 : Int32) σ2) ∧ (¬ r1 = 0 → wp_X6_lane x1 (0 : Int32) σ2 (fun r4 σ5 => wp_X6_in x2 (0 : Int32) (r4 - (1 : Int32)) σ5 (fun r6 σ7 => ((¬ r6 = 0 → ((¬ x3 = 0 → ((¬ x3 = (1 : Int32) → Q (-2 : Int32) σ7) ∧ (x3 = (1 : Int32) → wp_X6_heapMany x1 x2 σ7 (fun r11 σ12 => Q r11 σ12)))) ∧ (x3 = 0 → wp_X6_heapFlavour x1 x2 σ7 (fun r13 σ14 => Q r13 σ14)))) ∧ (r6 = 0 → Q (-1 : Int32) σ7)))))))
set_option maxRecDepth 100000 in
set_option maxHeartbeats 4000000 in
theorem c_X6_ofHeap (l : Launch) (E : Ev) {x1 : Int32} {x2 : Int32} {x3 : Int32} {σ : Sg} {Q : Int32 → Sg → Prop} (hw : wp_X6_ofHeap x1 x2 x3 σ Q) : CT l E yX6_ofHeap cX6_ofHeap 4 (some .int) 2 44 [.ref (ad E 12 18 0), .int x1, .int x2, .int x3] σ (QI E Q) := by
  refine CT_of (by decide) (Nat.le_of_ble_eq_true rfl) (fun X h1 h2 C => ?_)
  subst h1; subst h2
  have C : Cx X cX6_ofHeap "SweetWrapsModel" (some .int) 2 44 4 (QI (tE X) Q) := C
  show G X σ [(0, .ref (ad (tE X) 12 18 0)), (1, .int x1), (2, .int x2), (3, .int x3)] [] 0
  unfold wp_X6_ofHeap at hw
  refine gx_iload_n C dX6_ofHeap_0 1 rfl ?_
  refine gx_scalli (As := [.int x1]) (rest := []) C (c_X6_isLane _ _ hw) bw_730 bw_731 bw_7 bw_732 hyS_X6_isLane ⟨by decide, by decide⟩ rfl (Nat.le_of_ble_eq_true rfl) dX6_ofHeap_1 (fun r1 σ2 hw => ?_)
  refine gx_if_eq (tgt := 23) C dX6_ofHeap_4 (by decide) (fun c3 => ?_) (fun c3 => ?_)
  · replace hw := hw.1 c3
    refine gx_iconst (v := (-1 : Int32)) C dX6_ofHeap_23 (by decide) ?_
    exact gx_iret C rfl rfl dX6_ofHeap_24 hw
  · replace hw := hw.2 c3
    refine gx_iload_n C dX6_ofHeap_7 2 rfl ?_
    refine gx_iconst (v := (0 : Int32)) C dX6_ofHeap_8 (by decide) ?_
    refine gx_aload_n C dX6_ofHeap_9 0 rfl ?_
    refine gx_iload_n C dX6_ofHeap_10 1 rfl ?_
    refine gx_iconst (v := (0 : Int32)) C dX6_ofHeap_11 (by decide) ?_
    refine gx_vcalli (As := [.int x1, .int (0 : Int32)]) (rest := [.int (0 : Int32), .int x2]) C (c_X6_lane _ _ hw) okg_18 rfl rfl bw_740 bw_742 bs_31 bw_7 bw_743 hy_X6_lane ⟨by decide, by decide⟩ rfl (Nat.le_of_ble_eq_true rfl) dX6_ofHeap_12 (fun r4 σ5 hw => ?_)
    refine gx_iconst (v := (1 : Int32)) C dX6_ofHeap_15 (by decide) ?_
    refine gx_isub C dX6_ofHeap_16 ?_
    refine gx_scalli (As := [.int x2, .int (0 : Int32), .int (r4 - (1 : Int32))]) (rest := []) C (c_X6_in _ _ hw) bw_711 bw_712 bw_7 bw_713 hyS_X6_in ⟨by decide, by decide⟩ rfl (Nat.le_of_ble_eq_true rfl) dX6_ofHeap_17 (fun r6 σ7 hw => ?_)
    refine gx_if_ne (tgt := 25) C dX6_ofHeap_20 (by decide) (fun c8 => ?_) (fun c8 => ?_)
    · replace hw := hw.1 c8
      refine gx_iload_n C dX6_ofHeap_25 3 rfl ?_
      refine gx_if_ne (tgt := 38) C dX6_ofHeap_26 (by decide) (fun c9 => ?_) (fun c9 => ?_)
      · replace hw := hw.1 c9
        refine gx_iload_n C dX6_ofHeap_38 3 rfl ?_
        refine gx_iconst (v := (1 : Int32)) C dX6_ofHeap_39 (by decide) ?_
        refine gx_icmp_ne (tgt := 52) C dX6_ofHeap_40 (by decide) (fun c10 => ?_) (fun c10 => ?_)
        · replace hw := hw.1 c10
          refine gx_bipush (v := (-2 : Int32)) C dX6_ofHeap_52 (by decide) ?_
          exact gx_iret C rfl rfl dX6_ofHeap_54 hw
        · replace hw := hw.2 c10
          refine gx_aload_n C dX6_ofHeap_43 0 rfl ?_
          refine gx_iload_n C dX6_ofHeap_44 1 rfl ?_
          refine gx_iload_n C dX6_ofHeap_45 2 rfl ?_
          refine gx_vcalli (As := [.int x1, .int x2]) (rest := []) C (c_X6_heapMany _ _ hw) okg_18 rfl rfl bw_748 bw_750 bs_33 bw_7 bw_751 hy_X6_heapMany ⟨by decide, by decide⟩ rfl (Nat.le_of_ble_eq_true rfl) dX6_ofHeap_46 (fun r11 σ12 hw => ?_)
          refine gx_goto (tgt := 54) C dX6_ofHeap_49 (by decide) ?_
          exact gx_iret C rfl rfl dX6_ofHeap_54 hw
      · replace hw := hw.2 c9
        refine gx_aload_n C dX6_ofHeap_29 0 rfl ?_
        refine gx_iload_n C dX6_ofHeap_30 1 rfl ?_
        refine gx_iload_n C dX6_ofHeap_31 2 rfl ?_
        refine gx_vcalli (As := [.int x1, .int x2]) (rest := []) C (c_X6_heapFlavour _ _ hw) okg_18 rfl rfl bw_736 bw_738 bs_30 bw_7 bw_739 hy_X6_heapFlavour ⟨by decide, by decide⟩ rfl (Nat.le_of_ble_eq_true rfl) dX6_ofHeap_32 (fun r13 σ14 hw => ?_)
        refine gx_goto (tgt := 54) C dX6_ofHeap_35 (by decide) ?_
        exact gx_iret C rfl rfl dX6_ofHeap_54 hw
    · replace hw := hw.2 c8
      refine gx_iconst (v := (-1 : Int32)) C dX6_ofHeap_23 (by decide) ?_
      exact gx_iret C rfl rfl dX6_ofHeap_24 hw
theorem hy_X6_ofHeap : yX6_ofHeap.cls = "SweetWrapsModel" ∧ yX6_ofHeap.cls ≠ "java/lang/invoke/MethodHandle" ∧ yX6_ofHeap.cls ≠ "java/lang/invoke/VarHandle" ∧ (parseMethodDescriptor yX6_ofHeap.desc).map (fun d => d.parameters.length) = some 3 := by decide +kernel

theorem dX6_taken_0 : decode cX6_taken 0 = .ok (.iconst 0, 1) := by decide +kernel
theorem dX6_taken_1 : decode cX6_taken 1 = .ok (.istore_n 2, 1) := by decide +kernel
theorem dX6_taken_2 : decode cX6_taken 2 = .ok (.iconst 0, 1) := by decide +kernel
theorem dX6_taken_3 : decode cX6_taken 3 = .ok (.istore_n 3, 1) := by decide +kernel
theorem dX6_taken_4 : decode cX6_taken 4 = .ok (.iload_n 3, 1) := by decide +kernel
theorem dX6_taken_5 : decode cX6_taken 5 = .ok (.bipush 6, 2) := by decide +kernel
theorem dX6_taken_7 : decode cX6_taken 7 = .ok (.if_icmp .ge 28, 3) := by decide +kernel
theorem dX6_taken_10 : decode cX6_taken 10 = .ok (.iload_n 2, 1) := by decide +kernel
theorem dX6_taken_11 : decode cX6_taken 11 = .ok (.aload_n 0, 1) := by decide +kernel
theorem dX6_taken_12 : decode cX6_taken 12 = .ok (.iload_n 1, 1) := by decide +kernel
theorem dX6_taken_13 : decode cX6_taken 13 = .ok (.iload_n 3, 1) := by decide +kernel
theorem dX6_taken_14 : decode cX6_taken 14 = .ok (.invokevirtual 61, 3) := by decide +kernel
theorem dX6_taken_17 : decode cX6_taken 17 = .ok (.ifCond .eq 9, 3) := by decide +kernel
theorem dX6_taken_20 : decode cX6_taken 20 = .ok (.iconst 1, 1) := by decide +kernel
theorem dX6_taken_21 : decode cX6_taken 21 = .ok (.iload_n 3, 1) := by decide +kernel
theorem dX6_taken_22 : decode cX6_taken 22 = .ok (.ishl, 1) := by decide +kernel
theorem dX6_taken_23 : decode cX6_taken 23 = .ok (.goto 4, 3) := by decide +kernel
theorem dX6_taken_26 : decode cX6_taken 26 = .ok (.iconst 0, 1) := by decide +kernel
theorem dX6_taken_27 : decode cX6_taken 27 = .ok (.ior, 1) := by decide +kernel
theorem dX6_taken_28 : decode cX6_taken 28 = .ok (.istore_n 2, 1) := by decide +kernel
theorem dX6_taken_29 : decode cX6_taken 29 = .ok (.iinc 3 1, 3) := by decide +kernel
theorem dX6_taken_32 : decode cX6_taken 32 = .ok (.goto (-28), 3) := by decide +kernel
theorem dX6_taken_35 : decode cX6_taken 35 = .ok (.iload_n 2, 1) := by decide +kernel
theorem dX6_taken_36 : decode cX6_taken 36 = .ok (.ireturn, 1) := by decide +kernel
def wp_X6_taken_b27 (x1 : Int32) (K4 : Int32 → Int32 → Sg → Prop) (Q : Int32 → Sg → Prop) (v3 : Int32) (s0 : Int32) (s1 : Int32) (σ : Sg) : Prop := ∀ z5 : Int32, z5 = (s1 ||| s0) → ∀ z6 : Int32, z6 = v3 + (1 : Int32) → K4 z5 z6 σ
set_option maxRecDepth 100000 in
set_option maxHeartbeats 4000000 in
theorem g_X6_taken_b27 {X : Tx} {Q : Int32 → Sg → Prop} (C : Cx X cX6_taken "SweetWrapsModel" (some .int) 3 67 4 (QI (tE X) Q)) {x1 : Int32} {K4 : Int32 → Int32 → Sg → Prop} (hK4 : ∀ (v2 : Int32) (v3 : Int32) (σ : Sg), K4 v2 v3 σ → G X σ [(0, .ref (ad (tE X) 12 18 0)), (1, .int x1), (2, .int v2), (3, .int v3)] [] 4) {v3 : Int32} {s0 : Int32} {s1 : Int32} {σ : Sg} (hw : wp_X6_taken_b27 x1 K4 Q v3 s0 s1 σ) : G X σ [(0, .ref (ad (tE X) 12 18 0)), (1, .int x1), (3, .int v3)] [.int s0, .int s1] 27 := by
  unfold wp_X6_taken_b27 at hw
  refine gx_ior C dX6_taken_27 ?_
  obtain ⟨z5, e_z5⟩ : ∃ z : Int32, z = (s1 ||| s0) := ⟨_, rfl⟩
  replace hw := hw z5 e_z5
  refine gx_top e_z5 ?_
  refine gx_istore_n (lv' := [(2, .int z5), (0, .ref (ad (tE X) 12 18 0)), (1, .int x1), (3, .int v3)]) C dX6_taken_28 (by decide) rfl ?_
  obtain ⟨z6, e_z6⟩ : ∃ z : Int32, z = v3 + (1 : Int32) := ⟨_, rfl⟩
  replace hw := hw z6 e_z6
  refine gx_iinc (v := z6) (lv' := [(3, .int z6), (2, .int z5), (0, .ref (ad (tE X) 12 18 0)), (1, .int x1)]) C dX6_taken_29 3 rfl (by rw [e_z6]; rfl) (by decide) rfl ?_
  refine gx_goto (tgt := 4) C dX6_taken_32 (by decide) ?_
  refine gx_sub (lv' := [(0, .ref (ad (tE X) 12 18 0)), (1, .int x1), (2, .int z5), (3, .int z6)]) [2, 3, 1, 0] rfl ?_
  exact hK4 _ _ _ hw
def st_X6_taken_L4 (x1 : Int32) (Q : Int32 → Sg → Prop) (K4 : Int32 → Int32 → Sg → Prop) (v2 : Int32) (v3 : Int32) (σ : Sg) : Prop := (((6 : Int32) ≤ v3 → Q v2 σ) ∧ (¬ (6 : Int32) ≤ v3 → wp_X6_takes x1 v3 σ (fun r2 σ3 => ((r2 = 0 → wp_X6_taken_b27 x1 K4 Q v3 (0 : Int32) v2 σ3) ∧ (¬ r2 = 0 → wp_X6_taken_b27 x1 K4 Q v3 ((1 : Int32) <<< (v3 &&& 31)) v2 σ3)))))
def wp_X6_taken_L4 (x1 : Int32) (Q : Int32 → Sg → Prop) (v2 : Int32) (v3 : Int32) (σ : Sg) : Prop := ∃ n : Nat, lpN (fun (K : Int32 × Int32 × Sg → Prop) (a : Int32 × Int32 × Sg) => st_X6_taken_L4 x1 Q (fun v2 v3 σ => K (v2, v3, σ)) (a.1) (a.2.1) (a.2.2)) n (v2, v3, σ)
set_option maxRecDepth 100000 in
set_option maxHeartbeats 4000000 in
theorem gs_X6_taken_L4 {X : Tx} {Q : Int32 → Sg → Prop} (C : Cx X cX6_taken "SweetWrapsModel" (some .int) 3 67 4 (QI (tE X) Q)) {x1 : Int32} {K4 : Int32 → Int32 → Sg → Prop} (hK4 : ∀ (v2 : Int32) (v3 : Int32) (σ : Sg), K4 v2 v3 σ → G X σ [(0, .ref (ad (tE X) 12 18 0)), (1, .int x1), (2, .int v2), (3, .int v3)] [] 4) {v2 : Int32} {v3 : Int32} {σ : Sg} (hw : st_X6_taken_L4 x1 Q K4 v2 v3 σ) : G X σ [(0, .ref (ad (tE X) 12 18 0)), (1, .int x1), (2, .int v2), (3, .int v3)] [] 4 := by
  unfold st_X6_taken_L4 at hw
  refine gx_iload_n C dX6_taken_4 3 rfl ?_
  refine gx_bipush (v := (6 : Int32)) C dX6_taken_5 (by decide) ?_
  refine gx_icmp_ge (tgt := 35) C dX6_taken_7 (by decide) (fun c1 => ?_) (fun c1 => ?_)
  · replace hw := hw.1 c1
    refine gx_iload_n C dX6_taken_35 2 rfl ?_
    exact gx_iret C rfl rfl dX6_taken_36 hw
  · replace hw := hw.2 c1
    refine gx_iload_n C dX6_taken_10 2 rfl ?_
    refine gx_aload_n C dX6_taken_11 0 rfl ?_
    refine gx_iload_n C dX6_taken_12 1 rfl ?_
    refine gx_iload_n C dX6_taken_13 3 rfl ?_
    refine gx_vcalli (As := [.int x1, .int v3]) (rest := [.int v2]) C (c_X6_takes _ _ hw) okg_18 rfl rfl bw_832 bw_834 bs_49 bw_7 bw_835 hy_X6_takes ⟨by decide, by decide⟩ rfl (Nat.le_of_ble_eq_true rfl) dX6_taken_14 (fun r2 σ3 hw => ?_)
    refine gx_if_eq (tgt := 26) C dX6_taken_17 (by decide) (fun c4 => ?_) (fun c4 => ?_)
    · replace hw := hw.1 c4
      refine gx_iconst (v := (0 : Int32)) C dX6_taken_26 (by decide) ?_
      refine gx_sub (lv' := [(0, .ref (ad (tE X) 12 18 0)), (1, .int x1), (3, .int v3)]) [0, 1, 3] rfl ?_
      exact g_X6_taken_b27 C hK4 hw
    · replace hw := hw.2 c4
      refine gx_iconst (v := (1 : Int32)) C dX6_taken_20 (by decide) ?_
      refine gx_iload_n C dX6_taken_21 3 rfl ?_
      refine gx_ishl C dX6_taken_22 ?_
      refine gx_goto (tgt := 27) C dX6_taken_23 (by decide) ?_
      refine gx_sub (lv' := [(0, .ref (ad (tE X) 12 18 0)), (1, .int x1), (3, .int v3)]) [0, 1, 3] rfl ?_
      exact g_X6_taken_b27 C hK4 hw
set_option maxRecDepth 100000 in
set_option maxHeartbeats 4000000 in
theorem g_X6_taken_L4 {X : Tx} {Q : Int32 → Sg → Prop} (C : Cx X cX6_taken "SweetWrapsModel" (some .int) 3 67 4 (QI (tE X) Q)) {x1 : Int32} {v2 : Int32} {v3 : Int32} {σ : Sg} (hw : wp_X6_taken_L4 x1 Q v2 v3 σ) : G X σ [(0, .ref (ad (tE X) 12 18 0)), (1, .int x1), (2, .int v2), (3, .int v3)] [] 4 := by
  obtain ⟨n, hw⟩ := hw
  exact lpN_G (P := (fun (a : Int32 × Int32 × Sg) => G X (a.2.2) [(0, .ref (ad (tE X) 12 18 0)), (1, .int x1), (2, .int (a.1)), (3, .int (a.2.1))] [] 4)) (fun K a hK h => gs_X6_taken_L4 C (fun v2 v3 σ h => hK (v2, v3, σ) h) h) n _ hw
def wp_X6_taken (x1 : Int32) (σ : Sg) (Q : Int32 → Sg → Prop) : Prop := wp_X6_taken_L4 x1 Q (0 : Int32) (0 : Int32) σ
set_option maxRecDepth 100000 in
set_option maxHeartbeats 4000000 in
theorem c_X6_taken (l : Launch) (E : Ev) {x1 : Int32} {σ : Sg} {Q : Int32 → Sg → Prop} (hw : wp_X6_taken x1 σ Q) : CT l E yX6_taken cX6_taken 4 (some .int) 3 67 [.ref (ad E 12 18 0), .int x1] σ (QI E Q) := by
  refine CT_of (by decide) (Nat.le_of_ble_eq_true rfl) (fun X h1 h2 C => ?_)
  subst h1; subst h2
  have C : Cx X cX6_taken "SweetWrapsModel" (some .int) 3 67 4 (QI (tE X) Q) := C
  show G X σ [(0, .ref (ad (tE X) 12 18 0)), (1, .int x1)] [] 0
  unfold wp_X6_taken at hw
  refine gx_iconst (v := (0 : Int32)) C dX6_taken_0 (by decide) ?_
  refine gx_istore_n (lv' := [(2, .int (0 : Int32)), (0, .ref (ad (tE X) 12 18 0)), (1, .int x1)]) C dX6_taken_1 (by decide) rfl ?_
  refine gx_iconst (v := (0 : Int32)) C dX6_taken_2 (by decide) ?_
  refine gx_istore_n (lv' := [(3, .int (0 : Int32)), (2, .int (0 : Int32)), (0, .ref (ad (tE X) 12 18 0)), (1, .int x1)]) C dX6_taken_3 (by decide) rfl ?_
  refine gx_sub (lv' := [(0, .ref (ad (tE X) 12 18 0)), (1, .int x1), (2, .int (0 : Int32)), (3, .int (0 : Int32))]) [2, 3, 1, 0] rfl ?_
  exact g_X6_taken_L4 C hw
theorem hy_X6_taken : yX6_taken.cls = "SweetWrapsModel" ∧ yX6_taken.cls ≠ "java/lang/invoke/MethodHandle" ∧ yX6_taken.cls ≠ "java/lang/invoke/VarHandle" ∧ (parseMethodDescriptor yX6_taken.desc).map (fun d => d.parameters.length) = some 1 := by decide +kernel

theorem dX6_ofTin_0 : decode cX6_ofTin 0 = .ok (.iload_n 1, 1) := by decide +kernel
theorem dX6_ofTin_1 : decode cX6_ofTin 1 = .ok (.iconst 0, 1) := by decide +kernel
theorem dX6_ofTin_2 : decode cX6_ofTin 2 = .ok (.aload_n 0, 1) := by decide +kernel
theorem dX6_ofTin_3 : decode cX6_ofTin 3 = .ok (.getfield 7, 3) := by decide +kernel
theorem dX6_ofTin_6 : decode cX6_ofTin 6 = .ok (.bipush 72, 2) := by decide +kernel
theorem dX6_ofTin_8 : decode cX6_ofTin 8 = .ok (.iaload, 1) := by decide +kernel
theorem dX6_ofTin_9 : decode cX6_ofTin 9 = .ok (.iconst 1, 1) := by decide +kernel
theorem dX6_ofTin_10 : decode cX6_ofTin 10 = .ok (.isub, 1) := by decide +kernel
theorem dX6_ofTin_11 : decode cX6_ofTin 11 = .ok (.invokestatic 36, 3) := by decide +kernel
theorem dX6_ofTin_14 : decode cX6_ofTin 14 = .ok (.ifCond .ne 5, 3) := by decide +kernel
theorem dX6_ofTin_17 : decode cX6_ofTin 17 = .ok (.iconst (-1), 1) := by decide +kernel
theorem dX6_ofTin_18 : decode cX6_ofTin 18 = .ok (.ireturn, 1) := by decide +kernel
theorem dX6_ofTin_19 : decode cX6_ofTin 19 = .ok (.iload_n 2, 1) := by decide +kernel
theorem dX6_ofTin_20 : decode cX6_ofTin 20 = .ok (.ifCond .ne 11, 3) := by decide +kernel
theorem dX6_ofTin_23 : decode cX6_ofTin 23 = .ok (.aload_n 0, 1) := by decide +kernel
theorem dX6_ofTin_24 : decode cX6_ofTin 24 = .ok (.iload_n 1, 1) := by decide +kernel
theorem dX6_ofTin_25 : decode cX6_ofTin 25 = .ok (.invokevirtual 54, 3) := by decide +kernel
theorem dX6_ofTin_28 : decode cX6_ofTin 28 = .ok (.goto 51, 3) := by decide +kernel
theorem dX6_ofTin_31 : decode cX6_ofTin 31 = .ok (.iload_n 2, 1) := by decide +kernel
theorem dX6_ofTin_32 : decode cX6_ofTin 32 = .ok (.iconst 1, 1) := by decide +kernel
theorem dX6_ofTin_33 : decode cX6_ofTin 33 = .ok (.if_icmp .ne 18, 3) := by decide +kernel
theorem dX6_ofTin_36 : decode cX6_ofTin 36 = .ok (.aload_n 0, 1) := by decide +kernel
theorem dX6_ofTin_37 : decode cX6_ofTin 37 = .ok (.getfield 7, 3) := by decide +kernel
theorem dX6_ofTin_40 : decode cX6_ofTin 40 = .ok (.bipush 73, 2) := by decide +kernel
theorem dX6_ofTin_42 : decode cX6_ofTin 42 = .ok (.bipush 7, 2) := by decide +kernel
theorem dX6_ofTin_44 : decode cX6_ofTin 44 = .ok (.iload_n 1, 1) := by decide +kernel
theorem dX6_ofTin_45 : decode cX6_ofTin 45 = .ok (.imul, 1) := by decide +kernel
theorem dX6_ofTin_46 : decode cX6_ofTin 46 = .ok (.iadd, 1) := by decide +kernel
theorem dX6_ofTin_47 : decode cX6_ofTin 47 = .ok (.iaload, 1) := by decide +kernel
theorem dX6_ofTin_48 : decode cX6_ofTin 48 = .ok (.goto 31, 3) := by decide +kernel
theorem dX6_ofTin_51 : decode cX6_ofTin 51 = .ok (.iload_n 2, 1) := by decide +kernel
theorem dX6_ofTin_52 : decode cX6_ofTin 52 = .ok (.iconst 2, 1) := by decide +kernel
theorem dX6_ofTin_53 : decode cX6_ofTin 53 = .ok (.if_icmp .ne 11, 3) := by decide +kernel
theorem dX6_ofTin_56 : decode cX6_ofTin 56 = .ok (.aload_n 0, 1) := by decide +kernel
theorem dX6_ofTin_57 : decode cX6_ofTin 57 = .ok (.iload_n 1, 1) := by decide +kernel
theorem dX6_ofTin_58 : decode cX6_ofTin 58 = .ok (.invokevirtual 58, 3) := by decide +kernel
theorem dX6_ofTin_61 : decode cX6_ofTin 61 = .ok (.goto 18, 3) := by decide +kernel
theorem dX6_ofTin_64 : decode cX6_ofTin 64 = .ok (.iload_n 2, 1) := by decide +kernel
theorem dX6_ofTin_65 : decode cX6_ofTin 65 = .ok (.iconst 3, 1) := by decide +kernel
theorem dX6_ofTin_66 : decode cX6_ofTin 66 = .ok (.if_icmp .ne 11, 3) := by decide +kernel
theorem dX6_ofTin_69 : decode cX6_ofTin 69 = .ok (.aload_n 0, 1) := by decide +kernel
theorem dX6_ofTin_70 : decode cX6_ofTin 70 = .ok (.iload_n 1, 1) := by decide +kernel
theorem dX6_ofTin_71 : decode cX6_ofTin 71 = .ok (.invokevirtual 132, 3) := by decide +kernel
theorem dX6_ofTin_74 : decode cX6_ofTin 74 = .ok (.goto 5, 3) := by decide +kernel
theorem dX6_ofTin_77 : decode cX6_ofTin 77 = .ok (.bipush (-2), 2) := by decide +kernel
theorem dX6_ofTin_79 : decode cX6_ofTin 79 = .ok (.ireturn, 1) := by decide +kernel
def wp_X6_ofTin (x1 : Int32) (x2 : Int32) (σ : Sg) (Q : Int32 → Sg → Prop) : Prop := wp_X6_in x1 (0 : Int32) ((σ 12 19 0 72) - (1 : Int32)) σ (fun r1 σ2 => ((¬ r1 = 0 → ((¬ x2 = 0 → ((¬ x2 = (1 : Int32) → ((¬ x2 = (2 : Int32) → ((¬ x2 = (3 : Int32) → Q (-2 : Int32) σ2) ∧ (x2 = (3 : Int32) → wp_X6_taken x1 σ2 (fun r8 σ9 => Q r8 σ9)))) ∧ (x2 = (2 : Int32) → wp_X6_flavoursOf x1 σ2 (fun r10 σ11 => Q r10 σ11)))) ∧ (x2 = (1 : Int32) → (vp_in ((73 : Int32) + ((7 : Int32) * x1)) 194 ∧ Q (σ2 12 19 0 ((73 : Int32) + ((7 : Int32) * x1)).toNatClampNeg) σ2)))) ∧ (x2 = 0 → wp_X6_sweets x1 σ2 (fun r12 σ13 => Q r12 σ13)))) ∧ (r1 = 0 → Q (-1 : Int32) σ2)))
set_option maxRecDepth 100000 in
set_option maxHeartbeats 4000000 in
theorem c_X6_ofTin (l : Launch) (E : Ev) {x1 : Int32} {x2 : Int32} {σ : Sg} {Q : Int32 → Sg → Prop} (hw : wp_X6_ofTin x1 x2 σ Q) : CT l E yX6_ofTin cX6_ofTin 3 (some .int) 4 90 [.ref (ad E 12 18 0), .int x1, .int x2] σ (QI E Q) := by
  refine CT_of (by decide) (Nat.le_of_ble_eq_true rfl) (fun X h1 h2 C => ?_)
  subst h1; subst h2
  have C : Cx X cX6_ofTin "SweetWrapsModel" (some .int) 4 90 3 (QI (tE X) Q) := C
  show G X σ [(0, .ref (ad (tE X) 12 18 0)), (1, .int x1), (2, .int x2)] [] 0
  unfold wp_X6_ofTin at hw
  refine gx_iload_n C dX6_ofTin_0 1 rfl ?_
  refine gx_iconst (v := (0 : Int32)) C dX6_ofTin_1 (by decide) ?_
  refine gx_aload_n C dX6_ofTin_2 0 rfl ?_
  refine gx_get C okg_18 rfl rfl inX6 (ref := "SweetWrapsModel") 0 (by decide) bw_673 rfl rfl dX6_ofTin_3 ?_
  refine gx_bipush (v := (72 : Int32)) C dX6_ofTin_6 (by decide) ?_
  refine gx_iald C okg_19 rfl (n := 194) (x := (72 : Int32)) (by unfold vp_in; decide) 72 (by decide) dX6_ofTin_8 ?_
  refine gx_iconst (v := (1 : Int32)) C dX6_ofTin_9 (by decide) ?_
  refine gx_isub C dX6_ofTin_10 ?_
  refine gx_scalli (As := [.int x1, .int (0 : Int32), .int ((σ 12 19 0 72) - (1 : Int32))]) (rest := []) C (c_X6_in _ _ hw) bw_711 bw_712 bw_7 bw_713 hyS_X6_in ⟨by decide, by decide⟩ rfl (Nat.le_of_ble_eq_true rfl) dX6_ofTin_11 (fun r1 σ2 hw => ?_)
  refine gx_if_ne (tgt := 19) C dX6_ofTin_14 (by decide) (fun c3 => ?_) (fun c3 => ?_)
  · replace hw := hw.1 c3
    refine gx_iload_n C dX6_ofTin_19 2 rfl ?_
    refine gx_if_ne (tgt := 31) C dX6_ofTin_20 (by decide) (fun c4 => ?_) (fun c4 => ?_)
    · replace hw := hw.1 c4
      refine gx_iload_n C dX6_ofTin_31 2 rfl ?_
      refine gx_iconst (v := (1 : Int32)) C dX6_ofTin_32 (by decide) ?_
      refine gx_icmp_ne (tgt := 51) C dX6_ofTin_33 (by decide) (fun c5 => ?_) (fun c5 => ?_)
      · replace hw := hw.1 c5
        refine gx_iload_n C dX6_ofTin_51 2 rfl ?_
        refine gx_iconst (v := (2 : Int32)) C dX6_ofTin_52 (by decide) ?_
        refine gx_icmp_ne (tgt := 64) C dX6_ofTin_53 (by decide) (fun c6 => ?_) (fun c6 => ?_)
        · replace hw := hw.1 c6
          refine gx_iload_n C dX6_ofTin_64 2 rfl ?_
          refine gx_iconst (v := (3 : Int32)) C dX6_ofTin_65 (by decide) ?_
          refine gx_icmp_ne (tgt := 77) C dX6_ofTin_66 (by decide) (fun c7 => ?_) (fun c7 => ?_)
          · replace hw := hw.1 c7
            refine gx_bipush (v := (-2 : Int32)) C dX6_ofTin_77 (by decide) ?_
            exact gx_iret C rfl rfl dX6_ofTin_79 hw
          · replace hw := hw.2 c7
            refine gx_aload_n C dX6_ofTin_69 0 rfl ?_
            refine gx_iload_n C dX6_ofTin_70 1 rfl ?_
            refine gx_vcalli (As := [.int x1]) (rest := []) C (c_X6_taken _ _ hw) okg_18 rfl rfl bw_860 bw_862 bs_53 bw_7 bw_863 hy_X6_taken ⟨by decide, by decide⟩ rfl (Nat.le_of_ble_eq_true rfl) dX6_ofTin_71 (fun r8 σ9 hw => ?_)
            refine gx_goto (tgt := 79) C dX6_ofTin_74 (by decide) ?_
            exact gx_iret C rfl rfl dX6_ofTin_79 hw
        · replace hw := hw.2 c6
          refine gx_aload_n C dX6_ofTin_56 0 rfl ?_
          refine gx_iload_n C dX6_ofTin_57 1 rfl ?_
          refine gx_vcalli (As := [.int x1]) (rest := []) C (c_X6_flavoursOf _ _ hw) okg_18 rfl rfl bw_836 bw_838 bs_50 bw_7 bw_839 hy_X6_flavoursOf ⟨by decide, by decide⟩ rfl (Nat.le_of_ble_eq_true rfl) dX6_ofTin_58 (fun r10 σ11 hw => ?_)
          refine gx_goto (tgt := 79) C dX6_ofTin_61 (by decide) ?_
          exact gx_iret C rfl rfl dX6_ofTin_79 hw
      · replace hw := hw.2 c5
        refine gx_aload_n C dX6_ofTin_36 0 rfl ?_
        refine gx_get C okg_18 rfl rfl inX6 (ref := "SweetWrapsModel") 0 (by decide) bw_673 rfl rfl dX6_ofTin_37 ?_
        refine gx_bipush (v := (73 : Int32)) C dX6_ofTin_40 (by decide) ?_
        refine gx_bipush (v := (7 : Int32)) C dX6_ofTin_42 (by decide) ?_
        refine gx_iload_n C dX6_ofTin_44 1 rfl ?_
        refine gx_imul C dX6_ofTin_45 ?_
        refine gx_iadd C dX6_ofTin_46 ?_
        refine gx_iald C okg_19 rfl hw.1 _ rfl dX6_ofTin_47 ?_
        replace hw := hw.2
        refine gx_goto (tgt := 79) C dX6_ofTin_48 (by decide) ?_
        exact gx_iret C rfl rfl dX6_ofTin_79 hw
    · replace hw := hw.2 c4
      refine gx_aload_n C dX6_ofTin_23 0 rfl ?_
      refine gx_iload_n C dX6_ofTin_24 1 rfl ?_
      refine gx_vcalli (As := [.int x1]) (rest := []) C (c_X6_sweets _ _ hw) okg_18 rfl rfl bw_784 bw_786 bs_39 bw_7 bw_787 hy_X6_sweets ⟨by decide, by decide⟩ rfl (Nat.le_of_ble_eq_true rfl) dX6_ofTin_25 (fun r12 σ13 hw => ?_)
      refine gx_goto (tgt := 79) C dX6_ofTin_28 (by decide) ?_
      exact gx_iret C rfl rfl dX6_ofTin_79 hw
  · replace hw := hw.2 c3
    refine gx_iconst (v := (-1 : Int32)) C dX6_ofTin_17 (by decide) ?_
    exact gx_iret C rfl rfl dX6_ofTin_18 hw
theorem hy_X6_ofTin : yX6_ofTin.cls = "SweetWrapsModel" ∧ yX6_ofTin.cls ≠ "java/lang/invoke/MethodHandle" ∧ yX6_ofTin.cls ≠ "java/lang/invoke/VarHandle" ∧ (parseMethodDescriptor yX6_ofTin.desc).map (fun d => d.parameters.length) = some 2 := by decide +kernel

theorem dX6_inTin_0 : decode cX6_inTin 0 = .ok (.iload_n 1, 1) := by decide +kernel
theorem dX6_inTin_1 : decode cX6_inTin 1 = .ok (.iconst 0, 1) := by decide +kernel
theorem dX6_inTin_2 : decode cX6_inTin 2 = .ok (.aload_n 0, 1) := by decide +kernel
theorem dX6_inTin_3 : decode cX6_inTin 3 = .ok (.getfield 7, 3) := by decide +kernel
theorem dX6_inTin_6 : decode cX6_inTin 6 = .ok (.bipush 72, 2) := by decide +kernel
theorem dX6_inTin_8 : decode cX6_inTin 8 = .ok (.iaload, 1) := by decide +kernel
theorem dX6_inTin_9 : decode cX6_inTin 9 = .ok (.iconst 1, 1) := by decide +kernel
theorem dX6_inTin_10 : decode cX6_inTin 10 = .ok (.isub, 1) := by decide +kernel
theorem dX6_inTin_11 : decode cX6_inTin 11 = .ok (.invokestatic 36, 3) := by decide +kernel
theorem dX6_inTin_14 : decode cX6_inTin 14 = .ok (.ifCond .eq 19, 3) := by decide +kernel
theorem dX6_inTin_17 : decode cX6_inTin 17 = .ok (.iload_n 2, 1) := by decide +kernel
theorem dX6_inTin_18 : decode cX6_inTin 18 = .ok (.invokestatic 88, 3) := by decide +kernel
theorem dX6_inTin_21 : decode cX6_inTin 21 = .ok (.ifCond .eq 12, 3) := by decide +kernel
theorem dX6_inTin_24 : decode cX6_inTin 24 = .ok (.aload_n 0, 1) := by decide +kernel
theorem dX6_inTin_25 : decode cX6_inTin 25 = .ok (.iload_n 1, 1) := by decide +kernel
theorem dX6_inTin_26 : decode cX6_inTin 26 = .ok (.iload_n 2, 1) := by decide +kernel
theorem dX6_inTin_27 : decode cX6_inTin 27 = .ok (.invokevirtual 47, 3) := by decide +kernel
theorem dX6_inTin_30 : decode cX6_inTin 30 = .ok (.goto 4, 3) := by decide +kernel
theorem dX6_inTin_33 : decode cX6_inTin 33 = .ok (.iconst (-1), 1) := by decide +kernel
theorem dX6_inTin_34 : decode cX6_inTin 34 = .ok (.ireturn, 1) := by decide +kernel
def wp_X6_inTin (x1 : Int32) (x2 : Int32) (σ : Sg) (Q : Int32 → Sg → Prop) : Prop := wp_X6_in x1 (0 : Int32) ((σ 12 19 0 72) - (1 : Int32)) σ (fun r1 σ2 => ((r1 = 0 → Q (-1 : Int32) σ2) ∧ (¬ r1 = 0 → wp_X6_isFlavour x2 σ2 (fun r4 σ5 => ((r4 = 0 → Q (-1 : Int32) σ5) ∧ (¬ r4 = 0 → wp_X6_inside x1 x2 σ5 (fun r7 σ8 => Q r7 σ8)))))))
set_option maxRecDepth 100000 in
set_option maxHeartbeats 4000000 in
theorem c_X6_inTin (l : Launch) (E : Ev) {x1 : Int32} {x2 : Int32} {σ : Sg} {Q : Int32 → Sg → Prop} (hw : wp_X6_inTin x1 x2 σ Q) : CT l E yX6_inTin cX6_inTin 3 (some .int) 2 42 [.ref (ad E 12 18 0), .int x1, .int x2] σ (QI E Q) := by
  refine CT_of (by decide) (Nat.le_of_ble_eq_true rfl) (fun X h1 h2 C => ?_)
  subst h1; subst h2
  have C : Cx X cX6_inTin "SweetWrapsModel" (some .int) 2 42 3 (QI (tE X) Q) := C
  show G X σ [(0, .ref (ad (tE X) 12 18 0)), (1, .int x1), (2, .int x2)] [] 0
  unfold wp_X6_inTin at hw
  refine gx_iload_n C dX6_inTin_0 1 rfl ?_
  refine gx_iconst (v := (0 : Int32)) C dX6_inTin_1 (by decide) ?_
  refine gx_aload_n C dX6_inTin_2 0 rfl ?_
  refine gx_get C okg_18 rfl rfl inX6 (ref := "SweetWrapsModel") 0 (by decide) bw_673 rfl rfl dX6_inTin_3 ?_
  refine gx_bipush (v := (72 : Int32)) C dX6_inTin_6 (by decide) ?_
  refine gx_iald C okg_19 rfl (n := 194) (x := (72 : Int32)) (by unfold vp_in; decide) 72 (by decide) dX6_inTin_8 ?_
  refine gx_iconst (v := (1 : Int32)) C dX6_inTin_9 (by decide) ?_
  refine gx_isub C dX6_inTin_10 ?_
  refine gx_scalli (As := [.int x1, .int (0 : Int32), .int ((σ 12 19 0 72) - (1 : Int32))]) (rest := []) C (c_X6_in _ _ hw) bw_711 bw_712 bw_7 bw_713 hyS_X6_in ⟨by decide, by decide⟩ rfl (Nat.le_of_ble_eq_true rfl) dX6_inTin_11 (fun r1 σ2 hw => ?_)
  refine gx_if_eq (tgt := 33) C dX6_inTin_14 (by decide) (fun c3 => ?_) (fun c3 => ?_)
  · replace hw := hw.1 c3
    refine gx_iconst (v := (-1 : Int32)) C dX6_inTin_33 (by decide) ?_
    exact gx_iret C rfl rfl dX6_inTin_34 hw
  · replace hw := hw.2 c3
    refine gx_iload_n C dX6_inTin_17 2 rfl ?_
    refine gx_scalli (As := [.int x2]) (rest := []) C (c_X6_isFlavour _ _ hw) bw_733 bw_734 bw_7 bw_735 hyS_X6_isFlavour ⟨by decide, by decide⟩ rfl (Nat.le_of_ble_eq_true rfl) dX6_inTin_18 (fun r4 σ5 hw => ?_)
    refine gx_if_eq (tgt := 33) C dX6_inTin_21 (by decide) (fun c6 => ?_) (fun c6 => ?_)
    · replace hw := hw.1 c6
      refine gx_iconst (v := (-1 : Int32)) C dX6_inTin_33 (by decide) ?_
      exact gx_iret C rfl rfl dX6_inTin_34 hw
    · replace hw := hw.2 c6
      refine gx_aload_n C dX6_inTin_24 0 rfl ?_
      refine gx_iload_n C dX6_inTin_25 1 rfl ?_
      refine gx_iload_n C dX6_inTin_26 2 rfl ?_
      refine gx_vcalli (As := [.int x1, .int x2]) (rest := []) C (c_X6_inside _ _ hw) okg_18 rfl rfl bw_788 bw_790 bs_40 bw_7 bw_791 hy_X6_inside ⟨by decide, by decide⟩ rfl (Nat.le_of_ble_eq_true rfl) dX6_inTin_27 (fun r7 σ8 hw => ?_)
      refine gx_goto (tgt := 34) C dX6_inTin_30 (by decide) ?_
      exact gx_iret C rfl rfl dX6_inTin_34 hw
theorem hy_X6_inTin : yX6_inTin.cls = "SweetWrapsModel" ∧ yX6_inTin.cls ≠ "java/lang/invoke/MethodHandle" ∧ yX6_inTin.cls ≠ "java/lang/invoke/VarHandle" ∧ (parseMethodDescriptor yX6_inTin.desc).map (fun d => d.parameters.length) = some 2 := by decide +kernel

theorem dX6_inHoppers_0 : decode cX6_inHoppers 0 = .ok (.iconst 0, 1) := by decide +kernel
theorem dX6_inHoppers_1 : decode cX6_inHoppers 1 = .ok (.istore_n 2, 1) := by decide +kernel
theorem dX6_inHoppers_2 : decode cX6_inHoppers 2 = .ok (.iconst 0, 1) := by decide +kernel
theorem dX6_inHoppers_3 : decode cX6_inHoppers 3 = .ok (.istore_n 3, 1) := by decide +kernel
theorem dX6_inHoppers_4 : decode cX6_inHoppers 4 = .ok (.iload_n 3, 1) := by decide +kernel
theorem dX6_inHoppers_5 : decode cX6_inHoppers 5 = .ok (.iconst 4, 1) := by decide +kernel
theorem dX6_inHoppers_6 : decode cX6_inHoppers 6 = .ok (.if_icmp .ge 54, 3) := by decide +kernel
theorem dX6_inHoppers_9 : decode cX6_inHoppers 9 = .ok (.iconst 0, 1) := by decide +kernel
theorem dX6_inHoppers_10 : decode cX6_inHoppers 10 = .ok (.istore 4, 2) := by decide +kernel
theorem dX6_inHoppers_12 : decode cX6_inHoppers 12 = .ok (.iload 4, 2) := by decide +kernel
theorem dX6_inHoppers_14 : decode cX6_inHoppers 14 = .ok (.aload_n 0, 1) := by decide +kernel
theorem dX6_inHoppers_15 : decode cX6_inHoppers 15 = .ok (.iload_n 3, 1) := by decide +kernel
theorem dX6_inHoppers_16 : decode cX6_inHoppers 16 = .ok (.iconst 0, 1) := by decide +kernel
theorem dX6_inHoppers_17 : decode cX6_inHoppers 17 = .ok (.invokevirtual 40, 3) := by decide +kernel
theorem dX6_inHoppers_20 : decode cX6_inHoppers 20 = .ok (.if_icmp .ge 34, 3) := by decide +kernel
theorem dX6_inHoppers_23 : decode cX6_inHoppers 23 = .ok (.iload_n 2, 1) := by decide +kernel
theorem dX6_inHoppers_24 : decode cX6_inHoppers 24 = .ok (.aload_n 0, 1) := by decide +kernel
theorem dX6_inHoppers_25 : decode cX6_inHoppers 25 = .ok (.iload_n 3, 1) := by decide +kernel
theorem dX6_inHoppers_26 : decode cX6_inHoppers 26 = .ok (.iload 4, 2) := by decide +kernel
theorem dX6_inHoppers_28 : decode cX6_inHoppers 28 = .ok (.invokevirtual 65, 3) := by decide +kernel
theorem dX6_inHoppers_31 : decode cX6_inHoppers 31 = .ok (.iload_n 1, 1) := by decide +kernel
theorem dX6_inHoppers_32 : decode cX6_inHoppers 32 = .ok (.if_icmp .ne 13, 3) := by decide +kernel
theorem dX6_inHoppers_35 : decode cX6_inHoppers 35 = .ok (.aload_n 0, 1) := by decide +kernel
theorem dX6_inHoppers_36 : decode cX6_inHoppers 36 = .ok (.iload_n 3, 1) := by decide +kernel
theorem dX6_inHoppers_37 : decode cX6_inHoppers 37 = .ok (.iload 4, 2) := by decide +kernel
theorem dX6_inHoppers_39 : decode cX6_inHoppers 39 = .ok (.invokevirtual 44, 3) := by decide +kernel
theorem dX6_inHoppers_42 : decode cX6_inHoppers 42 = .ok (.goto 4, 3) := by decide +kernel
theorem dX6_inHoppers_45 : decode cX6_inHoppers 45 = .ok (.iconst 0, 1) := by decide +kernel
theorem dX6_inHoppers_46 : decode cX6_inHoppers 46 = .ok (.iadd, 1) := by decide +kernel
theorem dX6_inHoppers_47 : decode cX6_inHoppers 47 = .ok (.istore_n 2, 1) := by decide +kernel
theorem dX6_inHoppers_48 : decode cX6_inHoppers 48 = .ok (.iinc 4 1, 3) := by decide +kernel
theorem dX6_inHoppers_51 : decode cX6_inHoppers 51 = .ok (.goto (-39), 3) := by decide +kernel
theorem dX6_inHoppers_54 : decode cX6_inHoppers 54 = .ok (.iinc 3 1, 3) := by decide +kernel
theorem dX6_inHoppers_57 : decode cX6_inHoppers 57 = .ok (.goto (-53), 3) := by decide +kernel
theorem dX6_inHoppers_60 : decode cX6_inHoppers 60 = .ok (.iload_n 2, 1) := by decide +kernel
theorem dX6_inHoppers_61 : decode cX6_inHoppers 61 = .ok (.ireturn, 1) := by decide +kernel
def wp_X6_inHoppers_b46 (x1 : Int32) (K4 : Int32 → Int32 → Sg → Prop) (K12 : Int32 → Int32 → Int32 → Sg → Prop) (Q : Int32 → Sg → Prop) (v3 : Int32) (v4 : Int32) (s0 : Int32) (s1 : Int32) (σ : Sg) : Prop := ∀ z11 : Int32, z11 = (s1 + s0) → ∀ z12 : Int32, z12 = v4 + (1 : Int32) → K12 z11 v3 z12 σ
set_option maxRecDepth 100000 in
set_option maxHeartbeats 4000000 in
theorem g_X6_inHoppers_b46 {X : Tx} {Q : Int32 → Sg → Prop} (C : Cx X cX6_inHoppers "SweetWrapsModel" (some .int) 2 44 5 (QI (tE X) Q)) {x1 : Int32} {K4 : Int32 → Int32 → Sg → Prop} {K12 : Int32 → Int32 → Int32 → Sg → Prop} (hK4 : ∀ (v2 : Int32) (v3 : Int32) (σ : Sg), K4 v2 v3 σ → G X σ [(0, .ref (ad (tE X) 12 18 0)), (1, .int x1), (2, .int v2), (3, .int v3)] [] 4) (hK12 : ∀ (v2 : Int32) (v3 : Int32) (v4 : Int32) (σ : Sg), K12 v2 v3 v4 σ → G X σ [(0, .ref (ad (tE X) 12 18 0)), (1, .int x1), (2, .int v2), (3, .int v3), (4, .int v4)] [] 12) {v3 : Int32} {v4 : Int32} {s0 : Int32} {s1 : Int32} {σ : Sg} (hw : wp_X6_inHoppers_b46 x1 K4 K12 Q v3 v4 s0 s1 σ) : G X σ [(0, .ref (ad (tE X) 12 18 0)), (1, .int x1), (3, .int v3), (4, .int v4)] [.int s0, .int s1] 46 := by
  unfold wp_X6_inHoppers_b46 at hw
  refine gx_iadd C dX6_inHoppers_46 ?_
  obtain ⟨z11, e_z11⟩ : ∃ z : Int32, z = (s1 + s0) := ⟨_, rfl⟩
  replace hw := hw z11 e_z11
  refine gx_top e_z11 ?_
  refine gx_istore_n (lv' := [(2, .int z11), (0, .ref (ad (tE X) 12 18 0)), (1, .int x1), (3, .int v3), (4, .int v4)]) C dX6_inHoppers_47 (by decide) rfl ?_
  obtain ⟨z12, e_z12⟩ : ∃ z : Int32, z = v4 + (1 : Int32) := ⟨_, rfl⟩
  replace hw := hw z12 e_z12
  refine gx_iinc (v := z12) (lv' := [(4, .int z12), (2, .int z11), (0, .ref (ad (tE X) 12 18 0)), (1, .int x1), (3, .int v3)]) C dX6_inHoppers_48 4 rfl (by rw [e_z12]; rfl) (by decide) rfl ?_
  refine gx_goto (tgt := 12) C dX6_inHoppers_51 (by decide) ?_
  refine gx_sub (lv' := [(0, .ref (ad (tE X) 12 18 0)), (1, .int x1), (2, .int z11), (3, .int v3), (4, .int z12)]) [2, 3, 1, 4, 0] rfl ?_
  exact hK12 _ _ _ _ hw
def st_X6_inHoppers_L12 (x1 : Int32) (K4 : Int32 → Int32 → Sg → Prop) (Q : Int32 → Sg → Prop) (K12 : Int32 → Int32 → Int32 → Sg → Prop) (v2 : Int32) (v3 : Int32) (v4 : Int32) (σ : Sg) : Prop := wp_X6_lane v3 (0 : Int32) σ (fun r2 σ3 => ((r2 ≤ v4 → ∀ z5 : Int32, z5 = v3 + (1 : Int32) → K4 v2 z5 σ3) ∧ (¬ r2 ≤ v4 → wp_X6_heapFlavour v3 v4 σ3 (fun r6 σ7 => ((¬ r6 = x1 → wp_X6_inHoppers_b46 x1 K4 K12 Q v3 v4 (0 : Int32) v2 σ7) ∧ (r6 = x1 → wp_X6_heapMany v3 v4 σ7 (fun r9 σ10 => wp_X6_inHoppers_b46 x1 K4 K12 Q v3 v4 r9 v2 σ10)))))))
def wp_X6_inHoppers_L12 (x1 : Int32) (K4 : Int32 → Int32 → Sg → Prop) (Q : Int32 → Sg → Prop) (v2 : Int32) (v3 : Int32) (v4 : Int32) (σ : Sg) : Prop := ∃ n : Nat, lpN (fun (K : Int32 × Int32 × Int32 × Sg → Prop) (a : Int32 × Int32 × Int32 × Sg) => st_X6_inHoppers_L12 x1 K4 Q (fun v2 v3 v4 σ => K (v2, v3, v4, σ)) (a.1) (a.2.1) (a.2.2.1) (a.2.2.2)) n (v2, v3, v4, σ)
set_option maxRecDepth 100000 in
set_option maxHeartbeats 4000000 in
theorem gs_X6_inHoppers_L12 {X : Tx} {Q : Int32 → Sg → Prop} (C : Cx X cX6_inHoppers "SweetWrapsModel" (some .int) 2 44 5 (QI (tE X) Q)) {x1 : Int32} {K4 : Int32 → Int32 → Sg → Prop} (hK4 : ∀ (v2 : Int32) (v3 : Int32) (σ : Sg), K4 v2 v3 σ → G X σ [(0, .ref (ad (tE X) 12 18 0)), (1, .int x1), (2, .int v2), (3, .int v3)] [] 4) {K12 : Int32 → Int32 → Int32 → Sg → Prop} (hK12 : ∀ (v2 : Int32) (v3 : Int32) (v4 : Int32) (σ : Sg), K12 v2 v3 v4 σ → G X σ [(0, .ref (ad (tE X) 12 18 0)), (1, .int x1), (2, .int v2), (3, .int v3), (4, .int v4)] [] 12) {v2 : Int32} {v3 : Int32} {v4 : Int32} {σ : Sg} (hw : st_X6_inHoppers_L12 x1 K4 Q K12 v2 v3 v4 σ) : G X σ [(0, .ref (ad (tE X) 12 18 0)), (1, .int x1), (2, .int v2), (3, .int v3), (4, .int v4)] [] 12 := by
  unfold st_X6_inHoppers_L12 at hw
  refine gx_iload C dX6_inHoppers_12 4 rfl ?_
  refine gx_aload_n C dX6_inHoppers_14 0 rfl ?_
  refine gx_iload_n C dX6_inHoppers_15 3 rfl ?_
  refine gx_iconst (v := (0 : Int32)) C dX6_inHoppers_16 (by decide) ?_
  refine gx_vcalli (As := [.int v3, .int (0 : Int32)]) (rest := [.int v4]) C (c_X6_lane _ _ hw) okg_18 rfl rfl bw_740 bw_742 bs_31 bw_7 bw_743 hy_X6_lane ⟨by decide, by decide⟩ rfl (Nat.le_of_ble_eq_true rfl) dX6_inHoppers_17 (fun r2 σ3 hw => ?_)
  refine gx_icmp_ge (tgt := 54) C dX6_inHoppers_20 (by decide) (fun c4 => ?_) (fun c4 => ?_)
  · replace hw := hw.1 c4
    obtain ⟨z5, e_z5⟩ : ∃ z : Int32, z = v3 + (1 : Int32) := ⟨_, rfl⟩
    replace hw := hw z5 e_z5
    refine gx_iinc (v := z5) (lv' := [(3, .int z5), (0, .ref (ad (tE X) 12 18 0)), (1, .int x1), (2, .int v2), (4, .int v4)]) C dX6_inHoppers_54 3 rfl (by rw [e_z5]; rfl) (by decide) rfl ?_
    refine gx_goto (tgt := 4) C dX6_inHoppers_57 (by decide) ?_
    refine gx_sub (lv' := [(0, .ref (ad (tE X) 12 18 0)), (1, .int x1), (2, .int v2), (3, .int z5)]) [1, 2, 3, 0] rfl ?_
    exact hK4 _ _ _ hw
  · replace hw := hw.2 c4
    refine gx_iload_n C dX6_inHoppers_23 2 rfl ?_
    refine gx_aload_n C dX6_inHoppers_24 0 rfl ?_
    refine gx_iload_n C dX6_inHoppers_25 3 rfl ?_
    refine gx_iload C dX6_inHoppers_26 4 rfl ?_
    refine gx_vcalli (As := [.int v3, .int v4]) (rest := [.int v2]) C (c_X6_heapFlavour _ _ hw) okg_18 rfl rfl bw_736 bw_738 bs_30 bw_7 bw_739 hy_X6_heapFlavour ⟨by decide, by decide⟩ rfl (Nat.le_of_ble_eq_true rfl) dX6_inHoppers_28 (fun r6 σ7 hw => ?_)
    refine gx_iload_n C dX6_inHoppers_31 1 rfl ?_
    refine gx_icmp_ne (tgt := 45) C dX6_inHoppers_32 (by decide) (fun c8 => ?_) (fun c8 => ?_)
    · replace hw := hw.1 c8
      refine gx_iconst (v := (0 : Int32)) C dX6_inHoppers_45 (by decide) ?_
      refine gx_sub (lv' := [(0, .ref (ad (tE X) 12 18 0)), (1, .int x1), (3, .int v3), (4, .int v4)]) [0, 1, 3, 4] rfl ?_
      exact g_X6_inHoppers_b46 C hK4 hK12 hw
    · replace hw := hw.2 c8
      refine gx_aload_n C dX6_inHoppers_35 0 rfl ?_
      refine gx_iload_n C dX6_inHoppers_36 3 rfl ?_
      refine gx_iload C dX6_inHoppers_37 4 rfl ?_
      refine gx_vcalli (As := [.int v3, .int v4]) (rest := [.int v2]) C (c_X6_heapMany _ _ hw) okg_18 rfl rfl bw_748 bw_750 bs_33 bw_7 bw_751 hy_X6_heapMany ⟨by decide, by decide⟩ rfl (Nat.le_of_ble_eq_true rfl) dX6_inHoppers_39 (fun r9 σ10 hw => ?_)
      refine gx_goto (tgt := 46) C dX6_inHoppers_42 (by decide) ?_
      refine gx_sub (lv' := [(0, .ref (ad (tE X) 12 18 0)), (1, .int x1), (3, .int v3), (4, .int v4)]) [0, 1, 3, 4] rfl ?_
      exact g_X6_inHoppers_b46 C hK4 hK12 hw
set_option maxRecDepth 100000 in
set_option maxHeartbeats 4000000 in
theorem g_X6_inHoppers_L12 {X : Tx} {Q : Int32 → Sg → Prop} (C : Cx X cX6_inHoppers "SweetWrapsModel" (some .int) 2 44 5 (QI (tE X) Q)) {x1 : Int32} {K4 : Int32 → Int32 → Sg → Prop} (hK4 : ∀ (v2 : Int32) (v3 : Int32) (σ : Sg), K4 v2 v3 σ → G X σ [(0, .ref (ad (tE X) 12 18 0)), (1, .int x1), (2, .int v2), (3, .int v3)] [] 4) {v2 : Int32} {v3 : Int32} {v4 : Int32} {σ : Sg} (hw : wp_X6_inHoppers_L12 x1 K4 Q v2 v3 v4 σ) : G X σ [(0, .ref (ad (tE X) 12 18 0)), (1, .int x1), (2, .int v2), (3, .int v3), (4, .int v4)] [] 12 := by
  obtain ⟨n, hw⟩ := hw
  exact lpN_G (P := (fun (a : Int32 × Int32 × Int32 × Sg) => G X (a.2.2.2) [(0, .ref (ad (tE X) 12 18 0)), (1, .int x1), (2, .int (a.1)), (3, .int (a.2.1)), (4, .int (a.2.2.1))] [] 12)) (fun K a hK h => gs_X6_inHoppers_L12 C hK4 (fun v2 v3 v4 σ h => hK (v2, v3, v4, σ) h) h) n _ hw
def st_X6_inHoppers_L4 (x1 : Int32) (Q : Int32 → Sg → Prop) (K4 : Int32 → Int32 → Sg → Prop) (v2 : Int32) (v3 : Int32) (σ : Sg) : Prop := (((4 : Int32) ≤ v3 → Q v2 σ) ∧ (¬ (4 : Int32) ≤ v3 → wp_X6_inHoppers_L12 x1 K4 Q v2 v3 (0 : Int32) σ))
def wp_X6_inHoppers_L4 (x1 : Int32) (Q : Int32 → Sg → Prop) (v2 : Int32) (v3 : Int32) (σ : Sg) : Prop := ∃ n : Nat, lpN (fun (K : Int32 × Int32 × Sg → Prop) (a : Int32 × Int32 × Sg) => st_X6_inHoppers_L4 x1 Q (fun v2 v3 σ => K (v2, v3, σ)) (a.1) (a.2.1) (a.2.2)) n (v2, v3, σ)
set_option maxRecDepth 100000 in
set_option maxHeartbeats 4000000 in
theorem gs_X6_inHoppers_L4 {X : Tx} {Q : Int32 → Sg → Prop} (C : Cx X cX6_inHoppers "SweetWrapsModel" (some .int) 2 44 5 (QI (tE X) Q)) {x1 : Int32} {K4 : Int32 → Int32 → Sg → Prop} (hK4 : ∀ (v2 : Int32) (v3 : Int32) (σ : Sg), K4 v2 v3 σ → G X σ [(0, .ref (ad (tE X) 12 18 0)), (1, .int x1), (2, .int v2), (3, .int v3)] [] 4) {v2 : Int32} {v3 : Int32} {σ : Sg} (hw : st_X6_inHoppers_L4 x1 Q K4 v2 v3 σ) : G X σ [(0, .ref (ad (tE X) 12 18 0)), (1, .int x1), (2, .int v2), (3, .int v3)] [] 4 := by
  unfold st_X6_inHoppers_L4 at hw
  refine gx_iload_n C dX6_inHoppers_4 3 rfl ?_
  refine gx_iconst (v := (4 : Int32)) C dX6_inHoppers_5 (by decide) ?_
  refine gx_icmp_ge (tgt := 60) C dX6_inHoppers_6 (by decide) (fun c1 => ?_) (fun c1 => ?_)
  · replace hw := hw.1 c1
    refine gx_iload_n C dX6_inHoppers_60 2 rfl ?_
    exact gx_iret C rfl rfl dX6_inHoppers_61 hw
  · replace hw := hw.2 c1
    refine gx_iconst (v := (0 : Int32)) C dX6_inHoppers_9 (by decide) ?_
    refine gx_istore (lv' := [(4, .int (0 : Int32)), (0, .ref (ad (tE X) 12 18 0)), (1, .int x1), (2, .int v2), (3, .int v3)]) C dX6_inHoppers_10 (by decide) rfl ?_
    refine gx_sub (lv' := [(0, .ref (ad (tE X) 12 18 0)), (1, .int x1), (2, .int v2), (3, .int v3), (4, .int (0 : Int32))]) [1, 2, 3, 4, 0] rfl ?_
    exact g_X6_inHoppers_L12 C hK4 hw
set_option maxRecDepth 100000 in
set_option maxHeartbeats 4000000 in
theorem g_X6_inHoppers_L4 {X : Tx} {Q : Int32 → Sg → Prop} (C : Cx X cX6_inHoppers "SweetWrapsModel" (some .int) 2 44 5 (QI (tE X) Q)) {x1 : Int32} {v2 : Int32} {v3 : Int32} {σ : Sg} (hw : wp_X6_inHoppers_L4 x1 Q v2 v3 σ) : G X σ [(0, .ref (ad (tE X) 12 18 0)), (1, .int x1), (2, .int v2), (3, .int v3)] [] 4 := by
  obtain ⟨n, hw⟩ := hw
  exact lpN_G (P := (fun (a : Int32 × Int32 × Sg) => G X (a.2.2) [(0, .ref (ad (tE X) 12 18 0)), (1, .int x1), (2, .int (a.1)), (3, .int (a.2.1))] [] 4)) (fun K a hK h => gs_X6_inHoppers_L4 C (fun v2 v3 σ h => hK (v2, v3, σ) h) h) n _ hw
def wp_X6_inHoppers (x1 : Int32) (σ : Sg) (Q : Int32 → Sg → Prop) : Prop := wp_X6_inHoppers_L4 x1 Q (0 : Int32) (0 : Int32) σ
set_option maxRecDepth 100000 in
set_option maxHeartbeats 4000000 in
theorem c_X6_inHoppers (l : Launch) (E : Ev) {x1 : Int32} {σ : Sg} {Q : Int32 → Sg → Prop} (hw : wp_X6_inHoppers x1 σ Q) : CT l E yX6_inHoppers cX6_inHoppers 5 (some .int) 2 44 [.ref (ad E 12 18 0), .int x1] σ (QI E Q) := by
  refine CT_of (by decide) (Nat.le_of_ble_eq_true rfl) (fun X h1 h2 C => ?_)
  subst h1; subst h2
  have C : Cx X cX6_inHoppers "SweetWrapsModel" (some .int) 2 44 5 (QI (tE X) Q) := C
  show G X σ [(0, .ref (ad (tE X) 12 18 0)), (1, .int x1)] [] 0
  unfold wp_X6_inHoppers at hw
  refine gx_iconst (v := (0 : Int32)) C dX6_inHoppers_0 (by decide) ?_
  refine gx_istore_n (lv' := [(2, .int (0 : Int32)), (0, .ref (ad (tE X) 12 18 0)), (1, .int x1)]) C dX6_inHoppers_1 (by decide) rfl ?_
  refine gx_iconst (v := (0 : Int32)) C dX6_inHoppers_2 (by decide) ?_
  refine gx_istore_n (lv' := [(3, .int (0 : Int32)), (2, .int (0 : Int32)), (0, .ref (ad (tE X) 12 18 0)), (1, .int x1)]) C dX6_inHoppers_3 (by decide) rfl ?_
  refine gx_sub (lv' := [(0, .ref (ad (tE X) 12 18 0)), (1, .int x1), (2, .int (0 : Int32)), (3, .int (0 : Int32))]) [2, 3, 1, 0] rfl ?_
  exact g_X6_inHoppers_L4 C hw
theorem hy_X6_inHoppers : yX6_inHoppers.cls = "SweetWrapsModel" ∧ yX6_inHoppers.cls ≠ "java/lang/invoke/MethodHandle" ∧ yX6_inHoppers.cls ≠ "java/lang/invoke/VarHandle" ∧ (parseMethodDescriptor yX6_inHoppers.desc).map (fun d => d.parameters.length) = some 1 := by decide +kernel

theorem dX6_inTins_0 : decode cX6_inTins 0 = .ok (.iconst 0, 1) := by decide +kernel
theorem dX6_inTins_1 : decode cX6_inTins 1 = .ok (.istore_n 3, 1) := by decide +kernel
theorem dX6_inTins_2 : decode cX6_inTins 2 = .ok (.iconst 0, 1) := by decide +kernel
theorem dX6_inTins_3 : decode cX6_inTins 3 = .ok (.istore 4, 2) := by decide +kernel
theorem dX6_inTins_5 : decode cX6_inTins 5 = .ok (.iload 4, 2) := by decide +kernel
theorem dX6_inTins_7 : decode cX6_inTins 7 = .ok (.aload_n 0, 1) := by decide +kernel
theorem dX6_inTins_8 : decode cX6_inTins 8 = .ok (.getfield 7, 3) := by decide +kernel
theorem dX6_inTins_11 : decode cX6_inTins 11 = .ok (.bipush 72, 2) := by decide +kernel
theorem dX6_inTins_13 : decode cX6_inTins 13 = .ok (.iaload, 1) := by decide +kernel
theorem dX6_inTins_14 : decode cX6_inTins 14 = .ok (.if_icmp .ge 40, 3) := by decide +kernel
theorem dX6_inTins_17 : decode cX6_inTins 17 = .ok (.iload_n 3, 1) := by decide +kernel
theorem dX6_inTins_18 : decode cX6_inTins 18 = .ok (.aload_n 0, 1) := by decide +kernel
theorem dX6_inTins_19 : decode cX6_inTins 19 = .ok (.getfield 7, 3) := by decide +kernel
theorem dX6_inTins_22 : decode cX6_inTins 22 = .ok (.bipush 73, 2) := by decide +kernel
theorem dX6_inTins_24 : decode cX6_inTins 24 = .ok (.bipush 7, 2) := by decide +kernel
theorem dX6_inTins_26 : decode cX6_inTins 26 = .ok (.iload 4, 2) := by decide +kernel
theorem dX6_inTins_28 : decode cX6_inTins 28 = .ok (.imul, 1) := by decide +kernel
theorem dX6_inTins_29 : decode cX6_inTins 29 = .ok (.iadd, 1) := by decide +kernel
theorem dX6_inTins_30 : decode cX6_inTins 30 = .ok (.iaload, 1) := by decide +kernel
theorem dX6_inTins_31 : decode cX6_inTins 31 = .ok (.iload_n 2, 1) := by decide +kernel
theorem dX6_inTins_32 : decode cX6_inTins 32 = .ok (.if_icmp .ne 13, 3) := by decide +kernel
theorem dX6_inTins_35 : decode cX6_inTins 35 = .ok (.aload_n 0, 1) := by decide +kernel
theorem dX6_inTins_36 : decode cX6_inTins 36 = .ok (.iload 4, 2) := by decide +kernel
theorem dX6_inTins_38 : decode cX6_inTins 38 = .ok (.iload_n 1, 1) := by decide +kernel
theorem dX6_inTins_39 : decode cX6_inTins 39 = .ok (.invokevirtual 47, 3) := by decide +kernel
theorem dX6_inTins_42 : decode cX6_inTins 42 = .ok (.goto 4, 3) := by decide +kernel
theorem dX6_inTins_45 : decode cX6_inTins 45 = .ok (.iconst 0, 1) := by decide +kernel
theorem dX6_inTins_46 : decode cX6_inTins 46 = .ok (.iadd, 1) := by decide +kernel
theorem dX6_inTins_47 : decode cX6_inTins 47 = .ok (.istore_n 3, 1) := by decide +kernel
theorem dX6_inTins_48 : decode cX6_inTins 48 = .ok (.iinc 4 1, 3) := by decide +kernel
theorem dX6_inTins_51 : decode cX6_inTins 51 = .ok (.goto (-46), 3) := by decide +kernel
theorem dX6_inTins_54 : decode cX6_inTins 54 = .ok (.iload_n 3, 1) := by decide +kernel
theorem dX6_inTins_55 : decode cX6_inTins 55 = .ok (.ireturn, 1) := by decide +kernel
def wp_X6_inTins_b46 (x1 : Int32) (x2 : Int32) (K5 : Int32 → Int32 → Sg → Prop) (Q : Int32 → Sg → Prop) (v4 : Int32) (s0 : Int32) (s1 : Int32) (σ : Sg) : Prop := ∀ z5 : Int32, z5 = (s1 + s0) → ∀ z6 : Int32, z6 = v4 + (1 : Int32) → K5 z5 z6 σ
set_option maxRecDepth 100000 in
set_option maxHeartbeats 4000000 in
theorem g_X6_inTins_b46 {X : Tx} {Q : Int32 → Sg → Prop} (C : Cx X cX6_inTins "SweetWrapsModel" (some .int) 1 22 5 (QI (tE X) Q)) {x1 : Int32} {x2 : Int32} {K5 : Int32 → Int32 → Sg → Prop} (hK5 : ∀ (v3 : Int32) (v4 : Int32) (σ : Sg), K5 v3 v4 σ → G X σ [(0, .ref (ad (tE X) 12 18 0)), (1, .int x1), (2, .int x2), (3, .int v3), (4, .int v4)] [] 5) {v4 : Int32} {s0 : Int32} {s1 : Int32} {σ : Sg} (hw : wp_X6_inTins_b46 x1 x2 K5 Q v4 s0 s1 σ) : G X σ [(0, .ref (ad (tE X) 12 18 0)), (1, .int x1), (2, .int x2), (4, .int v4)] [.int s0, .int s1] 46 := by
  unfold wp_X6_inTins_b46 at hw
  refine gx_iadd C dX6_inTins_46 ?_
  obtain ⟨z5, e_z5⟩ : ∃ z : Int32, z = (s1 + s0) := ⟨_, rfl⟩
  replace hw := hw z5 e_z5
  refine gx_top e_z5 ?_
  refine gx_istore_n (lv' := [(3, .int z5), (0, .ref (ad (tE X) 12 18 0)), (1, .int x1), (2, .int x2), (4, .int v4)]) C dX6_inTins_47 (by decide) rfl ?_
  obtain ⟨z6, e_z6⟩ : ∃ z : Int32, z = v4 + (1 : Int32) := ⟨_, rfl⟩
  replace hw := hw z6 e_z6
  refine gx_iinc (v := z6) (lv' := [(4, .int z6), (3, .int z5), (0, .ref (ad (tE X) 12 18 0)), (1, .int x1), (2, .int x2)]) C dX6_inTins_48 4 rfl (by rw [e_z6]; rfl) (by decide) rfl ?_
  refine gx_goto (tgt := 5) C dX6_inTins_51 (by decide) ?_
  refine gx_sub (lv' := [(0, .ref (ad (tE X) 12 18 0)), (1, .int x1), (2, .int x2), (3, .int z5), (4, .int z6)]) [2, 3, 4, 1, 0] rfl ?_
  exact hK5 _ _ _ hw
def st_X6_inTins_L5 (x1 : Int32) (x2 : Int32) (Q : Int32 → Sg → Prop) (K5 : Int32 → Int32 → Sg → Prop) (v3 : Int32) (v4 : Int32) (σ : Sg) : Prop := (((σ 12 19 0 72) ≤ v4 → Q v3 σ) ∧ (¬ (σ 12 19 0 72) ≤ v4 → (vp_in ((73 : Int32) + ((7 : Int32) * v4)) 194 ∧ ((¬ (σ 12 19 0 ((73 : Int32) + ((7 : Int32) * v4)).toNatClampNeg) = x2 → wp_X6_inTins_b46 x1 x2 K5 Q v4 (0 : Int32) v3 σ) ∧ ((σ 12 19 0 ((73 : Int32) + ((7 : Int32) * v4)).toNatClampNeg) = x2 → wp_X6_inside v4 x1 σ (fun r3 σ4 => wp_X6_inTins_b46 x1 x2 K5 Q v4 r3 v3 σ4))))))
def wp_X6_inTins_L5 (x1 : Int32) (x2 : Int32) (Q : Int32 → Sg → Prop) (v3 : Int32) (v4 : Int32) (σ : Sg) : Prop := ∃ n : Nat, lpN (fun (K : Int32 × Int32 × Sg → Prop) (a : Int32 × Int32 × Sg) => st_X6_inTins_L5 x1 x2 Q (fun v3 v4 σ => K (v3, v4, σ)) (a.1) (a.2.1) (a.2.2)) n (v3, v4, σ)
set_option maxRecDepth 100000 in
set_option maxHeartbeats 4000000 in
theorem gs_X6_inTins_L5 {X : Tx} {Q : Int32 → Sg → Prop} (C : Cx X cX6_inTins "SweetWrapsModel" (some .int) 1 22 5 (QI (tE X) Q)) {x1 : Int32} {x2 : Int32} {K5 : Int32 → Int32 → Sg → Prop} (hK5 : ∀ (v3 : Int32) (v4 : Int32) (σ : Sg), K5 v3 v4 σ → G X σ [(0, .ref (ad (tE X) 12 18 0)), (1, .int x1), (2, .int x2), (3, .int v3), (4, .int v4)] [] 5) {v3 : Int32} {v4 : Int32} {σ : Sg} (hw : st_X6_inTins_L5 x1 x2 Q K5 v3 v4 σ) : G X σ [(0, .ref (ad (tE X) 12 18 0)), (1, .int x1), (2, .int x2), (3, .int v3), (4, .int v4)] [] 5 := by
  unfold st_X6_inTins_L5 at hw
  refine gx_iload C dX6_inTins_5 4 rfl ?_
  refine gx_aload_n C dX6_inTins_7 0 rfl ?_
  refine gx_get C okg_18 rfl rfl inX6 (ref := "SweetWrapsModel") 0 (by decide) bw_673 rfl rfl dX6_inTins_8 ?_
  refine gx_bipush (v := (72 : Int32)) C dX6_inTins_11 (by decide) ?_
  refine gx_iald C okg_19 rfl (n := 194) (x := (72 : Int32)) (by unfold vp_in; decide) 72 (by decide) dX6_inTins_13 ?_
  refine gx_icmp_ge (tgt := 54) C dX6_inTins_14 (by decide) (fun c1 => ?_) (fun c1 => ?_)
  · replace hw := hw.1 c1
    refine gx_iload_n C dX6_inTins_54 3 rfl ?_
    exact gx_iret C rfl rfl dX6_inTins_55 hw
  · replace hw := hw.2 c1
    refine gx_iload_n C dX6_inTins_17 3 rfl ?_
    refine gx_aload_n C dX6_inTins_18 0 rfl ?_
    refine gx_get C okg_18 rfl rfl inX6 (ref := "SweetWrapsModel") 0 (by decide) bw_673 rfl rfl dX6_inTins_19 ?_
    refine gx_bipush (v := (73 : Int32)) C dX6_inTins_22 (by decide) ?_
    refine gx_bipush (v := (7 : Int32)) C dX6_inTins_24 (by decide) ?_
    refine gx_iload C dX6_inTins_26 4 rfl ?_
    refine gx_imul C dX6_inTins_28 ?_
    refine gx_iadd C dX6_inTins_29 ?_
    refine gx_iald C okg_19 rfl hw.1 _ rfl dX6_inTins_30 ?_
    replace hw := hw.2
    refine gx_iload_n C dX6_inTins_31 2 rfl ?_
    refine gx_icmp_ne (tgt := 45) C dX6_inTins_32 (by decide) (fun c2 => ?_) (fun c2 => ?_)
    · replace hw := hw.1 c2
      refine gx_iconst (v := (0 : Int32)) C dX6_inTins_45 (by decide) ?_
      refine gx_sub (lv' := [(0, .ref (ad (tE X) 12 18 0)), (1, .int x1), (2, .int x2), (4, .int v4)]) [0, 1, 2, 4] rfl ?_
      exact g_X6_inTins_b46 C hK5 hw
    · replace hw := hw.2 c2
      refine gx_aload_n C dX6_inTins_35 0 rfl ?_
      refine gx_iload C dX6_inTins_36 4 rfl ?_
      refine gx_iload_n C dX6_inTins_38 1 rfl ?_
      refine gx_vcalli (As := [.int v4, .int x1]) (rest := [.int v3]) C (c_X6_inside _ _ hw) okg_18 rfl rfl bw_788 bw_790 bs_40 bw_7 bw_791 hy_X6_inside ⟨by decide, by decide⟩ rfl (Nat.le_of_ble_eq_true rfl) dX6_inTins_39 (fun r3 σ4 hw => ?_)
      refine gx_goto (tgt := 46) C dX6_inTins_42 (by decide) ?_
      refine gx_sub (lv' := [(0, .ref (ad (tE X) 12 18 0)), (1, .int x1), (2, .int x2), (4, .int v4)]) [0, 1, 2, 4] rfl ?_
      exact g_X6_inTins_b46 C hK5 hw
set_option maxRecDepth 100000 in
set_option maxHeartbeats 4000000 in
theorem g_X6_inTins_L5 {X : Tx} {Q : Int32 → Sg → Prop} (C : Cx X cX6_inTins "SweetWrapsModel" (some .int) 1 22 5 (QI (tE X) Q)) {x1 : Int32} {x2 : Int32} {v3 : Int32} {v4 : Int32} {σ : Sg} (hw : wp_X6_inTins_L5 x1 x2 Q v3 v4 σ) : G X σ [(0, .ref (ad (tE X) 12 18 0)), (1, .int x1), (2, .int x2), (3, .int v3), (4, .int v4)] [] 5 := by
  obtain ⟨n, hw⟩ := hw
  exact lpN_G (P := (fun (a : Int32 × Int32 × Sg) => G X (a.2.2) [(0, .ref (ad (tE X) 12 18 0)), (1, .int x1), (2, .int x2), (3, .int (a.1)), (4, .int (a.2.1))] [] 5)) (fun K a hK h => gs_X6_inTins_L5 C (fun v3 v4 σ h => hK (v3, v4, σ) h) h) n _ hw
def wp_X6_inTins (x1 : Int32) (x2 : Int32) (σ : Sg) (Q : Int32 → Sg → Prop) : Prop := wp_X6_inTins_L5 x1 x2 Q (0 : Int32) (0 : Int32) σ
set_option maxRecDepth 100000 in
set_option maxHeartbeats 4000000 in
theorem c_X6_inTins (l : Launch) (E : Ev) {x1 : Int32} {x2 : Int32} {σ : Sg} {Q : Int32 → Sg → Prop} (hw : wp_X6_inTins x1 x2 σ Q) : CT l E yX6_inTins cX6_inTins 5 (some .int) 1 22 [.ref (ad E 12 18 0), .int x1, .int x2] σ (QI E Q) := by
  refine CT_of (by decide) (Nat.le_of_ble_eq_true rfl) (fun X h1 h2 C => ?_)
  subst h1; subst h2
  have C : Cx X cX6_inTins "SweetWrapsModel" (some .int) 1 22 5 (QI (tE X) Q) := C
  show G X σ [(0, .ref (ad (tE X) 12 18 0)), (1, .int x1), (2, .int x2)] [] 0
  unfold wp_X6_inTins at hw
  refine gx_iconst (v := (0 : Int32)) C dX6_inTins_0 (by decide) ?_
  refine gx_istore_n (lv' := [(3, .int (0 : Int32)), (0, .ref (ad (tE X) 12 18 0)), (1, .int x1), (2, .int x2)]) C dX6_inTins_1 (by decide) rfl ?_
  refine gx_iconst (v := (0 : Int32)) C dX6_inTins_2 (by decide) ?_
  refine gx_istore (lv' := [(4, .int (0 : Int32)), (3, .int (0 : Int32)), (0, .ref (ad (tE X) 12 18 0)), (1, .int x1), (2, .int x2)]) C dX6_inTins_3 (by decide) rfl ?_
  refine gx_sub (lv' := [(0, .ref (ad (tE X) 12 18 0)), (1, .int x1), (2, .int x2), (3, .int (0 : Int32)), (4, .int (0 : Int32))]) [2, 3, 4, 1, 0] rfl ?_
  exact g_X6_inTins_L5 C hw
theorem hy_X6_inTins : yX6_inTins.cls = "SweetWrapsModel" ∧ yX6_inTins.cls ≠ "java/lang/invoke/MethodHandle" ∧ yX6_inTins.cls ≠ "java/lang/invoke/VarHandle" ∧ (parseMethodDescriptor yX6_inTins.desc).map (fun d => d.parameters.length) = some 2 := by decide +kernel

theorem dX6_flavour_0 : decode cX6_flavour 0 = .ok (.iload_n 1, 1) := by decide +kernel
theorem dX6_flavour_1 : decode cX6_flavour 1 = .ok (.invokestatic 88, 3) := by decide +kernel
theorem dX6_flavour_4 : decode cX6_flavour 4 = .ok (.ifCond .ne 5, 3) := by decide +kernel
theorem dX6_flavour_7 : decode cX6_flavour 7 = .ok (.iconst (-1), 1) := by decide +kernel
theorem dX6_flavour_8 : decode cX6_flavour 8 = .ok (.ireturn, 1) := by decide +kernel
theorem dX6_flavour_9 : decode cX6_flavour 9 = .ok (.iload_n 2, 1) := by decide +kernel
theorem dX6_flavour_10 : decode cX6_flavour 10 = .ok (.ifCond .ne 11, 3) := by decide +kernel
theorem dX6_flavour_13 : decode cX6_flavour 13 = .ok (.aload_n 0, 1) := by decide +kernel
theorem dX6_flavour_14 : decode cX6_flavour 14 = .ok (.iload_n 1, 1) := by decide +kernel
theorem dX6_flavour_15 : decode cX6_flavour 15 = .ok (.invokevirtual 135, 3) := by decide +kernel
theorem dX6_flavour_18 : decode cX6_flavour 18 = .ok (.goto 44, 3) := by decide +kernel
theorem dX6_flavour_21 : decode cX6_flavour 21 = .ok (.iload_n 2, 1) := by decide +kernel
theorem dX6_flavour_22 : decode cX6_flavour 22 = .ok (.iconst 1, 1) := by decide +kernel
theorem dX6_flavour_23 : decode cX6_flavour 23 = .ok (.if_icmp .eq 8, 3) := by decide +kernel
theorem dX6_flavour_26 : decode cX6_flavour 26 = .ok (.iload_n 2, 1) := by decide +kernel
theorem dX6_flavour_27 : decode cX6_flavour 27 = .ok (.iconst 2, 1) := by decide +kernel
theorem dX6_flavour_28 : decode cX6_flavour 28 = .ok (.if_icmp .ne 14, 3) := by decide +kernel
theorem dX6_flavour_31 : decode cX6_flavour 31 = .ok (.aload_n 0, 1) := by decide +kernel
theorem dX6_flavour_32 : decode cX6_flavour 32 = .ok (.iload_n 1, 1) := by decide +kernel
theorem dX6_flavour_33 : decode cX6_flavour 33 = .ok (.iload_n 2, 1) := by decide +kernel
theorem dX6_flavour_34 : decode cX6_flavour 34 = .ok (.iconst 1, 1) := by decide +kernel
theorem dX6_flavour_35 : decode cX6_flavour 35 = .ok (.isub, 1) := by decide +kernel
theorem dX6_flavour_36 : decode cX6_flavour 36 = .ok (.invokevirtual 138, 3) := by decide +kernel
theorem dX6_flavour_39 : decode cX6_flavour 39 = .ok (.goto 23, 3) := by decide +kernel
theorem dX6_flavour_42 : decode cX6_flavour 42 = .ok (.iload_n 2, 1) := by decide +kernel
theorem dX6_flavour_43 : decode cX6_flavour 43 = .ok (.iconst 3, 1) := by decide +kernel
theorem dX6_flavour_44 : decode cX6_flavour 44 = .ok (.if_icmp .ne 16, 3) := by decide +kernel
theorem dX6_flavour_47 : decode cX6_flavour 47 = .ok (.aload_n 0, 1) := by decide +kernel
theorem dX6_flavour_48 : decode cX6_flavour 48 = .ok (.getfield 7, 3) := by decide +kernel
theorem dX6_flavour_51 : decode cX6_flavour 51 = .ok (.sipush 185, 3) := by decide +kernel
theorem dX6_flavour_54 : decode cX6_flavour 54 = .ok (.iload_n 1, 1) := by decide +kernel
theorem dX6_flavour_55 : decode cX6_flavour 55 = .ok (.iadd, 1) := by decide +kernel
theorem dX6_flavour_56 : decode cX6_flavour 56 = .ok (.iaload, 1) := by decide +kernel
theorem dX6_flavour_57 : decode cX6_flavour 57 = .ok (.goto 5, 3) := by decide +kernel
theorem dX6_flavour_60 : decode cX6_flavour 60 = .ok (.bipush (-2), 2) := by decide +kernel
theorem dX6_flavour_62 : decode cX6_flavour 62 = .ok (.ireturn, 1) := by decide +kernel
def wp_X6_flavour_b31 (x1 : Int32) (x2 : Int32) (Q : Int32 → Sg → Prop) (σ : Sg) : Prop := wp_X6_inTins x1 (x2 - (1 : Int32)) σ (fun r10 σ11 => Q r10 σ11)
set_option maxRecDepth 100000 in
set_option maxHeartbeats 4000000 in
theorem g_X6_flavour_b31 {X : Tx} {Q : Int32 → Sg → Prop} (C : Cx X cX6_flavour "SweetWrapsModel" (some .int) 3 68 3 (QI (tE X) Q)) {x1 : Int32} {x2 : Int32} {σ : Sg} (hw : wp_X6_flavour_b31 x1 x2 Q σ) : G X σ [(0, .ref (ad (tE X) 12 18 0)), (1, .int x1), (2, .int x2)] [] 31 := by
  unfold wp_X6_flavour_b31 at hw
  refine gx_aload_n C dX6_flavour_31 0 rfl ?_
  refine gx_iload_n C dX6_flavour_32 1 rfl ?_
  refine gx_iload_n C dX6_flavour_33 2 rfl ?_
  refine gx_iconst (v := (1 : Int32)) C dX6_flavour_34 (by decide) ?_
  refine gx_isub C dX6_flavour_35 ?_
  refine gx_vcalli (As := [.int x1, .int (x2 - (1 : Int32))]) (rest := []) C (c_X6_inTins _ _ hw) okg_18 rfl rfl bw_876 bw_878 bs_55 bw_7 bw_879 hy_X6_inTins ⟨by decide, by decide⟩ rfl (Nat.le_of_ble_eq_true rfl) dX6_flavour_36 (fun r10 σ11 hw => ?_)
  refine gx_goto (tgt := 62) C dX6_flavour_39 (by decide) ?_
  exact gx_iret C rfl rfl dX6_flavour_62 hw
def wp_X6_flavour (x1 : Int32) (x2 : Int32) (σ : Sg) (Q : Int32 → Sg → Prop) : Prop := wp_X6_isFlavour x1 σ (fun r1 σ2 => ((¬ r1 = 0 → ((¬ x2 = 0 → ((x2 = (1 : Int32) → wp_X6_flavour_b31 x1 x2 Q σ2) ∧ (¬ x2 = (1 : Int32) → ((¬ x2 = (2 : Int32) → ((¬ x2 = (3 : Int32) → Q (-2 : Int32) σ2) ∧ (x2 = (3 : Int32) → (vp_in ((185 : Int32) + x1) 194 ∧ Q (σ2 12 19 0 ((185 : Int32) + x1).toNatClampNeg) σ2)))) ∧ (x2 = (2 : Int32) → wp_X6_flavour_b31 x1 x2 Q σ2))))) ∧ (x2 = 0 → wp_X6_inHoppers x1 σ2 (fun r8 σ9 => Q r8 σ9)))) ∧ (r1 = 0 → Q (-1 : Int32) σ2)))
set_option maxRecDepth 100000 in
set_option maxHeartbeats 4000000 in
theorem c_X6_flavour (l : Launch) (E : Ev) {x1 : Int32} {x2 : Int32} {σ : Sg} {Q : Int32 → Sg → Prop} (hw : wp_X6_flavour x1 x2 σ Q) : CT l E yX6_flavour cX6_flavour 3 (some .int) 3 68 [.ref (ad E 12 18 0), .int x1, .int x2] σ (QI E Q) := by
  refine CT_of (by decide) (Nat.le_of_ble_eq_true rfl) (fun X h1 h2 C => ?_)
  subst h1; subst h2
  have C : Cx X cX6_flavour "SweetWrapsModel" (some .int) 3 68 3 (QI (tE X) Q) := C
  show G X σ [(0, .ref (ad (tE X) 12 18 0)), (1, .int x1), (2, .int x2)] [] 0
  unfold wp_X6_flavour at hw
  refine gx_iload_n C dX6_flavour_0 1 rfl ?_
  refine gx_scalli (As := [.int x1]) (rest := []) C (c_X6_isFlavour _ _ hw) bw_733 bw_734 bw_7 bw_735 hyS_X6_isFlavour ⟨by decide, by decide⟩ rfl (Nat.le_of_ble_eq_true rfl) dX6_flavour_1 (fun r1 σ2 hw => ?_)
  refine gx_if_ne (tgt := 9) C dX6_flavour_4 (by decide) (fun c3 => ?_) (fun c3 => ?_)
  · replace hw := hw.1 c3
    refine gx_iload_n C dX6_flavour_9 2 rfl ?_
    refine gx_if_ne (tgt := 21) C dX6_flavour_10 (by decide) (fun c4 => ?_) (fun c4 => ?_)
    · replace hw := hw.1 c4
      refine gx_iload_n C dX6_flavour_21 2 rfl ?_
      refine gx_iconst (v := (1 : Int32)) C dX6_flavour_22 (by decide) ?_
      refine gx_icmp_eq (tgt := 31) C dX6_flavour_23 (by decide) (fun c5 => ?_) (fun c5 => ?_)
      · replace hw := hw.1 c5
        exact g_X6_flavour_b31 C hw
      · replace hw := hw.2 c5
        refine gx_iload_n C dX6_flavour_26 2 rfl ?_
        refine gx_iconst (v := (2 : Int32)) C dX6_flavour_27 (by decide) ?_
        refine gx_icmp_ne (tgt := 42) C dX6_flavour_28 (by decide) (fun c6 => ?_) (fun c6 => ?_)
        · replace hw := hw.1 c6
          refine gx_iload_n C dX6_flavour_42 2 rfl ?_
          refine gx_iconst (v := (3 : Int32)) C dX6_flavour_43 (by decide) ?_
          refine gx_icmp_ne (tgt := 60) C dX6_flavour_44 (by decide) (fun c7 => ?_) (fun c7 => ?_)
          · replace hw := hw.1 c7
            refine gx_bipush (v := (-2 : Int32)) C dX6_flavour_60 (by decide) ?_
            exact gx_iret C rfl rfl dX6_flavour_62 hw
          · replace hw := hw.2 c7
            refine gx_aload_n C dX6_flavour_47 0 rfl ?_
            refine gx_get C okg_18 rfl rfl inX6 (ref := "SweetWrapsModel") 0 (by decide) bw_673 rfl rfl dX6_flavour_48 ?_
            refine gx_sipush (v := (185 : Int32)) C dX6_flavour_51 (by decide) ?_
            refine gx_iload_n C dX6_flavour_54 1 rfl ?_
            refine gx_iadd C dX6_flavour_55 ?_
            refine gx_iald C okg_19 rfl hw.1 _ rfl dX6_flavour_56 ?_
            replace hw := hw.2
            refine gx_goto (tgt := 62) C dX6_flavour_57 (by decide) ?_
            exact gx_iret C rfl rfl dX6_flavour_62 hw
        · replace hw := hw.2 c6
          exact g_X6_flavour_b31 C hw
    · replace hw := hw.2 c4
      refine gx_aload_n C dX6_flavour_13 0 rfl ?_
      refine gx_iload_n C dX6_flavour_14 1 rfl ?_
      refine gx_vcalli (As := [.int x1]) (rest := []) C (c_X6_inHoppers _ _ hw) okg_18 rfl rfl bw_872 bw_874 bs_54 bw_7 bw_875 hy_X6_inHoppers ⟨by decide, by decide⟩ rfl (Nat.le_of_ble_eq_true rfl) dX6_flavour_15 (fun r8 σ9 hw => ?_)
      refine gx_goto (tgt := 62) C dX6_flavour_18 (by decide) ?_
      exact gx_iret C rfl rfl dX6_flavour_62 hw
  · replace hw := hw.2 c3
    refine gx_iconst (v := (-1 : Int32)) C dX6_flavour_7 (by decide) ?_
    exact gx_iret C rfl rfl dX6_flavour_8 hw
theorem hy_X6_flavour : yX6_flavour.cls = "SweetWrapsModel" ∧ yX6_flavour.cls ≠ "java/lang/invoke/MethodHandle" ∧ yX6_flavour.cls ≠ "java/lang/invoke/VarHandle" ∧ (parseMethodDescriptor yX6_flavour.desc).map (fun d => d.parameters.length) = some 2 := by decide +kernel

theorem dX6_byRoom_0 : decode cX6_byRoom 0 = .ok (.iconst 0, 1) := by decide +kernel
theorem dX6_byRoom_1 : decode cX6_byRoom 1 = .ok (.istore_n 2, 1) := by decide +kernel
theorem dX6_byRoom_2 : decode cX6_byRoom 2 = .ok (.iload_n 2, 1) := by decide +kernel
theorem dX6_byRoom_3 : decode cX6_byRoom 3 = .ok (.aload_n 0, 1) := by decide +kernel
theorem dX6_byRoom_4 : decode cX6_byRoom 4 = .ok (.getfield 7, 3) := by decide +kernel
theorem dX6_byRoom_7 : decode cX6_byRoom 7 = .ok (.bipush 72, 2) := by decide +kernel
theorem dX6_byRoom_9 : decode cX6_byRoom 9 = .ok (.iaload, 1) := by decide +kernel
theorem dX6_byRoom_10 : decode cX6_byRoom 10 = .ok (.if_icmp .ge 110, 3) := by decide +kernel
theorem dX6_byRoom_13 : decode cX6_byRoom 13 = .ok (.iconst 0, 1) := by decide +kernel
theorem dX6_byRoom_14 : decode cX6_byRoom 14 = .ok (.istore_n 3, 1) := by decide +kernel
theorem dX6_byRoom_15 : decode cX6_byRoom 15 = .ok (.iconst 0, 1) := by decide +kernel
theorem dX6_byRoom_16 : decode cX6_byRoom 16 = .ok (.istore 4, 2) := by decide +kernel
theorem dX6_byRoom_18 : decode cX6_byRoom 18 = .ok (.iload 4, 2) := by decide +kernel
theorem dX6_byRoom_20 : decode cX6_byRoom 20 = .ok (.aload_n 0, 1) := by decide +kernel
theorem dX6_byRoom_21 : decode cX6_byRoom 21 = .ok (.getfield 7, 3) := by decide +kernel
theorem dX6_byRoom_24 : decode cX6_byRoom 24 = .ok (.bipush 72, 2) := by decide +kernel
theorem dX6_byRoom_26 : decode cX6_byRoom 26 = .ok (.iaload, 1) := by decide +kernel
theorem dX6_byRoom_27 : decode cX6_byRoom 27 = .ok (.if_icmp .ge 72, 3) := by decide +kernel
theorem dX6_byRoom_30 : decode cX6_byRoom 30 = .ok (.aload_n 0, 1) := by decide +kernel
theorem dX6_byRoom_31 : decode cX6_byRoom 31 = .ok (.iload 4, 2) := by decide +kernel
theorem dX6_byRoom_33 : decode cX6_byRoom 33 = .ok (.invokevirtual 54, 3) := by decide +kernel
theorem dX6_byRoom_36 : decode cX6_byRoom 36 = .ok (.aload_n 0, 1) := by decide +kernel
theorem dX6_byRoom_37 : decode cX6_byRoom 37 = .ok (.iload_n 2, 1) := by decide +kernel
theorem dX6_byRoom_38 : decode cX6_byRoom 38 = .ok (.invokevirtual 54, 3) := by decide +kernel
theorem dX6_byRoom_41 : decode cX6_byRoom 41 = .ok (.if_icmp .gt 23, 3) := by decide +kernel
theorem dX6_byRoom_44 : decode cX6_byRoom 44 = .ok (.aload_n 0, 1) := by decide +kernel
theorem dX6_byRoom_45 : decode cX6_byRoom 45 = .ok (.iload 4, 2) := by decide +kernel
theorem dX6_byRoom_47 : decode cX6_byRoom 47 = .ok (.invokevirtual 54, 3) := by decide +kernel
theorem dX6_byRoom_50 : decode cX6_byRoom 50 = .ok (.aload_n 0, 1) := by decide +kernel
theorem dX6_byRoom_51 : decode cX6_byRoom 51 = .ok (.iload_n 2, 1) := by decide +kernel
theorem dX6_byRoom_52 : decode cX6_byRoom 52 = .ok (.invokevirtual 54, 3) := by decide +kernel
theorem dX6_byRoom_55 : decode cX6_byRoom 55 = .ok (.if_icmp .ne 13, 3) := by decide +kernel
theorem dX6_byRoom_58 : decode cX6_byRoom 58 = .ok (.iload 4, 2) := by decide +kernel
theorem dX6_byRoom_60 : decode cX6_byRoom 60 = .ok (.iload_n 2, 1) := by decide +kernel
theorem dX6_byRoom_61 : decode cX6_byRoom 61 = .ok (.if_icmp .ge 7, 3) := by decide +kernel
theorem dX6_byRoom_64 : decode cX6_byRoom 64 = .ok (.iconst 1, 1) := by decide +kernel
theorem dX6_byRoom_65 : decode cX6_byRoom 65 = .ok (.goto 4, 3) := by decide +kernel
theorem dX6_byRoom_68 : decode cX6_byRoom 68 = .ok (.iconst 0, 1) := by decide +kernel
theorem dX6_byRoom_69 : decode cX6_byRoom 69 = .ok (.istore 5, 2) := by decide +kernel
theorem dX6_byRoom_71 : decode cX6_byRoom 71 = .ok (.iload_n 3, 1) := by decide +kernel
theorem dX6_byRoom_72 : decode cX6_byRoom 72 = .ok (.aload_n 0, 1) := by decide +kernel
theorem dX6_byRoom_73 : decode cX6_byRoom 73 = .ok (.iload 4, 2) := by decide +kernel
theorem dX6_byRoom_75 : decode cX6_byRoom 75 = .ok (.invokevirtual 50, 3) := by decide +kernel
theorem dX6_byRoom_78 : decode cX6_byRoom 78 = .ok (.ifCond .ne 12, 3) := by decide +kernel
theorem dX6_byRoom_81 : decode cX6_byRoom 81 = .ok (.iload 5, 2) := by decide +kernel
theorem dX6_byRoom_83 : decode cX6_byRoom 83 = .ok (.ifCond .eq 7, 3) := by decide +kernel
theorem dX6_byRoom_86 : decode cX6_byRoom 86 = .ok (.iconst 1, 1) := by decide +kernel
theorem dX6_byRoom_87 : decode cX6_byRoom 87 = .ok (.goto 4, 3) := by decide +kernel
theorem dX6_byRoom_90 : decode cX6_byRoom 90 = .ok (.iconst 0, 1) := by decide +kernel
theorem dX6_byRoom_91 : decode cX6_byRoom 91 = .ok (.iadd, 1) := by decide +kernel
theorem dX6_byRoom_92 : decode cX6_byRoom 92 = .ok (.istore_n 3, 1) := by decide +kernel
theorem dX6_byRoom_93 : decode cX6_byRoom 93 = .ok (.iinc 4 1, 3) := by decide +kernel
theorem dX6_byRoom_96 : decode cX6_byRoom 96 = .ok (.goto (-78), 3) := by decide +kernel
theorem dX6_byRoom_99 : decode cX6_byRoom 99 = .ok (.aload_n 0, 1) := by decide +kernel
theorem dX6_byRoom_100 : decode cX6_byRoom 100 = .ok (.iload_n 2, 1) := by decide +kernel
theorem dX6_byRoom_101 : decode cX6_byRoom 101 = .ok (.invokevirtual 50, 3) := by decide +kernel
theorem dX6_byRoom_104 : decode cX6_byRoom 104 = .ok (.ifCond .ne 10, 3) := by decide +kernel
theorem dX6_byRoom_107 : decode cX6_byRoom 107 = .ok (.iload_n 3, 1) := by decide +kernel
theorem dX6_byRoom_108 : decode cX6_byRoom 108 = .ok (.iload_n 1, 1) := by decide +kernel
theorem dX6_byRoom_109 : decode cX6_byRoom 109 = .ok (.if_icmp .ne 5, 3) := by decide +kernel
theorem dX6_byRoom_112 : decode cX6_byRoom 112 = .ok (.iload_n 2, 1) := by decide +kernel
theorem dX6_byRoom_113 : decode cX6_byRoom 113 = .ok (.ireturn, 1) := by decide +kernel
theorem dX6_byRoom_114 : decode cX6_byRoom 114 = .ok (.iinc 2 1, 3) := by decide +kernel
theorem dX6_byRoom_117 : decode cX6_byRoom 117 = .ok (.goto (-115), 3) := by decide +kernel
theorem dX6_byRoom_120 : decode cX6_byRoom 120 = .ok (.iconst (-1), 1) := by decide +kernel
theorem dX6_byRoom_121 : decode cX6_byRoom 121 = .ok (.ireturn, 1) := by decide +kernel
def wp_X6_byRoom_b114 (x1 : Int32) (K2 : Int32 → Sg → Prop) (Q : Int32 → Sg → Prop) (v2 : Int32) (σ : Sg) : Prop := ∀ z18 : Int32, z18 = v2 + (1 : Int32) → K2 z18 σ
set_option maxRecDepth 100000 in
set_option maxHeartbeats 4000000 in
theorem g_X6_byRoom_b114 {X : Tx} {Q : Int32 → Sg → Prop} (C : Cx X cX6_byRoom "SweetWrapsModel" (some .int) 2 45 6 (QI (tE X) Q)) {x1 : Int32} {K2 : Int32 → Sg → Prop} (hK2 : ∀ (v2 : Int32) (σ : Sg), K2 v2 σ → G X σ [(0, .ref (ad (tE X) 12 18 0)), (1, .int x1), (2, .int v2)] [] 2) {v2 : Int32} {σ : Sg} (hw : wp_X6_byRoom_b114 x1 K2 Q v2 σ) : G X σ [(0, .ref (ad (tE X) 12 18 0)), (1, .int x1), (2, .int v2)] [] 114 := by
  unfold wp_X6_byRoom_b114 at hw
  obtain ⟨z18, e_z18⟩ : ∃ z : Int32, z = v2 + (1 : Int32) := ⟨_, rfl⟩
  replace hw := hw z18 e_z18
  refine gx_iinc (v := z18) (lv' := [(2, .int z18), (0, .ref (ad (tE X) 12 18 0)), (1, .int x1)]) C dX6_byRoom_114 2 rfl (by rw [e_z18]; rfl) (by decide) rfl ?_
  refine gx_goto (tgt := 2) C dX6_byRoom_117 (by decide) ?_
  refine gx_sub (lv' := [(0, .ref (ad (tE X) 12 18 0)), (1, .int x1), (2, .int z18)]) [1, 2, 0] rfl ?_
  exact hK2 _ _ hw
def wp_X6_byRoom_b91 (x1 : Int32) (K2 : Int32 → Sg → Prop) (K18 : Int32 → Int32 → Int32 → Sg → Prop) (Q : Int32 → Sg → Prop) (v2 : Int32) (v4 : Int32) (s0 : Int32) (s1 : Int32) (σ : Sg) : Prop := ∀ z23 : Int32, z23 = (s1 + s0) → ∀ z24 : Int32, z24 = v4 + (1 : Int32) → K18 v2 z23 z24 σ
set_option maxRecDepth 100000 in
set_option maxHeartbeats 4000000 in
theorem g_X6_byRoom_b91 {X : Tx} {Q : Int32 → Sg → Prop} (C : Cx X cX6_byRoom "SweetWrapsModel" (some .int) 2 45 6 (QI (tE X) Q)) {x1 : Int32} {K2 : Int32 → Sg → Prop} {K18 : Int32 → Int32 → Int32 → Sg → Prop} (hK2 : ∀ (v2 : Int32) (σ : Sg), K2 v2 σ → G X σ [(0, .ref (ad (tE X) 12 18 0)), (1, .int x1), (2, .int v2)] [] 2) (hK18 : ∀ (v2 : Int32) (v3 : Int32) (v4 : Int32) (σ : Sg), K18 v2 v3 v4 σ → G X σ [(0, .ref (ad (tE X) 12 18 0)), (1, .int x1), (2, .int v2), (3, .int v3), (4, .int v4)] [] 18) {v2 : Int32} {v4 : Int32} {s0 : Int32} {s1 : Int32} {σ : Sg} (hw : wp_X6_byRoom_b91 x1 K2 K18 Q v2 v4 s0 s1 σ) : G X σ [(0, .ref (ad (tE X) 12 18 0)), (1, .int x1), (2, .int v2), (4, .int v4)] [.int s0, .int s1] 91 := by
  unfold wp_X6_byRoom_b91 at hw
  refine gx_iadd C dX6_byRoom_91 ?_
  obtain ⟨z23, e_z23⟩ : ∃ z : Int32, z = (s1 + s0) := ⟨_, rfl⟩
  replace hw := hw z23 e_z23
  refine gx_top e_z23 ?_
  refine gx_istore_n (lv' := [(3, .int z23), (0, .ref (ad (tE X) 12 18 0)), (1, .int x1), (2, .int v2), (4, .int v4)]) C dX6_byRoom_92 (by decide) rfl ?_
  obtain ⟨z24, e_z24⟩ : ∃ z : Int32, z = v4 + (1 : Int32) := ⟨_, rfl⟩
  replace hw := hw z24 e_z24
  refine gx_iinc (v := z24) (lv' := [(4, .int z24), (3, .int z23), (0, .ref (ad (tE X) 12 18 0)), (1, .int x1), (2, .int v2)]) C dX6_byRoom_93 4 rfl (by rw [e_z24]; rfl) (by decide) rfl ?_
  refine gx_goto (tgt := 18) C dX6_byRoom_96 (by decide) ?_
  refine gx_sub (lv' := [(0, .ref (ad (tE X) 12 18 0)), (1, .int x1), (2, .int v2), (3, .int z23), (4, .int z24)]) [2, 3, 4, 1, 0] rfl ?_
  exact hK18 _ _ _ _ hw
def wp_X6_byRoom_b90 (x1 : Int32) (K2 : Int32 → Sg → Prop) (K18 : Int32 → Int32 → Int32 → Sg → Prop) (Q : Int32 → Sg → Prop) (v2 : Int32) (v4 : Int32) (s0 : Int32) (σ : Sg) : Prop := wp_X6_byRoom_b91 x1 K2 K18 Q v2 v4 (0 : Int32) s0 σ
set_option maxRecDepth 100000 in
set_option maxHeartbeats 4000000 in
theorem g_X6_byRoom_b90 {X : Tx} {Q : Int32 → Sg → Prop} (C : Cx X cX6_byRoom "SweetWrapsModel" (some .int) 2 45 6 (QI (tE X) Q)) {x1 : Int32} {K2 : Int32 → Sg → Prop} {K18 : Int32 → Int32 → Int32 → Sg → Prop} (hK2 : ∀ (v2 : Int32) (σ : Sg), K2 v2 σ → G X σ [(0, .ref (ad (tE X) 12 18 0)), (1, .int x1), (2, .int v2)] [] 2) (hK18 : ∀ (v2 : Int32) (v3 : Int32) (v4 : Int32) (σ : Sg), K18 v2 v3 v4 σ → G X σ [(0, .ref (ad (tE X) 12 18 0)), (1, .int x1), (2, .int v2), (3, .int v3), (4, .int v4)] [] 18) {v2 : Int32} {v4 : Int32} {s0 : Int32} {σ : Sg} (hw : wp_X6_byRoom_b90 x1 K2 K18 Q v2 v4 s0 σ) : G X σ [(0, .ref (ad (tE X) 12 18 0)), (1, .int x1), (2, .int v2), (4, .int v4)] [.int s0] 90 := by
  unfold wp_X6_byRoom_b90 at hw
  refine gx_iconst (v := (0 : Int32)) C dX6_byRoom_90 (by decide) ?_
  exact g_X6_byRoom_b91 C hK2 hK18 hw
def wp_X6_byRoom_b69 (x1 : Int32) (K2 : Int32 → Sg → Prop) (K18 : Int32 → Int32 → Int32 → Sg → Prop) (Q : Int32 → Sg → Prop) (v2 : Int32) (v3 : Int32) (v4 : Int32) (s0 : Int32) (σ : Sg) : Prop := wp_X6_isShipped v4 σ (fun r19 σ20 => ((¬ r19 = 0 → wp_X6_byRoom_b90 x1 K2 K18 Q v2 v4 v3 σ20) ∧ (r19 = 0 → ((s0 = 0 → wp_X6_byRoom_b90 x1 K2 K18 Q v2 v4 v3 σ20) ∧ (¬ s0 = 0 → wp_X6_byRoom_b91 x1 K2 K18 Q v2 v4 (1 : Int32) v3 σ20)))))
set_option maxRecDepth 100000 in
set_option maxHeartbeats 4000000 in
theorem g_X6_byRoom_b69 {X : Tx} {Q : Int32 → Sg → Prop} (C : Cx X cX6_byRoom "SweetWrapsModel" (some .int) 2 45 6 (QI (tE X) Q)) {x1 : Int32} {K2 : Int32 → Sg → Prop} {K18 : Int32 → Int32 → Int32 → Sg → Prop} (hK2 : ∀ (v2 : Int32) (σ : Sg), K2 v2 σ → G X σ [(0, .ref (ad (tE X) 12 18 0)), (1, .int x1), (2, .int v2)] [] 2) (hK18 : ∀ (v2 : Int32) (v3 : Int32) (v4 : Int32) (σ : Sg), K18 v2 v3 v4 σ → G X σ [(0, .ref (ad (tE X) 12 18 0)), (1, .int x1), (2, .int v2), (3, .int v3), (4, .int v4)] [] 18) {v2 : Int32} {v3 : Int32} {v4 : Int32} {s0 : Int32} {σ : Sg} (hw : wp_X6_byRoom_b69 x1 K2 K18 Q v2 v3 v4 s0 σ) : G X σ [(0, .ref (ad (tE X) 12 18 0)), (1, .int x1), (2, .int v2), (3, .int v3), (4, .int v4)] [.int s0] 69 := by
  unfold wp_X6_byRoom_b69 at hw
  refine gx_istore (lv' := [(5, .int s0), (0, .ref (ad (tE X) 12 18 0)), (1, .int x1), (2, .int v2), (3, .int v3), (4, .int v4)]) C dX6_byRoom_69 (by decide) rfl ?_
  refine gx_iload_n C dX6_byRoom_71 4 rfl ?_
  refine gx_aload_n C dX6_byRoom_72 1 rfl ?_
  refine gx_iload C dX6_byRoom_73 5 rfl ?_
  refine gx_vcalli (As := [.int v4]) (rest := [.int v3]) C (c_X6_isShipped _ _ hw) okg_18 rfl rfl bw_780 bw_782 bs_38 bw_7 bw_783 hy_X6_isShipped ⟨by decide, by decide⟩ rfl (Nat.le_of_ble_eq_true rfl) dX6_byRoom_75 (fun r19 σ20 hw => ?_)
  refine gx_if_ne (tgt := 90) C dX6_byRoom_78 (by decide) (fun c21 => ?_) (fun c21 => ?_)
  · replace hw := hw.1 c21
    refine gx_sub (lv' := [(0, .ref (ad (tE X) 12 18 0)), (1, .int x1), (2, .int v2), (4, .int v4)]) [1, 2, 3, 5] rfl ?_
    exact g_X6_byRoom_b90 C hK2 hK18 hw
  · replace hw := hw.2 c21
    refine gx_iload C dX6_byRoom_81 0 rfl ?_
    refine gx_if_eq (tgt := 90) C dX6_byRoom_83 (by decide) (fun c22 => ?_) (fun c22 => ?_)
    · replace hw := hw.1 c22
      refine gx_sub (lv' := [(0, .ref (ad (tE X) 12 18 0)), (1, .int x1), (2, .int v2), (4, .int v4)]) [1, 2, 3, 5] rfl ?_
      exact g_X6_byRoom_b90 C hK2 hK18 hw
    · replace hw := hw.2 c22
      refine gx_iconst (v := (1 : Int32)) C dX6_byRoom_86 (by decide) ?_
      refine gx_goto (tgt := 91) C dX6_byRoom_87 (by decide) ?_
      refine gx_sub (lv' := [(0, .ref (ad (tE X) 12 18 0)), (1, .int x1), (2, .int v2), (4, .int v4)]) [1, 2, 3, 5] rfl ?_
      exact g_X6_byRoom_b91 C hK2 hK18 hw
def wp_X6_byRoom_b68 (x1 : Int32) (K2 : Int32 → Sg → Prop) (K18 : Int32 → Int32 → Int32 → Sg → Prop) (Q : Int32 → Sg → Prop) (v2 : Int32) (v3 : Int32) (v4 : Int32) (σ : Sg) : Prop := wp_X6_byRoom_b69 x1 K2 K18 Q v2 v3 v4 (0 : Int32) σ
set_option maxRecDepth 100000 in
set_option maxHeartbeats 4000000 in
theorem g_X6_byRoom_b68 {X : Tx} {Q : Int32 → Sg → Prop} (C : Cx X cX6_byRoom "SweetWrapsModel" (some .int) 2 45 6 (QI (tE X) Q)) {x1 : Int32} {K2 : Int32 → Sg → Prop} {K18 : Int32 → Int32 → Int32 → Sg → Prop} (hK2 : ∀ (v2 : Int32) (σ : Sg), K2 v2 σ → G X σ [(0, .ref (ad (tE X) 12 18 0)), (1, .int x1), (2, .int v2)] [] 2) (hK18 : ∀ (v2 : Int32) (v3 : Int32) (v4 : Int32) (σ : Sg), K18 v2 v3 v4 σ → G X σ [(0, .ref (ad (tE X) 12 18 0)), (1, .int x1), (2, .int v2), (3, .int v3), (4, .int v4)] [] 18) {v2 : Int32} {v3 : Int32} {v4 : Int32} {σ : Sg} (hw : wp_X6_byRoom_b68 x1 K2 K18 Q v2 v3 v4 σ) : G X σ [(0, .ref (ad (tE X) 12 18 0)), (1, .int x1), (2, .int v2), (3, .int v3), (4, .int v4)] [] 68 := by
  unfold wp_X6_byRoom_b68 at hw
  refine gx_iconst (v := (0 : Int32)) C dX6_byRoom_68 (by decide) ?_
  exact g_X6_byRoom_b69 C hK2 hK18 hw
def wp_X6_byRoom_b64 (x1 : Int32) (K2 : Int32 → Sg → Prop) (K18 : Int32 → Int32 → Int32 → Sg → Prop) (Q : Int32 → Sg → Prop) (v2 : Int32) (v3 : Int32) (v4 : Int32) (σ : Sg) : Prop := wp_X6_byRoom_b69 x1 K2 K18 Q v2 v3 v4 (1 : Int32) σ
set_option maxRecDepth 100000 in
set_option maxHeartbeats 4000000 in
theorem g_X6_byRoom_b64 {X : Tx} {Q : Int32 → Sg → Prop} (C : Cx X cX6_byRoom "SweetWrapsModel" (some .int) 2 45 6 (QI (tE X) Q)) {x1 : Int32} {K2 : Int32 → Sg → Prop} {K18 : Int32 → Int32 → Int32 → Sg → Prop} (hK2 : ∀ (v2 : Int32) (σ : Sg), K2 v2 σ → G X σ [(0, .ref (ad (tE X) 12 18 0)), (1, .int x1), (2, .int v2)] [] 2) (hK18 : ∀ (v2 : Int32) (v3 : Int32) (v4 : Int32) (σ : Sg), K18 v2 v3 v4 σ → G X σ [(0, .ref (ad (tE X) 12 18 0)), (1, .int x1), (2, .int v2), (3, .int v3), (4, .int v4)] [] 18) {v2 : Int32} {v3 : Int32} {v4 : Int32} {σ : Sg} (hw : wp_X6_byRoom_b64 x1 K2 K18 Q v2 v3 v4 σ) : G X σ [(0, .ref (ad (tE X) 12 18 0)), (1, .int x1), (2, .int v2), (3, .int v3), (4, .int v4)] [] 64 := by
  unfold wp_X6_byRoom_b64 at hw
  refine gx_iconst (v := (1 : Int32)) C dX6_byRoom_64 (by decide) ?_
  refine gx_goto (tgt := 69) C dX6_byRoom_65 (by decide) ?_
  exact g_X6_byRoom_b69 C hK2 hK18 hw
def st_X6_byRoom_L18 (x1 : Int32) (K2 : Int32 → Sg → Prop) (Q : Int32 → Sg → Prop) (K18 : Int32 → Int32 → Int32 → Sg → Prop) (v2 : Int32) (v3 : Int32) (v4 : Int32) (σ : Sg) : Prop := (((σ 12 19 0 72) ≤ v4 → wp_X6_isShipped v2 σ (fun r3 σ4 => ((¬ r3 = 0 → wp_X6_byRoom_b114 x1 K2 Q v2 σ4) ∧ (r3 = 0 → ((¬ v3 = x1 → wp_X6_byRoom_b114 x1 K2 Q v2 σ4) ∧ (v3 = x1 → Q v2 σ4)))))) ∧ (¬ (σ 12 19 0 72) ≤ v4 → wp_X6_sweets v4 σ (fun r7 σ8 => wp_X6_sweets v2 σ8 (fun r9 σ10 => ((r9 < r7 → wp_X6_byRoom_b64 x1 K2 K18 Q v2 v3 v4 σ10) ∧ (¬ r9 < r7 → wp_X6_sweets v4 σ10 (fun r12 σ13 => wp_X6_sweets v2 σ13 (fun r14 σ15 => ((¬ r12 = r14 → wp_X6_byRoom_b68 x1 K2 K18 Q v2 v3 v4 σ15) ∧ (r12 = r14 → ((v2 ≤ v4 → wp_X6_byRoom_b68 x1 K2 K18 Q v2 v3 v4 σ15) ∧ (¬ v2 ≤ v4 → wp_X6_byRoom_b64 x1 K2 K18 Q v2 v3 v4 σ15))))))))))))
def wp_X6_byRoom_L18 (x1 : Int32) (K2 : Int32 → Sg → Prop) (Q : Int32 → Sg → Prop) (v2 : Int32) (v3 : Int32) (v4 : Int32) (σ : Sg) : Prop := ∃ n : Nat, lpN (fun (K : Int32 × Int32 × Int32 × Sg → Prop) (a : Int32 × Int32 × Int32 × Sg) => st_X6_byRoom_L18 x1 K2 Q (fun v2 v3 v4 σ => K (v2, v3, v4, σ)) (a.1) (a.2.1) (a.2.2.1) (a.2.2.2)) n (v2, v3, v4, σ)
set_option maxRecDepth 100000 in
set_option maxHeartbeats 4000000 in
theorem gs_X6_byRoom_L18 {X : Tx} {Q : Int32 → Sg → Prop} (C : Cx X cX6_byRoom "SweetWrapsModel" (some .int) 2 45 6 (QI (tE X) Q)) {x1 : Int32} {K2 : Int32 → Sg → Prop} (hK2 : ∀ (v2 : Int32) (σ : Sg), K2 v2 σ → G X σ [(0, .ref (ad (tE X) 12 18 0)), (1, .int x1), (2, .int v2)] [] 2) {K18 : Int32 → Int32 → Int32 → Sg → Prop} (hK18 : ∀ (v2 : Int32) (v3 : Int32) (v4 : Int32) (σ : Sg), K18 v2 v3 v4 σ → G X σ [(0, .ref (ad (tE X) 12 18 0)), (1, .int x1), (2, .int v2), (3, .int v3), (4, .int v4)] [] 18) {v2 : Int32} {v3 : Int32} {v4 : Int32} {σ : Sg} (hw : st_X6_byRoom_L18 x1 K2 Q K18 v2 v3 v4 σ) : G X σ [(0, .ref (ad (tE X) 12 18 0)), (1, .int x1), (2, .int v2), (3, .int v3), (4, .int v4)] [] 18 := by
  unfold st_X6_byRoom_L18 at hw
  refine gx_iload C dX6_byRoom_18 4 rfl ?_
  refine gx_aload_n C dX6_byRoom_20 0 rfl ?_
  refine gx_get C okg_18 rfl rfl inX6 (ref := "SweetWrapsModel") 0 (by decide) bw_673 rfl rfl dX6_byRoom_21 ?_
  refine gx_bipush (v := (72 : Int32)) C dX6_byRoom_24 (by decide) ?_
  refine gx_iald C okg_19 rfl (n := 194) (x := (72 : Int32)) (by unfold vp_in; decide) 72 (by decide) dX6_byRoom_26 ?_
  refine gx_icmp_ge (tgt := 99) C dX6_byRoom_27 (by decide) (fun c2 => ?_) (fun c2 => ?_)
  · replace hw := hw.1 c2
    refine gx_aload_n C dX6_byRoom_99 0 rfl ?_
    refine gx_iload_n C dX6_byRoom_100 2 rfl ?_
    refine gx_vcalli (As := [.int v2]) (rest := []) C (c_X6_isShipped _ _ hw) okg_18 rfl rfl bw_780 bw_782 bs_38 bw_7 bw_783 hy_X6_isShipped ⟨by decide, by decide⟩ rfl (Nat.le_of_ble_eq_true rfl) dX6_byRoom_101 (fun r3 σ4 hw => ?_)
    refine gx_if_ne (tgt := 114) C dX6_byRoom_104 (by decide) (fun c5 => ?_) (fun c5 => ?_)
    · replace hw := hw.1 c5
      refine gx_sub (lv' := [(0, .ref (ad (tE X) 12 18 0)), (1, .int x1), (2, .int v2)]) [0, 1, 2] rfl ?_
      exact g_X6_byRoom_b114 C hK2 hw
    · replace hw := hw.2 c5
      refine gx_iload_n C dX6_byRoom_107 3 rfl ?_
      refine gx_iload_n C dX6_byRoom_108 1 rfl ?_
      refine gx_icmp_ne (tgt := 114) C dX6_byRoom_109 (by decide) (fun c6 => ?_) (fun c6 => ?_)
      · replace hw := hw.1 c6
        refine gx_sub (lv' := [(0, .ref (ad (tE X) 12 18 0)), (1, .int x1), (2, .int v2)]) [0, 1, 2] rfl ?_
        exact g_X6_byRoom_b114 C hK2 hw
      · replace hw := hw.2 c6
        refine gx_iload_n C dX6_byRoom_112 2 rfl ?_
        exact gx_iret C rfl rfl dX6_byRoom_113 hw
  · replace hw := hw.2 c2
    refine gx_aload_n C dX6_byRoom_30 0 rfl ?_
    refine gx_iload C dX6_byRoom_31 4 rfl ?_
    refine gx_vcalli (As := [.int v4]) (rest := []) C (c_X6_sweets _ _ hw) okg_18 rfl rfl bw_784 bw_786 bs_39 bw_7 bw_787 hy_X6_sweets ⟨by decide, by decide⟩ rfl (Nat.le_of_ble_eq_true rfl) dX6_byRoom_33 (fun r7 σ8 hw => ?_)
    refine gx_aload_n C dX6_byRoom_36 0 rfl ?_
    refine gx_iload_n C dX6_byRoom_37 2 rfl ?_
    refine gx_vcalli (As := [.int v2]) (rest := [.int r7]) C (c_X6_sweets _ _ hw) okg_18 rfl rfl bw_784 bw_786 bs_39 bw_7 bw_787 hy_X6_sweets ⟨by decide, by decide⟩ rfl (Nat.le_of_ble_eq_true rfl) dX6_byRoom_38 (fun r9 σ10 hw => ?_)
    refine gx_icmp_gt (tgt := 64) C dX6_byRoom_41 (by decide) (fun c11 => ?_) (fun c11 => ?_)
    · replace hw := hw.1 c11
      exact g_X6_byRoom_b64 C hK2 hK18 hw
    · replace hw := hw.2 c11
      refine gx_aload_n C dX6_byRoom_44 0 rfl ?_
      refine gx_iload C dX6_byRoom_45 4 rfl ?_
      refine gx_vcalli (As := [.int v4]) (rest := []) C (c_X6_sweets _ _ hw) okg_18 rfl rfl bw_784 bw_786 bs_39 bw_7 bw_787 hy_X6_sweets ⟨by decide, by decide⟩ rfl (Nat.le_of_ble_eq_true rfl) dX6_byRoom_47 (fun r12 σ13 hw => ?_)
      refine gx_aload_n C dX6_byRoom_50 0 rfl ?_
      refine gx_iload_n C dX6_byRoom_51 2 rfl ?_
      refine gx_vcalli (As := [.int v2]) (rest := [.int r12]) C (c_X6_sweets _ _ hw) okg_18 rfl rfl bw_784 bw_786 bs_39 bw_7 bw_787 hy_X6_sweets ⟨by decide, by decide⟩ rfl (Nat.le_of_ble_eq_true rfl) dX6_byRoom_52 (fun r14 σ15 hw => ?_)
      refine gx_icmp_ne (tgt := 68) C dX6_byRoom_55 (by decide) (fun c16 => ?_) (fun c16 => ?_)
      · replace hw := hw.1 c16
        exact g_X6_byRoom_b68 C hK2 hK18 hw
      · replace hw := hw.2 c16
        refine gx_iload C dX6_byRoom_58 4 rfl ?_
        refine gx_iload_n C dX6_byRoom_60 2 rfl ?_
        refine gx_icmp_ge (tgt := 68) C dX6_byRoom_61 (by decide) (fun c17 => ?_) (fun c17 => ?_)
        · replace hw := hw.1 c17
          exact g_X6_byRoom_b68 C hK2 hK18 hw
        · replace hw := hw.2 c17
          exact g_X6_byRoom_b64 C hK2 hK18 hw
set_option maxRecDepth 100000 in
set_option maxHeartbeats 4000000 in
theorem g_X6_byRoom_L18 {X : Tx} {Q : Int32 → Sg → Prop} (C : Cx X cX6_byRoom "SweetWrapsModel" (some .int) 2 45 6 (QI (tE X) Q)) {x1 : Int32} {K2 : Int32 → Sg → Prop} (hK2 : ∀ (v2 : Int32) (σ : Sg), K2 v2 σ → G X σ [(0, .ref (ad (tE X) 12 18 0)), (1, .int x1), (2, .int v2)] [] 2) {v2 : Int32} {v3 : Int32} {v4 : Int32} {σ : Sg} (hw : wp_X6_byRoom_L18 x1 K2 Q v2 v3 v4 σ) : G X σ [(0, .ref (ad (tE X) 12 18 0)), (1, .int x1), (2, .int v2), (3, .int v3), (4, .int v4)] [] 18 := by
  obtain ⟨n, hw⟩ := hw
  exact lpN_G (P := (fun (a : Int32 × Int32 × Int32 × Sg) => G X (a.2.2.2) [(0, .ref (ad (tE X) 12 18 0)), (1, .int x1), (2, .int (a.1)), (3, .int (a.2.1)), (4, .int (a.2.2.1))] [] 18)) (fun K a hK h => gs_X6_byRoom_L18 C hK2 (fun v2 v3 v4 σ h => hK (v2, v3, v4, σ) h) h) n _ hw
def st_X6_byRoom_L2 (x1 : Int32) (Q : Int32 → Sg → Prop) (K2 : Int32 → Sg → Prop) (v2 : Int32) (σ : Sg) : Prop := (((σ 12 19 0 72) ≤ v2 → Q (-1 : Int32) σ) ∧ (¬ (σ 12 19 0 72) ≤ v2 → wp_X6_byRoom_L18 x1 K2 Q v2 (0 : Int32) (0 : Int32) σ))
def wp_X6_byRoom_L2 (x1 : Int32) (Q : Int32 → Sg → Prop) (v2 : Int32) (σ : Sg) : Prop := ∃ n : Nat, lpN (fun (K : Int32 × Sg → Prop) (a : Int32 × Sg) => st_X6_byRoom_L2 x1 Q (fun v2 σ => K (v2, σ)) (a.1) (a.2)) n (v2, σ)
set_option maxRecDepth 100000 in
set_option maxHeartbeats 4000000 in
theorem gs_X6_byRoom_L2 {X : Tx} {Q : Int32 → Sg → Prop} (C : Cx X cX6_byRoom "SweetWrapsModel" (some .int) 2 45 6 (QI (tE X) Q)) {x1 : Int32} {K2 : Int32 → Sg → Prop} (hK2 : ∀ (v2 : Int32) (σ : Sg), K2 v2 σ → G X σ [(0, .ref (ad (tE X) 12 18 0)), (1, .int x1), (2, .int v2)] [] 2) {v2 : Int32} {σ : Sg} (hw : st_X6_byRoom_L2 x1 Q K2 v2 σ) : G X σ [(0, .ref (ad (tE X) 12 18 0)), (1, .int x1), (2, .int v2)] [] 2 := by
  unfold st_X6_byRoom_L2 at hw
  refine gx_iload_n C dX6_byRoom_2 2 rfl ?_
  refine gx_aload_n C dX6_byRoom_3 0 rfl ?_
  refine gx_get C okg_18 rfl rfl inX6 (ref := "SweetWrapsModel") 0 (by decide) bw_673 rfl rfl dX6_byRoom_4 ?_
  refine gx_bipush (v := (72 : Int32)) C dX6_byRoom_7 (by decide) ?_
  refine gx_iald C okg_19 rfl (n := 194) (x := (72 : Int32)) (by unfold vp_in; decide) 72 (by decide) dX6_byRoom_9 ?_
  refine gx_icmp_ge (tgt := 120) C dX6_byRoom_10 (by decide) (fun c1 => ?_) (fun c1 => ?_)
  · replace hw := hw.1 c1
    refine gx_iconst (v := (-1 : Int32)) C dX6_byRoom_120 (by decide) ?_
    exact gx_iret C rfl rfl dX6_byRoom_121 hw
  · replace hw := hw.2 c1
    refine gx_iconst (v := (0 : Int32)) C dX6_byRoom_13 (by decide) ?_
    refine gx_istore_n (lv' := [(3, .int (0 : Int32)), (0, .ref (ad (tE X) 12 18 0)), (1, .int x1), (2, .int v2)]) C dX6_byRoom_14 (by decide) rfl ?_
    refine gx_iconst (v := (0 : Int32)) C dX6_byRoom_15 (by decide) ?_
    refine gx_istore (lv' := [(4, .int (0 : Int32)), (3, .int (0 : Int32)), (0, .ref (ad (tE X) 12 18 0)), (1, .int x1), (2, .int v2)]) C dX6_byRoom_16 (by decide) rfl ?_
    refine gx_sub (lv' := [(0, .ref (ad (tE X) 12 18 0)), (1, .int x1), (2, .int v2), (3, .int (0 : Int32)), (4, .int (0 : Int32))]) [2, 3, 4, 1, 0] rfl ?_
    exact g_X6_byRoom_L18 C hK2 hw
set_option maxRecDepth 100000 in
set_option maxHeartbeats 4000000 in
theorem g_X6_byRoom_L2 {X : Tx} {Q : Int32 → Sg → Prop} (C : Cx X cX6_byRoom "SweetWrapsModel" (some .int) 2 45 6 (QI (tE X) Q)) {x1 : Int32} {v2 : Int32} {σ : Sg} (hw : wp_X6_byRoom_L2 x1 Q v2 σ) : G X σ [(0, .ref (ad (tE X) 12 18 0)), (1, .int x1), (2, .int v2)] [] 2 := by
  obtain ⟨n, hw⟩ := hw
  exact lpN_G (P := (fun (a : Int32 × Sg) => G X (a.2) [(0, .ref (ad (tE X) 12 18 0)), (1, .int x1), (2, .int (a.1))] [] 2)) (fun K a hK h => gs_X6_byRoom_L2 C (fun v2 σ h => hK (v2, σ) h) h) n _ hw
def wp_X6_byRoom (x1 : Int32) (σ : Sg) (Q : Int32 → Sg → Prop) : Prop := wp_X6_byRoom_L2 x1 Q (0 : Int32) σ
set_option maxRecDepth 100000 in
set_option maxHeartbeats 4000000 in
theorem c_X6_byRoom (l : Launch) (E : Ev) {x1 : Int32} {σ : Sg} {Q : Int32 → Sg → Prop} (hw : wp_X6_byRoom x1 σ Q) : CT l E yX6_byRoom cX6_byRoom 6 (some .int) 2 45 [.ref (ad E 12 18 0), .int x1] σ (QI E Q) := by
  refine CT_of (by decide) (Nat.le_of_ble_eq_true rfl) (fun X h1 h2 C => ?_)
  subst h1; subst h2
  have C : Cx X cX6_byRoom "SweetWrapsModel" (some .int) 2 45 6 (QI (tE X) Q) := C
  show G X σ [(0, .ref (ad (tE X) 12 18 0)), (1, .int x1)] [] 0
  unfold wp_X6_byRoom at hw
  refine gx_iconst (v := (0 : Int32)) C dX6_byRoom_0 (by decide) ?_
  refine gx_istore_n (lv' := [(2, .int (0 : Int32)), (0, .ref (ad (tE X) 12 18 0)), (1, .int x1)]) C dX6_byRoom_1 (by decide) rfl ?_
  refine gx_sub (lv' := [(0, .ref (ad (tE X) 12 18 0)), (1, .int x1), (2, .int (0 : Int32))]) [1, 2, 0] rfl ?_
  exact g_X6_byRoom_L2 C hw
theorem hy_X6_byRoom : yX6_byRoom.cls = "SweetWrapsModel" ∧ yX6_byRoom.cls ≠ "java/lang/invoke/MethodHandle" ∧ yX6_byRoom.cls ≠ "java/lang/invoke/VarHandle" ∧ (parseMethodDescriptor yX6_byRoom.desc).map (fun d => d.parameters.length) = some 1 := by decide +kernel
