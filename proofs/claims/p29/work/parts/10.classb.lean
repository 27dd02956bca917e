theorem dX2_reasonOf_0 : decode cX2_reasonOf 0 = .ok (.aload_n 1, 1) := by decide +kernel
theorem dX2_reasonOf_1 : decode cX2_reasonOf 1 = .ok (.getfield 138, 3) := by decide +kernel
theorem dX2_reasonOf_4 : decode cX2_reasonOf 4 = .ok (.ifCond .ne 5, 3) := by decide +kernel
theorem dX2_reasonOf_7 : decode cX2_reasonOf 7 = .ok (.iconst 1, 1) := by decide +kernel
theorem dX2_reasonOf_8 : decode cX2_reasonOf 8 = .ok (.ireturn, 1) := by decide +kernel
theorem dX2_reasonOf_9 : decode cX2_reasonOf 9 = .ok (.iload_n 2, 1) := by decide +kernel
theorem dX2_reasonOf_10 : decode cX2_reasonOf 10 = .ok (.bipush (-6), 2) := by decide +kernel
theorem dX2_reasonOf_12 : decode cX2_reasonOf 12 = .ok (.if_icmp .ne 5, 3) := by decide +kernel
theorem dX2_reasonOf_15 : decode cX2_reasonOf 15 = .ok (.iconst 2, 1) := by decide +kernel
theorem dX2_reasonOf_16 : decode cX2_reasonOf 16 = .ok (.ireturn, 1) := by decide +kernel
theorem dX2_reasonOf_17 : decode cX2_reasonOf 17 = .ok (.aload_n 1, 1) := by decide +kernel
theorem dX2_reasonOf_18 : decode cX2_reasonOf 18 = .ok (.getfield 74, 3) := by decide +kernel
theorem dX2_reasonOf_21 : decode cX2_reasonOf 21 = .ok (.aload_n 0, 1) := by decide +kernel
theorem dX2_reasonOf_22 : decode cX2_reasonOf 22 = .ok (.invokevirtual 103, 3) := by decide +kernel
theorem dX2_reasonOf_25 : decode cX2_reasonOf 25 = .ok (.if_icmp .ge 7, 3) := by decide +kernel
theorem dX2_reasonOf_28 : decode cX2_reasonOf 28 = .ok (.iconst 3, 1) := by decide +kernel
theorem dX2_reasonOf_29 : decode cX2_reasonOf 29 = .ok (.goto 4, 3) := by decide +kernel
theorem dX2_reasonOf_32 : decode cX2_reasonOf 32 = .ok (.iconst 0, 1) := by decide +kernel
theorem dX2_reasonOf_33 : decode cX2_reasonOf 33 = .ok (.ireturn, 1) := by decide +kernel
def wp_X2_reasonOf (m : Nat) (i1 : Nat) (x2 : Int32) (σ : Sg) (Q : Int32 → Sg → Prop) : Prop := ((¬ (σ m 5 i1 2) = 0 → ((¬ x2 = (-6 : Int32) → wp_X2_foilOfPull m σ (fun r3 σ4 => ((r3 ≤ (σ m 5 i1 3) → Q (0 : Int32) σ4) ∧ (¬ r3 ≤ (σ m 5 i1 3) → Q (3 : Int32) σ4)))) ∧ (x2 = (-6 : Int32) → Q (2 : Int32) σ))) ∧ ((σ m 5 i1 2) = 0 → Q (1 : Int32) σ))
set_option maxRecDepth 100000 in
set_option maxHeartbeats 4000000 in
theorem c_X2_reasonOf (l : Launch) (E : Ev) {m : Nat} {i1 : Nat} {x2 : Int32} (hm : m < 11) (hi1 : i1 < 4) {σ : Sg} {Q : Int32 → Sg → Prop} (hw : wp_X2_reasonOf m i1 x2 σ Q) : CT l E yX2_reasonOf cX2_reasonOf 3 (some .int) 1 20 [.ref (ad E m 0 0), .ref (ad E m 5 i1), .int x2] σ (QI E Q) := by
  refine CT_of (by decide) (Nat.le_of_ble_eq_true rfl) (fun X h1 h2 C => ?_)
  subst h1; subst h2
  have C : Cx X cX2_reasonOf "SweetWraps$Machine" (some .int) 1 20 3 (QI (tE X) Q) := C
  show G X σ [(0, .ref (ad (tE X) m 0 0)), (1, .ref (ad (tE X) m 5 i1)), (2, .int x2)] [] 0
  unfold wp_X2_reasonOf at hw
  refine gx_aload_n C dX2_reasonOf_0 1 rfl ?_
  refine gx_get C (ok5 hm hi1) rfl rfl inX1 (ref := "SweetWraps$Lane") 2 (by decide) bw_37 rfl rfl dX2_reasonOf_1 ?_
  refine gx_if_ne (tgt := 9) C dX2_reasonOf_4 (by decide) (fun c1 => ?_) (fun c1 => ?_)
  · replace hw := hw.1 c1
    refine gx_iload_n C dX2_reasonOf_9 2 rfl ?_
    refine gx_bipush (v := (-6 : Int32)) C dX2_reasonOf_10 (by decide) ?_
    refine gx_icmp_ne (tgt := 17) C dX2_reasonOf_12 (by decide) (fun c2 => ?_) (fun c2 => ?_)
    · replace hw := hw.1 c2
      refine gx_aload_n C dX2_reasonOf_17 1 rfl ?_
      refine gx_get C (ok5 hm hi1) rfl rfl inX1 (ref := "SweetWraps$Lane") 3 (by decide) bw_39 rfl rfl dX2_reasonOf_18 ?_
      refine gx_aload_n C dX2_reasonOf_21 0 rfl ?_
      refine gx_vcalli (As := []) (rest := [.int (σ m 5 i1 3)]) C (c_X2_foilOfPull _ _ hm hw) (ok0 hm) rfl rfl bw_315 bw_317 bs_7 bw_2 bw_318 hy_X2_foilOfPull ⟨by decide, by decide⟩ rfl (Nat.le_of_ble_eq_true rfl) dX2_reasonOf_22 (fun r3 σ4 hw => ?_)
      refine gx_icmp_ge (tgt := 32) C dX2_reasonOf_25 (by decide) (fun c5 => ?_) (fun c5 => ?_)
      · replace hw := hw.1 c5
        refine gx_iconst (v := (0 : Int32)) C dX2_reasonOf_32 (by decide) ?_
        exact gx_iret C rfl rfl dX2_reasonOf_33 hw
      · replace hw := hw.2 c5
        refine gx_iconst (v := (3 : Int32)) C dX2_reasonOf_28 (by decide) ?_
        refine gx_goto (tgt := 33) C dX2_reasonOf_29 (by decide) ?_
        exact gx_iret C rfl rfl dX2_reasonOf_33 hw
    · replace hw := hw.2 c2
      refine gx_iconst (v := (2 : Int32)) C dX2_reasonOf_15 (by decide) ?_
      exact gx_iret C rfl rfl dX2_reasonOf_16 hw
  · replace hw := hw.2 c1
    refine gx_iconst (v := (1 : Int32)) C dX2_reasonOf_7 (by decide) ?_
    exact gx_iret C rfl rfl dX2_reasonOf_8 hw
theorem hy_X2_reasonOf : yX2_reasonOf.cls = "SweetWraps$Machine" ∧ yX2_reasonOf.cls ≠ "java/lang/invoke/MethodHandle" ∧ yX2_reasonOf.cls ≠ "java/lang/invoke/VarHandle" ∧ (parseMethodDescriptor yX2_reasonOf.desc).map (fun d => d.parameters.length) = some 2 := by decide +kernel

theorem dX4_add_0 : decode cX4_add 0 = .ok (.iload_n 1, 1) := by decide +kernel
theorem dX4_add_1 : decode cX4_add 1 = .ok (.bipush 6, 2) := by decide +kernel
theorem dX4_add_3 : decode cX4_add 3 = .ok (.invokestatic 30, 3) := by decide +kernel
theorem dX4_add_6 : decode cX4_add 6 = .ok (.ifCond .ne 4, 3) := by decide +kernel
theorem dX4_add_9 : decode cX4_add 9 = .ok (.return_, 1) := by decide +kernel
theorem dX4_add_10 : decode cX4_add 10 = .ok (.aload_n 0, 1) := by decide +kernel
theorem dX4_add_11 : decode cX4_add 11 = .ok (.getfield 9, 3) := by decide +kernel
theorem dX4_add_14 : decode cX4_add 14 = .ok (.iload_n 1, 1) := by decide +kernel
theorem dX4_add_15 : decode cX4_add 15 = .ok (.dup2, 1) := by decide +kernel
theorem dX4_add_16 : decode cX4_add 16 = .ok (.iaload, 1) := by decide +kernel
theorem dX4_add_17 : decode cX4_add 17 = .ok (.iconst 1, 1) := by decide +kernel
theorem dX4_add_18 : decode cX4_add 18 = .ok (.iadd, 1) := by decide +kernel
theorem dX4_add_19 : decode cX4_add 19 = .ok (.iastore, 1) := by decide +kernel
theorem dX4_add_20 : decode cX4_add 20 = .ok (.aload_n 0, 1) := by decide +kernel
theorem dX4_add_21 : decode cX4_add 21 = .ok (.dup, 1) := by decide +kernel
theorem dX4_add_22 : decode cX4_add 22 = .ok (.getfield 19, 3) := by decide +kernel
theorem dX4_add_25 : decode cX4_add 25 = .ok (.iconst 1, 1) := by decide +kernel
theorem dX4_add_26 : decode cX4_add 26 = .ok (.iload_n 1, 1) := by decide +kernel
theorem dX4_add_27 : decode cX4_add 27 = .ok (.ishl, 1) := by decide +kernel
theorem dX4_add_28 : decode cX4_add 28 = .ok (.ior, 1) := by decide +kernel
theorem dX4_add_29 : decode cX4_add 29 = .ok (.putfield 19, 3) := by decide +kernel
theorem dX4_add_32 : decode cX4_add 32 = .ok (.aload_n 0, 1) := by decide +kernel
theorem dX4_add_33 : decode cX4_add 33 = .ok (.dup, 1) := by decide +kernel
theorem dX4_add_34 : decode cX4_add 34 = .ok (.getfield 23, 3) := by decide +kernel
theorem dX4_add_37 : decode cX4_add 37 = .ok (.iconst 1, 1) := by decide +kernel
theorem dX4_add_38 : decode cX4_add 38 = .ok (.iadd, 1) := by decide +kernel
theorem dX4_add_39 : decode cX4_add 39 = .ok (.putfield 23, 3) := by decide +kernel
theorem dX4_add_42 : decode cX4_add 42 = .ok (.return_, 1) := by decide +kernel
def wp_X4_add (m : Nat) (i : Nat) (x1 : Int32) (σ : Sg) (Q : Sg → Prop) : Prop := wp_X5_isIndex x1 (6 : Int32) σ (fun r1 σ2 => ((¬ r1 = 0 → (vp_in x1 6 ∧ (vp_in x1 6 ∧ ∀ σ4 : Sg, σ4 = up σ2 m 9 i x1.toNatClampNeg ((σ2 m 9 i x1.toNatClampNeg) + (1 : Int32)) → ∀ σ5 : Sg, σ5 = up σ4 m 8 i 1 ((σ4 m 8 i 1) ||| ((1 : Int32) <<< (x1 &&& 31))) → ∀ σ6 : Sg, σ6 = up σ5 m 8 i 2 ((σ5 m 8 i 2) + (1 : Int32)) → Q σ6))) ∧ (r1 = 0 → Q σ2)))
set_option maxRecDepth 100000 in
set_option maxHeartbeats 4000000 in
theorem c_X4_add (l : Launch) (E : Ev) {m : Nat} {i : Nat} {x1 : Int32} (hm : m < 11) (hi : i < 16) {σ : Sg} {Q : Sg → Prop} (hw : wp_X4_add m i x1 σ Q) : CT l E yX4_add cX4_add 2 none 1 21 [.ref (ad E m 8 i), .int x1] σ (QV E Q) := by
  refine CT_of (by decide) (Nat.le_of_ble_eq_true rfl) (fun X h1 h2 C => ?_)
  subst h1; subst h2
  have C : Cx X cX4_add "SweetWraps$Tin" none 1 21 2 (QV (tE X) Q) := C
  show G X σ [(0, .ref (ad (tE X) m 8 i)), (1, .int x1)] [] 0
  unfold wp_X4_add at hw
  refine gx_iload_n C dX4_add_0 1 rfl ?_
  refine gx_bipush (v := (6 : Int32)) C dX4_add_1 (by decide) ?_
  refine gx_ncalli (As := [.int x1, .int (6 : Int32)]) (rest := []) (host := "SweetWraps") C (c_X5_isIndex _ _ hw) (nest_in _ (by decide +kernel)) bw_224 bw_1 bw_225 hyS_X5_isIndex ⟨by decide, by decide⟩ rfl (Nat.le_of_ble_eq_true rfl) dX4_add_3 (fun r1 σ2 hw => ?_)
  refine gx_if_ne (tgt := 10) C dX4_add_6 (by decide) (fun c3 => ?_) (fun c3 => ?_)
  · replace hw := hw.1 c3
    refine gx_aload_n C dX4_add_10 0 rfl ?_
    refine gx_get C (ok8 hm hi) rfl rfl inX4 (ref := "SweetWraps$Tin") 0 (by decide) bw_71 rfl rfl dX4_add_11 ?_
    refine gx_iload_n C dX4_add_14 1 rfl ?_
    refine gx_dup2 C dX4_add_15 rfl rfl ?_
    refine gx_iald C (ok9 hm hi) rfl hw.1 _ rfl dX4_add_16 ?_
    replace hw := hw.2
    refine gx_iconst (v := (1 : Int32)) C dX4_add_17 (by decide) ?_
    refine gx_iadd C dX4_add_18 ?_
    refine gx_iast C (ok9 hm hi) (fun _ => rfl) hw.1 _ rfl rfl dX4_add_19 ?_
    replace hw := hw.2
    obtain ⟨σ4, e_σ4⟩ : ∃ z : Sg, z = up σ2 m 9 i x1.toNatClampNeg ((σ2 m 9 i x1.toNatClampNeg) + (1 : Int32)) := ⟨_, rfl⟩
    replace hw := hw σ4 e_σ4
    refine gx_st e_σ4 ?_
    refine gx_aload_n C dX4_add_20 0 rfl ?_
    refine gx_dup C dX4_add_21 rfl ?_
    refine gx_get C (ok8 hm hi) rfl rfl inX4 (ref := "SweetWraps$Tin") 1 (by decide) bw_73 rfl rfl dX4_add_22 ?_
    refine gx_iconst (v := (1 : Int32)) C dX4_add_25 (by decide) ?_
    refine gx_iload_n C dX4_add_26 1 rfl ?_
    refine gx_ishl C dX4_add_27 ?_
    refine gx_ior C dX4_add_28 ?_
    refine gx_put C (ok8 hm hi) rfl rfl inX4 tyX4 tyX4_ok nmX4 (ref := "SweetWraps$Tin") 1 (by decide) bw_73 rfl rfl (v := .int ((σ4 m 8 i 1) ||| ((1 : Int32) <<< (x1 &&& 31)))) rfl rfl (Nat.le_of_ble_eq_true rfl) (upd (σ4 m 8 i) 1 ((σ4 m 8 i 1) ||| ((1 : Int32) <<< (x1 &&& 31)))) rfl dX4_add_29 ?_
    obtain ⟨σ5, e_σ5⟩ : ∃ z : Sg, z = up σ4 m 8 i 1 ((σ4 m 8 i 1) ||| ((1 : Int32) <<< (x1 &&& 31))) := ⟨_, rfl⟩
    replace hw := hw σ5 e_σ5
    refine gx_st e_σ5 ?_
    refine gx_aload_n C dX4_add_32 0 rfl ?_
    refine gx_dup C dX4_add_33 rfl ?_
    refine gx_get C (ok8 hm hi) rfl rfl inX4 (ref := "SweetWraps$Tin") 2 (by decide) bw_75 rfl rfl dX4_add_34 ?_
    refine gx_iconst (v := (1 : Int32)) C dX4_add_37 (by decide) ?_
    refine gx_iadd C dX4_add_38 ?_
    refine gx_put C (ok8 hm hi) rfl rfl inX4 tyX4 tyX4_ok nmX4 (ref := "SweetWraps$Tin") 2 (by decide) bw_75 rfl rfl (v := .int ((σ5 m 8 i 2) + (1 : Int32))) rfl rfl (Nat.le_of_ble_eq_true rfl) (upd (σ5 m 8 i) 2 ((σ5 m 8 i 2) + (1 : Int32))) rfl dX4_add_39 ?_
    obtain ⟨σ6, e_σ6⟩ : ∃ z : Sg, z = up σ5 m 8 i 2 ((σ5 m 8 i 2) + (1 : Int32)) := ⟨_, rfl⟩
    replace hw := hw σ6 e_σ6
    refine gx_st e_σ6 ?_
    exact gx_vret C dX4_add_42 hw
  · replace hw := hw.2 c3
    exact gx_vret C dX4_add_9 hw
theorem hy_X4_add : yX4_add.cls = "SweetWraps$Tin" ∧ yX4_add.cls ≠ "java/lang/invoke/MethodHandle" ∧ yX4_add.cls ≠ "java/lang/invoke/VarHandle" ∧ (parseMethodDescriptor yX4_add.desc).map (fun d => d.parameters.length) = some 1 := by decide +kernel

theorem dX2_workLane_0 : decode cX2_workLane 0 = .ok (.aload_n 0, 1) := by decide +kernel
theorem dX2_workLane_1 : decode cX2_workLane 1 = .ok (.invokevirtual 103, 3) := by decide +kernel
theorem dX2_workLane_4 : decode cX2_workLane 4 = .ok (.istore_n 2, 1) := by decide +kernel
theorem dX2_workLane_5 : decode cX2_workLane 5 = .ok (.aload_n 0, 1) := by decide +kernel
theorem dX2_workLane_6 : decode cX2_workLane 6 = .ok (.invokevirtual 107, 3) := by decide +kernel
theorem dX2_workLane_9 : decode cX2_workLane 9 = .ok (.istore_n 3, 1) := by decide +kernel
theorem dX2_workLane_10 : decode cX2_workLane 10 = .ok (.iconst 0, 1) := by decide +kernel
theorem dX2_workLane_11 : decode cX2_workLane 11 = .ok (.istore 4, 2) := by decide +kernel
theorem dX2_workLane_13 : decode cX2_workLane 13 = .ok (.aload_n 1, 1) := by decide +kernel
theorem dX2_workLane_14 : decode cX2_workLane 14 = .ok (.iconst 0, 1) := by decide +kernel
theorem dX2_workLane_15 : decode cX2_workLane 15 = .ok (.putfield 110, 3) := by decide +kernel
theorem dX2_workLane_18 : decode cX2_workLane 18 = .ok (.iconst 0, 1) := by decide +kernel
theorem dX2_workLane_19 : decode cX2_workLane 19 = .ok (.istore 5, 2) := by decide +kernel
theorem dX2_workLane_21 : decode cX2_workLane 21 = .ok (.iload 5, 2) := by decide +kernel
theorem dX2_workLane_23 : decode cX2_workLane 23 = .ok (.aload_n 0, 1) := by decide +kernel
theorem dX2_workLane_24 : decode cX2_workLane 24 = .ok (.getfield 9, 3) := by decide +kernel
theorem dX2_workLane_27 : decode cX2_workLane 27 = .ok (.iconst 0, 1) := by decide +kernel
theorem dX2_workLane_28 : decode cX2_workLane 28 = .ok (.iaload, 1) := by decide +kernel
theorem dX2_workLane_29 : decode cX2_workLane 29 = .ok (.if_icmp .ge 105, 3) := by decide +kernel
theorem dX2_workLane_32 : decode cX2_workLane 32 = .ok (.aload_n 1, 1) := by decide +kernel
theorem dX2_workLane_33 : decode cX2_workLane 33 = .ok (.invokevirtual 113, 3) := by decide +kernel
theorem dX2_workLane_36 : decode cX2_workLane 36 = .ok (.istore 6, 2) := by decide +kernel
theorem dX2_workLane_38 : decode cX2_workLane 38 = .ok (.aload_n 0, 1) := by decide +kernel
theorem dX2_workLane_39 : decode cX2_workLane 39 = .ok (.iload 6, 2) := by decide +kernel
theorem dX2_workLane_41 : decode cX2_workLane 41 = .ok (.invokevirtual 116, 3) := by decide +kernel
theorem dX2_workLane_44 : decode cX2_workLane 44 = .ok (.istore 7, 2) := by decide +kernel
theorem dX2_workLane_46 : decode cX2_workLane 46 = .ok (.aload_n 1, 1) := by decide +kernel
theorem dX2_workLane_47 : decode cX2_workLane 47 = .ok (.aload_n 0, 1) := by decide +kernel
theorem dX2_workLane_48 : decode cX2_workLane 48 = .ok (.aload_n 1, 1) := by decide +kernel
theorem dX2_workLane_49 : decode cX2_workLane 49 = .ok (.iload 7, 2) := by decide +kernel
theorem dX2_workLane_51 : decode cX2_workLane 51 = .ok (.invokevirtual 119, 3) := by decide +kernel
theorem dX2_workLane_54 : decode cX2_workLane 54 = .ok (.putfield 110, 3) := by decide +kernel
theorem dX2_workLane_57 : decode cX2_workLane 57 = .ok (.aload_n 1, 1) := by decide +kernel
theorem dX2_workLane_58 : decode cX2_workLane 58 = .ok (.getfield 110, 3) := by decide +kernel
theorem dX2_workLane_61 : decode cX2_workLane 61 = .ok (.ifCond .ne 13, 3) := by decide +kernel
theorem dX2_workLane_64 : decode cX2_workLane 64 = .ok (.iload 7, 2) := by decide +kernel
theorem dX2_workLane_66 : decode cX2_workLane 66 = .ok (.bipush 16, 2) := by decide +kernel
theorem dX2_workLane_68 : decode cX2_workLane 68 = .ok (.invokestatic 56, 3) := by decide +kernel
theorem dX2_workLane_71 : decode cX2_workLane 71 = .ok (.ifCond .ne 6, 3) := by decide +kernel
theorem dX2_workLane_74 : decode cX2_workLane 74 = .ok (.iload 4, 2) := by decide +kernel
theorem dX2_workLane_76 : decode cX2_workLane 76 = .ok (.ireturn, 1) := by decide +kernel
theorem dX2_workLane_77 : decode cX2_workLane 77 = .ok (.aload_n 0, 1) := by decide +kernel
theorem dX2_workLane_78 : decode cX2_workLane 78 = .ok (.dup, 1) := by decide +kernel
theorem dX2_workLane_79 : decode cX2_workLane 79 = .ok (.getfield 50, 3) := by decide +kernel
theorem dX2_workLane_82 : decode cX2_workLane 82 = .ok (.iload_n 2, 1) := by decide +kernel
theorem dX2_workLane_83 : decode cX2_workLane 83 = .ok (.iadd, 1) := by decide +kernel
theorem dX2_workLane_84 : decode cX2_workLane 84 = .ok (.putfield 50, 3) := by decide +kernel
theorem dX2_workLane_87 : decode cX2_workLane 87 = .ok (.aload_n 1, 1) := by decide +kernel
theorem dX2_workLane_88 : decode cX2_workLane 88 = .ok (.iload_n 2, 1) := by decide +kernel
theorem dX2_workLane_89 : decode cX2_workLane 89 = .ok (.iload_n 3, 1) := by decide +kernel
theorem dX2_workLane_90 : decode cX2_workLane 90 = .ok (.invokevirtual 123, 3) := by decide +kernel
theorem dX2_workLane_93 : decode cX2_workLane 93 = .ok (.ifCond .eq 16, 3) := by decide +kernel
theorem dX2_workLane_96 : decode cX2_workLane 96 = .ok (.aload_n 0, 1) := by decide +kernel
theorem dX2_workLane_97 : decode cX2_workLane 97 = .ok (.dup, 1) := by decide +kernel
theorem dX2_workLane_98 : decode cX2_workLane 98 = .ok (.getfield 53, 3) := by decide +kernel
theorem dX2_workLane_101 : decode cX2_workLane 101 = .ok (.iload_n 2, 1) := by decide +kernel
theorem dX2_workLane_102 : decode cX2_workLane 102 = .ok (.iadd, 1) := by decide +kernel
theorem dX2_workLane_103 : decode cX2_workLane 103 = .ok (.putfield 53, 3) := by decide +kernel
theorem dX2_workLane_106 : decode cX2_workLane 106 = .ok (.goto 22, 3) := by decide +kernel
theorem dX2_workLane_109 : decode cX2_workLane 109 = .ok (.aload_n 0, 1) := by decide +kernel
theorem dX2_workLane_110 : decode cX2_workLane 110 = .ok (.getfield 23, 3) := by decide +kernel
theorem dX2_workLane_113 : decode cX2_workLane 113 = .ok (.iload 7, 2) := by decide +kernel
theorem dX2_workLane_115 : decode cX2_workLane 115 = .ok (.aaload, 1) := by decide +kernel
theorem dX2_workLane_116 : decode cX2_workLane 116 = .ok (.iload 6, 2) := by decide +kernel
theorem dX2_workLane_118 : decode cX2_workLane 118 = .ok (.invokevirtual 126, 3) := by decide +kernel
theorem dX2_workLane_121 : decode cX2_workLane 121 = .ok (.aload_n 1, 1) := by decide +kernel
theorem dX2_workLane_122 : decode cX2_workLane 122 = .ok (.invokevirtual 130, 3) := by decide +kernel
theorem dX2_workLane_125 : decode cX2_workLane 125 = .ok (.iinc 4 1, 3) := by decide +kernel
theorem dX2_workLane_128 : decode cX2_workLane 128 = .ok (.iinc 5 1, 3) := by decide +kernel
theorem dX2_workLane_131 : decode cX2_workLane 131 = .ok (.goto (-110), 3) := by decide +kernel
theorem dX2_workLane_134 : decode cX2_workLane 134 = .ok (.iload 4, 2) := by decide +kernel
theorem dX2_workLane_136 : decode cX2_workLane 136 = .ok (.ireturn, 1) := by decide +kernel
def wp_X2_workLane_b128 (m : Nat) (i1 : Nat) (K21 : Int32 → Int32 → Int32 → Int32 → Sg → Prop) (Q : Int32 → Sg → Prop) (v2 : Int32) (v3 : Int32) (v4 : Int32) (v5 : Int32) (σ : Sg) : Prop := ∀ z28 : Int32, z28 = v5 + (1 : Int32) → K21 v2 v3 v4 z28 σ
set_option maxRecDepth 100000 in
set_option maxHeartbeats 4000000 in
theorem g_X2_workLane_b128 {X : Tx} {Q : Int32 → Sg → Prop} (C : Cx X cX2_workLane "SweetWraps$Machine" (some .int) 2 61 8 (QI (tE X) Q)) {m : Nat} {i1 : Nat} (hm : m < 11) (hi1 : i1 < 4) {K21 : Int32 → Int32 → Int32 → Int32 → Sg → Prop} (hK21 : ∀ (v2 : Int32) (v3 : Int32) (v4 : Int32) (v5 : Int32) (σ : Sg), K21 v2 v3 v4 v5 σ → G X σ [(0, .ref (ad (tE X) m 0 0)), (1, .ref (ad (tE X) m 5 i1)), (2, .int v2), (3, .int v3), (4, .int v4), (5, .int v5)] [] 21) {v2 : Int32} {v3 : Int32} {v4 : Int32} {v5 : Int32} {σ : Sg} (hw : wp_X2_workLane_b128 m i1 K21 Q v2 v3 v4 v5 σ) : G X σ [(0, .ref (ad (tE X) m 0 0)), (1, .ref (ad (tE X) m 5 i1)), (2, .int v2), (3, .int v3), (4, .int v4), (5, .int v5)] [] 128 := by
  unfold wp_X2_workLane_b128 at hw
  obtain ⟨z28, e_z28⟩ : ∃ z : Int32, z = v5 + (1 : Int32) := ⟨_, rfl⟩
  replace hw := hw z28 e_z28
  refine gx_iinc (v := z28) (lv' := [(5, .int z28), (0, .ref (ad (tE X) m 0 0)), (1, .ref (ad (tE X) m 5 i1)), (2, .int v2), (3, .int v3), (4, .int v4)]) C dX2_workLane_128 5 rfl (by rw [e_z28]; rfl) (by decide) rfl ?_
  refine gx_goto (tgt := 21) C dX2_workLane_131 (by decide) ?_
  refine gx_sub (lv' := [(0, .ref (ad (tE X) m 0 0)), (1, .ref (ad (tE X) m 5 i1)), (2, .int v2), (3, .int v3), (4, .int v4), (5, .int z28)]) [1, 2, 3, 4, 5, 0] rfl ?_
  exact hK21 _ _ _ _ _ hw
def st_X2_workLane_L21 (m : Nat) (i1 : Nat) (Q : Int32 → Sg → Prop) (K21 : Int32 → Int32 → Int32 → Int32 → Sg → Prop) (v2 : Int32) (v3 : Int32) (v4 : Int32) (v5 : Int32) (σ : Sg) : Prop := (((σ m 1 0 0) ≤ v5 → Q v4 σ) ∧ (¬ (σ m 1 0 0) ≤ v5 → wp_X1_nextFlavour m i1 σ (fun r7 σ8 => wp_X2_tinFor m r7 σ8 (fun r9 σ10 => wp_X2_reasonOf m i1 r9 σ10 (fun r11 σ12 => ∀ σ13 : Sg, σ13 = up σ12 m 5 i1 7 r11 → ((¬ (σ13 m 5 i1 7) = 0 → Q v4 σ13) ∧ ((σ13 m 5 i1 7) = 0 → wp_X5_isIndex r9 (16 : Int32) σ13 (fun r15 σ16 => ((¬ r15 = 0 → ∀ σ18 : Sg, σ18 = up σ16 m 0 0 6 ((σ16 m 0 0 6) + v2) → wp_X1_pullTears m i1 v2 v3 σ18 (fun r19 σ20 => ((r19 = 0 → (vp_in r9 16 ∧ ∀ a23 : Nat, a23 = r9.toNatClampNeg → wp_X4_add m a23 r7 σ20 (fun σ24 => wp_X1_wrapNext m i1 σ24 (fun σ25 => ∀ z26 : Int32, z26 = v4 + (1 : Int32) → wp_X2_workLane_b128 m i1 K21 Q v2 v3 z26 v5 σ25)))) ∧ (¬ r19 = 0 → ∀ σ27 : Sg, σ27 = up σ20 m 0 0 7 ((σ20 m 0 0 7) + v2) → wp_X2_workLane_b128 m i1 K21 Q v2 v3 v4 v5 σ27)))) ∧ (r15 = 0 → Q v4 σ16))))))))))
def wp_X2_workLane_L21 (m : Nat) (i1 : Nat) (Q : Int32 → Sg → Prop) (v2 : Int32) (v3 : Int32) (v4 : Int32) (v5 : Int32) (σ : Sg) : Prop := ∃ n : Nat, lpN (fun (K : Int32 × Int32 × Int32 × Int32 × Sg → Prop) (a : Int32 × Int32 × Int32 × Int32 × Sg) => st_X2_workLane_L21 m i1 Q (fun v2 v3 v4 v5 σ => K (v2, v3, v4, v5, σ)) (a.1) (a.2.1) (a.2.2.1) (a.2.2.2.1) (a.2.2.2.2)) n (v2, v3, v4, v5, σ)
set_option maxRecDepth 100000 in
set_option maxHeartbeats 4000000 in
theorem gs_X2_workLane_L21 {X : Tx} {Q : Int32 → Sg → Prop} (C : Cx X cX2_workLane "SweetWraps$Machine" (some .int) 2 61 8 (QI (tE X) Q)) {m : Nat} {i1 : Nat} (hm : m < 11) (hi1 : i1 < 4) {K21 : Int32 → Int32 → Int32 → Int32 → Sg → Prop} (hK21 : ∀ (v2 : Int32) (v3 : Int32) (v4 : Int32) (v5 : Int32) (σ : Sg), K21 v2 v3 v4 v5 σ → G X σ [(0, .ref (ad (tE X) m 0 0)), (1, .ref (ad (tE X) m 5 i1)), (2, .int v2), (3, .int v3), (4, .int v4), (5, .int v5)] [] 21) {v2 : Int32} {v3 : Int32} {v4 : Int32} {v5 : Int32} {σ : Sg} (hw : st_X2_workLane_L21 m i1 Q K21 v2 v3 v4 v5 σ) : G X σ [(0, .ref (ad (tE X) m 0 0)), (1, .ref (ad (tE X) m 5 i1)), (2, .int v2), (3, .int v3), (4, .int v4), (5, .int v5)] [] 21 := by
  unfold st_X2_workLane_L21 at hw
  refine gx_iload C dX2_workLane_21 5 rfl ?_
  refine gx_aload_n C dX2_workLane_23 0 rfl ?_
  refine gx_get C (ok0 hm) rfl rfl inX2 (ref := "SweetWraps$Machine") 0 (by decide) bw_88 rfl rfl dX2_workLane_24 ?_
  refine gx_iconst (v := (0 : Int32)) C dX2_workLane_27 (by decide) ?_
  refine gx_iald C (ok1 hm) rfl (n := 4) (x := (0 : Int32)) (by unfold vp_in; decide) 0 (by decide) dX2_workLane_28 ?_
  refine gx_icmp_ge (tgt := 134) C dX2_workLane_29 (by decide) (fun c6 => ?_) (fun c6 => ?_)
  · replace hw := hw.1 c6
    refine gx_iload C dX2_workLane_134 4 rfl ?_
    exact gx_iret C rfl rfl dX2_workLane_136 hw
  · replace hw := hw.2 c6
    refine gx_aload_n C dX2_workLane_32 1 rfl ?_
    refine gx_vcalli (As := []) (rest := []) C (c_X1_nextFlavour _ _ hm hi1 hw) (ok5 hm hi1) rfl rfl bw_295 bw_296 bw_297 bw_3 bw_298 hy_X1_nextFlavour ⟨by decide, by decide⟩ rfl (Nat.le_of_ble_eq_true rfl) dX2_workLane_33 (fun r7 σ8 hw => ?_)
    refine gx_istore (lv' := [(6, .int r7), (0, .ref (ad (tE X) m 0 0)), (1, .ref (ad (tE X) m 5 i1)), (2, .int v2), (3, .int v3), (4, .int v4), (5, .int v5)]) C dX2_workLane_36 (by decide) rfl ?_
    refine gx_aload_n C dX2_workLane_38 1 rfl ?_
    refine gx_iload C dX2_workLane_39 0 rfl ?_
    refine gx_vcalli (As := [.int r7]) (rest := []) C (c_X2_tinFor _ _ hm hw) (ok0 hm) rfl rfl bw_303 bw_305 bs_5 bw_2 bw_306 hy_X2_tinFor ⟨by decide, by decide⟩ rfl (Nat.le_of_ble_eq_true rfl) dX2_workLane_41 (fun r9 σ10 hw => ?_)
    refine gx_istore (lv' := [(7, .int r9), (6, .int r7), (0, .ref (ad (tE X) m 0 0)), (1, .ref (ad (tE X) m 5 i1)), (2, .int v2), (3, .int v3), (4, .int v4), (5, .int v5)]) C dX2_workLane_44 (by decide) rfl ?_
    refine gx_aload_n C dX2_workLane_46 3 rfl ?_
    refine gx_aload_n C dX2_workLane_47 2 rfl ?_
    refine gx_aload_n C dX2_workLane_48 3 rfl ?_
    refine gx_iload C dX2_workLane_49 0 rfl ?_
    refine gx_vcalli (As := [.ref (ad (tE X) m 5 i1), .int r9]) (rest := [.ref (ad (tE X) m 5 i1)]) C (c_X2_reasonOf _ _ hm hi1 hw) (ok0 hm) rfl rfl bw_311 bw_313 bs_6 bw_2 bw_314 hy_X2_reasonOf ⟨by decide, by decide⟩ rfl (Nat.le_of_ble_eq_true rfl) dX2_workLane_51 (fun r11 σ12 hw => ?_)
    refine gx_put C (ok5 hm hi1) rfl rfl inX1 tyX1 tyX1_ok nmX1 (ref := "SweetWraps$Lane") 7 (by decide) bw_46 rfl rfl (v := .int r11) rfl rfl (Nat.le_of_ble_eq_true rfl) (upd (σ12 m 5 i1) 7 r11) rfl dX2_workLane_54 ?_
    obtain ⟨σ13, e_σ13⟩ : ∃ z : Sg, z = up σ12 m 5 i1 7 r11 := ⟨_, rfl⟩
    replace hw := hw σ13 e_σ13
    refine gx_st e_σ13 ?_
    refine gx_aload_n C dX2_workLane_57 3 rfl ?_
    refine gx_get C (ok5 hm hi1) rfl rfl inX1 (ref := "SweetWraps$Lane") 7 (by decide) bw_46 rfl rfl dX2_workLane_58 ?_
    refine gx_if_ne (tgt := 74) C dX2_workLane_61 (by decide) (fun c14 => ?_) (fun c14 => ?_)
    · replace hw := hw.1 c14
      refine gx_iload C dX2_workLane_74 6 rfl ?_
      exact gx_iret C rfl rfl dX2_workLane_76 hw
    · replace hw := hw.2 c14
      refine gx_iload C dX2_workLane_64 0 rfl ?_
      refine gx_bipush (v := (16 : Int32)) C dX2_workLane_66 (by decide) ?_
      refine gx_ncalli (As := [.int r9, .int (16 : Int32)]) (rest := []) (host := "SweetWraps") C (c_X5_isIndex _ _ hw) (nest_in _ (by decide +kernel)) bw_224 bw_1 bw_225 hyS_X5_isIndex ⟨by decide, by decide⟩ rfl (Nat.le_of_ble_eq_true rfl) dX2_workLane_68 (fun r15 σ16 hw => ?_)
      refine gx_if_ne (tgt := 77) C dX2_workLane_71 (by decide) (fun c17 => ?_) (fun c17 => ?_)
      · replace hw := hw.1 c17
        refine gx_aload_n C dX2_workLane_77 2 rfl ?_
        refine gx_dup C dX2_workLane_78 rfl ?_
        refine gx_get C (ok0 hm) rfl rfl inX2 (ref := "SweetWraps$Machine") 6 (by decide) bw_96 rfl rfl dX2_workLane_79 ?_
        refine gx_iload_n C dX2_workLane_82 4 rfl ?_
        refine gx_iadd C dX2_workLane_83 ?_
        refine gx_put C (ok0 hm) rfl rfl inX2 tyX2 tyX2_ok nmX2 (ref := "SweetWraps$Machine") 6 (by decide) bw_96 rfl rfl (v := .int ((σ16 m 0 0 6) + v2)) rfl rfl (Nat.le_of_ble_eq_true rfl) (upd (σ16 m 0 0) 6 ((σ16 m 0 0 6) + v2)) rfl dX2_workLane_84 ?_
        obtain ⟨σ18, e_σ18⟩ : ∃ z : Sg, z = up σ16 m 0 0 6 ((σ16 m 0 0 6) + v2) := ⟨_, rfl⟩
        replace hw := hw σ18 e_σ18
        refine gx_st e_σ18 ?_
        refine gx_aload_n C dX2_workLane_87 3 rfl ?_
        refine gx_iload_n C dX2_workLane_88 4 rfl ?_
        refine gx_iload_n C dX2_workLane_89 5 rfl ?_
        refine gx_vcalli (As := [.int v2, .int v3]) (rest := []) C (c_X1_pullTears _ _ hm hi1 hw) (ok5 hm hi1) rfl rfl bw_394 bw_395 bw_396 bw_3 bw_397 hy_X1_pullTears ⟨by decide, by decide⟩ rfl (Nat.le_of_ble_eq_true rfl) dX2_workLane_90 (fun r19 σ20 hw => ?_)
        refine gx_if_eq (tgt := 109) C dX2_workLane_93 (by decide) (fun c21 => ?_) (fun c21 => ?_)
        · replace hw := hw.1 c21
          refine gx_aload_n C dX2_workLane_109 2 rfl ?_
          refine gx_get C (ok0 hm) rfl rfl inX2 (ref := "SweetWraps$Machine") 2 (by decide) bw_92 rfl rfl dX2_workLane_110 ?_
          refine gx_iload C dX2_workLane_113 0 rfl ?_
          have h22 := hw.1
          replace hw := hw.2
          obtain ⟨a23, e_a23⟩ : ∃ z : Nat, z = r9.toNatClampNeg := ⟨_, rfl⟩
          replace hw := hw a23 e_a23
          have ha23 : a23 < 16 := by rw [e_a23]; exact vp_lt h22
          refine gx_aald C (ok3 hm) rfl (t0 := 4) rfl h22 (v := .ref (ad (tE X) m 8 a23)) (by rw [e_a23]; rfl) dX2_workLane_115 ?_
          refine gx_iload C dX2_workLane_116 1 rfl ?_
          refine gx_vcallv (As := [.int r7]) (rest := []) C (c_X4_add _ _ hm ha23 hw) (ok8 hm ha23) rfl rfl bw_398 bw_399 bw_400 bw_4 bw_401 hy_X4_add ⟨by decide, by decide⟩ rfl (Nat.le_of_ble_eq_true rfl) dX2_workLane_118 (fun σ24 hw => ?_)
          refine gx_aload_n C dX2_workLane_121 3 rfl ?_
          refine gx_vcallv (As := []) (rest := []) C (c_X1_wrapNext _ _ hm hi1 hw) (ok5 hm hi1) rfl rfl bw_403 bw_404 bw_405 bw_3 bw_406 hy_X1_wrapNext ⟨by decide, by decide⟩ rfl (Nat.le_of_ble_eq_true rfl) dX2_workLane_122 (fun σ25 hw => ?_)
          obtain ⟨z26, e_z26⟩ : ∃ z : Int32, z = v4 + (1 : Int32) := ⟨_, rfl⟩
          replace hw := hw z26 e_z26
          refine gx_iinc (v := z26) (lv' := [(4, .int z26), (7, .int r9), (6, .int r7), (0, .ref (ad (tE X) m 0 0)), (1, .ref (ad (tE X) m 5 i1)), (2, .int v2), (3, .int v3), (5, .int v5)]) C dX2_workLane_125 6 rfl (by rw [e_z26]; rfl) (by decide) rfl ?_
          refine gx_sub (lv' := [(0, .ref (ad (tE X) m 0 0)), (1, .ref (ad (tE X) m 5 i1)), (2, .int v2), (3, .int v3), (4, .int z26), (5, .int v5)]) [3, 4, 5, 6, 0, 7] rfl ?_
          exact g_X2_workLane_b128 C hm hi1 hK21 hw
        · replace hw := hw.2 c21
          refine gx_aload_n C dX2_workLane_96 2 rfl ?_
          refine gx_dup C dX2_workLane_97 rfl ?_
          refine gx_get C (ok0 hm) rfl rfl inX2 (ref := "SweetWraps$Machine") 7 (by decide) bw_97 rfl rfl dX2_workLane_98 ?_
          refine gx_iload_n C dX2_workLane_101 4 rfl ?_
          refine gx_iadd C dX2_workLane_102 ?_
          refine gx_put C (ok0 hm) rfl rfl inX2 tyX2 tyX2_ok nmX2 (ref := "SweetWraps$Machine") 7 (by decide) bw_97 rfl rfl (v := .int ((σ20 m 0 0 7) + v2)) rfl rfl (Nat.le_of_ble_eq_true rfl) (upd (σ20 m 0 0) 7 ((σ20 m 0 0 7) + v2)) rfl dX2_workLane_103 ?_
          obtain ⟨σ27, e_σ27⟩ : ∃ z : Sg, z = up σ20 m 0 0 7 ((σ20 m 0 0 7) + v2) := ⟨_, rfl⟩
          replace hw := hw σ27 e_σ27
          refine gx_st e_σ27 ?_
          refine gx_goto (tgt := 128) C dX2_workLane_106 (by decide) ?_
          refine gx_sub (lv' := [(0, .ref (ad (tE X) m 0 0)), (1, .ref (ad (tE X) m 5 i1)), (2, .int v2), (3, .int v3), (4, .int v4), (5, .int v5)]) [2, 3, 4, 5, 6, 7] rfl ?_
          exact g_X2_workLane_b128 C hm hi1 hK21 hw
      · replace hw := hw.2 c17
        refine gx_iload C dX2_workLane_74 6 rfl ?_
        exact gx_iret C rfl rfl dX2_workLane_76 hw
set_option maxRecDepth 100000 in
set_option maxHeartbeats 4000000 in
theorem g_X2_workLane_L21 {X : Tx} {Q : Int32 → Sg → Prop} (C : Cx X cX2_workLane "SweetWraps$Machine" (some .int) 2 61 8 (QI (tE X) Q)) {m : Nat} {i1 : Nat} (hm : m < 11) (hi1 : i1 < 4) {v2 : Int32} {v3 : Int32} {v4 : Int32} {v5 : Int32} {σ : Sg} (hw : wp_X2_workLane_L21 m i1 Q v2 v3 v4 v5 σ) : G X σ [(0, .ref (ad (tE X) m 0 0)), (1, .ref (ad (tE X) m 5 i1)), (2, .int v2), (3, .int v3), (4, .int v4), (5, .int v5)] [] 21 := by
  obtain ⟨n, hw⟩ := hw
  exact lpN_G (P := (fun (a : Int32 × Int32 × Int32 × Int32 × Sg) => G X (a.2.2.2.2) [(0, .ref (ad (tE X) m 0 0)), (1, .ref (ad (tE X) m 5 i1)), (2, .int (a.1)), (3, .int (a.2.1)), (4, .int (a.2.2.1)), (5, .int (a.2.2.2.1))] [] 21)) (fun K a hK h => gs_X2_workLane_L21 C hm hi1 (fun v2 v3 v4 v5 σ h => hK (v2, v3, v4, v5, σ) h) h) n _ hw
def wp_X2_workLane (m : Nat) (i1 : Nat) (σ : Sg) (Q : Int32 → Sg → Prop) : Prop := wp_X2_foilOfPull m σ (fun r1 σ2 => wp_X2_pullsUntilTear m σ2 (fun r3 σ4 => ∀ σ5 : Sg, σ5 = up σ4 m 5 i1 7 (0 : Int32) → wp_X2_workLane_L21 m i1 Q r1 r3 (0 : Int32) (0 : Int32) σ5))
set_option maxRecDepth 100000 in
set_option maxHeartbeats 4000000 in
theorem c_X2_workLane (l : Launch) (E : Ev) {m : Nat} {i1 : Nat} (hm : m < 11) (hi1 : i1 < 4) {σ : Sg} {Q : Int32 → Sg → Prop} (hw : wp_X2_workLane m i1 σ Q) : CT l E yX2_workLane cX2_workLane 8 (some .int) 2 61 [.ref (ad E m 0 0), .ref (ad E m 5 i1)] σ (QI E Q) := by
  refine CT_of (by decide) (Nat.le_of_ble_eq_true rfl) (fun X h1 h2 C => ?_)
  subst h1; subst h2
  have C : Cx X cX2_workLane "SweetWraps$Machine" (some .int) 2 61 8 (QI (tE X) Q) := C
  show G X σ [(0, .ref (ad (tE X) m 0 0)), (1, .ref (ad (tE X) m 5 i1))] [] 0
  unfold wp_X2_workLane at hw
  refine gx_aload_n C dX2_workLane_0 0 rfl ?_
  refine gx_vcalli (As := []) (rest := []) C (c_X2_foilOfPull _ _ hm hw) (ok0 hm) rfl rfl bw_315 bw_317 bs_7 bw_2 bw_318 hy_X2_foilOfPull ⟨by decide, by decide⟩ rfl (Nat.le_of_ble_eq_true rfl) dX2_workLane_1 (fun r1 σ2 hw => ?_)
  refine gx_istore_n (lv' := [(2, .int r1), (0, .ref (ad (tE X) m 0 0)), (1, .ref (ad (tE X) m 5 i1))]) C dX2_workLane_4 (by decide) rfl ?_
  refine gx_aload_n C dX2_workLane_5 1 rfl ?_
  refine gx_vcalli (As := []) (rest := []) C (c_X2_pullsUntilTear _ _ hm hw) (ok0 hm) rfl rfl bw_387 bw_389 bs_14 bw_2 bw_390 hy_X2_pullsUntilTear ⟨by decide, by decide⟩ rfl (Nat.le_of_ble_eq_true rfl) dX2_workLane_6 (fun r3 σ4 hw => ?_)
  refine gx_istore_n (lv' := [(3, .int r3), (2, .int r1), (0, .ref (ad (tE X) m 0 0)), (1, .ref (ad (tE X) m 5 i1))]) C dX2_workLane_9 (by decide) rfl ?_
  refine gx_iconst (v := (0 : Int32)) C dX2_workLane_10 (by decide) ?_
  refine gx_istore (lv' := [(4, .int (0 : Int32)), (3, .int r3), (2, .int r1), (0, .ref (ad (tE X) m 0 0)), (1, .ref (ad (tE X) m 5 i1))]) C dX2_workLane_11 (by decide) rfl ?_
  refine gx_aload_n C dX2_workLane_13 4 rfl ?_
  refine gx_iconst (v := (0 : Int32)) C dX2_workLane_14 (by decide) ?_
  refine gx_put C (ok5 hm hi1) rfl rfl inX1 tyX1 tyX1_ok nmX1 (ref := "SweetWraps$Lane") 7 (by decide) bw_46 rfl rfl (v := .int (0 : Int32)) rfl rfl (Nat.le_of_ble_eq_true rfl) (upd (σ4 m 5 i1) 7 (0 : Int32)) rfl dX2_workLane_15 ?_
  obtain ⟨σ5, e_σ5⟩ : ∃ z : Sg, z = up σ4 m 5 i1 7 (0 : Int32) := ⟨_, rfl⟩
  replace hw := hw σ5 e_σ5
  refine gx_st e_σ5 ?_
  refine gx_iconst (v := (0 : Int32)) C dX2_workLane_18 (by decide) ?_
  refine gx_istore (lv' := [(5, .int (0 : Int32)), (4, .int (0 : Int32)), (3, .int r3), (2, .int r1), (0, .ref (ad (tE X) m 0 0)), (1, .ref (ad (tE X) m 5 i1))]) C dX2_workLane_19 (by decide) rfl ?_
  refine gx_sub (lv' := [(0, .ref (ad (tE X) m 0 0)), (1, .ref (ad (tE X) m 5 i1)), (2, .int r1), (3, .int r3), (4, .int (0 : Int32)), (5, .int (0 : Int32))]) [4, 5, 3, 2, 1, 0] rfl ?_
  exact g_X2_workLane_L21 C hm hi1 hw
theorem hy_X2_workLane : yX2_workLane.cls = "SweetWraps$Machine" ∧ yX2_workLane.cls ≠ "java/lang/invoke/MethodHandle" ∧ yX2_workLane.cls ≠ "java/lang/invoke/VarHandle" ∧ (parseMethodDescriptor yX2_workLane.desc).map (fun d => d.parameters.length) = some 1 := by decide +kernel

theorem dX2_work_0 : decode cX2_work 0 = .ok (.iconst 0, 1) := by decide +kernel
theorem dX2_work_1 : decode cX2_work 1 = .ok (.istore_n 2, 1) := by decide +kernel
theorem dX2_work_2 : decode cX2_work 2 = .ok (.iconst 0, 1) := by decide +kernel
theorem dX2_work_3 : decode cX2_work 3 = .ok (.istore_n 3, 1) := by decide +kernel
theorem dX2_work_4 : decode cX2_work 4 = .ok (.iload_n 3, 1) := by decide +kernel
theorem dX2_work_5 : decode cX2_work 5 = .ok (.iload_n 1, 1) := by decide +kernel
theorem dX2_work_6 : decode cX2_work 6 = .ok (.if_icmp .ge 48, 3) := by decide +kernel
theorem dX2_work_9 : decode cX2_work 9 = .ok (.iconst 0, 1) := by decide +kernel
theorem dX2_work_10 : decode cX2_work 10 = .ok (.istore 4, 2) := by decide +kernel
theorem dX2_work_12 : decode cX2_work 12 = .ok (.iload 4, 2) := by decide +kernel
theorem dX2_work_14 : decode cX2_work 14 = .ok (.iconst 4, 1) := by decide +kernel
theorem dX2_work_15 : decode cX2_work 15 = .ok (.if_icmp .ge 23, 3) := by decide +kernel
theorem dX2_work_18 : decode cX2_work 18 = .ok (.iload_n 2, 1) := by decide +kernel
theorem dX2_work_19 : decode cX2_work 19 = .ok (.aload_n 0, 1) := by decide +kernel
theorem dX2_work_20 : decode cX2_work 20 = .ok (.aload_n 0, 1) := by decide +kernel
theorem dX2_work_21 : decode cX2_work 21 = .ok (.getfield 17, 3) := by decide +kernel
theorem dX2_work_24 : decode cX2_work 24 = .ok (.iload 4, 2) := by decide +kernel
theorem dX2_work_26 : decode cX2_work 26 = .ok (.aaload, 1) := by decide +kernel
theorem dX2_work_27 : decode cX2_work 27 = .ok (.invokevirtual 99, 3) := by decide +kernel
theorem dX2_work_30 : decode cX2_work 30 = .ok (.iadd, 1) := by decide +kernel
theorem dX2_work_31 : decode cX2_work 31 = .ok (.istore_n 2, 1) := by decide +kernel
theorem dX2_work_32 : decode cX2_work 32 = .ok (.iinc 4 1, 3) := by decide +kernel
theorem dX2_work_35 : decode cX2_work 35 = .ok (.goto (-23), 3) := by decide +kernel
theorem dX2_work_38 : decode cX2_work 38 = .ok (.aload_n 0, 1) := by decide +kernel
theorem dX2_work_39 : decode cX2_work 39 = .ok (.dup, 1) := by decide +kernel
theorem dX2_work_40 : decode cX2_work 40 = .ok (.getfield 47, 3) := by decide +kernel
theorem dX2_work_43 : decode cX2_work 43 = .ok (.iconst 1, 1) := by decide +kernel
theorem dX2_work_44 : decode cX2_work 44 = .ok (.iadd, 1) := by decide +kernel
theorem dX2_work_45 : decode cX2_work 45 = .ok (.putfield 47, 3) := by decide +kernel
theorem dX2_work_48 : decode cX2_work 48 = .ok (.iinc 3 1, 3) := by decide +kernel
theorem dX2_work_51 : decode cX2_work 51 = .ok (.goto (-47), 3) := by decide +kernel
theorem dX2_work_54 : decode cX2_work 54 = .ok (.iload_n 2, 1) := by decide +kernel
theorem dX2_work_55 : decode cX2_work 55 = .ok (.ireturn, 1) := by decide +kernel
def st_X2_work_L12 (m : Nat) (x1 : Int32) (K4 : Int32 → Int32 → Sg → Prop) (Q : Int32 → Sg → Prop) (K12 : Int32 → Int32 → Int32 → Sg → Prop) (v2 : Int32) (v3 : Int32) (v4 : Int32) (σ : Sg) : Prop := (((4 : Int32) ≤ v4 → ∀ σ3 : Sg, σ3 = up σ m 0 0 5 ((σ m 0 0 5) + (1 : Int32)) → ∀ z4 : Int32, z4 = v3 + (1 : Int32) → K4 v2 z4 σ3) ∧ (¬ (4 : Int32) ≤ v4 → (vp_in v4 4 ∧ ∀ a6 : Nat, a6 = v4.toNatClampNeg → wp_X2_workLane m a6 σ (fun r7 σ8 => ∀ z9 : Int32, z9 = (v2 + r7) → ∀ z10 : Int32, z10 = v4 + (1 : Int32) → K12 z9 v3 z10 σ8))))
def wp_X2_work_L12 (m : Nat) (x1 : Int32) (K4 : Int32 → Int32 → Sg → Prop) (Q : Int32 → Sg → Prop) (v2 : Int32) (v3 : Int32) (v4 : Int32) (σ : Sg) : Prop := ∃ n : Nat, lpN (fun (K : Int32 × Int32 × Int32 × Sg → Prop) (a : Int32 × Int32 × Int32 × Sg) => st_X2_work_L12 m x1 K4 Q (fun v2 v3 v4 σ => K (v2, v3, v4, σ)) (a.1) (a.2.1) (a.2.2.1) (a.2.2.2)) n (v2, v3, v4, σ)
set_option maxRecDepth 100000 in
set_option maxHeartbeats 4000000 in
theorem gs_X2_work_L12 {X : Tx} {Q : Int32 → Sg → Prop} (C : Cx X cX2_work "SweetWraps$Machine" (some .int) 3 88 5 (QI (tE X) Q)) {m : Nat} {x1 : Int32} (hm : m < 11) {K4 : Int32 → Int32 → Sg → Prop} (hK4 : ∀ (v2 : Int32) (v3 : Int32) (σ : Sg), K4 v2 v3 σ → G X σ [(0, .ref (ad (tE X) m 0 0)), (1, .int x1), (2, .int v2), (3, .int v3)] [] 4) {K12 : Int32 → Int32 → Int32 → Sg → Prop} (hK12 : ∀ (v2 : Int32) (v3 : Int32) (v4 : Int32) (σ : Sg), K12 v2 v3 v4 σ → G X σ [(0, .ref (ad (tE X) m 0 0)), (1, .int x1), (2, .int v2), (3, .int v3), (4, .int v4)] [] 12) {v2 : Int32} {v3 : Int32} {v4 : Int32} {σ : Sg} (hw : st_X2_work_L12 m x1 K4 Q K12 v2 v3 v4 σ) : G X σ [(0, .ref (ad (tE X) m 0 0)), (1, .int x1), (2, .int v2), (3, .int v3), (4, .int v4)] [] 12 := by
  unfold st_X2_work_L12 at hw
  refine gx_iload C dX2_work_12 4 rfl ?_
  refine gx_iconst (v := (4 : Int32)) C dX2_work_14 (by decide) ?_
  refine gx_icmp_ge (tgt := 38) C dX2_work_15 (by decide) (fun c2 => ?_) (fun c2 => ?_)
  · replace hw := hw.1 c2
    refine gx_aload_n C dX2_work_38 0 rfl ?_
    refine gx_dup C dX2_work_39 rfl ?_
    refine gx_get C (ok0 hm) rfl rfl inX2 (ref := "SweetWraps$Machine") 5 (by decide) bw_95 rfl rfl dX2_work_40 ?_
    refine gx_iconst (v := (1 : Int32)) C dX2_work_43 (by decide) ?_
    refine gx_iadd C dX2_work_44 ?_
    refine gx_put C (ok0 hm) rfl rfl inX2 tyX2 tyX2_ok nmX2 (ref := "SweetWraps$Machine") 5 (by decide) bw_95 rfl rfl (v := .int ((σ m 0 0 5) + (1 : Int32))) rfl rfl (Nat.le_of_ble_eq_true rfl) (upd (σ m 0 0) 5 ((σ m 0 0 5) + (1 : Int32))) rfl dX2_work_45 ?_
    obtain ⟨σ3, e_σ3⟩ : ∃ z : Sg, z = up σ m 0 0 5 ((σ m 0 0 5) + (1 : Int32)) := ⟨_, rfl⟩
    replace hw := hw σ3 e_σ3
    refine gx_st e_σ3 ?_
    obtain ⟨z4, e_z4⟩ : ∃ z : Int32, z = v3 + (1 : Int32) := ⟨_, rfl⟩
    replace hw := hw z4 e_z4
    refine gx_iinc (v := z4) (lv' := [(3, .int z4), (0, .ref (ad (tE X) m 0 0)), (1, .int x1), (2, .int v2), (4, .int v4)]) C dX2_work_48 3 rfl (by rw [e_z4]; rfl) (by decide) rfl ?_
    refine gx_goto (tgt := 4) C dX2_work_51 (by decide) ?_
    refine gx_sub (lv' := [(0, .ref (ad (tE X) m 0 0)), (1, .int x1), (2, .int v2), (3, .int z4)]) [1, 2, 3, 0] rfl ?_
    exact hK4 _ _ _ hw
  · replace hw := hw.2 c2
    refine gx_iload_n C dX2_work_18 2 rfl ?_
    refine gx_aload_n C dX2_work_19 0 rfl ?_
    refine gx_aload_n C dX2_work_20 0 rfl ?_
    refine gx_get C (ok0 hm) rfl rfl inX2 (ref := "SweetWraps$Machine") 1 (by decide) bw_90 rfl rfl dX2_work_21 ?_
    refine gx_iload C dX2_work_24 4 rfl ?_
    have h5 := hw.1
    replace hw := hw.2
    obtain ⟨a6, e_a6⟩ : ∃ z : Nat, z = v4.toNatClampNeg := ⟨_, rfl⟩
    replace hw := hw a6 e_a6
    have ha6 : a6 < 4 := by rw [e_a6]; exact vp_lt h5
    refine gx_aald C (ok2 hm) rfl (t0 := 3) rfl h5 (v := .ref (ad (tE X) m 5 a6)) (by rw [e_a6]; rfl) dX2_work_26 ?_
    refine gx_vcalli (As := [.ref (ad (tE X) m 5 a6)]) (rest := [.int v2]) C (c_X2_workLane _ _ hm ha6 hw) (ok0 hm) rfl rfl bw_383 bw_385 bs_13 bw_2 bw_386 hy_X2_workLane ⟨by decide, by decide⟩ rfl (Nat.le_of_ble_eq_true rfl) dX2_work_27 (fun r7 σ8 hw => ?_)
    refine gx_iadd C dX2_work_30 ?_
    obtain ⟨z9, e_z9⟩ : ∃ z : Int32, z = (v2 + r7) := ⟨_, rfl⟩
    replace hw := hw z9 e_z9
    refine gx_top e_z9 ?_
    refine gx_istore_n (lv' := [(2, .int z9), (0, .ref (ad (tE X) m 0 0)), (1, .int x1), (3, .int v3), (4, .int v4)]) C dX2_work_31 (by decide) rfl ?_
    obtain ⟨z10, e_z10⟩ : ∃ z : Int32, z = v4 + (1 : Int32) := ⟨_, rfl⟩
    replace hw := hw z10 e_z10
    refine gx_iinc (v := z10) (lv' := [(4, .int z10), (2, .int z9), (0, .ref (ad (tE X) m 0 0)), (1, .int x1), (3, .int v3)]) C dX2_work_32 4 rfl (by rw [e_z10]; rfl) (by decide) rfl ?_
    refine gx_goto (tgt := 12) C dX2_work_35 (by decide) ?_
    refine gx_sub (lv' := [(0, .ref (ad (tE X) m 0 0)), (1, .int x1), (2, .int z9), (3, .int v3), (4, .int z10)]) [2, 3, 1, 4, 0] rfl ?_
    exact hK12 _ _ _ _ hw
set_option maxRecDepth 100000 in
set_option maxHeartbeats 4000000 in
theorem g_X2_work_L12 {X : Tx} {Q : Int32 → Sg → Prop} (C : Cx X cX2_work "SweetWraps$Machine" (some .int) 3 88 5 (QI (tE X) Q)) {m : Nat} {x1 : Int32} (hm : m < 11) {K4 : Int32 → Int32 → Sg → Prop} (hK4 : ∀ (v2 : Int32) (v3 : Int32) (σ : Sg), K4 v2 v3 σ → G X σ [(0, .ref (ad (tE X) m 0 0)), (1, .int x1), (2, .int v2), (3, .int v3)] [] 4) {v2 : Int32} {v3 : Int32} {v4 : Int32} {σ : Sg} (hw : wp_X2_work_L12 m x1 K4 Q v2 v3 v4 σ) : G X σ [(0, .ref (ad (tE X) m 0 0)), (1, .int x1), (2, .int v2), (3, .int v3), (4, .int v4)] [] 12 := by
  obtain ⟨n, hw⟩ := hw
  exact lpN_G (P := (fun (a : Int32 × Int32 × Int32 × Sg) => G X (a.2.2.2) [(0, .ref (ad (tE X) m 0 0)), (1, .int x1), (2, .int (a.1)), (3, .int (a.2.1)), (4, .int (a.2.2.1))] [] 12)) (fun K a hK h => gs_X2_work_L12 C hm hK4 (fun v2 v3 v4 σ h => hK (v2, v3, v4, σ) h) h) n _ hw
def st_X2_work_L4 (m : Nat) (x1 : Int32) (Q : Int32 → Sg → Prop) (K4 : Int32 → Int32 → Sg → Prop) (v2 : Int32) (v3 : Int32) (σ : Sg) : Prop := ((x1 ≤ v3 → Q v2 σ) ∧ (¬ x1 ≤ v3 → wp_X2_work_L12 m x1 K4 Q v2 v3 (0 : Int32) σ))
def wp_X2_work_L4 (m : Nat) (x1 : Int32) (Q : Int32 → Sg → Prop) (v2 : Int32) (v3 : Int32) (σ : Sg) : Prop := ∃ n : Nat, lpN (fun (K : Int32 × Int32 × Sg → Prop) (a : Int32 × Int32 × Sg) => st_X2_work_L4 m x1 Q (fun v2 v3 σ => K (v2, v3, σ)) (a.1) (a.2.1) (a.2.2)) n (v2, v3, σ)
set_option maxRecDepth 100000 in
set_option maxHeartbeats 4000000 in
theorem gs_X2_work_L4 {X : Tx} {Q : Int32 → Sg → Prop} (C : Cx X cX2_work "SweetWraps$Machine" (some .int) 3 88 5 (QI (tE X) Q)) {m : Nat} {x1 : Int32} (hm : m < 11) {K4 : Int32 → Int32 → Sg → Prop} (hK4 : ∀ (v2 : Int32) (v3 : Int32) (σ : Sg), K4 v2 v3 σ → G X σ [(0, .ref (ad (tE X) m 0 0)), (1, .int x1), (2, .int v2), (3, .int v3)] [] 4) {v2 : Int32} {v3 : Int32} {σ : Sg} (hw : st_X2_work_L4 m x1 Q K4 v2 v3 σ) : G X σ [(0, .ref (ad (tE X) m 0 0)), (1, .int x1), (2, .int v2), (3, .int v3)] [] 4 := by
  unfold st_X2_work_L4 at hw
  refine gx_iload_n C dX2_work_4 3 rfl ?_
  refine gx_iload_n C dX2_work_5 1 rfl ?_
  refine gx_icmp_ge (tgt := 54) C dX2_work_6 (by decide) (fun c1 => ?_) (fun c1 => ?_)
  · replace hw := hw.1 c1
    refine gx_iload_n C dX2_work_54 2 rfl ?_
    exact gx_iret C rfl rfl dX2_work_55 hw
  · replace hw := hw.2 c1
    refine gx_iconst (v := (0 : Int32)) C dX2_work_9 (by decide) ?_
    refine gx_istore (lv' := [(4, .int (0 : Int32)), (0, .ref (ad (tE X) m 0 0)), (1, .int x1), (2, .int v2), (3, .int v3)]) C dX2_work_10 (by decide) rfl ?_
    refine gx_sub (lv' := [(0, .ref (ad (tE X) m 0 0)), (1, .int x1), (2, .int v2), (3, .int v3), (4, .int (0 : Int32))]) [1, 2, 3, 4, 0] rfl ?_
    exact g_X2_work_L12 C hm hK4 hw
set_option maxRecDepth 100000 in
set_option maxHeartbeats 4000000 in
theorem g_X2_work_L4 {X : Tx} {Q : Int32 → Sg → Prop} (C : Cx X cX2_work "SweetWraps$Machine" (some .int) 3 88 5 (QI (tE X) Q)) {m : Nat} {x1 : Int32} (hm : m < 11) {v2 : Int32} {v3 : Int32} {σ : Sg} (hw : wp_X2_work_L4 m x1 Q v2 v3 σ) : G X σ [(0, .ref (ad (tE X) m 0 0)), (1, .int x1), (2, .int v2), (3, .int v3)] [] 4 := by
  obtain ⟨n, hw⟩ := hw
  exact lpN_G (P := (fun (a : Int32 × Int32 × Sg) => G X (a.2.2) [(0, .ref (ad (tE X) m 0 0)), (1, .int x1), (2, .int (a.1)), (3, .int (a.2.1))] [] 4)) (fun K a hK h => gs_X2_work_L4 C hm (fun v2 v3 σ h => hK (v2, v3, σ) h) h) n _ hw
def wp_X2_work (m : Nat) (x1 : Int32) (σ : Sg) (Q : Int32 → Sg → Prop) : Prop := wp_X2_work_L4 m x1 Q (0 : Int32) (0 : Int32) σ
set_option maxRecDepth 100000 in
set_option maxHeartbeats 4000000 in
theorem c_X2_work (l : Launch) (E : Ev) {m : Nat} {x1 : Int32} (hm : m < 11) {σ : Sg} {Q : Int32 → Sg → Prop} (hw : wp_X2_work m x1 σ Q) : CT l E yX2_work cX2_work 5 (some .int) 3 88 [.ref (ad E m 0 0), .int x1] σ (QI E Q) := by
  refine CT_of (by decide) (Nat.le_of_ble_eq_true rfl) (fun X h1 h2 C => ?_)
  subst h1; subst h2
  have C : Cx X cX2_work "SweetWraps$Machine" (some .int) 3 88 5 (QI (tE X) Q) := C
  show G X σ [(0, .ref (ad (tE X) m 0 0)), (1, .int x1)] [] 0
  unfold wp_X2_work at hw
  refine gx_iconst (v := (0 : Int32)) C dX2_work_0 (by decide) ?_
  refine gx_istore_n (lv' := [(2, .int (0 : Int32)), (0, .ref (ad (tE X) m 0 0)), (1, .int x1)]) C dX2_work_1 (by decide) rfl ?_
  refine gx_iconst (v := (0 : Int32)) C dX2_work_2 (by decide) ?_
  refine gx_istore_n (lv' := [(3, .int (0 : Int32)), (2, .int (0 : Int32)), (0, .ref (ad (tE X) m 0 0)), (1, .int x1)]) C dX2_work_3 (by decide) rfl ?_
  refine gx_sub (lv' := [(0, .ref (ad (tE X) m 0 0)), (1, .int x1), (2, .int (0 : Int32)), (3, .int (0 : Int32))]) [2, 3, 1, 0] rfl ?_
  exact g_X2_work_L4 C hm hw
theorem hy_X2_work : yX2_work.cls = "SweetWraps$Machine" ∧ yX2_work.cls ≠ "java/lang/invoke/MethodHandle" ∧ yX2_work.cls ≠ "java/lang/invoke/VarHandle" ∧ (parseMethodDescriptor yX2_work.desc).map (fun d => d.parameters.length) = some 1 := by decide +kernel

theorem dX2_runTicks_0 : decode cX2_runTicks 0 = .ok (.iload_n 1, 1) := by decide +kernel
theorem dX2_runTicks_1 : decode cX2_runTicks 1 = .ok (.iconst 1, 1) := by decide +kernel
theorem dX2_runTicks_2 : decode cX2_runTicks 2 = .ok (.bipush 99, 2) := by decide +kernel
theorem dX2_runTicks_4 : decode cX2_runTicks 4 = .ok (.invokestatic 66, 3) := by decide +kernel
theorem dX2_runTicks_7 : decode cX2_runTicks 7 = .ok (.ifCond .ne 6, 3) := by decide +kernel
theorem dX2_runTicks_10 : decode cX2_runTicks 10 = .ok (.bipush (-2), 2) := by decide +kernel
theorem dX2_runTicks_12 : decode cX2_runTicks 12 = .ok (.ireturn, 1) := by decide +kernel
theorem dX2_runTicks_13 : decode cX2_runTicks 13 = .ok (.aload_n 0, 1) := by decide +kernel
theorem dX2_runTicks_14 : decode cX2_runTicks 14 = .ok (.getfield 47, 3) := by decide +kernel
theorem dX2_runTicks_17 : decode cX2_runTicks 17 = .ok (.iload_n 1, 1) := by decide +kernel
theorem dX2_runTicks_18 : decode cX2_runTicks 18 = .ok (.iadd, 1) := by decide +kernel
theorem dX2_runTicks_19 : decode cX2_runTicks 19 = .ok (.sipush 9999, 3) := by decide +kernel
theorem dX2_runTicks_22 : decode cX2_runTicks 22 = .ok (.if_icmp .le 6, 3) := by decide +kernel
theorem dX2_runTicks_25 : decode cX2_runTicks 25 = .ok (.bipush (-5), 2) := by decide +kernel
theorem dX2_runTicks_27 : decode cX2_runTicks 27 = .ok (.ireturn, 1) := by decide +kernel
theorem dX2_runTicks_28 : decode cX2_runTicks 28 = .ok (.aload_n 0, 1) := by decide +kernel
theorem dX2_runTicks_29 : decode cX2_runTicks 29 = .ok (.iload_n 1, 1) := by decide +kernel
theorem dX2_runTicks_30 : decode cX2_runTicks 30 = .ok (.invokevirtual 95, 3) := by decide +kernel
theorem dX2_runTicks_33 : decode cX2_runTicks 33 = .ok (.ireturn, 1) := by decide +kernel
def wp_X2_runTicks (m : Nat) (x1 : Int32) (σ : Sg) (Q : Int32 → Sg → Prop) : Prop := wp_X5_isBetween x1 (1 : Int32) (99 : Int32) σ (fun r1 σ2 => ((¬ r1 = 0 → ((((σ2 m 0 0 5) + x1) ≤ (9999 : Int32) → wp_X2_work m x1 σ2 (fun r5 σ6 => Q r5 σ6)) ∧ (¬ ((σ2 m 0 0 5) + x1) ≤ (9999 : Int32) → Q (-5 : Int32) σ2))) ∧ (r1 = 0 → Q (-2 : Int32) σ2)))
set_option maxRecDepth 100000 in
set_option maxHeartbeats 4000000 in
theorem c_X2_runTicks (l : Launch) (E : Ev) {m : Nat} {x1 : Int32} (hm : m < 11) {σ : Sg} {Q : Int32 → Sg → Prop} (hw : wp_X2_runTicks m x1 σ Q) : CT l E yX2_runTicks cX2_runTicks 2 (some .int) 4 112 [.ref (ad E m 0 0), .int x1] σ (QI E Q) := by
  refine CT_of (by decide) (Nat.le_of_ble_eq_true rfl) (fun X h1 h2 C => ?_)
  subst h1; subst h2
  have C : Cx X cX2_runTicks "SweetWraps$Machine" (some .int) 4 112 2 (QI (tE X) Q) := C
  show G X σ [(0, .ref (ad (tE X) m 0 0)), (1, .int x1)] [] 0
  unfold wp_X2_runTicks at hw
  refine gx_iload_n C dX2_runTicks_0 1 rfl ?_
  refine gx_iconst (v := (1 : Int32)) C dX2_runTicks_1 (by decide) ?_
  refine gx_bipush (v := (99 : Int32)) C dX2_runTicks_2 (by decide) ?_
  refine gx_ncalli (As := [.int x1, .int (1 : Int32), .int (99 : Int32)]) (rest := []) (host := "SweetWraps") C (c_X5_isBetween _ _ hw) (nest_in _ (by decide +kernel)) bw_227 bw_1 bw_228 hyS_X5_isBetween ⟨by decide, by decide⟩ rfl (Nat.le_of_ble_eq_true rfl) dX2_runTicks_4 (fun r1 σ2 hw => ?_)
  refine gx_if_ne (tgt := 13) C dX2_runTicks_7 (by decide) (fun c3 => ?_) (fun c3 => ?_)
  · replace hw := hw.1 c3
    refine gx_aload_n C dX2_runTicks_13 0 rfl ?_
    refine gx_get C (ok0 hm) rfl rfl inX2 (ref := "SweetWraps$Machine") 5 (by decide) bw_95 rfl rfl dX2_runTicks_14 ?_
    refine gx_iload_n C dX2_runTicks_17 1 rfl ?_
    refine gx_iadd C dX2_runTicks_18 ?_
    refine gx_sipush (v := (9999 : Int32)) C dX2_runTicks_19 (by decide) ?_
    refine gx_icmp_le (tgt := 28) C dX2_runTicks_22 (by decide) (fun c4 => ?_) (fun c4 => ?_)
    · replace hw := hw.1 c4
      refine gx_aload_n C dX2_runTicks_28 0 rfl ?_
      refine gx_iload_n C dX2_runTicks_29 1 rfl ?_
      refine gx_vcalli (As := [.int x1]) (rest := []) C (c_X2_work _ _ hm hw) (ok0 hm) rfl rfl bw_379 bw_380 bw_381 bw_2 bw_382 hy_X2_work ⟨by decide, by decide⟩ rfl (Nat.le_of_ble_eq_true rfl) dX2_runTicks_30 (fun r5 σ6 hw => ?_)
      exact gx_iret C rfl rfl dX2_runTicks_33 hw
    · replace hw := hw.2 c4
      refine gx_bipush (v := (-5 : Int32)) C dX2_runTicks_25 (by decide) ?_
      exact gx_iret C rfl rfl dX2_runTicks_27 hw
  · replace hw := hw.2 c3
    refine gx_bipush (v := (-2 : Int32)) C dX2_runTicks_10 (by decide) ?_
    exact gx_iret C rfl rfl dX2_runTicks_12 hw
theorem hy_X2_runTicks : yX2_runTicks.cls = "SweetWraps$Machine" ∧ yX2_runTicks.cls ≠ "java/lang/invoke/MethodHandle" ∧ yX2_runTicks.cls ≠ "java/lang/invoke/VarHandle" ∧ (parseMethodDescriptor yX2_runTicks.desc).map (fun d => d.parameters.length) = some 1 := by decide +kernel

theorem dX2_reasonNow_0 : decode cX2_reasonNow 0 = .ok (.aload_n 0, 1) := by decide +kernel
theorem dX2_reasonNow_1 : decode cX2_reasonNow 1 = .ok (.aload_n 1, 1) := by decide +kernel
theorem dX2_reasonNow_2 : decode cX2_reasonNow 2 = .ok (.aload_n 0, 1) := by decide +kernel
theorem dX2_reasonNow_3 : decode cX2_reasonNow 3 = .ok (.aload_n 1, 1) := by decide +kernel
theorem dX2_reasonNow_4 : decode cX2_reasonNow 4 = .ok (.invokevirtual 113, 3) := by decide +kernel
theorem dX2_reasonNow_7 : decode cX2_reasonNow 7 = .ok (.invokevirtual 116, 3) := by decide +kernel
theorem dX2_reasonNow_10 : decode cX2_reasonNow 10 = .ok (.invokevirtual 119, 3) := by decide +kernel
theorem dX2_reasonNow_13 : decode cX2_reasonNow 13 = .ok (.ireturn, 1) := by decide +kernel
def wp_X2_reasonNow (m : Nat) (i1 : Nat) (σ : Sg) (Q : Int32 → Sg → Prop) : Prop := wp_X1_nextFlavour m i1 σ (fun r1 σ2 => wp_X2_tinFor m r1 σ2 (fun r3 σ4 => wp_X2_reasonOf m i1 r3 σ4 (fun r5 σ6 => Q r5 σ6)))
set_option maxRecDepth 100000 in
set_option maxHeartbeats 4000000 in
theorem c_X2_reasonNow (l : Launch) (E : Ev) {m : Nat} {i1 : Nat} (hm : m < 11) (hi1 : i1 < 4) {σ : Sg} {Q : Int32 → Sg → Prop} (hw : wp_X2_reasonNow m i1 σ Q) : CT l E yX2_reasonNow cX2_reasonNow 2 (some .int) 2 44 [.ref (ad E m 0 0), .ref (ad E m 5 i1)] σ (QI E Q) := by
  refine CT_of (by decide) (Nat.le_of_ble_eq_true rfl) (fun X h1 h2 C => ?_)
  subst h1; subst h2
  have C : Cx X cX2_reasonNow "SweetWraps$Machine" (some .int) 2 44 2 (QI (tE X) Q) := C
  show G X σ [(0, .ref (ad (tE X) m 0 0)), (1, .ref (ad (tE X) m 5 i1))] [] 0
  unfold wp_X2_reasonNow at hw
  refine gx_aload_n C dX2_reasonNow_0 0 rfl ?_
  refine gx_aload_n C dX2_reasonNow_1 1 rfl ?_
  refine gx_aload_n C dX2_reasonNow_2 0 rfl ?_
  refine gx_aload_n C dX2_reasonNow_3 1 rfl ?_
  refine gx_vcalli (As := []) (rest := [.ref (ad (tE X) m 0 0), .ref (ad (tE X) m 5 i1), .ref (ad (tE X) m 0 0)]) C (c_X1_nextFlavour _ _ hm hi1 hw) (ok5 hm hi1) rfl rfl bw_295 bw_296 bw_297 bw_3 bw_298 hy_X1_nextFlavour ⟨by decide, by decide⟩ rfl (Nat.le_of_ble_eq_true rfl) dX2_reasonNow_4 (fun r1 σ2 hw => ?_)
  refine gx_vcalli (As := [.int r1]) (rest := [.ref (ad (tE X) m 5 i1), .ref (ad (tE X) m 0 0)]) C (c_X2_tinFor _ _ hm hw) (ok0 hm) rfl rfl bw_303 bw_305 bs_5 bw_2 bw_306 hy_X2_tinFor ⟨by decide, by decide⟩ rfl (Nat.le_of_ble_eq_true rfl) dX2_reasonNow_7 (fun r3 σ4 hw => ?_)
  refine gx_vcalli (As := [.ref (ad (tE X) m 5 i1), .int r3]) (rest := []) C (c_X2_reasonOf _ _ hm hi1 hw) (ok0 hm) rfl rfl bw_311 bw_313 bs_6 bw_2 bw_314 hy_X2_reasonOf ⟨by decide, by decide⟩ rfl (Nat.le_of_ble_eq_true rfl) dX2_reasonNow_10 (fun r5 σ6 hw => ?_)
  exact gx_iret C rfl rfl dX2_reasonNow_13 hw
theorem hy_X2_reasonNow : yX2_reasonNow.cls = "SweetWraps$Machine" ∧ yX2_reasonNow.cls ≠ "java/lang/invoke/MethodHandle" ∧ yX2_reasonNow.cls ≠ "java/lang/invoke/VarHandle" ∧ (parseMethodDescriptor yX2_reasonNow.desc).map (fun d => d.parameters.length) = some 1 := by decide +kernel

theorem dX2_laneFact_0 : decode cX2_laneFact 0 = .ok (.iload_n 1, 1) := by decide +kernel
theorem dX2_laneFact_1 : decode cX2_laneFact 1 = .ok (.iconst 4, 1) := by decide +kernel
theorem dX2_laneFact_2 : decode cX2_laneFact 2 = .ok (.invokestatic 56, 3) := by decide +kernel
theorem dX2_laneFact_5 : decode cX2_laneFact 5 = .ok (.ifCond .ne 5, 3) := by decide +kernel
theorem dX2_laneFact_8 : decode cX2_laneFact 8 = .ok (.iconst (-1), 1) := by decide +kernel
theorem dX2_laneFact_9 : decode cX2_laneFact 9 = .ok (.ireturn, 1) := by decide +kernel
theorem dX2_laneFact_10 : decode cX2_laneFact 10 = .ok (.aload_n 0, 1) := by decide +kernel
theorem dX2_laneFact_11 : decode cX2_laneFact 11 = .ok (.getfield 17, 3) := by decide +kernel
theorem dX2_laneFact_14 : decode cX2_laneFact 14 = .ok (.iload_n 1, 1) := by decide +kernel
theorem dX2_laneFact_15 : decode cX2_laneFact 15 = .ok (.aaload, 1) := by decide +kernel
theorem dX2_laneFact_16 : decode cX2_laneFact 16 = .ok (.astore_n 3, 1) := by decide +kernel
theorem dX2_laneFact_17 : decode cX2_laneFact 17 = .ok (.iload_n 2, 1) := by decide +kernel
theorem dX2_laneFact_18 : decode cX2_laneFact 18 = .ok (.tableswitch 87 0 7 #[46, 51, 56, 61, 66, 71, 76, 81], 46) := by decide +kernel
theorem dX2_laneFact_64 : decode cX2_laneFact 64 = .ok (.aload_n 3, 1) := by decide +kernel
theorem dX2_laneFact_65 : decode cX2_laneFact 65 = .ok (.invokevirtual 144, 3) := by decide +kernel
theorem dX2_laneFact_68 : decode cX2_laneFact 68 = .ok (.ireturn, 1) := by decide +kernel
theorem dX2_laneFact_69 : decode cX2_laneFact 69 = .ok (.aload_n 3, 1) := by decide +kernel
theorem dX2_laneFact_70 : decode cX2_laneFact 70 = .ok (.getfield 138, 3) := by decide +kernel
theorem dX2_laneFact_73 : decode cX2_laneFact 73 = .ok (.ireturn, 1) := by decide +kernel
theorem dX2_laneFact_74 : decode cX2_laneFact 74 = .ok (.aload_n 3, 1) := by decide +kernel
theorem dX2_laneFact_75 : decode cX2_laneFact 75 = .ok (.invokevirtual 113, 3) := by decide +kernel
theorem dX2_laneFact_78 : decode cX2_laneFact 78 = .ok (.ireturn, 1) := by decide +kernel
theorem dX2_laneFact_79 : decode cX2_laneFact 79 = .ok (.aload_n 3, 1) := by decide +kernel
theorem dX2_laneFact_80 : decode cX2_laneFact 80 = .ok (.getfield 74, 3) := by decide +kernel
theorem dX2_laneFact_83 : decode cX2_laneFact 83 = .ok (.ireturn, 1) := by decide +kernel
theorem dX2_laneFact_84 : decode cX2_laneFact 84 = .ok (.aload_n 3, 1) := by decide +kernel
theorem dX2_laneFact_85 : decode cX2_laneFact 85 = .ok (.getfield 147, 3) := by decide +kernel
theorem dX2_laneFact_88 : decode cX2_laneFact 88 = .ok (.ireturn, 1) := by decide +kernel
theorem dX2_laneFact_89 : decode cX2_laneFact 89 = .ok (.aload_n 3, 1) := by decide +kernel
theorem dX2_laneFact_90 : decode cX2_laneFact 90 = .ok (.getfield 150, 3) := by decide +kernel
theorem dX2_laneFact_93 : decode cX2_laneFact 93 = .ok (.ireturn, 1) := by decide +kernel
theorem dX2_laneFact_94 : decode cX2_laneFact 94 = .ok (.aload_n 3, 1) := by decide +kernel
theorem dX2_laneFact_95 : decode cX2_laneFact 95 = .ok (.getfield 153, 3) := by decide +kernel
theorem dX2_laneFact_98 : decode cX2_laneFact 98 = .ok (.ireturn, 1) := by decide +kernel
theorem dX2_laneFact_99 : decode cX2_laneFact 99 = .ok (.aload_n 0, 1) := by decide +kernel
theorem dX2_laneFact_100 : decode cX2_laneFact 100 = .ok (.aload_n 3, 1) := by decide +kernel
theorem dX2_laneFact_101 : decode cX2_laneFact 101 = .ok (.invokevirtual 156, 3) := by decide +kernel
theorem dX2_laneFact_104 : decode cX2_laneFact 104 = .ok (.ireturn, 1) := by decide +kernel
theorem dX2_laneFact_105 : decode cX2_laneFact 105 = .ok (.bipush (-2), 2) := by decide +kernel
theorem dX2_laneFact_107 : decode cX2_laneFact 107 = .ok (.ireturn, 1) := by decide +kernel
def wp_X2_laneFact (m : Nat) (x1 : Int32) (x2 : Int32) (σ : Sg) (Q : Int32 → Sg → Prop) : Prop := wp_X5_isIndex x1 (4 : Int32) σ (fun r1 σ2 => ((¬ r1 = 0 → (vp_in x1 4 ∧ ∀ a5 : Nat, a5 = x1.toNatClampNeg → ((x2 = (0 : Int32) → wp_X1_sweetsInHopper m a5 σ2 (fun r14 σ15 => Q r14 σ15)) ∧ (¬ x2 = (0 : Int32) → ((x2 = (1 : Int32) → Q (σ2 m 5 a5 2) σ2) ∧ (¬ x2 = (1 : Int32) → ((x2 = (2 : Int32) → wp_X1_nextFlavour m a5 σ2 (fun r16 σ17 => Q r16 σ17)) ∧ (¬ x2 = (2 : Int32) → ((x2 = (3 : Int32) → Q (σ2 m 5 a5 3) σ2) ∧ (¬ x2 = (3 : Int32) → ((x2 = (4 : Int32) → Q (σ2 m 5 a5 4) σ2) ∧ (¬ x2 = (4 : Int32) → ((x2 = (5 : Int32) → Q (σ2 m 5 a5 5) σ2) ∧ (¬ x2 = (5 : Int32) → ((x2 = (6 : Int32) → Q (σ2 m 5 a5 6) σ2) ∧ (¬ x2 = (6 : Int32) → ((x2 = (7 : Int32) → wp_X2_reasonNow m a5 σ2 (fun r18 σ19 => Q r18 σ19)) ∧ (¬ x2 = (7 : Int32) → Q (-2 : Int32) σ2)))))))))))))))))) ∧ (r1 = 0 → Q (-1 : Int32) σ2)))
set_option maxRecDepth 100000 in
set_option maxHeartbeats 4000000 in
theorem c_X2_laneFact (l : Launch) (E : Ev) {m : Nat} {x1 : Int32} {x2 : Int32} (hm : m < 11) {σ : Sg} {Q : Int32 → Sg → Prop} (hw : wp_X2_laneFact m x1 x2 σ Q) : CT l E yX2_laneFact cX2_laneFact 4 (some .int) 3 65 [.ref (ad E m 0 0), .int x1, .int x2] σ (QI E Q) := by
  refine CT_of (by decide) (Nat.le_of_ble_eq_true rfl) (fun X h1 h2 C => ?_)
  subst h1; subst h2
  have C : Cx X cX2_laneFact "SweetWraps$Machine" (some .int) 3 65 4 (QI (tE X) Q) := C
  show G X σ [(0, .ref (ad (tE X) m 0 0)), (1, .int x1), (2, .int x2)] [] 0
  unfold wp_X2_laneFact at hw
  refine gx_iload_n C dX2_laneFact_0 1 rfl ?_
  refine gx_iconst (v := (4 : Int32)) C dX2_laneFact_1 (by decide) ?_
  refine gx_ncalli (As := [.int x1, .int (4 : Int32)]) (rest := []) (host := "SweetWraps") C (c_X5_isIndex _ _ hw) (nest_in _ (by decide +kernel)) bw_224 bw_1 bw_225 hyS_X5_isIndex ⟨by decide, by decide⟩ rfl (Nat.le_of_ble_eq_true rfl) dX2_laneFact_2 (fun r1 σ2 hw => ?_)
  refine gx_if_ne (tgt := 10) C dX2_laneFact_5 (by decide) (fun c3 => ?_) (fun c3 => ?_)
  · replace hw := hw.1 c3
    refine gx_aload_n C dX2_laneFact_10 0 rfl ?_
    refine gx_get C (ok0 hm) rfl rfl inX2 (ref := "SweetWraps$Machine") 1 (by decide) bw_90 rfl rfl dX2_laneFact_11 ?_
    refine gx_iload_n C dX2_laneFact_14 1 rfl ?_
    have h4 := hw.1
    replace hw := hw.2
    obtain ⟨a5, e_a5⟩ : ∃ z : Nat, z = x1.toNatClampNeg := ⟨_, rfl⟩
    replace hw := hw a5 e_a5
    have ha5 : a5 < 4 := by rw [e_a5]; exact vp_lt h4
    refine gx_aald C (ok2 hm) rfl (t0 := 3) rfl h4 (v := .ref (ad (tE X) m 5 a5)) (by rw [e_a5]; rfl) dX2_laneFact_15 ?_
    refine gx_astore_n (lv' := [(3, .ref (ad (tE X) m 5 a5)), (0, .ref (ad (tE X) m 0 0)), (1, .int x1), (2, .int x2)]) C dX2_laneFact_16 (by decide) rfl ?_
    refine gx_iload_n C dX2_laneFact_17 3 rfl ?_
    by_cases c6 : x2 = (0 : Int32)
    · replace hw := hw.1 c6
      refine gx_table (tgt := 64) (off := 46) C dX2_laneFact_18 (0 : Int32) c6 (by decide) (by decide) rfl (by decide) ?_
      refine gx_aload_n C dX2_laneFact_64 0 rfl ?_
      refine gx_vcalli (As := []) (rest := []) C (c_X1_sweetsInHopper _ _ hm ha5 hw) (ok5 hm ha5) rfl rfl bw_294 bw_239 bw_240 bw_3 bw_241 hy_X1_sweetsInHopper ⟨by decide, by decide⟩ rfl (Nat.le_of_ble_eq_true rfl) dX2_laneFact_65 (fun r14 σ15 hw => ?_)
      exact gx_iret C rfl rfl dX2_laneFact_68 hw
    · replace hw := hw.2 c6
      by_cases c7 : x2 = (1 : Int32)
      · replace hw := hw.1 c7
        refine gx_table (tgt := 69) (off := 51) C dX2_laneFact_18 (1 : Int32) c7 (by decide) (by decide) rfl (by decide) ?_
        refine gx_aload_n C dX2_laneFact_69 0 rfl ?_
        refine gx_get C (ok5 hm ha5) rfl rfl inX1 (ref := "SweetWraps$Lane") 2 (by decide) bw_37 rfl rfl dX2_laneFact_70 ?_
        exact gx_iret C rfl rfl dX2_laneFact_73 hw
      · replace hw := hw.2 c7
        by_cases c8 : x2 = (2 : Int32)
        · replace hw := hw.1 c8
          refine gx_table (tgt := 74) (off := 56) C dX2_laneFact_18 (2 : Int32) c8 (by decide) (by decide) rfl (by decide) ?_
          refine gx_aload_n C dX2_laneFact_74 0 rfl ?_
          refine gx_vcalli (As := []) (rest := []) C (c_X1_nextFlavour _ _ hm ha5 hw) (ok5 hm ha5) rfl rfl bw_295 bw_296 bw_297 bw_3 bw_298 hy_X1_nextFlavour ⟨by decide, by decide⟩ rfl (Nat.le_of_ble_eq_true rfl) dX2_laneFact_75 (fun r16 σ17 hw => ?_)
          exact gx_iret C rfl rfl dX2_laneFact_78 hw
        · replace hw := hw.2 c8
          by_cases c9 : x2 = (3 : Int32)
          · replace hw := hw.1 c9
            refine gx_table (tgt := 79) (off := 61) C dX2_laneFact_18 (3 : Int32) c9 (by decide) (by decide) rfl (by decide) ?_
            refine gx_aload_n C dX2_laneFact_79 0 rfl ?_
            refine gx_get C (ok5 hm ha5) rfl rfl inX1 (ref := "SweetWraps$Lane") 3 (by decide) bw_39 rfl rfl dX2_laneFact_80 ?_
            exact gx_iret C rfl rfl dX2_laneFact_83 hw
          · replace hw := hw.2 c9
            by_cases c10 : x2 = (4 : Int32)
            · replace hw := hw.1 c10
              refine gx_table (tgt := 84) (off := 66) C dX2_laneFact_18 (4 : Int32) c10 (by decide) (by decide) rfl (by decide) ?_
              refine gx_aload_n C dX2_laneFact_84 0 rfl ?_
              refine gx_get C (ok5 hm ha5) rfl rfl inX1 (ref := "SweetWraps$Lane") 4 (by decide) bw_41 rfl rfl dX2_laneFact_85 ?_
              exact gx_iret C rfl rfl dX2_laneFact_88 hw
            · replace hw := hw.2 c10
              by_cases c11 : x2 = (5 : Int32)
              · replace hw := hw.1 c11
                refine gx_table (tgt := 89) (off := 71) C dX2_laneFact_18 (5 : Int32) c11 (by decide) (by decide) rfl (by decide) ?_
                refine gx_aload_n C dX2_laneFact_89 0 rfl ?_
                refine gx_get C (ok5 hm ha5) rfl rfl inX1 (ref := "SweetWraps$Lane") 5 (by decide) bw_43 rfl rfl dX2_laneFact_90 ?_
                exact gx_iret C rfl rfl dX2_laneFact_93 hw
              · replace hw := hw.2 c11
                by_cases c12 : x2 = (6 : Int32)
                · replace hw := hw.1 c12
                  refine gx_table (tgt := 94) (off := 76) C dX2_laneFact_18 (6 : Int32) c12 (by decide) (by decide) rfl (by decide) ?_
                  refine gx_aload_n C dX2_laneFact_94 0 rfl ?_
                  refine gx_get C (ok5 hm ha5) rfl rfl inX1 (ref := "SweetWraps$Lane") 6 (by decide) bw_45 rfl rfl dX2_laneFact_95 ?_
                  exact gx_iret C rfl rfl dX2_laneFact_98 hw
                · replace hw := hw.2 c12
                  by_cases c13 : x2 = (7 : Int32)
                  · replace hw := hw.1 c13
                    refine gx_table (tgt := 99) (off := 81) C dX2_laneFact_18 (7 : Int32) c13 (by decide) (by decide) rfl (by decide) ?_
                    refine gx_aload_n C dX2_laneFact_99 1 rfl ?_
                    refine gx_aload_n C dX2_laneFact_100 0 rfl ?_
                    refine gx_vcalli (As := [.ref (ad (tE X) m 5 a5)]) (rest := []) C (c_X2_reasonNow _ _ hm ha5 hw) (ok0 hm) rfl rfl bw_299 bw_301 bs_4 bw_2 bw_302 hy_X2_reasonNow ⟨by decide, by decide⟩ rfl (Nat.le_of_ble_eq_true rfl) dX2_laneFact_101 (fun r18 σ19 hw => ?_)
                    exact gx_iret C rfl rfl dX2_laneFact_104 hw
                  · replace hw := hw.2 c13
                    refine gx_tableD (tgt := 105) C dX2_laneFact_18 (by decide) [((46 : Int), (0 : Nat)), ((51 : Int), (1 : Nat)), ((56 : Int), (2 : Nat)), ((61 : Int), (3 : Nat)), ((66 : Int), (4 : Nat)), ((71 : Int), (5 : Nat)), ((76 : Int), (6 : Nat)), ((81 : Int), (7 : Nat))] rfl (List.forall_mem_cons.mpr ⟨Or.inr ⟨(0 : Int32), c6, by decide⟩, List.forall_mem_cons.mpr ⟨Or.inr ⟨(1 : Int32), c7, by decide⟩, List.forall_mem_cons.mpr ⟨Or.inr ⟨(2 : Int32), c8, by decide⟩, List.forall_mem_cons.mpr ⟨Or.inr ⟨(3 : Int32), c9, by decide⟩, List.forall_mem_cons.mpr ⟨Or.inr ⟨(4 : Int32), c10, by decide⟩, List.forall_mem_cons.mpr ⟨Or.inr ⟨(5 : Int32), c11, by decide⟩, List.forall_mem_cons.mpr ⟨Or.inr ⟨(6 : Int32), c12, by decide⟩, List.forall_mem_cons.mpr ⟨Or.inr ⟨(7 : Int32), c13, by decide⟩, fun _ h => absurd h List.not_mem_nil⟩⟩⟩⟩⟩⟩⟩⟩) (by decide) ?_
                    refine gx_bipush (v := (-2 : Int32)) C dX2_laneFact_105 (by decide) ?_
                    exact gx_iret C rfl rfl dX2_laneFact_107 hw
  · replace hw := hw.2 c3
    refine gx_iconst (v := (-1 : Int32)) C dX2_laneFact_8 (by decide) ?_
    exact gx_iret C rfl rfl dX2_laneFact_9 hw
theorem hy_X2_laneFact : yX2_laneFact.cls = "SweetWraps$Machine" ∧ yX2_laneFact.cls ≠ "java/lang/invoke/MethodHandle" ∧ yX2_laneFact.cls ≠ "java/lang/invoke/VarHandle" ∧ (parseMethodDescriptor yX2_laneFact.desc).map (fun d => d.parameters.length) = some 2 := by decide +kernel

theorem dX2_heapFact_0 : decode cX2_heapFact 0 = .ok (.iload_n 1, 1) := by decide +kernel
theorem dX2_heapFact_1 : decode cX2_heapFact 1 = .ok (.iconst 4, 1) := by decide +kernel
theorem dX2_heapFact_2 : decode cX2_heapFact 2 = .ok (.invokestatic 56, 3) := by decide +kernel
theorem dX2_heapFact_5 : decode cX2_heapFact 5 = .ok (.ifCond .eq 16, 3) := by decide +kernel
theorem dX2_heapFact_8 : decode cX2_heapFact 8 = .ok (.aload_n 0, 1) := by decide +kernel
theorem dX2_heapFact_9 : decode cX2_heapFact 9 = .ok (.getfield 17, 3) := by decide +kernel
theorem dX2_heapFact_12 : decode cX2_heapFact 12 = .ok (.iload_n 1, 1) := by decide +kernel
theorem dX2_heapFact_13 : decode cX2_heapFact 13 = .ok (.aaload, 1) := by decide +kernel
theorem dX2_heapFact_14 : decode cX2_heapFact 14 = .ok (.iload_n 2, 1) := by decide +kernel
theorem dX2_heapFact_15 : decode cX2_heapFact 15 = .ok (.invokevirtual 159, 3) := by decide +kernel
theorem dX2_heapFact_18 : decode cX2_heapFact 18 = .ok (.ifCond .ne 5, 3) := by decide +kernel
theorem dX2_heapFact_21 : decode cX2_heapFact 21 = .ok (.iconst (-1), 1) := by decide +kernel
theorem dX2_heapFact_22 : decode cX2_heapFact 22 = .ok (.ireturn, 1) := by decide +kernel
theorem dX2_heapFact_23 : decode cX2_heapFact 23 = .ok (.iload_n 3, 1) := by decide +kernel
theorem dX2_heapFact_24 : decode cX2_heapFact 24 = .ok (.lookupswitch 52 #[(0, 28), (1, 40)], 28) := by decide +kernel
theorem dX2_heapFact_52 : decode cX2_heapFact 52 = .ok (.aload_n 0, 1) := by decide +kernel
theorem dX2_heapFact_53 : decode cX2_heapFact 53 = .ok (.getfield 17, 3) := by decide +kernel
theorem dX2_heapFact_56 : decode cX2_heapFact 56 = .ok (.iload_n 1, 1) := by decide +kernel
theorem dX2_heapFact_57 : decode cX2_heapFact 57 = .ok (.aaload, 1) := by decide +kernel
theorem dX2_heapFact_58 : decode cX2_heapFact 58 = .ok (.getfield 162, 3) := by decide +kernel
theorem dX2_heapFact_61 : decode cX2_heapFact 61 = .ok (.iload_n 2, 1) := by decide +kernel
theorem dX2_heapFact_62 : decode cX2_heapFact 62 = .ok (.iaload, 1) := by decide +kernel
theorem dX2_heapFact_63 : decode cX2_heapFact 63 = .ok (.ireturn, 1) := by decide +kernel
theorem dX2_heapFact_64 : decode cX2_heapFact 64 = .ok (.aload_n 0, 1) := by decide +kernel
theorem dX2_heapFact_65 : decode cX2_heapFact 65 = .ok (.getfield 17, 3) := by decide +kernel
theorem dX2_heapFact_68 : decode cX2_heapFact 68 = .ok (.iload_n 1, 1) := by decide +kernel
theorem dX2_heapFact_69 : decode cX2_heapFact 69 = .ok (.aaload, 1) := by decide +kernel
theorem dX2_heapFact_70 : decode cX2_heapFact 70 = .ok (.getfield 165, 3) := by decide +kernel
theorem dX2_heapFact_73 : decode cX2_heapFact 73 = .ok (.iload_n 2, 1) := by decide +kernel
theorem dX2_heapFact_74 : decode cX2_heapFact 74 = .ok (.iaload, 1) := by decide +kernel
theorem dX2_heapFact_75 : decode cX2_heapFact 75 = .ok (.ireturn, 1) := by decide +kernel
theorem dX2_heapFact_76 : decode cX2_heapFact 76 = .ok (.bipush (-2), 2) := by decide +kernel
theorem dX2_heapFact_78 : decode cX2_heapFact 78 = .ok (.ireturn, 1) := by decide +kernel
def wp_X2_heapFact (m : Nat) (x1 : Int32) (x2 : Int32) (x3 : Int32) (σ : Sg) (Q : Int32 → Sg → Prop) : Prop := wp_X5_isIndex x1 (4 : Int32) σ (fun r1 σ2 => ((r1 = 0 → Q (-1 : Int32) σ2) ∧ (¬ r1 = 0 → (vp_in x1 4 ∧ ∀ a5 : Nat, a5 = x1.toNatClampNeg → wp_X1_isHeap m a5 x2 σ2 (fun r6 σ7 => ((¬ r6 = 0 → ((x3 = (0 : Int32) → (vp_in x1 4 ∧ ∀ a12 : Nat, a12 = x1.toNatClampNeg → (vp_in x2 6 ∧ Q (σ7 m 6 a12 x2.toNatClampNeg) σ7))) ∧ (¬ x3 = (0 : Int32) → ((x3 = (1 : Int32) → (vp_in x1 4 ∧ ∀ a14 : Nat, a14 = x1.toNatClampNeg → (vp_in x2 6 ∧ Q (σ7 m 7 a14 x2.toNatClampNeg) σ7))) ∧ (¬ x3 = (1 : Int32) → Q (-2 : Int32) σ7))))) ∧ (r6 = 0 → Q (-1 : Int32) σ7)))))))
set_option maxRecDepth 100000 in
set_option maxHeartbeats 4000000 in
theorem c_X2_heapFact (l : Launch) (E : Ev) {m : Nat} {x1 : Int32} {x2 : Int32} {x3 : Int32} (hm : m < 11) {σ : Sg} {Q : Int32 → Sg → Prop} (hw : wp_X2_heapFact m x1 x2 x3 σ Q) : CT l E yX2_heapFact cX2_heapFact 4 (some .int) 2 42 [.ref (ad E m 0 0), .int x1, .int x2, .int x3] σ (QI E Q) := by
  refine CT_of (by decide) (Nat.le_of_ble_eq_true rfl) (fun X h1 h2 C => ?_)
  subst h1; subst h2
  have C : Cx X cX2_heapFact "SweetWraps$Machine" (some .int) 2 42 4 (QI (tE X) Q) := C
  show G X σ [(0, .ref (ad (tE X) m 0 0)), (1, .int x1), (2, .int x2), (3, .int x3)] [] 0
  unfold wp_X2_heapFact at hw
  refine gx_iload_n C dX2_heapFact_0 1 rfl ?_
  refine gx_iconst (v := (4 : Int32)) C dX2_heapFact_1 (by decide) ?_
  refine gx_ncalli (As := [.int x1, .int (4 : Int32)]) (rest := []) (host := "SweetWraps") C (c_X5_isIndex _ _ hw) (nest_in _ (by decide +kernel)) bw_224 bw_1 bw_225 hyS_X5_isIndex ⟨by decide, by decide⟩ rfl (Nat.le_of_ble_eq_true rfl) dX2_heapFact_2 (fun r1 σ2 hw => ?_)
  refine gx_if_eq (tgt := 21) C dX2_heapFact_5 (by decide) (fun c3 => ?_) (fun c3 => ?_)
  · replace hw := hw.1 c3
    refine gx_iconst (v := (-1 : Int32)) C dX2_heapFact_21 (by decide) ?_
    exact gx_iret C rfl rfl dX2_heapFact_22 hw
  · replace hw := hw.2 c3
    refine gx_aload_n C dX2_heapFact_8 0 rfl ?_
    refine gx_get C (ok0 hm) rfl rfl inX2 (ref := "SweetWraps$Machine") 1 (by decide) bw_90 rfl rfl dX2_heapFact_9 ?_
    refine gx_iload_n C dX2_heapFact_12 1 rfl ?_
    have h4 := hw.1
    replace hw := hw.2
    obtain ⟨a5, e_a5⟩ : ∃ z : Nat, z = x1.toNatClampNeg := ⟨_, rfl⟩
    replace hw := hw a5 e_a5
    have ha5 : a5 < 4 := by rw [e_a5]; exact vp_lt h4
    refine gx_aald C (ok2 hm) rfl (t0 := 3) rfl h4 (v := .ref (ad (tE X) m 5 a5)) (by rw [e_a5]; rfl) dX2_heapFact_13 ?_
    refine gx_iload_n C dX2_heapFact_14 2 rfl ?_
    refine gx_vcalli (As := [.int x2]) (rest := []) C (c_X1_isHeap _ _ hm ha5 hw) (ok5 hm ha5) rfl rfl bw_462 bw_234 bw_235 bw_3 bw_236 hy_X1_isHeap ⟨by decide, by decide⟩ rfl (Nat.le_of_ble_eq_true rfl) dX2_heapFact_15 (fun r6 σ7 hw => ?_)
    refine gx_if_ne (tgt := 23) C dX2_heapFact_18 (by decide) (fun c8 => ?_) (fun c8 => ?_)
    · replace hw := hw.1 c8
      refine gx_iload_n C dX2_heapFact_23 3 rfl ?_
      by_cases c9 : x3 = (0 : Int32)
      · replace hw := hw.1 c9
        refine gx_lookup (tgt := 52) (off := 28) C dX2_heapFact_24 (by decide) (by rw [c9]; rfl) (by decide) ?_
        refine gx_aload_n C dX2_heapFact_52 0 rfl ?_
        refine gx_get C (ok0 hm) rfl rfl inX2 (ref := "SweetWraps$Machine") 1 (by decide) bw_90 rfl rfl dX2_heapFact_53 ?_
        refine gx_iload_n C dX2_heapFact_56 1 rfl ?_
        have h11 := hw.1
        replace hw := hw.2
        obtain ⟨a12, e_a12⟩ : ∃ z : Nat, z = x1.toNatClampNeg := ⟨_, rfl⟩
        replace hw := hw a12 e_a12
        have ha12 : a12 < 4 := by rw [e_a12]; exact vp_lt h11
        refine gx_aald C (ok2 hm) rfl (t0 := 3) rfl h11 (v := .ref (ad (tE X) m 5 a12)) (by rw [e_a12]; rfl) dX2_heapFact_57 ?_
        refine gx_get C (ok5 hm ha12) rfl rfl inX1 (ref := "SweetWraps$Lane") 0 (by decide) bw_33 rfl rfl dX2_heapFact_58 ?_
        refine gx_iload_n C dX2_heapFact_61 2 rfl ?_
        refine gx_iald C (ok6 hm ha12) rfl hw.1 _ rfl dX2_heapFact_62 ?_
        replace hw := hw.2
        exact gx_iret C rfl rfl dX2_heapFact_63 hw
      · replace hw := hw.2 c9
        by_cases c10 : x3 = (1 : Int32)
        · replace hw := hw.1 c10
          refine gx_lookup (tgt := 64) (off := 40) C dX2_heapFact_24 (by decide) (by rw [c10]; rfl) (by decide) ?_
          refine gx_aload_n C dX2_heapFact_64 0 rfl ?_
          refine gx_get C (ok0 hm) rfl rfl inX2 (ref := "SweetWraps$Machine") 1 (by decide) bw_90 rfl rfl dX2_heapFact_65 ?_
          refine gx_iload_n C dX2_heapFact_68 1 rfl ?_
          have h13 := hw.1
          replace hw := hw.2
          obtain ⟨a14, e_a14⟩ : ∃ z : Nat, z = x1.toNatClampNeg := ⟨_, rfl⟩
          replace hw := hw a14 e_a14
          have ha14 : a14 < 4 := by rw [e_a14]; exact vp_lt h13
          refine gx_aald C (ok2 hm) rfl (t0 := 3) rfl h13 (v := .ref (ad (tE X) m 5 a14)) (by rw [e_a14]; rfl) dX2_heapFact_69 ?_
          refine gx_get C (ok5 hm ha14) rfl rfl inX1 (ref := "SweetWraps$Lane") 1 (by decide) bw_35 rfl rfl dX2_heapFact_70 ?_
          refine gx_iload_n C dX2_heapFact_73 2 rfl ?_
          refine gx_iald C (ok7 hm ha14) rfl hw.1 _ rfl dX2_heapFact_74 ?_
          replace hw := hw.2
          exact gx_iret C rfl rfl dX2_heapFact_75 hw
        · replace hw := hw.2 c10
          refine gx_lookup (tgt := 76) (off := 52) C dX2_heapFact_24 (by decide) ((lv_osw c9 (by decide)).trans ((lv_osw c10 (by decide)).trans (rfl))) (by decide) ?_
          refine gx_bipush (v := (-2 : Int32)) C dX2_heapFact_76 (by decide) ?_
          exact gx_iret C rfl rfl dX2_heapFact_78 hw
    · replace hw := hw.2 c8
      refine gx_iconst (v := (-1 : Int32)) C dX2_heapFact_21 (by decide) ?_
      exact gx_iret C rfl rfl dX2_heapFact_22 hw
theorem hy_X2_heapFact : yX2_heapFact.cls = "SweetWraps$Machine" ∧ yX2_heapFact.cls ≠ "java/lang/invoke/MethodHandle" ∧ yX2_heapFact.cls ≠ "java/lang/invoke/VarHandle" ∧ (parseMethodDescriptor yX2_heapFact.desc).map (fun d => d.parameters.length) = some 3 := by decide +kernel

theorem dX2_overLanes_0 : decode cX2_overLanes 0 = .ok (.iconst 0, 1) := by decide +kernel
theorem dX2_overLanes_1 : decode cX2_overLanes 1 = .ok (.istore_n 2, 1) := by decide +kernel
theorem dX2_overLanes_2 : decode cX2_overLanes 2 = .ok (.iconst 0, 1) := by decide +kernel
theorem dX2_overLanes_3 : decode cX2_overLanes 3 = .ok (.istore_n 3, 1) := by decide +kernel
theorem dX2_overLanes_4 : decode cX2_overLanes 4 = .ok (.iload_n 3, 1) := by decide +kernel
theorem dX2_overLanes_5 : decode cX2_overLanes 5 = .ok (.iconst 4, 1) := by decide +kernel
theorem dX2_overLanes_6 : decode cX2_overLanes 6 = .ok (.if_icmp .ge 18, 3) := by decide +kernel
theorem dX2_overLanes_9 : decode cX2_overLanes 9 = .ok (.iload_n 2, 1) := by decide +kernel
theorem dX2_overLanes_10 : decode cX2_overLanes 10 = .ok (.aload_n 0, 1) := by decide +kernel
theorem dX2_overLanes_11 : decode cX2_overLanes 11 = .ok (.iload_n 3, 1) := by decide +kernel
theorem dX2_overLanes_12 : decode cX2_overLanes 12 = .ok (.iload_n 1, 1) := by decide +kernel
theorem dX2_overLanes_13 : decode cX2_overLanes 13 = .ok (.invokevirtual 168, 3) := by decide +kernel
theorem dX2_overLanes_16 : decode cX2_overLanes 16 = .ok (.iadd, 1) := by decide +kernel
theorem dX2_overLanes_17 : decode cX2_overLanes 17 = .ok (.istore_n 2, 1) := by decide +kernel
theorem dX2_overLanes_18 : decode cX2_overLanes 18 = .ok (.iinc 3 1, 3) := by decide +kernel
theorem dX2_overLanes_21 : decode cX2_overLanes 21 = .ok (.goto (-17), 3) := by decide +kernel
theorem dX2_overLanes_24 : decode cX2_overLanes 24 = .ok (.iload_n 2, 1) := by decide +kernel
theorem dX2_overLanes_25 : decode cX2_overLanes 25 = .ok (.ireturn, 1) := by decide +kernel
def st_X2_overLanes_L4 (m : Nat) (x1 : Int32) (Q : Int32 → Sg → Prop) (K4 : Int32 → Int32 → Sg → Prop) (v2 : Int32) (v3 : Int32) (σ : Sg) : Prop := (((4 : Int32) ≤ v3 → Q v2 σ) ∧ (¬ (4 : Int32) ≤ v3 → wp_X2_laneFact m v3 x1 σ (fun r2 σ3 => ∀ z4 : Int32, z4 = (v2 + r2) → ∀ z5 : Int32, z5 = v3 + (1 : Int32) → K4 z4 z5 σ3)))
def wp_X2_overLanes_L4 (m : Nat) (x1 : Int32) (Q : Int32 → Sg → Prop) (v2 : Int32) (v3 : Int32) (σ : Sg) : Prop := ∃ n : Nat, lpN (fun (K : Int32 × Int32 × Sg → Prop) (a : Int32 × Int32 × Sg) => st_X2_overLanes_L4 m x1 Q (fun v2 v3 σ => K (v2, v3, σ)) (a.1) (a.2.1) (a.2.2)) n (v2, v3, σ)
set_option maxRecDepth 100000 in
set_option maxHeartbeats 4000000 in
theorem gs_X2_overLanes_L4 {X : Tx} {Q : Int32 → Sg → Prop} (C : Cx X cX2_overLanes "SweetWraps$Machine" (some .int) 4 88 4 (QI (tE X) Q)) {m : Nat} {x1 : Int32} (hm : m < 11) {K4 : Int32 → Int32 → Sg → Prop} (hK4 : ∀ (v2 : Int32) (v3 : Int32) (σ : Sg), K4 v2 v3 σ → G X σ [(0, .ref (ad (tE X) m 0 0)), (1, .int x1), (2, .int v2), (3, .int v3)] [] 4) {v2 : Int32} {v3 : Int32} {σ : Sg} (hw : st_X2_overLanes_L4 m x1 Q K4 v2 v3 σ) : G X σ [(0, .ref (ad (tE X) m 0 0)), (1, .int x1), (2, .int v2), (3, .int v3)] [] 4 := by
  unfold st_X2_overLanes_L4 at hw
  refine gx_iload_n C dX2_overLanes_4 3 rfl ?_
  refine gx_iconst (v := (4 : Int32)) C dX2_overLanes_5 (by decide) ?_
  refine gx_icmp_ge (tgt := 24) C dX2_overLanes_6 (by decide) (fun c1 => ?_) (fun c1 => ?_)
  · replace hw := hw.1 c1
    refine gx_iload_n C dX2_overLanes_24 2 rfl ?_
    exact gx_iret C rfl rfl dX2_overLanes_25 hw
  · replace hw := hw.2 c1
    refine gx_iload_n C dX2_overLanes_9 2 rfl ?_
    refine gx_aload_n C dX2_overLanes_10 0 rfl ?_
    refine gx_iload_n C dX2_overLanes_11 3 rfl ?_
    refine gx_iload_n C dX2_overLanes_12 1 rfl ?_
    refine gx_vcalli (As := [.int v3, .int x1]) (rest := [.int v2]) C (c_X2_laneFact _ _ hm hw) (ok0 hm) rfl rfl bw_290 bw_291 bw_292 bw_2 bw_293 hy_X2_laneFact ⟨by decide, by decide⟩ rfl (Nat.le_of_ble_eq_true rfl) dX2_overLanes_13 (fun r2 σ3 hw => ?_)
    refine gx_iadd C dX2_overLanes_16 ?_
    obtain ⟨z4, e_z4⟩ : ∃ z : Int32, z = (v2 + r2) := ⟨_, rfl⟩
    replace hw := hw z4 e_z4
    refine gx_top e_z4 ?_
    refine gx_istore_n (lv' := [(2, .int z4), (0, .ref (ad (tE X) m 0 0)), (1, .int x1), (3, .int v3)]) C dX2_overLanes_17 (by decide) rfl ?_
    obtain ⟨z5, e_z5⟩ : ∃ z : Int32, z = v3 + (1 : Int32) := ⟨_, rfl⟩
    replace hw := hw z5 e_z5
    refine gx_iinc (v := z5) (lv' := [(3, .int z5), (2, .int z4), (0, .ref (ad (tE X) m 0 0)), (1, .int x1)]) C dX2_overLanes_18 3 rfl (by rw [e_z5]; rfl) (by decide) rfl ?_
    refine gx_goto (tgt := 4) C dX2_overLanes_21 (by decide) ?_
    refine gx_sub (lv' := [(0, .ref (ad (tE X) m 0 0)), (1, .int x1), (2, .int z4), (3, .int z5)]) [2, 3, 1, 0] rfl ?_
    exact hK4 _ _ _ hw
set_option maxRecDepth 100000 in
set_option maxHeartbeats 4000000 in
theorem g_X2_overLanes_L4 {X : Tx} {Q : Int32 → Sg → Prop} (C : Cx X cX2_overLanes "SweetWraps$Machine" (some .int) 4 88 4 (QI (tE X) Q)) {m : Nat} {x1 : Int32} (hm : m < 11) {v2 : Int32} {v3 : Int32} {σ : Sg} (hw : wp_X2_overLanes_L4 m x1 Q v2 v3 σ) : G X σ [(0, .ref (ad (tE X) m 0 0)), (1, .int x1), (2, .int v2), (3, .int v3)] [] 4 := by
  obtain ⟨n, hw⟩ := hw
  exact lpN_G (P := (fun (a : Int32 × Int32 × Sg) => G X (a.2.2) [(0, .ref (ad (tE X) m 0 0)), (1, .int x1), (2, .int (a.1)), (3, .int (a.2.1))] [] 4)) (fun K a hK h => gs_X2_overLanes_L4 C hm (fun v2 v3 σ h => hK (v2, v3, σ) h) h) n _ hw
def wp_X2_overLanes (m : Nat) (x1 : Int32) (σ : Sg) (Q : Int32 → Sg → Prop) : Prop := wp_X2_overLanes_L4 m x1 Q (0 : Int32) (0 : Int32) σ
set_option maxRecDepth 100000 in
set_option maxHeartbeats 4000000 in
theorem c_X2_overLanes (l : Launch) (E : Ev) {m : Nat} {x1 : Int32} (hm : m < 11) {σ : Sg} {Q : Int32 → Sg → Prop} (hw : wp_X2_overLanes m x1 σ Q) : CT l E yX2_overLanes cX2_overLanes 4 (some .int) 4 88 [.ref (ad E m 0 0), .int x1] σ (QI E Q) := by
  refine CT_of (by decide) (Nat.le_of_ble_eq_true rfl) (fun X h1 h2 C => ?_)
  subst h1; subst h2
  have C : Cx X cX2_overLanes "SweetWraps$Machine" (some .int) 4 88 4 (QI (tE X) Q) := C
  show G X σ [(0, .ref (ad (tE X) m 0 0)), (1, .int x1)] [] 0
  unfold wp_X2_overLanes at hw
  refine gx_iconst (v := (0 : Int32)) C dX2_overLanes_0 (by decide) ?_
  refine gx_istore_n (lv' := [(2, .int (0 : Int32)), (0, .ref (ad (tE X) m 0 0)), (1, .int x1)]) C dX2_overLanes_1 (by decide) rfl ?_
  refine gx_iconst (v := (0 : Int32)) C dX2_overLanes_2 (by decide) ?_
  refine gx_istore_n (lv' := [(3, .int (0 : Int32)), (2, .int (0 : Int32)), (0, .ref (ad (tE X) m 0 0)), (1, .int x1)]) C dX2_overLanes_3 (by decide) rfl ?_
  refine gx_sub (lv' := [(0, .ref (ad (tE X) m 0 0)), (1, .int x1), (2, .int (0 : Int32)), (3, .int (0 : Int32))]) [2, 3, 1, 0] rfl ?_
  exact g_X2_overLanes_L4 C hm hw
theorem hy_X2_overLanes : yX2_overLanes.cls = "SweetWraps$Machine" ∧ yX2_overLanes.cls ≠ "java/lang/invoke/MethodHandle" ∧ yX2_overLanes.cls ≠ "java/lang/invoke/VarHandle" ∧ (parseMethodDescriptor yX2_overLanes.desc).map (fun d => d.parameters.length) = some 1 := by decide +kernel

theorem dX2_standingLanes_0 : decode cX2_standingLanes 0 = .ok (.iconst 0, 1) := by decide +kernel
theorem dX2_standingLanes_1 : decode cX2_standingLanes 1 = .ok (.istore_n 1, 1) := by decide +kernel
theorem dX2_standingLanes_2 : decode cX2_standingLanes 2 = .ok (.iconst 0, 1) := by decide +kernel
theorem dX2_standingLanes_3 : decode cX2_standingLanes 3 = .ok (.istore_n 2, 1) := by decide +kernel
theorem dX2_standingLanes_4 : decode cX2_standingLanes 4 = .ok (.iload_n 2, 1) := by decide +kernel
theorem dX2_standingLanes_5 : decode cX2_standingLanes 5 = .ok (.iconst 4, 1) := by decide +kernel
theorem dX2_standingLanes_6 : decode cX2_standingLanes 6 = .ok (.if_icmp .ge 28, 3) := by decide +kernel
theorem dX2_standingLanes_9 : decode cX2_standingLanes 9 = .ok (.aload_n 0, 1) := by decide +kernel
theorem dX2_standingLanes_10 : decode cX2_standingLanes 10 = .ok (.aload_n 0, 1) := by decide +kernel
theorem dX2_standingLanes_11 : decode cX2_standingLanes 11 = .ok (.getfield 17, 3) := by decide +kernel
theorem dX2_standingLanes_14 : decode cX2_standingLanes 14 = .ok (.iload_n 2, 1) := by decide +kernel
theorem dX2_standingLanes_15 : decode cX2_standingLanes 15 = .ok (.aaload, 1) := by decide +kernel
theorem dX2_standingLanes_16 : decode cX2_standingLanes 16 = .ok (.invokevirtual 156, 3) := by decide +kernel
theorem dX2_standingLanes_19 : decode cX2_standingLanes 19 = .ok (.ifCond .eq 9, 3) := by decide +kernel
theorem dX2_standingLanes_22 : decode cX2_standingLanes 22 = .ok (.iload_n 1, 1) := by decide +kernel
theorem dX2_standingLanes_23 : decode cX2_standingLanes 23 = .ok (.iconst 1, 1) := by decide +kernel
theorem dX2_standingLanes_24 : decode cX2_standingLanes 24 = .ok (.iload_n 2, 1) := by decide +kernel
theorem dX2_standingLanes_25 : decode cX2_standingLanes 25 = .ok (.ishl, 1) := by decide +kernel
theorem dX2_standingLanes_26 : decode cX2_standingLanes 26 = .ok (.ior, 1) := by decide +kernel
theorem dX2_standingLanes_27 : decode cX2_standingLanes 27 = .ok (.istore_n 1, 1) := by decide +kernel
theorem dX2_standingLanes_28 : decode cX2_standingLanes 28 = .ok (.iinc 2 1, 3) := by decide +kernel
theorem dX2_standingLanes_31 : decode cX2_standingLanes 31 = .ok (.goto (-27), 3) := by decide +kernel
theorem dX2_standingLanes_34 : decode cX2_standingLanes 34 = .ok (.iload_n 1, 1) := by decide +kernel
theorem dX2_standingLanes_35 : decode cX2_standingLanes 35 = .ok (.ireturn, 1) := by decide +kernel
def wp_X2_standingLanes_b28 (m : Nat) (K4 : Int32 → Int32 → Sg → Prop) (Q : Int32 → Sg → Prop) (v1 : Int32) (v2 : Int32) (σ : Sg) : Prop := ∀ z8 : Int32, z8 = v2 + (1 : Int32) → K4 v1 z8 σ
set_option maxRecDepth 100000 in
set_option maxHeartbeats 4000000 in
theorem g_X2_standingLanes_b28 {X : Tx} {Q : Int32 → Sg → Prop} (C : Cx X cX2_standingLanes "SweetWraps$Machine" (some .int) 3 65 3 (QI (tE X) Q)) {m : Nat} (hm : m < 11) {K4 : Int32 → Int32 → Sg → Prop} (hK4 : ∀ (v1 : Int32) (v2 : Int32) (σ : Sg), K4 v1 v2 σ → G X σ [(0, .ref (ad (tE X) m 0 0)), (1, .int v1), (2, .int v2)] [] 4) {v1 : Int32} {v2 : Int32} {σ : Sg} (hw : wp_X2_standingLanes_b28 m K4 Q v1 v2 σ) : G X σ [(0, .ref (ad (tE X) m 0 0)), (1, .int v1), (2, .int v2)] [] 28 := by
  unfold wp_X2_standingLanes_b28 at hw
  obtain ⟨z8, e_z8⟩ : ∃ z : Int32, z = v2 + (1 : Int32) := ⟨_, rfl⟩
  replace hw := hw z8 e_z8
  refine gx_iinc (v := z8) (lv' := [(2, .int z8), (0, .ref (ad (tE X) m 0 0)), (1, .int v1)]) C dX2_standingLanes_28 2 rfl (by rw [e_z8]; rfl) (by decide) rfl ?_
  refine gx_goto (tgt := 4) C dX2_standingLanes_31 (by decide) ?_
  refine gx_sub (lv' := [(0, .ref (ad (tE X) m 0 0)), (1, .int v1), (2, .int z8)]) [1, 2, 0] rfl ?_
  exact hK4 _ _ _ hw
def st_X2_standingLanes_L4 (m : Nat) (Q : Int32 → Sg → Prop) (K4 : Int32 → Int32 → Sg → Prop) (v1 : Int32) (v2 : Int32) (σ : Sg) : Prop := (((4 : Int32) ≤ v2 → Q v1 σ) ∧ (¬ (4 : Int32) ≤ v2 → (vp_in v2 4 ∧ ∀ a3 : Nat, a3 = v2.toNatClampNeg → wp_X2_reasonNow m a3 σ (fun r4 σ5 => ((r4 = 0 → wp_X2_standingLanes_b28 m K4 Q v1 v2 σ5) ∧ (¬ r4 = 0 → ∀ z7 : Int32, z7 = (v1 ||| ((1 : Int32) <<< (v2 &&& 31))) → wp_X2_standingLanes_b28 m K4 Q z7 v2 σ5))))))
def wp_X2_standingLanes_L4 (m : Nat) (Q : Int32 → Sg → Prop) (v1 : Int32) (v2 : Int32) (σ : Sg) : Prop := ∃ n : Nat, lpN (fun (K : Int32 × Int32 × Sg → Prop) (a : Int32 × Int32 × Sg) => st_X2_standingLanes_L4 m Q (fun v1 v2 σ => K (v1, v2, σ)) (a.1) (a.2.1) (a.2.2)) n (v1, v2, σ)
set_option maxRecDepth 100000 in
set_option maxHeartbeats 4000000 in
theorem gs_X2_standingLanes_L4 {X : Tx} {Q : Int32 → Sg → Prop} (C : Cx X cX2_standingLanes "SweetWraps$Machine" (some .int) 3 65 3 (QI (tE X) Q)) {m : Nat} (hm : m < 11) {K4 : Int32 → Int32 → Sg → Prop} (hK4 : ∀ (v1 : Int32) (v2 : Int32) (σ : Sg), K4 v1 v2 σ → G X σ [(0, .ref (ad (tE X) m 0 0)), (1, .int v1), (2, .int v2)] [] 4) {v1 : Int32} {v2 : Int32} {σ : Sg} (hw : st_X2_standingLanes_L4 m Q K4 v1 v2 σ) : G X σ [(0, .ref (ad (tE X) m 0 0)), (1, .int v1), (2, .int v2)] [] 4 := by
  unfold st_X2_standingLanes_L4 at hw
  refine gx_iload_n C dX2_standingLanes_4 2 rfl ?_
  refine gx_iconst (v := (4 : Int32)) C dX2_standingLanes_5 (by decide) ?_
  refine gx_icmp_ge (tgt := 34) C dX2_standingLanes_6 (by decide) (fun c1 => ?_) (fun c1 => ?_)
  · replace hw := hw.1 c1
    refine gx_iload_n C dX2_standingLanes_34 1 rfl ?_
    exact gx_iret C rfl rfl dX2_standingLanes_35 hw
  · replace hw := hw.2 c1
    refine gx_aload_n C dX2_standingLanes_9 0 rfl ?_
    refine gx_aload_n C dX2_standingLanes_10 0 rfl ?_
    refine gx_get C (ok0 hm) rfl rfl inX2 (ref := "SweetWraps$Machine") 1 (by decide) bw_90 rfl rfl dX2_standingLanes_11 ?_
    refine gx_iload_n C dX2_standingLanes_14 2 rfl ?_
    have h2 := hw.1
    replace hw := hw.2
    obtain ⟨a3, e_a3⟩ : ∃ z : Nat, z = v2.toNatClampNeg := ⟨_, rfl⟩
    replace hw := hw a3 e_a3
    have ha3 : a3 < 4 := by rw [e_a3]; exact vp_lt h2
    refine gx_aald C (ok2 hm) rfl (t0 := 3) rfl h2 (v := .ref (ad (tE X) m 5 a3)) (by rw [e_a3]; rfl) dX2_standingLanes_15 ?_
    refine gx_vcalli (As := [.ref (ad (tE X) m 5 a3)]) (rest := []) C (c_X2_reasonNow _ _ hm ha3 hw) (ok0 hm) rfl rfl bw_299 bw_301 bs_4 bw_2 bw_302 hy_X2_reasonNow ⟨by decide, by decide⟩ rfl (Nat.le_of_ble_eq_true rfl) dX2_standingLanes_16 (fun r4 σ5 hw => ?_)
    refine gx_if_eq (tgt := 28) C dX2_standingLanes_19 (by decide) (fun c6 => ?_) (fun c6 => ?_)
    · replace hw := hw.1 c6
      exact g_X2_standingLanes_b28 C hm hK4 hw
    · replace hw := hw.2 c6
      refine gx_iload_n C dX2_standingLanes_22 1 rfl ?_
      refine gx_iconst (v := (1 : Int32)) C dX2_standingLanes_23 (by decide) ?_
      refine gx_iload_n C dX2_standingLanes_24 2 rfl ?_
      refine gx_ishl C dX2_standingLanes_25 ?_
      refine gx_ior C dX2_standingLanes_26 ?_
      obtain ⟨z7, e_z7⟩ : ∃ z : Int32, z = (v1 ||| ((1 : Int32) <<< (v2 &&& 31))) := ⟨_, rfl⟩
      replace hw := hw z7 e_z7
      refine gx_top e_z7 ?_
      refine gx_istore_n (lv' := [(1, .int z7), (0, .ref (ad (tE X) m 0 0)), (2, .int v2)]) C dX2_standingLanes_27 (by decide) rfl ?_
      refine gx_sub (lv' := [(0, .ref (ad (tE X) m 0 0)), (1, .int z7), (2, .int v2)]) [1, 0, 2] rfl ?_
      exact g_X2_standingLanes_b28 C hm hK4 hw
set_option maxRecDepth 100000 in
set_option maxHeartbeats 4000000 in
theorem g_X2_standingLanes_L4 {X : Tx} {Q : Int32 → Sg → Prop} (C : Cx X cX2_standingLanes "SweetWraps$Machine" (some .int) 3 65 3 (QI (tE X) Q)) {m : Nat} (hm : m < 11) {v1 : Int32} {v2 : Int32} {σ : Sg} (hw : wp_X2_standingLanes_L4 m Q v1 v2 σ) : G X σ [(0, .ref (ad (tE X) m 0 0)), (1, .int v1), (2, .int v2)] [] 4 := by
  obtain ⟨n, hw⟩ := hw
  exact lpN_G (P := (fun (a : Int32 × Int32 × Sg) => G X (a.2.2) [(0, .ref (ad (tE X) m 0 0)), (1, .int (a.1)), (2, .int (a.2.1))] [] 4)) (fun K a hK h => gs_X2_standingLanes_L4 C hm (fun v1 v2 σ h => hK (v1, v2, σ) h) h) n _ hw
def wp_X2_standingLanes (m : Nat) (σ : Sg) (Q : Int32 → Sg → Prop) : Prop := wp_X2_standingLanes_L4 m Q (0 : Int32) (0 : Int32) σ
set_option maxRecDepth 100000 in
set_option maxHeartbeats 4000000 in
theorem c_X2_standingLanes (l : Launch) (E : Ev) {m : Nat} (hm : m < 11) {σ : Sg} {Q : Int32 → Sg → Prop} (hw : wp_X2_standingLanes m σ Q) : CT l E yX2_standingLanes cX2_standingLanes 3 (some .int) 3 65 [.ref (ad E m 0 0)] σ (QI E Q) := by
  refine CT_of (by decide) (Nat.le_of_ble_eq_true rfl) (fun X h1 h2 C => ?_)
  subst h1; subst h2
  have C : Cx X cX2_standingLanes "SweetWraps$Machine" (some .int) 3 65 3 (QI (tE X) Q) := C
  show G X σ [(0, .ref (ad (tE X) m 0 0))] [] 0
  unfold wp_X2_standingLanes at hw
  refine gx_iconst (v := (0 : Int32)) C dX2_standingLanes_0 (by decide) ?_
  refine gx_istore_n (lv' := [(1, .int (0 : Int32)), (0, .ref (ad (tE X) m 0 0))]) C dX2_standingLanes_1 (by decide) rfl ?_
  refine gx_iconst (v := (0 : Int32)) C dX2_standingLanes_2 (by decide) ?_
  refine gx_istore_n (lv' := [(2, .int (0 : Int32)), (1, .int (0 : Int32)), (0, .ref (ad (tE X) m 0 0))]) C dX2_standingLanes_3 (by decide) rfl ?_
  refine gx_sub (lv' := [(0, .ref (ad (tE X) m 0 0)), (1, .int (0 : Int32)), (2, .int (0 : Int32))]) [2, 1, 0] rfl ?_
  exact g_X2_standingLanes_L4 C hm hw
theorem hy_X2_standingLanes : yX2_standingLanes.cls = "SweetWraps$Machine" ∧ yX2_standingLanes.cls ≠ "java/lang/invoke/MethodHandle" ∧ yX2_standingLanes.cls ≠ "java/lang/invoke/VarHandle" ∧ (parseMethodDescriptor yX2_standingLanes.desc).map (fun d => d.parameters.length) = some 0 := by decide +kernel

theorem dX2_flavoursTakenBy_0 : decode cX2_flavoursTakenBy 0 = .ok (.iconst 0, 1) := by decide +kernel
theorem dX2_flavoursTakenBy_1 : decode cX2_flavoursTakenBy 1 = .ok (.istore_n 2, 1) := by decide +kernel
theorem dX2_flavoursTakenBy_2 : decode cX2_flavoursTakenBy 2 = .ok (.iconst 0, 1) := by decide +kernel
theorem dX2_flavoursTakenBy_3 : decode cX2_flavoursTakenBy 3 = .ok (.istore_n 3, 1) := by decide +kernel
theorem dX2_flavoursTakenBy_4 : decode cX2_flavoursTakenBy 4 = .ok (.iload_n 3, 1) := by decide +kernel
theorem dX2_flavoursTakenBy_5 : decode cX2_flavoursTakenBy 5 = .ok (.bipush 6, 2) := by decide +kernel
theorem dX2_flavoursTakenBy_7 : decode cX2_flavoursTakenBy 7 = .ok (.if_icmp .ge 34, 3) := by decide +kernel
theorem dX2_flavoursTakenBy_10 : decode cX2_flavoursTakenBy 10 = .ok (.aload_n 1, 1) := by decide +kernel
theorem dX2_flavoursTakenBy_11 : decode cX2_flavoursTakenBy 11 = .ok (.aload_n 0, 1) := by decide +kernel
theorem dX2_flavoursTakenBy_12 : decode cX2_flavoursTakenBy 12 = .ok (.getfield 9, 3) := by decide +kernel
theorem dX2_flavoursTakenBy_15 : decode cX2_flavoursTakenBy 15 = .ok (.iconst 2, 1) := by decide +kernel
theorem dX2_flavoursTakenBy_16 : decode cX2_flavoursTakenBy 16 = .ok (.iaload, 1) := by decide +kernel
theorem dX2_flavoursTakenBy_17 : decode cX2_flavoursTakenBy 17 = .ok (.aload_n 0, 1) := by decide +kernel
theorem dX2_flavoursTakenBy_18 : decode cX2_flavoursTakenBy 18 = .ok (.getfield 27, 3) := by decide +kernel
theorem dX2_flavoursTakenBy_21 : decode cX2_flavoursTakenBy 21 = .ok (.iload_n 3, 1) := by decide +kernel
theorem dX2_flavoursTakenBy_22 : decode cX2_flavoursTakenBy 22 = .ok (.iaload, 1) := by decide +kernel
theorem dX2_flavoursTakenBy_23 : decode cX2_flavoursTakenBy 23 = .ok (.invokevirtual 141, 3) := by decide +kernel
theorem dX2_flavoursTakenBy_26 : decode cX2_flavoursTakenBy 26 = .ok (.ifCond .eq 9, 3) := by decide +kernel
theorem dX2_flavoursTakenBy_29 : decode cX2_flavoursTakenBy 29 = .ok (.iload_n 2, 1) := by decide +kernel
theorem dX2_flavoursTakenBy_30 : decode cX2_flavoursTakenBy 30 = .ok (.iconst 1, 1) := by decide +kernel
theorem dX2_flavoursTakenBy_31 : decode cX2_flavoursTakenBy 31 = .ok (.iload_n 3, 1) := by decide +kernel
theorem dX2_flavoursTakenBy_32 : decode cX2_flavoursTakenBy 32 = .ok (.ishl, 1) := by decide +kernel
theorem dX2_flavoursTakenBy_33 : decode cX2_flavoursTakenBy 33 = .ok (.ior, 1) := by decide +kernel
theorem dX2_flavoursTakenBy_34 : decode cX2_flavoursTakenBy 34 = .ok (.istore_n 2, 1) := by decide +kernel
theorem dX2_flavoursTakenBy_35 : decode cX2_flavoursTakenBy 35 = .ok (.iinc 3 1, 3) := by decide +kernel
theorem dX2_flavoursTakenBy_38 : decode cX2_flavoursTakenBy 38 = .ok (.goto (-34), 3) := by decide +kernel
theorem dX2_flavoursTakenBy_41 : decode cX2_flavoursTakenBy 41 = .ok (.iload_n 2, 1) := by decide +kernel
theorem dX2_flavoursTakenBy_42 : decode cX2_flavoursTakenBy 42 = .ok (.ireturn, 1) := by decide +kernel
def wp_X2_flavoursTakenBy_b35 (m : Nat) (i1 : Nat) (K4 : Int32 → Int32 → Sg → Prop) (Q : Int32 → Sg → Prop) (v2 : Int32) (v3 : Int32) (σ : Sg) : Prop := ∀ z6 : Int32, z6 = v3 + (1 : Int32) → K4 v2 z6 σ
set_option maxRecDepth 100000 in
set_option maxHeartbeats 4000000 in
theorem g_X2_flavoursTakenBy_b35 {X : Tx} {Q : Int32 → Sg → Prop} (C : Cx X cX2_flavoursTakenBy "SweetWraps$Machine" (some .int) 1 22 4 (QI (tE X) Q)) {m : Nat} {i1 : Nat} (hm : m < 11) (hi1 : i1 < 16) {K4 : Int32 → Int32 → Sg → Prop} (hK4 : ∀ (v2 : Int32) (v3 : Int32) (σ : Sg), K4 v2 v3 σ → G X σ [(0, .ref (ad (tE X) m 0 0)), (1, .ref (ad (tE X) m 8 i1)), (2, .int v2), (3, .int v3)] [] 4) {v2 : Int32} {v3 : Int32} {σ : Sg} (hw : wp_X2_flavoursTakenBy_b35 m i1 K4 Q v2 v3 σ) : G X σ [(0, .ref (ad (tE X) m 0 0)), (1, .ref (ad (tE X) m 8 i1)), (2, .int v2), (3, .int v3)] [] 35 := by
  unfold wp_X2_flavoursTakenBy_b35 at hw
  obtain ⟨z6, e_z6⟩ : ∃ z : Int32, z = v3 + (1 : Int32) := ⟨_, rfl⟩
  replace hw := hw z6 e_z6
  refine gx_iinc (v := z6) (lv' := [(3, .int z6), (0, .ref (ad (tE X) m 0 0)), (1, .ref (ad (tE X) m 8 i1)), (2, .int v2)]) C dX2_flavoursTakenBy_35 3 rfl (by rw [e_z6]; rfl) (by decide) rfl ?_
  refine gx_goto (tgt := 4) C dX2_flavoursTakenBy_38 (by decide) ?_
  refine gx_sub (lv' := [(0, .ref (ad (tE X) m 0 0)), (1, .ref (ad (tE X) m 8 i1)), (2, .int v2), (3, .int z6)]) [1, 2, 3, 0] rfl ?_
  exact hK4 _ _ _ hw
def st_X2_flavoursTakenBy_L4 (m : Nat) (i1 : Nat) (Q : Int32 → Sg → Prop) (K4 : Int32 → Int32 → Sg → Prop) (v2 : Int32) (v3 : Int32) (σ : Sg) : Prop := (((6 : Int32) ≤ v3 → Q v2 σ) ∧ (¬ (6 : Int32) ≤ v3 → (vp_in v3 6 ∧ wp_X4_hasRoomFor m i1 (σ m 1 0 2) (σ m 4 0 v3.toNatClampNeg) σ (fun r2 σ3 => ((r2 = 0 → wp_X2_flavoursTakenBy_b35 m i1 K4 Q v2 v3 σ3) ∧ (¬ r2 = 0 → ∀ z5 : Int32, z5 = (v2 ||| ((1 : Int32) <<< (v3 &&& 31))) → wp_X2_flavoursTakenBy_b35 m i1 K4 Q z5 v3 σ3))))))
def wp_X2_flavoursTakenBy_L4 (m : Nat) (i1 : Nat) (Q : Int32 → Sg → Prop) (v2 : Int32) (v3 : Int32) (σ : Sg) : Prop := ∃ n : Nat, lpN (fun (K : Int32 × Int32 × Sg → Prop) (a : Int32 × Int32 × Sg) => st_X2_flavoursTakenBy_L4 m i1 Q (fun v2 v3 σ => K (v2, v3, σ)) (a.1) (a.2.1) (a.2.2)) n (v2, v3, σ)
set_option maxRecDepth 100000 in
set_option maxHeartbeats 4000000 in
theorem gs_X2_flavoursTakenBy_L4 {X : Tx} {Q : Int32 → Sg → Prop} (C : Cx X cX2_flavoursTakenBy "SweetWraps$Machine" (some .int) 1 22 4 (QI (tE X) Q)) {m : Nat} {i1 : Nat} (hm : m < 11) (hi1 : i1 < 16) {K4 : Int32 → Int32 → Sg → Prop} (hK4 : ∀ (v2 : Int32) (v3 : Int32) (σ : Sg), K4 v2 v3 σ → G X σ [(0, .ref (ad (tE X) m 0 0)), (1, .ref (ad (tE X) m 8 i1)), (2, .int v2), (3, .int v3)] [] 4) {v2 : Int32} {v3 : Int32} {σ : Sg} (hw : st_X2_flavoursTakenBy_L4 m i1 Q K4 v2 v3 σ) : G X σ [(0, .ref (ad (tE X) m 0 0)), (1, .ref (ad (tE X) m 8 i1)), (2, .int v2), (3, .int v3)] [] 4 := by
  unfold st_X2_flavoursTakenBy_L4 at hw
  refine gx_iload_n C dX2_flavoursTakenBy_4 3 rfl ?_
  refine gx_bipush (v := (6 : Int32)) C dX2_flavoursTakenBy_5 (by decide) ?_
  refine gx_icmp_ge (tgt := 41) C dX2_flavoursTakenBy_7 (by decide) (fun c1 => ?_) (fun c1 => ?_)
  · replace hw := hw.1 c1
    refine gx_iload_n C dX2_flavoursTakenBy_41 2 rfl ?_
    exact gx_iret C rfl rfl dX2_flavoursTakenBy_42 hw
  · replace hw := hw.2 c1
    refine gx_aload_n C dX2_flavoursTakenBy_10 1 rfl ?_
    refine gx_aload_n C dX2_flavoursTakenBy_11 0 rfl ?_
    refine gx_get C (ok0 hm) rfl rfl inX2 (ref := "SweetWraps$Machine") 0 (by decide) bw_88 rfl rfl dX2_flavoursTakenBy_12 ?_
    refine gx_iconst (v := (2 : Int32)) C dX2_flavoursTakenBy_15 (by decide) ?_
    refine gx_iald C (ok1 hm) rfl (n := 4) (x := (2 : Int32)) (by unfold vp_in; decide) 2 (by decide) dX2_flavoursTakenBy_16 ?_
    refine gx_aload_n C dX2_flavoursTakenBy_17 0 rfl ?_
    refine gx_get C (ok0 hm) rfl rfl inX2 (ref := "SweetWraps$Machine") 3 (by decide) bw_93 rfl rfl dX2_flavoursTakenBy_18 ?_
    refine gx_iload_n C dX2_flavoursTakenBy_21 3 rfl ?_
    refine gx_iald C (ok4 hm) rfl hw.1 _ rfl dX2_flavoursTakenBy_22 ?_
    replace hw := hw.2
    refine gx_vcalli (As := [.int (σ m 1 0 2), .int (σ m 4 0 v3.toNatClampNeg)]) (rest := []) C (c_X4_hasRoomFor _ _ hm hi1 hw) (ok8 hm hi1) rfl rfl bw_307 bw_308 bw_309 bw_4 bw_310 hy_X4_hasRoomFor ⟨by decide, by decide⟩ rfl (Nat.le_of_ble_eq_true rfl) dX2_flavoursTakenBy_23 (fun r2 σ3 hw => ?_)
    refine gx_if_eq (tgt := 35) C dX2_flavoursTakenBy_26 (by decide) (fun c4 => ?_) (fun c4 => ?_)
    · replace hw := hw.1 c4
      exact g_X2_flavoursTakenBy_b35 C hm hi1 hK4 hw
    · replace hw := hw.2 c4
      refine gx_iload_n C dX2_flavoursTakenBy_29 2 rfl ?_
      refine gx_iconst (v := (1 : Int32)) C dX2_flavoursTakenBy_30 (by decide) ?_
      refine gx_iload_n C dX2_flavoursTakenBy_31 3 rfl ?_
      refine gx_ishl C dX2_flavoursTakenBy_32 ?_
      refine gx_ior C dX2_flavoursTakenBy_33 ?_
      obtain ⟨z5, e_z5⟩ : ∃ z : Int32, z = (v2 ||| ((1 : Int32) <<< (v3 &&& 31))) := ⟨_, rfl⟩
      replace hw := hw z5 e_z5
      refine gx_top e_z5 ?_
      refine gx_istore_n (lv' := [(2, .int z5), (0, .ref (ad (tE X) m 0 0)), (1, .ref (ad (tE X) m 8 i1)), (3, .int v3)]) C dX2_flavoursTakenBy_34 (by decide) rfl ?_
      refine gx_sub (lv' := [(0, .ref (ad (tE X) m 0 0)), (1, .ref (ad (tE X) m 8 i1)), (2, .int z5), (3, .int v3)]) [1, 2, 0, 3] rfl ?_
      exact g_X2_flavoursTakenBy_b35 C hm hi1 hK4 hw
set_option maxRecDepth 100000 in
set_option maxHeartbeats 4000000 in
theorem g_X2_flavoursTakenBy_L4 {X : Tx} {Q : Int32 → Sg → Prop} (C : Cx X cX2_flavoursTakenBy "SweetWraps$Machine" (some .int) 1 22 4 (QI (tE X) Q)) {m : Nat} {i1 : Nat} (hm : m < 11) (hi1 : i1 < 16) {v2 : Int32} {v3 : Int32} {σ : Sg} (hw : wp_X2_flavoursTakenBy_L4 m i1 Q v2 v3 σ) : G X σ [(0, .ref (ad (tE X) m 0 0)), (1, .ref (ad (tE X) m 8 i1)), (2, .int v2), (3, .int v3)] [] 4 := by
  obtain ⟨n, hw⟩ := hw
  exact lpN_G (P := (fun (a : Int32 × Int32 × Sg) => G X (a.2.2) [(0, .ref (ad (tE X) m 0 0)), (1, .ref (ad (tE X) m 8 i1)), (2, .int (a.1)), (3, .int (a.2.1))] [] 4)) (fun K a hK h => gs_X2_flavoursTakenBy_L4 C hm hi1 (fun v2 v3 σ h => hK (v2, v3, σ) h) h) n _ hw
def wp_X2_flavoursTakenBy (m : Nat) (i1 : Nat) (σ : Sg) (Q : Int32 → Sg → Prop) : Prop := wp_X2_flavoursTakenBy_L4 m i1 Q (0 : Int32) (0 : Int32) σ
set_option maxRecDepth 100000 in
set_option maxHeartbeats 4000000 in
theorem c_X2_flavoursTakenBy (l : Launch) (E : Ev) {m : Nat} {i1 : Nat} (hm : m < 11) (hi1 : i1 < 16) {σ : Sg} {Q : Int32 → Sg → Prop} (hw : wp_X2_flavoursTakenBy m i1 σ Q) : CT l E yX2_flavoursTakenBy cX2_flavoursTakenBy 4 (some .int) 1 22 [.ref (ad E m 0 0), .ref (ad E m 8 i1)] σ (QI E Q) := by
  refine CT_of (by decide) (Nat.le_of_ble_eq_true rfl) (fun X h1 h2 C => ?_)
  subst h1; subst h2
  have C : Cx X cX2_flavoursTakenBy "SweetWraps$Machine" (some .int) 1 22 4 (QI (tE X) Q) := C
  show G X σ [(0, .ref (ad (tE X) m 0 0)), (1, .ref (ad (tE X) m 8 i1))] [] 0
  unfold wp_X2_flavoursTakenBy at hw
  refine gx_iconst (v := (0 : Int32)) C dX2_flavoursTakenBy_0 (by decide) ?_
  refine gx_istore_n (lv' := [(2, .int (0 : Int32)), (0, .ref (ad (tE X) m 0 0)), (1, .ref (ad (tE X) m 8 i1))]) C dX2_flavoursTakenBy_1 (by decide) rfl ?_
  refine gx_iconst (v := (0 : Int32)) C dX2_flavoursTakenBy_2 (by decide) ?_
  refine gx_istore_n (lv' := [(3, .int (0 : Int32)), (2, .int (0 : Int32)), (0, .ref (ad (tE X) m 0 0)), (1, .ref (ad (tE X) m 8 i1))]) C dX2_flavoursTakenBy_3 (by decide) rfl ?_
  refine gx_sub (lv' := [(0, .ref (ad (tE X) m 0 0)), (1, .ref (ad (tE X) m 8 i1)), (2, .int (0 : Int32)), (3, .int (0 : Int32))]) [2, 3, 1, 0] rfl ?_
  exact g_X2_flavoursTakenBy_L4 C hm hi1 hw
theorem hy_X2_flavoursTakenBy : yX2_flavoursTakenBy.cls = "SweetWraps$Machine" ∧ yX2_flavoursTakenBy.cls ≠ "java/lang/invoke/MethodHandle" ∧ yX2_flavoursTakenBy.cls ≠ "java/lang/invoke/VarHandle" ∧ (parseMethodDescriptor yX2_flavoursTakenBy.desc).map (fun d => d.parameters.length) = some 1 := by decide +kernel

theorem dX2_tinFact_0 : decode cX2_tinFact 0 = .ok (.aload_n 0, 1) := by decide +kernel
theorem dX2_tinFact_1 : decode cX2_tinFact 1 = .ok (.iload_n 1, 1) := by decide +kernel
theorem dX2_tinFact_2 : decode cX2_tinFact 2 = .ok (.invokevirtual 77, 3) := by decide +kernel
theorem dX2_tinFact_5 : decode cX2_tinFact 5 = .ok (.ifCond .ne 5, 3) := by decide +kernel
theorem dX2_tinFact_8 : decode cX2_tinFact 8 = .ok (.iconst (-1), 1) := by decide +kernel
theorem dX2_tinFact_9 : decode cX2_tinFact 9 = .ok (.ireturn, 1) := by decide +kernel
theorem dX2_tinFact_10 : decode cX2_tinFact 10 = .ok (.iload_n 2, 1) := by decide +kernel
theorem dX2_tinFact_11 : decode cX2_tinFact 11 = .ok (.tableswitch 78 0 3 #[29, 39, 57, 67], 29) := by decide +kernel
theorem dX2_tinFact_40 : decode cX2_tinFact 40 = .ok (.aload_n 0, 1) := by decide +kernel
theorem dX2_tinFact_41 : decode cX2_tinFact 41 = .ok (.getfield 23, 3) := by decide +kernel
theorem dX2_tinFact_44 : decode cX2_tinFact 44 = .ok (.iload_n 1, 1) := by decide +kernel
theorem dX2_tinFact_45 : decode cX2_tinFact 45 = .ok (.aaload, 1) := by decide +kernel
theorem dX2_tinFact_46 : decode cX2_tinFact 46 = .ok (.getfield 85, 3) := by decide +kernel
theorem dX2_tinFact_49 : decode cX2_tinFact 49 = .ok (.ireturn, 1) := by decide +kernel
theorem dX2_tinFact_50 : decode cX2_tinFact 50 = .ok (.aload_n 0, 1) := by decide +kernel
theorem dX2_tinFact_51 : decode cX2_tinFact 51 = .ok (.getfield 23, 3) := by decide +kernel
theorem dX2_tinFact_54 : decode cX2_tinFact 54 = .ok (.iload_n 1, 1) := by decide +kernel
theorem dX2_tinFact_55 : decode cX2_tinFact 55 = .ok (.aaload, 1) := by decide +kernel
theorem dX2_tinFact_56 : decode cX2_tinFact 56 = .ok (.getfield 81, 3) := by decide +kernel
theorem dX2_tinFact_59 : decode cX2_tinFact 59 = .ok (.ifCond .eq 7, 3) := by decide +kernel
theorem dX2_tinFact_62 : decode cX2_tinFact 62 = .ok (.iconst 1, 1) := by decide +kernel
theorem dX2_tinFact_63 : decode cX2_tinFact 63 = .ok (.goto 4, 3) := by decide +kernel
theorem dX2_tinFact_66 : decode cX2_tinFact 66 = .ok (.iconst 0, 1) := by decide +kernel
theorem dX2_tinFact_67 : decode cX2_tinFact 67 = .ok (.ireturn, 1) := by decide +kernel
theorem dX2_tinFact_68 : decode cX2_tinFact 68 = .ok (.aload_n 0, 1) := by decide +kernel
theorem dX2_tinFact_69 : decode cX2_tinFact 69 = .ok (.getfield 23, 3) := by decide +kernel
theorem dX2_tinFact_72 : decode cX2_tinFact 72 = .ok (.iload_n 1, 1) := by decide +kernel
theorem dX2_tinFact_73 : decode cX2_tinFact 73 = .ok (.aaload, 1) := by decide +kernel
theorem dX2_tinFact_74 : decode cX2_tinFact 74 = .ok (.getfield 174, 3) := by decide +kernel
theorem dX2_tinFact_77 : decode cX2_tinFact 77 = .ok (.ireturn, 1) := by decide +kernel
theorem dX2_tinFact_78 : decode cX2_tinFact 78 = .ok (.aload_n 0, 1) := by decide +kernel
theorem dX2_tinFact_79 : decode cX2_tinFact 79 = .ok (.aload_n 0, 1) := by decide +kernel
theorem dX2_tinFact_80 : decode cX2_tinFact 80 = .ok (.getfield 23, 3) := by decide +kernel
theorem dX2_tinFact_83 : decode cX2_tinFact 83 = .ok (.iload_n 1, 1) := by decide +kernel
theorem dX2_tinFact_84 : decode cX2_tinFact 84 = .ok (.aaload, 1) := by decide +kernel
theorem dX2_tinFact_85 : decode cX2_tinFact 85 = .ok (.invokevirtual 176, 3) := by decide +kernel
theorem dX2_tinFact_88 : decode cX2_tinFact 88 = .ok (.ireturn, 1) := by decide +kernel
theorem dX2_tinFact_89 : decode cX2_tinFact 89 = .ok (.bipush (-2), 2) := by decide +kernel
theorem dX2_tinFact_91 : decode cX2_tinFact 91 = .ok (.ireturn, 1) := by decide +kernel
def wp_X2_tinFact (m : Nat) (x1 : Int32) (x2 : Int32) (σ : Sg) (Q : Int32 → Sg → Prop) : Prop := wp_X2_isTin m x1 σ (fun r1 σ2 => ((¬ r1 = 0 → ((x2 = (0 : Int32) → (vp_in x1 16 ∧ ∀ a9 : Nat, a9 = x1.toNatClampNeg → Q (σ2 m 8 a9 2) σ2)) ∧ (¬ x2 = (0 : Int32) → ((x2 = (1 : Int32) → (vp_in x1 16 ∧ ∀ a11 : Nat, a11 = x1.toNatClampNeg → (((σ2 m 8 a11 3) = 0 → Q (0 : Int32) σ2) ∧ (¬ (σ2 m 8 a11 3) = 0 → Q (1 : Int32) σ2)))) ∧ (¬ x2 = (1 : Int32) → ((x2 = (2 : Int32) → (vp_in x1 16 ∧ ∀ a14 : Nat, a14 = x1.toNatClampNeg → Q (σ2 m 8 a14 1) σ2)) ∧ (¬ x2 = (2 : Int32) → ((x2 = (3 : Int32) → (vp_in x1 16 ∧ ∀ a16 : Nat, a16 = x1.toNatClampNeg → wp_X2_flavoursTakenBy m a16 σ2 (fun r17 σ18 => Q r17 σ18))) ∧ (¬ x2 = (3 : Int32) → Q (-2 : Int32) σ2))))))))) ∧ (r1 = 0 → Q (-1 : Int32) σ2)))
set_option maxRecDepth 100000 in
set_option maxHeartbeats 4000000 in
theorem c_X2_tinFact (l : Launch) (E : Ev) {m : Nat} {x1 : Int32} {x2 : Int32} (hm : m < 11) {σ : Sg} {Q : Int32 → Sg → Prop} (hw : wp_X2_tinFact m x1 x2 σ Q) : CT l E yX2_tinFact cX2_tinFact 3 (some .int) 2 45 [.ref (ad E m 0 0), .int x1, .int x2] σ (QI E Q) := by
  refine CT_of (by decide) (Nat.le_of_ble_eq_true rfl) (fun X h1 h2 C => ?_)
  subst h1; subst h2
  have C : Cx X cX2_tinFact "SweetWraps$Machine" (some .int) 2 45 3 (QI (tE X) Q) := C
  show G X σ [(0, .ref (ad (tE X) m 0 0)), (1, .int x1), (2, .int x2)] [] 0
  unfold wp_X2_tinFact at hw
  refine gx_aload_n C dX2_tinFact_0 0 rfl ?_
  refine gx_iload_n C dX2_tinFact_1 1 rfl ?_
  refine gx_vcalli (As := [.int x1]) (rest := []) C (c_X2_isTin _ _ hm hw) (ok0 hm) rfl rfl bw_282 bw_284 bs_2 bw_2 bw_285 hy_X2_isTin ⟨by decide, by decide⟩ rfl (Nat.le_of_ble_eq_true rfl) dX2_tinFact_2 (fun r1 σ2 hw => ?_)
  refine gx_if_ne (tgt := 10) C dX2_tinFact_5 (by decide) (fun c3 => ?_) (fun c3 => ?_)
  · replace hw := hw.1 c3
    refine gx_iload_n C dX2_tinFact_10 2 rfl ?_
    by_cases c4 : x2 = (0 : Int32)
    · replace hw := hw.1 c4
      refine gx_table (tgt := 40) (off := 29) C dX2_tinFact_11 (0 : Int32) c4 (by decide) (by decide) rfl (by decide) ?_
      refine gx_aload_n C dX2_tinFact_40 0 rfl ?_
      refine gx_get C (ok0 hm) rfl rfl inX2 (ref := "SweetWraps$Machine") 2 (by decide) bw_92 rfl rfl dX2_tinFact_41 ?_
      refine gx_iload_n C dX2_tinFact_44 1 rfl ?_
      have h8 := hw.1
      replace hw := hw.2
      obtain ⟨a9, e_a9⟩ : ∃ z : Nat, z = x1.toNatClampNeg := ⟨_, rfl⟩
      replace hw := hw a9 e_a9
      have ha9 : a9 < 16 := by rw [e_a9]; exact vp_lt h8
      refine gx_aald C (ok3 hm) rfl (t0 := 4) rfl h8 (v := .ref (ad (tE X) m 8 a9)) (by rw [e_a9]; rfl) dX2_tinFact_45 ?_
      refine gx_get C (ok8 hm ha9) rfl rfl inX4 (ref := "SweetWraps$Tin") 2 (by decide) bw_76 rfl rfl dX2_tinFact_46 ?_
      exact gx_iret C rfl rfl dX2_tinFact_49 hw
    · replace hw := hw.2 c4
      by_cases c5 : x2 = (1 : Int32)
      · replace hw := hw.1 c5
        refine gx_table (tgt := 50) (off := 39) C dX2_tinFact_11 (1 : Int32) c5 (by decide) (by decide) rfl (by decide) ?_
        refine gx_aload_n C dX2_tinFact_50 0 rfl ?_
        refine gx_get C (ok0 hm) rfl rfl inX2 (ref := "SweetWraps$Machine") 2 (by decide) bw_92 rfl rfl dX2_tinFact_51 ?_
        refine gx_iload_n C dX2_tinFact_54 1 rfl ?_
        have h10 := hw.1
        replace hw := hw.2
        obtain ⟨a11, e_a11⟩ : ∃ z : Nat, z = x1.toNatClampNeg := ⟨_, rfl⟩
        replace hw := hw a11 e_a11
        have ha11 : a11 < 16 := by rw [e_a11]; exact vp_lt h10
        refine gx_aald C (ok3 hm) rfl (t0 := 4) rfl h10 (v := .ref (ad (tE X) m 8 a11)) (by rw [e_a11]; rfl) dX2_tinFact_55 ?_
        refine gx_get C (ok8 hm ha11) rfl rfl inX4 (ref := "SweetWraps$Tin") 3 (by decide) bw_78 rfl rfl dX2_tinFact_56 ?_
        refine gx_if_eq (tgt := 66) C dX2_tinFact_59 (by decide) (fun c12 => ?_) (fun c12 => ?_)
        · replace hw := hw.1 c12
          refine gx_iconst (v := (0 : Int32)) C dX2_tinFact_66 (by decide) ?_
          exact gx_iret C rfl rfl dX2_tinFact_67 hw
        · replace hw := hw.2 c12
          refine gx_iconst (v := (1 : Int32)) C dX2_tinFact_62 (by decide) ?_
          refine gx_goto (tgt := 67) C dX2_tinFact_63 (by decide) ?_
          exact gx_iret C rfl rfl dX2_tinFact_67 hw
      · replace hw := hw.2 c5
        by_cases c6 : x2 = (2 : Int32)
        · replace hw := hw.1 c6
          refine gx_table (tgt := 68) (off := 57) C dX2_tinFact_11 (2 : Int32) c6 (by decide) (by decide) rfl (by decide) ?_
          refine gx_aload_n C dX2_tinFact_68 0 rfl ?_
          refine gx_get C (ok0 hm) rfl rfl inX2 (ref := "SweetWraps$Machine") 2 (by decide) bw_92 rfl rfl dX2_tinFact_69 ?_
          refine gx_iload_n C dX2_tinFact_72 1 rfl ?_
          have h13 := hw.1
          replace hw := hw.2
          obtain ⟨a14, e_a14⟩ : ∃ z : Nat, z = x1.toNatClampNeg := ⟨_, rfl⟩
          replace hw := hw a14 e_a14
          have ha14 : a14 < 16 := by rw [e_a14]; exact vp_lt h13
          refine gx_aald C (ok3 hm) rfl (t0 := 4) rfl h13 (v := .ref (ad (tE X) m 8 a14)) (by rw [e_a14]; rfl) dX2_tinFact_73 ?_
          refine gx_get C (ok8 hm ha14) rfl rfl inX4 (ref := "SweetWraps$Tin") 1 (by decide) bw_74 rfl rfl dX2_tinFact_74 ?_
          exact gx_iret C rfl rfl dX2_tinFact_77 hw
        · replace hw := hw.2 c6
          by_cases c7 : x2 = (3 : Int32)
          · replace hw := hw.1 c7
            refine gx_table (tgt := 78) (off := 67) C dX2_tinFact_11 (3 : Int32) c7 (by decide) (by decide) rfl (by decide) ?_
            refine gx_aload_n C dX2_tinFact_78 0 rfl ?_
            refine gx_aload_n C dX2_tinFact_79 0 rfl ?_
            refine gx_get C (ok0 hm) rfl rfl inX2 (ref := "SweetWraps$Machine") 2 (by decide) bw_92 rfl rfl dX2_tinFact_80 ?_
            refine gx_iload_n C dX2_tinFact_83 1 rfl ?_
            have h15 := hw.1
            replace hw := hw.2
            obtain ⟨a16, e_a16⟩ : ∃ z : Nat, z = x1.toNatClampNeg := ⟨_, rfl⟩
            replace hw := hw a16 e_a16
            have ha16 : a16 < 16 := by rw [e_a16]; exact vp_lt h15
            refine gx_aald C (ok3 hm) rfl (t0 := 4) rfl h15 (v := .ref (ad (tE X) m 8 a16)) (by rw [e_a16]; rfl) dX2_tinFact_84 ?_
            refine gx_vcalli (As := [.ref (ad (tE X) m 8 a16)]) (rest := []) C (c_X2_flavoursTakenBy _ _ hm ha16 hw) (ok0 hm) rfl rfl bw_418 bw_420 bs_15 bw_2 bw_421 hy_X2_flavoursTakenBy ⟨by decide, by decide⟩ rfl (Nat.le_of_ble_eq_true rfl) dX2_tinFact_85 (fun r17 σ18 hw => ?_)
            exact gx_iret C rfl rfl dX2_tinFact_88 hw
          · replace hw := hw.2 c7
            refine gx_tableD (tgt := 89) C dX2_tinFact_11 (by decide) [((29 : Int), (0 : Nat)), ((39 : Int), (1 : Nat)), ((57 : Int), (2 : Nat)), ((67 : Int), (3 : Nat))] rfl (List.forall_mem_cons.mpr ⟨Or.inr ⟨(0 : Int32), c4, by decide⟩, List.forall_mem_cons.mpr ⟨Or.inr ⟨(1 : Int32), c5, by decide⟩, List.forall_mem_cons.mpr ⟨Or.inr ⟨(2 : Int32), c6, by decide⟩, List.forall_mem_cons.mpr ⟨Or.inr ⟨(3 : Int32), c7, by decide⟩, fun _ h => absurd h List.not_mem_nil⟩⟩⟩⟩) (by decide) ?_
            refine gx_bipush (v := (-2 : Int32)) C dX2_tinFact_89 (by decide) ?_
            exact gx_iret C rfl rfl dX2_tinFact_91 hw
  · replace hw := hw.2 c3
    refine gx_iconst (v := (-1 : Int32)) C dX2_tinFact_8 (by decide) ?_
    exact gx_iret C rfl rfl dX2_tinFact_9 hw
theorem hy_X2_tinFact : yX2_tinFact.cls = "SweetWraps$Machine" ∧ yX2_tinFact.cls ≠ "java/lang/invoke/MethodHandle" ∧ yX2_tinFact.cls ≠ "java/lang/invoke/VarHandle" ∧ (parseMethodDescriptor yX2_tinFact.desc).map (fun d => d.parameters.length) = some 2 := by decide +kernel

theorem dX2_sweetsInTin_0 : decode cX2_sweetsInTin 0 = .ok (.aload_n 0, 1) := by decide +kernel
theorem dX2_sweetsInTin_1 : decode cX2_sweetsInTin 1 = .ok (.iload_n 1, 1) := by decide +kernel
theorem dX2_sweetsInTin_2 : decode cX2_sweetsInTin 2 = .ok (.invokevirtual 77, 3) := by decide +kernel
theorem dX2_sweetsInTin_5 : decode cX2_sweetsInTin 5 = .ok (.ifCond .eq 12, 3) := by decide +kernel
theorem dX2_sweetsInTin_8 : decode cX2_sweetsInTin 8 = .ok (.iload_n 2, 1) := by decide +kernel
theorem dX2_sweetsInTin_9 : decode cX2_sweetsInTin 9 = .ok (.bipush 6, 2) := by decide +kernel
theorem dX2_sweetsInTin_11 : decode cX2_sweetsInTin 11 = .ok (.invokestatic 56, 3) := by decide +kernel
theorem dX2_sweetsInTin_14 : decode cX2_sweetsInTin 14 = .ok (.ifCond .ne 5, 3) := by decide +kernel
theorem dX2_sweetsInTin_17 : decode cX2_sweetsInTin 17 = .ok (.iconst (-1), 1) := by decide +kernel
theorem dX2_sweetsInTin_18 : decode cX2_sweetsInTin 18 = .ok (.ireturn, 1) := by decide +kernel
theorem dX2_sweetsInTin_19 : decode cX2_sweetsInTin 19 = .ok (.aload_n 0, 1) := by decide +kernel
theorem dX2_sweetsInTin_20 : decode cX2_sweetsInTin 20 = .ok (.getfield 23, 3) := by decide +kernel
theorem dX2_sweetsInTin_23 : decode cX2_sweetsInTin 23 = .ok (.iload_n 1, 1) := by decide +kernel
theorem dX2_sweetsInTin_24 : decode cX2_sweetsInTin 24 = .ok (.aaload, 1) := by decide +kernel
theorem dX2_sweetsInTin_25 : decode cX2_sweetsInTin 25 = .ok (.getfield 180, 3) := by decide +kernel
theorem dX2_sweetsInTin_28 : decode cX2_sweetsInTin 28 = .ok (.iload_n 2, 1) := by decide +kernel
theorem dX2_sweetsInTin_29 : decode cX2_sweetsInTin 29 = .ok (.iaload, 1) := by decide +kernel
theorem dX2_sweetsInTin_30 : decode cX2_sweetsInTin 30 = .ok (.ireturn, 1) := by decide +kernel
def wp_X2_sweetsInTin (m : Nat) (x1 : Int32) (x2 : Int32) (σ : Sg) (Q : Int32 → Sg → Prop) : Prop := wp_X2_isTin m x1 σ (fun r1 σ2 => ((r1 = 0 → Q (-1 : Int32) σ2) ∧ (¬ r1 = 0 → wp_X5_isIndex x2 (6 : Int32) σ2 (fun r4 σ5 => ((¬ r4 = 0 → (vp_in x1 16 ∧ ∀ a8 : Nat, a8 = x1.toNatClampNeg → (vp_in x2 6 ∧ Q (σ5 m 9 a8 x2.toNatClampNeg) σ5))) ∧ (r4 = 0 → Q (-1 : Int32) σ5))))))
set_option maxRecDepth 100000 in
set_option maxHeartbeats 4000000 in
theorem c_X2_sweetsInTin (l : Launch) (E : Ev) {m : Nat} {x1 : Int32} {x2 : Int32} (hm : m < 11) {σ : Sg} {Q : Int32 → Sg → Prop} (hw : wp_X2_sweetsInTin m x1 x2 σ Q) : CT l E yX2_sweetsInTin cX2_sweetsInTin 3 (some .int) 2 42 [.ref (ad E m 0 0), .int x1, .int x2] σ (QI E Q) := by
  refine CT_of (by decide) (Nat.le_of_ble_eq_true rfl) (fun X h1 h2 C => ?_)
  subst h1; subst h2
  have C : Cx X cX2_sweetsInTin "SweetWraps$Machine" (some .int) 2 42 3 (QI (tE X) Q) := C
  show G X σ [(0, .ref (ad (tE X) m 0 0)), (1, .int x1), (2, .int x2)] [] 0
  unfold wp_X2_sweetsInTin at hw
  refine gx_aload_n C dX2_sweetsInTin_0 0 rfl ?_
  refine gx_iload_n C dX2_sweetsInTin_1 1 rfl ?_
  refine gx_vcalli (As := [.int x1]) (rest := []) C (c_X2_isTin _ _ hm hw) (ok0 hm) rfl rfl bw_282 bw_284 bs_2 bw_2 bw_285 hy_X2_isTin ⟨by decide, by decide⟩ rfl (Nat.le_of_ble_eq_true rfl) dX2_sweetsInTin_2 (fun r1 σ2 hw => ?_)
  refine gx_if_eq (tgt := 17) C dX2_sweetsInTin_5 (by decide) (fun c3 => ?_) (fun c3 => ?_)
  · replace hw := hw.1 c3
    refine gx_iconst (v := (-1 : Int32)) C dX2_sweetsInTin_17 (by decide) ?_
    exact gx_iret C rfl rfl dX2_sweetsInTin_18 hw
  · replace hw := hw.2 c3
    refine gx_iload_n C dX2_sweetsInTin_8 2 rfl ?_
    refine gx_bipush (v := (6 : Int32)) C dX2_sweetsInTin_9 (by decide) ?_
    refine gx_ncalli (As := [.int x2, .int (6 : Int32)]) (rest := []) (host := "SweetWraps") C (c_X5_isIndex _ _ hw) (nest_in _ (by decide +kernel)) bw_224 bw_1 bw_225 hyS_X5_isIndex ⟨by decide, by decide⟩ rfl (Nat.le_of_ble_eq_true rfl) dX2_sweetsInTin_11 (fun r4 σ5 hw => ?_)
    refine gx_if_ne (tgt := 19) C dX2_sweetsInTin_14 (by decide) (fun c6 => ?_) (fun c6 => ?_)
    · replace hw := hw.1 c6
      refine gx_aload_n C dX2_sweetsInTin_19 0 rfl ?_
      refine gx_get C (ok0 hm) rfl rfl inX2 (ref := "SweetWraps$Machine") 2 (by decide) bw_92 rfl rfl dX2_sweetsInTin_20 ?_
      refine gx_iload_n C dX2_sweetsInTin_23 1 rfl ?_
      have h7 := hw.1
      replace hw := hw.2
      obtain ⟨a8, e_a8⟩ : ∃ z : Nat, z = x1.toNatClampNeg := ⟨_, rfl⟩
      replace hw := hw a8 e_a8
      have ha8 : a8 < 16 := by rw [e_a8]; exact vp_lt h7
      refine gx_aald C (ok3 hm) rfl (t0 := 4) rfl h7 (v := .ref (ad (tE X) m 8 a8)) (by rw [e_a8]; rfl) dX2_sweetsInTin_24 ?_
      refine gx_get C (ok8 hm ha8) rfl rfl inX4 (ref := "SweetWraps$Tin") 0 (by decide) bw_72 rfl rfl dX2_sweetsInTin_25 ?_
      refine gx_iload_n C dX2_sweetsInTin_28 2 rfl ?_
      refine gx_iald C (ok9 hm ha8) rfl hw.1 _ rfl dX2_sweetsInTin_29 ?_
      replace hw := hw.2
      exact gx_iret C rfl rfl dX2_sweetsInTin_30 hw
    · replace hw := hw.2 c6
      refine gx_iconst (v := (-1 : Int32)) C dX2_sweetsInTin_17 (by decide) ?_
      exact gx_iret C rfl rfl dX2_sweetsInTin_18 hw
theorem hy_X2_sweetsInTin : yX2_sweetsInTin.cls = "SweetWraps$Machine" ∧ yX2_sweetsInTin.cls ≠ "java/lang/invoke/MethodHandle" ∧ yX2_sweetsInTin.cls ≠ "java/lang/invoke/VarHandle" ∧ (parseMethodDescriptor yX2_sweetsInTin.desc).map (fun d => d.parameters.length) = some 2 := by decide +kernel

theorem dX2_tinsThatAre_0 : decode cX2_tinsThatAre 0 = .ok (.iconst 0, 1) := by decide +kernel
theorem dX2_tinsThatAre_1 : decode cX2_tinsThatAre 1 = .ok (.istore_n 2, 1) := by decide +kernel
theorem dX2_tinsThatAre_2 : decode cX2_tinsThatAre 2 = .ok (.iconst 0, 1) := by decide +kernel
theorem dX2_tinsThatAre_3 : decode cX2_tinsThatAre 3 = .ok (.istore_n 3, 1) := by decide +kernel
theorem dX2_tinsThatAre_4 : decode cX2_tinsThatAre 4 = .ok (.iload_n 3, 1) := by decide +kernel
theorem dX2_tinsThatAre_5 : decode cX2_tinsThatAre 5 = .ok (.bipush 16, 2) := by decide +kernel
theorem dX2_tinsThatAre_7 : decode cX2_tinsThatAre 7 = .ok (.if_icmp .ge 36, 3) := by decide +kernel
theorem dX2_tinsThatAre_10 : decode cX2_tinsThatAre 10 = .ok (.aload_n 0, 1) := by decide +kernel
theorem dX2_tinsThatAre_11 : decode cX2_tinsThatAre 11 = .ok (.iload_n 3, 1) := by decide +kernel
theorem dX2_tinsThatAre_12 : decode cX2_tinsThatAre 12 = .ok (.invokevirtual 77, 3) := by decide +kernel
theorem dX2_tinsThatAre_15 : decode cX2_tinsThatAre 15 = .ok (.ifCond .eq 22, 3) := by decide +kernel
theorem dX2_tinsThatAre_18 : decode cX2_tinsThatAre 18 = .ok (.aload_n 0, 1) := by decide +kernel
theorem dX2_tinsThatAre_19 : decode cX2_tinsThatAre 19 = .ok (.getfield 23, 3) := by decide +kernel
theorem dX2_tinsThatAre_22 : decode cX2_tinsThatAre 22 = .ok (.iload_n 3, 1) := by decide +kernel
theorem dX2_tinsThatAre_23 : decode cX2_tinsThatAre 23 = .ok (.aaload, 1) := by decide +kernel
theorem dX2_tinsThatAre_24 : decode cX2_tinsThatAre 24 = .ok (.getfield 81, 3) := by decide +kernel
theorem dX2_tinsThatAre_27 : decode cX2_tinsThatAre 27 = .ok (.iload_n 1, 1) := by decide +kernel
theorem dX2_tinsThatAre_28 : decode cX2_tinsThatAre 28 = .ok (.if_icmp .ne 9, 3) := by decide +kernel
theorem dX2_tinsThatAre_31 : decode cX2_tinsThatAre 31 = .ok (.iload_n 2, 1) := by decide +kernel
theorem dX2_tinsThatAre_32 : decode cX2_tinsThatAre 32 = .ok (.iconst 1, 1) := by decide +kernel
theorem dX2_tinsThatAre_33 : decode cX2_tinsThatAre 33 = .ok (.iload_n 3, 1) := by decide +kernel
theorem dX2_tinsThatAre_34 : decode cX2_tinsThatAre 34 = .ok (.ishl, 1) := by decide +kernel
theorem dX2_tinsThatAre_35 : decode cX2_tinsThatAre 35 = .ok (.ior, 1) := by decide +kernel
theorem dX2_tinsThatAre_36 : decode cX2_tinsThatAre 36 = .ok (.istore_n 2, 1) := by decide +kernel
theorem dX2_tinsThatAre_37 : decode cX2_tinsThatAre 37 = .ok (.iinc 3 1, 3) := by decide +kernel
theorem dX2_tinsThatAre_40 : decode cX2_tinsThatAre 40 = .ok (.goto (-36), 3) := by decide +kernel
theorem dX2_tinsThatAre_43 : decode cX2_tinsThatAre 43 = .ok (.iload_n 2, 1) := by decide +kernel
theorem dX2_tinsThatAre_44 : decode cX2_tinsThatAre 44 = .ok (.ireturn, 1) := by decide +kernel
def wp_X2_tinsThatAre_b37 (m : Nat) (x1 : Int32) (K4 : Int32 → Int32 → Sg → Prop) (Q : Int32 → Sg → Prop) (v2 : Int32) (v3 : Int32) (σ : Sg) : Prop := ∀ z9 : Int32, z9 = v3 + (1 : Int32) → K4 v2 z9 σ
set_option maxRecDepth 100000 in
set_option maxHeartbeats 4000000 in
theorem g_X2_tinsThatAre_b37 {X : Tx} {Q : Int32 → Sg → Prop} (C : Cx X cX2_tinsThatAre "SweetWraps$Machine" (some .int) 2 42 4 (QI (tE X) Q)) {m : Nat} {x1 : Int32} (hm : m < 11) {K4 : Int32 → Int32 → Sg → Prop} (hK4 : ∀ (v2 : Int32) (v3 : Int32) (σ : Sg), K4 v2 v3 σ → G X σ [(0, .ref (ad (tE X) m 0 0)), (1, .int x1), (2, .int v2), (3, .int v3)] [] 4) {v2 : Int32} {v3 : Int32} {σ : Sg} (hw : wp_X2_tinsThatAre_b37 m x1 K4 Q v2 v3 σ) : G X σ [(0, .ref (ad (tE X) m 0 0)), (1, .int x1), (2, .int v2), (3, .int v3)] [] 37 := by
  unfold wp_X2_tinsThatAre_b37 at hw
  obtain ⟨z9, e_z9⟩ : ∃ z : Int32, z = v3 + (1 : Int32) := ⟨_, rfl⟩
  replace hw := hw z9 e_z9
  refine gx_iinc (v := z9) (lv' := [(3, .int z9), (0, .ref (ad (tE X) m 0 0)), (1, .int x1), (2, .int v2)]) C dX2_tinsThatAre_37 3 rfl (by rw [e_z9]; rfl) (by decide) rfl ?_
  refine gx_goto (tgt := 4) C dX2_tinsThatAre_40 (by decide) ?_
  refine gx_sub (lv' := [(0, .ref (ad (tE X) m 0 0)), (1, .int x1), (2, .int v2), (3, .int z9)]) [1, 2, 3, 0] rfl ?_
  exact hK4 _ _ _ hw
def st_X2_tinsThatAre_L4 (m : Nat) (x1 : Int32) (Q : Int32 → Sg → Prop) (K4 : Int32 → Int32 → Sg → Prop) (v2 : Int32) (v3 : Int32) (σ : Sg) : Prop := (((16 : Int32) ≤ v3 → Q v2 σ) ∧ (¬ (16 : Int32) ≤ v3 → wp_X2_isTin m v3 σ (fun r2 σ3 => ((r2 = 0 → wp_X2_tinsThatAre_b37 m x1 K4 Q v2 v3 σ3) ∧ (¬ r2 = 0 → (vp_in v3 16 ∧ ∀ a6 : Nat, a6 = v3.toNatClampNeg → ((¬ (σ3 m 8 a6 3) = x1 → wp_X2_tinsThatAre_b37 m x1 K4 Q v2 v3 σ3) ∧ ((σ3 m 8 a6 3) = x1 → ∀ z8 : Int32, z8 = (v2 ||| ((1 : Int32) <<< (v3 &&& 31))) → wp_X2_tinsThatAre_b37 m x1 K4 Q z8 v3 σ3))))))))
def wp_X2_tinsThatAre_L4 (m : Nat) (x1 : Int32) (Q : Int32 → Sg → Prop) (v2 : Int32) (v3 : Int32) (σ : Sg) : Prop := ∃ n : Nat, lpN (fun (K : Int32 × Int32 × Sg → Prop) (a : Int32 × Int32 × Sg) => st_X2_tinsThatAre_L4 m x1 Q (fun v2 v3 σ => K (v2, v3, σ)) (a.1) (a.2.1) (a.2.2)) n (v2, v3, σ)
set_option maxRecDepth 100000 in
set_option maxHeartbeats 4000000 in
theorem gs_X2_tinsThatAre_L4 {X : Tx} {Q : Int32 → Sg → Prop} (C : Cx X cX2_tinsThatAre "SweetWraps$Machine" (some .int) 2 42 4 (QI (tE X) Q)) {m : Nat} {x1 : Int32} (hm : m < 11) {K4 : Int32 → Int32 → Sg → Prop} (hK4 : ∀ (v2 : Int32) (v3 : Int32) (σ : Sg), K4 v2 v3 σ → G X σ [(0, .ref (ad (tE X) m 0 0)), (1, .int x1), (2, .int v2), (3, .int v3)] [] 4) {v2 : Int32} {v3 : Int32} {σ : Sg} (hw : st_X2_tinsThatAre_L4 m x1 Q K4 v2 v3 σ) : G X σ [(0, .ref (ad (tE X) m 0 0)), (1, .int x1), (2, .int v2), (3, .int v3)] [] 4 := by
  unfold st_X2_tinsThatAre_L4 at hw
  refine gx_iload_n C dX2_tinsThatAre_4 3 rfl ?_
  refine gx_bipush (v := (16 : Int32)) C dX2_tinsThatAre_5 (by decide) ?_
  refine gx_icmp_ge (tgt := 43) C dX2_tinsThatAre_7 (by decide) (fun c1 => ?_) (fun c1 => ?_)
  · replace hw := hw.1 c1
    refine gx_iload_n C dX2_tinsThatAre_43 2 rfl ?_
    exact gx_iret C rfl rfl dX2_tinsThatAre_44 hw
  · replace hw := hw.2 c1
    refine gx_aload_n C dX2_tinsThatAre_10 0 rfl ?_
    refine gx_iload_n C dX2_tinsThatAre_11 3 rfl ?_
    refine gx_vcalli (As := [.int v3]) (rest := []) C (c_X2_isTin _ _ hm hw) (ok0 hm) rfl rfl bw_282 bw_284 bs_2 bw_2 bw_285 hy_X2_isTin ⟨by decide, by decide⟩ rfl (Nat.le_of_ble_eq_true rfl) dX2_tinsThatAre_12 (fun r2 σ3 hw => ?_)
    refine gx_if_eq (tgt := 37) C dX2_tinsThatAre_15 (by decide) (fun c4 => ?_) (fun c4 => ?_)
    · replace hw := hw.1 c4
      exact g_X2_tinsThatAre_b37 C hm hK4 hw
    · replace hw := hw.2 c4
      refine gx_aload_n C dX2_tinsThatAre_18 0 rfl ?_
      refine gx_get C (ok0 hm) rfl rfl inX2 (ref := "SweetWraps$Machine") 2 (by decide) bw_92 rfl rfl dX2_tinsThatAre_19 ?_
      refine gx_iload_n C dX2_tinsThatAre_22 3 rfl ?_
      have h5 := hw.1
      replace hw := hw.2
      obtain ⟨a6, e_a6⟩ : ∃ z : Nat, z = v3.toNatClampNeg := ⟨_, rfl⟩
      replace hw := hw a6 e_a6
      have ha6 : a6 < 16 := by rw [e_a6]; exact vp_lt h5
      refine gx_aald C (ok3 hm) rfl (t0 := 4) rfl h5 (v := .ref (ad (tE X) m 8 a6)) (by rw [e_a6]; rfl) dX2_tinsThatAre_23 ?_
      refine gx_get C (ok8 hm ha6) rfl rfl inX4 (ref := "SweetWraps$Tin") 3 (by decide) bw_78 rfl rfl dX2_tinsThatAre_24 ?_
      refine gx_iload_n C dX2_tinsThatAre_27 1 rfl ?_
      refine gx_icmp_ne (tgt := 37) C dX2_tinsThatAre_28 (by decide) (fun c7 => ?_) (fun c7 => ?_)
      · replace hw := hw.1 c7
        exact g_X2_tinsThatAre_b37 C hm hK4 hw
      · replace hw := hw.2 c7
        refine gx_iload_n C dX2_tinsThatAre_31 2 rfl ?_
        refine gx_iconst (v := (1 : Int32)) C dX2_tinsThatAre_32 (by decide) ?_
        refine gx_iload_n C dX2_tinsThatAre_33 3 rfl ?_
        refine gx_ishl C dX2_tinsThatAre_34 ?_
        refine gx_ior C dX2_tinsThatAre_35 ?_
        obtain ⟨z8, e_z8⟩ : ∃ z : Int32, z = (v2 ||| ((1 : Int32) <<< (v3 &&& 31))) := ⟨_, rfl⟩
        replace hw := hw z8 e_z8
        refine gx_top e_z8 ?_
        refine gx_istore_n (lv' := [(2, .int z8), (0, .ref (ad (tE X) m 0 0)), (1, .int x1), (3, .int v3)]) C dX2_tinsThatAre_36 (by decide) rfl ?_
        refine gx_sub (lv' := [(0, .ref (ad (tE X) m 0 0)), (1, .int x1), (2, .int z8), (3, .int v3)]) [1, 2, 0, 3] rfl ?_
        exact g_X2_tinsThatAre_b37 C hm hK4 hw
set_option maxRecDepth 100000 in
set_option maxHeartbeats 4000000 in
theorem g_X2_tinsThatAre_L4 {X : Tx} {Q : Int32 → Sg → Prop} (C : Cx X cX2_tinsThatAre "SweetWraps$Machine" (some .int) 2 42 4 (QI (tE X) Q)) {m : Nat} {x1 : Int32} (hm : m < 11) {v2 : Int32} {v3 : Int32} {σ : Sg} (hw : wp_X2_tinsThatAre_L4 m x1 Q v2 v3 σ) : G X σ [(0, .ref (ad (tE X) m 0 0)), (1, .int x1), (2, .int v2), (3, .int v3)] [] 4 := by
  obtain ⟨n, hw⟩ := hw
  exact lpN_G (P := (fun (a : Int32 × Int32 × Sg) => G X (a.2.2) [(0, .ref (ad (tE X) m 0 0)), (1, .int x1), (2, .int (a.1)), (3, .int (a.2.1))] [] 4)) (fun K a hK h => gs_X2_tinsThatAre_L4 C hm (fun v2 v3 σ h => hK (v2, v3, σ) h) h) n _ hw
def wp_X2_tinsThatAre (m : Nat) (x1 : Int32) (σ : Sg) (Q : Int32 → Sg → Prop) : Prop := wp_X2_tinsThatAre_L4 m x1 Q (0 : Int32) (0 : Int32) σ
set_option maxRecDepth 100000 in
set_option maxHeartbeats 4000000 in
theorem c_X2_tinsThatAre (l : Launch) (E : Ev) {m : Nat} {x1 : Int32} (hm : m < 11) {σ : Sg} {Q : Int32 → Sg → Prop} (hw : wp_X2_tinsThatAre m x1 σ Q) : CT l E yX2_tinsThatAre cX2_tinsThatAre 4 (some .int) 2 42 [.ref (ad E m 0 0), .int x1] σ (QI E Q) := by
  refine CT_of (by decide) (Nat.le_of_ble_eq_true rfl) (fun X h1 h2 C => ?_)
  subst h1; subst h2
  have C : Cx X cX2_tinsThatAre "SweetWraps$Machine" (some .int) 2 42 4 (QI (tE X) Q) := C
  show G X σ [(0, .ref (ad (tE X) m 0 0)), (1, .int x1)] [] 0
  unfold wp_X2_tinsThatAre at hw
  refine gx_iconst (v := (0 : Int32)) C dX2_tinsThatAre_0 (by decide) ?_
  refine gx_istore_n (lv' := [(2, .int (0 : Int32)), (0, .ref (ad (tE X) m 0 0)), (1, .int x1)]) C dX2_tinsThatAre_1 (by decide) rfl ?_
  refine gx_iconst (v := (0 : Int32)) C dX2_tinsThatAre_2 (by decide) ?_
  refine gx_istore_n (lv' := [(3, .int (0 : Int32)), (2, .int (0 : Int32)), (0, .ref (ad (tE X) m 0 0)), (1, .int x1)]) C dX2_tinsThatAre_3 (by decide) rfl ?_
  refine gx_sub (lv' := [(0, .ref (ad (tE X) m 0 0)), (1, .int x1), (2, .int (0 : Int32)), (3, .int (0 : Int32))]) [2, 3, 1, 0] rfl ?_
  exact g_X2_tinsThatAre_L4 C hm hw
theorem hy_X2_tinsThatAre : yX2_tinsThatAre.cls = "SweetWraps$Machine" ∧ yX2_tinsThatAre.cls ≠ "java/lang/invoke/MethodHandle" ∧ yX2_tinsThatAre.cls ≠ "java/lang/invoke/VarHandle" ∧ (parseMethodDescriptor yX2_tinsThatAre.desc).map (fun d => d.parameters.length) = some 1 := by decide +kernel

theorem dX2_sweetsInTins_0 : decode cX2_sweetsInTins 0 = .ok (.iconst 0, 1) := by decide +kernel
theorem dX2_sweetsInTins_1 : decode cX2_sweetsInTins 1 = .ok (.istore_n 3, 1) := by decide +kernel
theorem dX2_sweetsInTins_2 : decode cX2_sweetsInTins 2 = .ok (.iconst 0, 1) := by decide +kernel
theorem dX2_sweetsInTins_3 : decode cX2_sweetsInTins 3 = .ok (.istore 4, 2) := by decide +kernel
theorem dX2_sweetsInTins_5 : decode cX2_sweetsInTins 5 = .ok (.iload 4, 2) := by decide +kernel
theorem dX2_sweetsInTins_7 : decode cX2_sweetsInTins 7 = .ok (.bipush 16, 2) := by decide +kernel
theorem dX2_sweetsInTins_9 : decode cX2_sweetsInTins 9 = .ok (.if_icmp .ge 38, 3) := by decide +kernel
theorem dX2_sweetsInTins_12 : decode cX2_sweetsInTins 12 = .ok (.aload_n 0, 1) := by decide +kernel
theorem dX2_sweetsInTins_13 : decode cX2_sweetsInTins 13 = .ok (.getfield 23, 3) := by decide +kernel
theorem dX2_sweetsInTins_16 : decode cX2_sweetsInTins 16 = .ok (.iload 4, 2) := by decide +kernel
theorem dX2_sweetsInTins_18 : decode cX2_sweetsInTins 18 = .ok (.aaload, 1) := by decide +kernel
theorem dX2_sweetsInTins_19 : decode cX2_sweetsInTins 19 = .ok (.getfield 81, 3) := by decide +kernel
theorem dX2_sweetsInTins_22 : decode cX2_sweetsInTins 22 = .ok (.iload_n 2, 1) := by decide +kernel
theorem dX2_sweetsInTins_23 : decode cX2_sweetsInTins 23 = .ok (.if_icmp .ne 18, 3) := by decide +kernel
theorem dX2_sweetsInTins_26 : decode cX2_sweetsInTins 26 = .ok (.iload_n 3, 1) := by decide +kernel
theorem dX2_sweetsInTins_27 : decode cX2_sweetsInTins 27 = .ok (.aload_n 0, 1) := by decide +kernel
theorem dX2_sweetsInTins_28 : decode cX2_sweetsInTins 28 = .ok (.getfield 23, 3) := by decide +kernel
theorem dX2_sweetsInTins_31 : decode cX2_sweetsInTins 31 = .ok (.iload 4, 2) := by decide +kernel
theorem dX2_sweetsInTins_33 : decode cX2_sweetsInTins 33 = .ok (.aaload, 1) := by decide +kernel
theorem dX2_sweetsInTins_34 : decode cX2_sweetsInTins 34 = .ok (.getfield 180, 3) := by decide +kernel
theorem dX2_sweetsInTins_37 : decode cX2_sweetsInTins 37 = .ok (.iload_n 1, 1) := by decide +kernel
theorem dX2_sweetsInTins_38 : decode cX2_sweetsInTins 38 = .ok (.iaload, 1) := by decide +kernel
theorem dX2_sweetsInTins_39 : decode cX2_sweetsInTins 39 = .ok (.iadd, 1) := by decide +kernel
theorem dX2_sweetsInTins_40 : decode cX2_sweetsInTins 40 = .ok (.istore_n 3, 1) := by decide +kernel
theorem dX2_sweetsInTins_41 : decode cX2_sweetsInTins 41 = .ok (.iinc 4 1, 3) := by decide +kernel
theorem dX2_sweetsInTins_44 : decode cX2_sweetsInTins 44 = .ok (.goto (-39), 3) := by decide +kernel
theorem dX2_sweetsInTins_47 : decode cX2_sweetsInTins 47 = .ok (.iload_n 3, 1) := by decide +kernel
theorem dX2_sweetsInTins_48 : decode cX2_sweetsInTins 48 = .ok (.ireturn, 1) := by decide +kernel
def wp_X2_sweetsInTins_b41 (m : Nat) (x1 : Int32) (x2 : Int32) (K5 : Int32 → Int32 → Sg → Prop) (Q : Int32 → Sg → Prop) (v3 : Int32) (v4 : Int32) (σ : Sg) : Prop := ∀ z8 : Int32, z8 = v4 + (1 : Int32) → K5 v3 z8 σ
set_option maxRecDepth 100000 in
set_option maxHeartbeats 4000000 in
theorem g_X2_sweetsInTins_b41 {X : Tx} {Q : Int32 → Sg → Prop} (C : Cx X cX2_sweetsInTins "SweetWraps$Machine" (some .int) 0 0 5 (QI (tE X) Q)) {m : Nat} {x1 : Int32} {x2 : Int32} (hm : m < 11) {K5 : Int32 → Int32 → Sg → Prop} (hK5 : ∀ (v3 : Int32) (v4 : Int32) (σ : Sg), K5 v3 v4 σ → G X σ [(0, .ref (ad (tE X) m 0 0)), (1, .int x1), (2, .int x2), (3, .int v3), (4, .int v4)] [] 5) {v3 : Int32} {v4 : Int32} {σ : Sg} (hw : wp_X2_sweetsInTins_b41 m x1 x2 K5 Q v3 v4 σ) : G X σ [(0, .ref (ad (tE X) m 0 0)), (1, .int x1), (2, .int x2), (3, .int v3), (4, .int v4)] [] 41 := by
  unfold wp_X2_sweetsInTins_b41 at hw
  obtain ⟨z8, e_z8⟩ : ∃ z : Int32, z = v4 + (1 : Int32) := ⟨_, rfl⟩
  replace hw := hw z8 e_z8
  refine gx_iinc (v := z8) (lv' := [(4, .int z8), (0, .ref (ad (tE X) m 0 0)), (1, .int x1), (2, .int x2), (3, .int v3)]) C dX2_sweetsInTins_41 4 rfl (by rw [e_z8]; rfl) (by decide) rfl ?_
  refine gx_goto (tgt := 5) C dX2_sweetsInTins_44 (by decide) ?_
  refine gx_sub (lv' := [(0, .ref (ad (tE X) m 0 0)), (1, .int x1), (2, .int x2), (3, .int v3), (4, .int z8)]) [1, 2, 3, 4, 0] rfl ?_
  exact hK5 _ _ _ hw
def st_X2_sweetsInTins_L5 (m : Nat) (x1 : Int32) (x2 : Int32) (Q : Int32 → Sg → Prop) (K5 : Int32 → Int32 → Sg → Prop) (v3 : Int32) (v4 : Int32) (σ : Sg) : Prop := (((16 : Int32) ≤ v4 → Q v3 σ) ∧ (¬ (16 : Int32) ≤ v4 → (vp_in v4 16 ∧ ∀ a3 : Nat, a3 = v4.toNatClampNeg → ((¬ (σ m 8 a3 3) = x2 → wp_X2_sweetsInTins_b41 m x1 x2 K5 Q v3 v4 σ) ∧ ((σ m 8 a3 3) = x2 → (vp_in v4 16 ∧ ∀ a6 : Nat, a6 = v4.toNatClampNeg → (vp_in x1 6 ∧ ∀ z7 : Int32, z7 = (v3 + (σ m 9 a6 x1.toNatClampNeg)) → wp_X2_sweetsInTins_b41 m x1 x2 K5 Q z7 v4 σ)))))))
def wp_X2_sweetsInTins_L5 (m : Nat) (x1 : Int32) (x2 : Int32) (Q : Int32 → Sg → Prop) (v3 : Int32) (v4 : Int32) (σ : Sg) : Prop := ∃ n : Nat, lpN (fun (K : Int32 × Int32 × Sg → Prop) (a : Int32 × Int32 × Sg) => st_X2_sweetsInTins_L5 m x1 x2 Q (fun v3 v4 σ => K (v3, v4, σ)) (a.1) (a.2.1) (a.2.2)) n (v3, v4, σ)
set_option maxRecDepth 100000 in
set_option maxHeartbeats 4000000 in
theorem gs_X2_sweetsInTins_L5 {X : Tx} {Q : Int32 → Sg → Prop} (C : Cx X cX2_sweetsInTins "SweetWraps$Machine" (some .int) 0 0 5 (QI (tE X) Q)) {m : Nat} {x1 : Int32} {x2 : Int32} (hm : m < 11) {K5 : Int32 → Int32 → Sg → Prop} (hK5 : ∀ (v3 : Int32) (v4 : Int32) (σ : Sg), K5 v3 v4 σ → G X σ [(0, .ref (ad (tE X) m 0 0)), (1, .int x1), (2, .int x2), (3, .int v3), (4, .int v4)] [] 5) {v3 : Int32} {v4 : Int32} {σ : Sg} (hw : st_X2_sweetsInTins_L5 m x1 x2 Q K5 v3 v4 σ) : G X σ [(0, .ref (ad (tE X) m 0 0)), (1, .int x1), (2, .int x2), (3, .int v3), (4, .int v4)] [] 5 := by
  unfold st_X2_sweetsInTins_L5 at hw
  refine gx_iload C dX2_sweetsInTins_5 4 rfl ?_
  refine gx_bipush (v := (16 : Int32)) C dX2_sweetsInTins_7 (by decide) ?_
  refine gx_icmp_ge (tgt := 47) C dX2_sweetsInTins_9 (by decide) (fun c1 => ?_) (fun c1 => ?_)
  · replace hw := hw.1 c1
    refine gx_iload_n C dX2_sweetsInTins_47 3 rfl ?_
    exact gx_iret C rfl rfl dX2_sweetsInTins_48 hw
  · replace hw := hw.2 c1
    refine gx_aload_n C dX2_sweetsInTins_12 0 rfl ?_
    refine gx_get C (ok0 hm) rfl rfl inX2 (ref := "SweetWraps$Machine") 2 (by decide) bw_92 rfl rfl dX2_sweetsInTins_13 ?_
    refine gx_iload C dX2_sweetsInTins_16 4 rfl ?_
    have h2 := hw.1
    replace hw := hw.2
    obtain ⟨a3, e_a3⟩ : ∃ z : Nat, z = v4.toNatClampNeg := ⟨_, rfl⟩
    replace hw := hw a3 e_a3
    have ha3 : a3 < 16 := by rw [e_a3]; exact vp_lt h2
    refine gx_aald C (ok3 hm) rfl (t0 := 4) rfl h2 (v := .ref (ad (tE X) m 8 a3)) (by rw [e_a3]; rfl) dX2_sweetsInTins_18 ?_
    refine gx_get C (ok8 hm ha3) rfl rfl inX4 (ref := "SweetWraps$Tin") 3 (by decide) bw_78 rfl rfl dX2_sweetsInTins_19 ?_
    refine gx_iload_n C dX2_sweetsInTins_22 2 rfl ?_
    refine gx_icmp_ne (tgt := 41) C dX2_sweetsInTins_23 (by decide) (fun c4 => ?_) (fun c4 => ?_)
    · replace hw := hw.1 c4
      exact g_X2_sweetsInTins_b41 C hm hK5 hw
    · replace hw := hw.2 c4
      refine gx_iload_n C dX2_sweetsInTins_26 3 rfl ?_
      refine gx_aload_n C dX2_sweetsInTins_27 0 rfl ?_
      refine gx_get C (ok0 hm) rfl rfl inX2 (ref := "SweetWraps$Machine") 2 (by decide) bw_92 rfl rfl dX2_sweetsInTins_28 ?_
      refine gx_iload C dX2_sweetsInTins_31 4 rfl ?_
      have h5 := hw.1
      replace hw := hw.2
      obtain ⟨a6, e_a6⟩ : ∃ z : Nat, z = v4.toNatClampNeg := ⟨_, rfl⟩
      replace hw := hw a6 e_a6
      have ha6 : a6 < 16 := by rw [e_a6]; exact vp_lt h5
      refine gx_aald C (ok3 hm) rfl (t0 := 4) rfl h5 (v := .ref (ad (tE X) m 8 a6)) (by rw [e_a6]; rfl) dX2_sweetsInTins_33 ?_
      refine gx_get C (ok8 hm ha6) rfl rfl inX4 (ref := "SweetWraps$Tin") 0 (by decide) bw_72 rfl rfl dX2_sweetsInTins_34 ?_
      refine gx_iload_n C dX2_sweetsInTins_37 1 rfl ?_
      refine gx_iald C (ok9 hm ha6) rfl hw.1 _ rfl dX2_sweetsInTins_38 ?_
      replace hw := hw.2
      refine gx_iadd C dX2_sweetsInTins_39 ?_
      obtain ⟨z7, e_z7⟩ : ∃ z : Int32, z = (v3 + (σ m 9 a6 x1.toNatClampNeg)) := ⟨_, rfl⟩
      replace hw := hw z7 e_z7
      refine gx_top e_z7 ?_
      refine gx_istore_n (lv' := [(3, .int z7), (0, .ref (ad (tE X) m 0 0)), (1, .int x1), (2, .int x2), (4, .int v4)]) C dX2_sweetsInTins_40 (by decide) rfl ?_
      refine gx_sub (lv' := [(0, .ref (ad (tE X) m 0 0)), (1, .int x1), (2, .int x2), (3, .int z7), (4, .int v4)]) [1, 2, 3, 0, 4] rfl ?_
      exact g_X2_sweetsInTins_b41 C hm hK5 hw
set_option maxRecDepth 100000 in
set_option maxHeartbeats 4000000 in
theorem g_X2_sweetsInTins_L5 {X : Tx} {Q : Int32 → Sg → Prop} (C : Cx X cX2_sweetsInTins "SweetWraps$Machine" (some .int) 0 0 5 (QI (tE X) Q)) {m : Nat} {x1 : Int32} {x2 : Int32} (hm : m < 11) {v3 : Int32} {v4 : Int32} {σ : Sg} (hw : wp_X2_sweetsInTins_L5 m x1 x2 Q v3 v4 σ) : G X σ [(0, .ref (ad (tE X) m 0 0)), (1, .int x1), (2, .int x2), (3, .int v3), (4, .int v4)] [] 5 := by
  obtain ⟨n, hw⟩ := hw
  exact lpN_G (P := (fun (a : Int32 × Int32 × Sg) => G X (a.2.2) [(0, .ref (ad (tE X) m 0 0)), (1, .int x1), (2, .int x2), (3, .int (a.1)), (4, .int (a.2.1))] [] 5)) (fun K a hK h => gs_X2_sweetsInTins_L5 C hm (fun v3 v4 σ h => hK (v3, v4, σ) h) h) n _ hw
def wp_X2_sweetsInTins (m : Nat) (x1 : Int32) (x2 : Int32) (σ : Sg) (Q : Int32 → Sg → Prop) : Prop := wp_X2_sweetsInTins_L5 m x1 x2 Q (0 : Int32) (0 : Int32) σ
set_option maxRecDepth 100000 in
set_option maxHeartbeats 4000000 in
theorem c_X2_sweetsInTins (l : Launch) (E : Ev) {m : Nat} {x1 : Int32} {x2 : Int32} (hm : m < 11) {σ : Sg} {Q : Int32 → Sg → Prop} (hw : wp_X2_sweetsInTins m x1 x2 σ Q) : CT l E yX2_sweetsInTins cX2_sweetsInTins 5 (some .int) 0 0 [.ref (ad E m 0 0), .int x1, .int x2] σ (QI E Q) := by
  refine CT_of (by decide) (Nat.le_of_ble_eq_true rfl) (fun X h1 h2 C => ?_)
  subst h1; subst h2
  have C : Cx X cX2_sweetsInTins "SweetWraps$Machine" (some .int) 0 0 5 (QI (tE X) Q) := C
  show G X σ [(0, .ref (ad (tE X) m 0 0)), (1, .int x1), (2, .int x2)] [] 0
  unfold wp_X2_sweetsInTins at hw
  refine gx_iconst (v := (0 : Int32)) C dX2_sweetsInTins_0 (by decide) ?_
  refine gx_istore_n (lv' := [(3, .int (0 : Int32)), (0, .ref (ad (tE X) m 0 0)), (1, .int x1), (2, .int x2)]) C dX2_sweetsInTins_1 (by decide) rfl ?_
  refine gx_iconst (v := (0 : Int32)) C dX2_sweetsInTins_2 (by decide) ?_
  refine gx_istore (lv' := [(4, .int (0 : Int32)), (3, .int (0 : Int32)), (0, .ref (ad (tE X) m 0 0)), (1, .int x1), (2, .int x2)]) C dX2_sweetsInTins_3 (by decide) rfl ?_
  refine gx_sub (lv' := [(0, .ref (ad (tE X) m 0 0)), (1, .int x1), (2, .int x2), (3, .int (0 : Int32)), (4, .int (0 : Int32))]) [2, 3, 4, 1, 0] rfl ?_
  exact g_X2_sweetsInTins_L5 C hm hw
theorem hy_X2_sweetsInTins : yX2_sweetsInTins.cls = "SweetWraps$Machine" ∧ yX2_sweetsInTins.cls ≠ "java/lang/invoke/MethodHandle" ∧ yX2_sweetsInTins.cls ≠ "java/lang/invoke/VarHandle" ∧ (parseMethodDescriptor yX2_sweetsInTins.desc).map (fun d => d.parameters.length) = some 2 := by decide +kernel

theorem dX2_sweetsShipped_0 : decode cX2_sweetsShipped 0 = .ok (.iconst 0, 1) := by decide +kernel
theorem dX2_sweetsShipped_1 : decode cX2_sweetsShipped 1 = .ok (.istore_n 1, 1) := by decide +kernel
theorem dX2_sweetsShipped_2 : decode cX2_sweetsShipped 2 = .ok (.iconst 0, 1) := by decide +kernel
theorem dX2_sweetsShipped_3 : decode cX2_sweetsShipped 3 = .ok (.istore_n 2, 1) := by decide +kernel
theorem dX2_sweetsShipped_4 : decode cX2_sweetsShipped 4 = .ok (.iload_n 2, 1) := by decide +kernel
theorem dX2_sweetsShipped_5 : decode cX2_sweetsShipped 5 = .ok (.bipush 6, 2) := by decide +kernel
theorem dX2_sweetsShipped_7 : decode cX2_sweetsShipped 7 = .ok (.if_icmp .ge 18, 3) := by decide +kernel
theorem dX2_sweetsShipped_10 : decode cX2_sweetsShipped 10 = .ok (.iload_n 1, 1) := by decide +kernel
theorem dX2_sweetsShipped_11 : decode cX2_sweetsShipped 11 = .ok (.aload_n 0, 1) := by decide +kernel
theorem dX2_sweetsShipped_12 : decode cX2_sweetsShipped 12 = .ok (.iload_n 2, 1) := by decide +kernel
theorem dX2_sweetsShipped_13 : decode cX2_sweetsShipped 13 = .ok (.iconst 1, 1) := by decide +kernel
theorem dX2_sweetsShipped_14 : decode cX2_sweetsShipped 14 = .ok (.invokevirtual 181, 3) := by decide +kernel
theorem dX2_sweetsShipped_17 : decode cX2_sweetsShipped 17 = .ok (.iadd, 1) := by decide +kernel
theorem dX2_sweetsShipped_18 : decode cX2_sweetsShipped 18 = .ok (.istore_n 1, 1) := by decide +kernel
theorem dX2_sweetsShipped_19 : decode cX2_sweetsShipped 19 = .ok (.iinc 2 1, 3) := by decide +kernel
theorem dX2_sweetsShipped_22 : decode cX2_sweetsShipped 22 = .ok (.goto (-18), 3) := by decide +kernel
theorem dX2_sweetsShipped_25 : decode cX2_sweetsShipped 25 = .ok (.iload_n 1, 1) := by decide +kernel
theorem dX2_sweetsShipped_26 : decode cX2_sweetsShipped 26 = .ok (.ireturn, 1) := by decide +kernel
def st_X2_sweetsShipped_L4 (m : Nat) (Q : Int32 → Sg → Prop) (K4 : Int32 → Int32 → Sg → Prop) (v1 : Int32) (v2 : Int32) (σ : Sg) : Prop := (((6 : Int32) ≤ v2 → Q v1 σ) ∧ (¬ (6 : Int32) ≤ v2 → wp_X2_sweetsInTins m v2 (1 : Int32) σ (fun r2 σ3 => ∀ z4 : Int32, z4 = (v1 + r2) → ∀ z5 : Int32, z5 = v2 + (1 : Int32) → K4 z4 z5 σ3)))
def wp_X2_sweetsShipped_L4 (m : Nat) (Q : Int32 → Sg → Prop) (v1 : Int32) (v2 : Int32) (σ : Sg) : Prop := ∃ n : Nat, lpN (fun (K : Int32 × Int32 × Sg → Prop) (a : Int32 × Int32 × Sg) => st_X2_sweetsShipped_L4 m Q (fun v1 v2 σ => K (v1, v2, σ)) (a.1) (a.2.1) (a.2.2)) n (v1, v2, σ)
set_option maxRecDepth 100000 in
set_option maxHeartbeats 4000000 in
theorem gs_X2_sweetsShipped_L4 {X : Tx} {Q : Int32 → Sg → Prop} (C : Cx X cX2_sweetsShipped "SweetWraps$Machine" (some .int) 1 24 3 (QI (tE X) Q)) {m : Nat} (hm : m < 11) {K4 : Int32 → Int32 → Sg → Prop} (hK4 : ∀ (v1 : Int32) (v2 : Int32) (σ : Sg), K4 v1 v2 σ → G X σ [(0, .ref (ad (tE X) m 0 0)), (1, .int v1), (2, .int v2)] [] 4) {v1 : Int32} {v2 : Int32} {σ : Sg} (hw : st_X2_sweetsShipped_L4 m Q K4 v1 v2 σ) : G X σ [(0, .ref (ad (tE X) m 0 0)), (1, .int v1), (2, .int v2)] [] 4 := by
  unfold st_X2_sweetsShipped_L4 at hw
  refine gx_iload_n C dX2_sweetsShipped_4 2 rfl ?_
  refine gx_bipush (v := (6 : Int32)) C dX2_sweetsShipped_5 (by decide) ?_
  refine gx_icmp_ge (tgt := 25) C dX2_sweetsShipped_7 (by decide) (fun c1 => ?_) (fun c1 => ?_)
  · replace hw := hw.1 c1
    refine gx_iload_n C dX2_sweetsShipped_25 1 rfl ?_
    exact gx_iret C rfl rfl dX2_sweetsShipped_26 hw
  · replace hw := hw.2 c1
    refine gx_iload_n C dX2_sweetsShipped_10 1 rfl ?_
    refine gx_aload_n C dX2_sweetsShipped_11 0 rfl ?_
    refine gx_iload_n C dX2_sweetsShipped_12 2 rfl ?_
    refine gx_iconst (v := (1 : Int32)) C dX2_sweetsShipped_13 (by decide) ?_
    refine gx_vcalli (As := [.int v2, .int (1 : Int32)]) (rest := [.int v1]) C (c_X2_sweetsInTins _ _ hm hw) (ok0 hm) rfl rfl bw_323 bw_325 bs_9 bw_2 bw_326 hy_X2_sweetsInTins ⟨by decide, by decide⟩ rfl (Nat.le_of_ble_eq_true rfl) dX2_sweetsShipped_14 (fun r2 σ3 hw => ?_)
    refine gx_iadd C dX2_sweetsShipped_17 ?_
    obtain ⟨z4, e_z4⟩ : ∃ z : Int32, z = (v1 + r2) := ⟨_, rfl⟩
    replace hw := hw z4 e_z4
    refine gx_top e_z4 ?_
    refine gx_istore_n (lv' := [(1, .int z4), (0, .ref (ad (tE X) m 0 0)), (2, .int v2)]) C dX2_sweetsShipped_18 (by decide) rfl ?_
    obtain ⟨z5, e_z5⟩ : ∃ z : Int32, z = v2 + (1 : Int32) := ⟨_, rfl⟩
    replace hw := hw z5 e_z5
    refine gx_iinc (v := z5) (lv' := [(2, .int z5), (1, .int z4), (0, .ref (ad (tE X) m 0 0))]) C dX2_sweetsShipped_19 2 rfl (by rw [e_z5]; rfl) (by decide) rfl ?_
    refine gx_goto (tgt := 4) C dX2_sweetsShipped_22 (by decide) ?_
    refine gx_sub (lv' := [(0, .ref (ad (tE X) m 0 0)), (1, .int z4), (2, .int z5)]) [2, 1, 0] rfl ?_
    exact hK4 _ _ _ hw
set_option maxRecDepth 100000 in
set_option maxHeartbeats 4000000 in
theorem g_X2_sweetsShipped_L4 {X : Tx} {Q : Int32 → Sg → Prop} (C : Cx X cX2_sweetsShipped "SweetWraps$Machine" (some .int) 1 24 3 (QI (tE X) Q)) {m : Nat} (hm : m < 11) {v1 : Int32} {v2 : Int32} {σ : Sg} (hw : wp_X2_sweetsShipped_L4 m Q v1 v2 σ) : G X σ [(0, .ref (ad (tE X) m 0 0)), (1, .int v1), (2, .int v2)] [] 4 := by
  obtain ⟨n, hw⟩ := hw
  exact lpN_G (P := (fun (a : Int32 × Int32 × Sg) => G X (a.2.2) [(0, .ref (ad (tE X) m 0 0)), (1, .int (a.1)), (2, .int (a.2.1))] [] 4)) (fun K a hK h => gs_X2_sweetsShipped_L4 C hm (fun v1 v2 σ h => hK (v1, v2, σ) h) h) n _ hw
def wp_X2_sweetsShipped (m : Nat) (σ : Sg) (Q : Int32 → Sg → Prop) : Prop := wp_X2_sweetsShipped_L4 m Q (0 : Int32) (0 : Int32) σ
set_option maxRecDepth 100000 in
set_option maxHeartbeats 4000000 in
theorem c_X2_sweetsShipped (l : Launch) (E : Ev) {m : Nat} (hm : m < 11) {σ : Sg} {Q : Int32 → Sg → Prop} (hw : wp_X2_sweetsShipped m σ Q) : CT l E yX2_sweetsShipped cX2_sweetsShipped 3 (some .int) 1 24 [.ref (ad E m 0 0)] σ (QI E Q) := by
  refine CT_of (by decide) (Nat.le_of_ble_eq_true rfl) (fun X h1 h2 C => ?_)
  subst h1; subst h2
  have C : Cx X cX2_sweetsShipped "SweetWraps$Machine" (some .int) 1 24 3 (QI (tE X) Q) := C
  show G X σ [(0, .ref (ad (tE X) m 0 0))] [] 0
  unfold wp_X2_sweetsShipped at hw
  refine gx_iconst (v := (0 : Int32)) C dX2_sweetsShipped_0 (by decide) ?_
  refine gx_istore_n (lv' := [(1, .int (0 : Int32)), (0, .ref (ad (tE X) m 0 0))]) C dX2_sweetsShipped_1 (by decide) rfl ?_
  refine gx_iconst (v := (0 : Int32)) C dX2_sweetsShipped_2 (by decide) ?_
  refine gx_istore_n (lv' := [(2, .int (0 : Int32)), (1, .int (0 : Int32)), (0, .ref (ad (tE X) m 0 0))]) C dX2_sweetsShipped_3 (by decide) rfl ?_
  refine gx_sub (lv' := [(0, .ref (ad (tE X) m 0 0)), (1, .int (0 : Int32)), (2, .int (0 : Int32))]) [2, 1, 0] rfl ?_
  exact g_X2_sweetsShipped_L4 C hm hw
theorem hy_X2_sweetsShipped : yX2_sweetsShipped.cls = "SweetWraps$Machine" ∧ yX2_sweetsShipped.cls ≠ "java/lang/invoke/MethodHandle" ∧ yX2_sweetsShipped.cls ≠ "java/lang/invoke/VarHandle" ∧ (parseMethodDescriptor yX2_sweetsShipped.desc).map (fun d => d.parameters.length) = some 0 := by decide +kernel

theorem dX2_openTinsAhead_0 : decode cX2_openTinsAhead 0 = .ok (.iconst 0, 1) := by decide +kernel
theorem dX2_openTinsAhead_1 : decode cX2_openTinsAhead 1 = .ok (.istore_n 2, 1) := by decide +kernel
theorem dX2_openTinsAhead_2 : decode cX2_openTinsAhead 2 = .ok (.iconst 0, 1) := by decide +kernel
theorem dX2_openTinsAhead_3 : decode cX2_openTinsAhead 3 = .ok (.istore_n 3, 1) := by decide +kernel
theorem dX2_openTinsAhead_4 : decode cX2_openTinsAhead 4 = .ok (.iload_n 3, 1) := by decide +kernel
theorem dX2_openTinsAhead_5 : decode cX2_openTinsAhead 5 = .ok (.bipush 16, 2) := by decide +kernel
theorem dX2_openTinsAhead_7 : decode cX2_openTinsAhead 7 = .ok (.if_icmp .ge 79, 3) := by decide +kernel
theorem dX2_openTinsAhead_10 : decode cX2_openTinsAhead 10 = .ok (.aload_n 0, 1) := by decide +kernel
theorem dX2_openTinsAhead_11 : decode cX2_openTinsAhead 11 = .ok (.getfield 23, 3) := by decide +kernel
theorem dX2_openTinsAhead_14 : decode cX2_openTinsAhead 14 = .ok (.iload_n 3, 1) := by decide +kernel
theorem dX2_openTinsAhead_15 : decode cX2_openTinsAhead 15 = .ok (.aaload, 1) := by decide +kernel
theorem dX2_openTinsAhead_16 : decode cX2_openTinsAhead 16 = .ok (.getfield 85, 3) := by decide +kernel
theorem dX2_openTinsAhead_19 : decode cX2_openTinsAhead 19 = .ok (.aload_n 0, 1) := by decide +kernel
theorem dX2_openTinsAhead_20 : decode cX2_openTinsAhead 20 = .ok (.getfield 23, 3) := by decide +kernel
theorem dX2_openTinsAhead_23 : decode cX2_openTinsAhead 23 = .ok (.iload_n 1, 1) := by decide +kernel
theorem dX2_openTinsAhead_24 : decode cX2_openTinsAhead 24 = .ok (.aaload, 1) := by decide +kernel
theorem dX2_openTinsAhead_25 : decode cX2_openTinsAhead 25 = .ok (.getfield 85, 3) := by decide +kernel
theorem dX2_openTinsAhead_28 : decode cX2_openTinsAhead 28 = .ok (.if_icmp .gt 29, 3) := by decide +kernel
theorem dX2_openTinsAhead_31 : decode cX2_openTinsAhead 31 = .ok (.aload_n 0, 1) := by decide +kernel
theorem dX2_openTinsAhead_32 : decode cX2_openTinsAhead 32 = .ok (.getfield 23, 3) := by decide +kernel
theorem dX2_openTinsAhead_35 : decode cX2_openTinsAhead 35 = .ok (.iload_n 3, 1) := by decide +kernel
theorem dX2_openTinsAhead_36 : decode cX2_openTinsAhead 36 = .ok (.aaload, 1) := by decide +kernel
theorem dX2_openTinsAhead_37 : decode cX2_openTinsAhead 37 = .ok (.getfield 85, 3) := by decide +kernel
theorem dX2_openTinsAhead_40 : decode cX2_openTinsAhead 40 = .ok (.aload_n 0, 1) := by decide +kernel
theorem dX2_openTinsAhead_41 : decode cX2_openTinsAhead 41 = .ok (.getfield 23, 3) := by decide +kernel
theorem dX2_openTinsAhead_44 : decode cX2_openTinsAhead 44 = .ok (.iload_n 1, 1) := by decide +kernel
theorem dX2_openTinsAhead_45 : decode cX2_openTinsAhead 45 = .ok (.aaload, 1) := by decide +kernel
theorem dX2_openTinsAhead_46 : decode cX2_openTinsAhead 46 = .ok (.getfield 85, 3) := by decide +kernel
theorem dX2_openTinsAhead_49 : decode cX2_openTinsAhead 49 = .ok (.if_icmp .ne 12, 3) := by decide +kernel
theorem dX2_openTinsAhead_52 : decode cX2_openTinsAhead 52 = .ok (.iload_n 3, 1) := by decide +kernel
theorem dX2_openTinsAhead_53 : decode cX2_openTinsAhead 53 = .ok (.iload_n 1, 1) := by decide +kernel
theorem dX2_openTinsAhead_54 : decode cX2_openTinsAhead 54 = .ok (.if_icmp .ge 7, 3) := by decide +kernel
theorem dX2_openTinsAhead_57 : decode cX2_openTinsAhead 57 = .ok (.iconst 1, 1) := by decide +kernel
theorem dX2_openTinsAhead_58 : decode cX2_openTinsAhead 58 = .ok (.goto 4, 3) := by decide +kernel
theorem dX2_openTinsAhead_61 : decode cX2_openTinsAhead 61 = .ok (.iconst 0, 1) := by decide +kernel
theorem dX2_openTinsAhead_62 : decode cX2_openTinsAhead 62 = .ok (.istore 4, 2) := by decide +kernel
theorem dX2_openTinsAhead_64 : decode cX2_openTinsAhead 64 = .ok (.aload_n 0, 1) := by decide +kernel
theorem dX2_openTinsAhead_65 : decode cX2_openTinsAhead 65 = .ok (.iload_n 3, 1) := by decide +kernel
theorem dX2_openTinsAhead_66 : decode cX2_openTinsAhead 66 = .ok (.invokevirtual 171, 3) := by decide +kernel
theorem dX2_openTinsAhead_69 : decode cX2_openTinsAhead 69 = .ok (.ifCond .eq 11, 3) := by decide +kernel
theorem dX2_openTinsAhead_72 : decode cX2_openTinsAhead 72 = .ok (.iload 4, 2) := by decide +kernel
theorem dX2_openTinsAhead_74 : decode cX2_openTinsAhead 74 = .ok (.ifCond .eq 6, 3) := by decide +kernel
theorem dX2_openTinsAhead_77 : decode cX2_openTinsAhead 77 = .ok (.iinc 2 1, 3) := by decide +kernel
theorem dX2_openTinsAhead_80 : decode cX2_openTinsAhead 80 = .ok (.iinc 3 1, 3) := by decide +kernel
theorem dX2_openTinsAhead_83 : decode cX2_openTinsAhead 83 = .ok (.goto (-79), 3) := by decide +kernel
theorem dX2_openTinsAhead_86 : decode cX2_openTinsAhead 86 = .ok (.iload_n 2, 1) := by decide +kernel
theorem dX2_openTinsAhead_87 : decode cX2_openTinsAhead 87 = .ok (.ireturn, 1) := by decide +kernel
def wp_X2_openTinsAhead_b80 (m : Nat) (x1 : Int32) (K4 : Int32 → Int32 → Sg → Prop) (Q : Int32 → Sg → Prop) (v2 : Int32) (v3 : Int32) (σ : Sg) : Prop := ∀ z18 : Int32, z18 = v3 + (1 : Int32) → K4 v2 z18 σ
set_option maxRecDepth 100000 in
set_option maxHeartbeats 4000000 in
theorem g_X2_openTinsAhead_b80 {X : Tx} {Q : Int32 → Sg → Prop} (C : Cx X cX2_openTinsAhead "SweetWraps$Machine" (some .int) 3 63 5 (QI (tE X) Q)) {m : Nat} {x1 : Int32} (hm : m < 11) {K4 : Int32 → Int32 → Sg → Prop} (hK4 : ∀ (v2 : Int32) (v3 : Int32) (σ : Sg), K4 v2 v3 σ → G X σ [(0, .ref (ad (tE X) m 0 0)), (1, .int x1), (2, .int v2), (3, .int v3)] [] 4) {v2 : Int32} {v3 : Int32} {σ : Sg} (hw : wp_X2_openTinsAhead_b80 m x1 K4 Q v2 v3 σ) : G X σ [(0, .ref (ad (tE X) m 0 0)), (1, .int x1), (2, .int v2), (3, .int v3)] [] 80 := by
  unfold wp_X2_openTinsAhead_b80 at hw
  obtain ⟨z18, e_z18⟩ : ∃ z : Int32, z = v3 + (1 : Int32) := ⟨_, rfl⟩
  replace hw := hw z18 e_z18
  refine gx_iinc (v := z18) (lv' := [(3, .int z18), (0, .ref (ad (tE X) m 0 0)), (1, .int x1), (2, .int v2)]) C dX2_openTinsAhead_80 3 rfl (by rw [e_z18]; rfl) (by decide) rfl ?_
  refine gx_goto (tgt := 4) C dX2_openTinsAhead_83 (by decide) ?_
  refine gx_sub (lv' := [(0, .ref (ad (tE X) m 0 0)), (1, .int x1), (2, .int v2), (3, .int z18)]) [1, 2, 3, 0] rfl ?_
  exact hK4 _ _ _ hw
def wp_X2_openTinsAhead_b62 (m : Nat) (x1 : Int32) (K4 : Int32 → Int32 → Sg → Prop) (Q : Int32 → Sg → Prop) (v2 : Int32) (v3 : Int32) (s0 : Int32) (σ : Sg) : Prop := wp_X2_isOpen m v3 σ (fun r13 σ14 => ((r13 = 0 → wp_X2_openTinsAhead_b80 m x1 K4 Q v2 v3 σ14) ∧ (¬ r13 = 0 → ((s0 = 0 → wp_X2_openTinsAhead_b80 m x1 K4 Q v2 v3 σ14) ∧ (¬ s0 = 0 → ∀ z17 : Int32, z17 = v2 + (1 : Int32) → wp_X2_openTinsAhead_b80 m x1 K4 Q z17 v3 σ14)))))
set_option maxRecDepth 100000 in
set_option maxHeartbeats 4000000 in
theorem g_X2_openTinsAhead_b62 {X : Tx} {Q : Int32 → Sg → Prop} (C : Cx X cX2_openTinsAhead "SweetWraps$Machine" (some .int) 3 63 5 (QI (tE X) Q)) {m : Nat} {x1 : Int32} (hm : m < 11) {K4 : Int32 → Int32 → Sg → Prop} (hK4 : ∀ (v2 : Int32) (v3 : Int32) (σ : Sg), K4 v2 v3 σ → G X σ [(0, .ref (ad (tE X) m 0 0)), (1, .int x1), (2, .int v2), (3, .int v3)] [] 4) {v2 : Int32} {v3 : Int32} {s0 : Int32} {σ : Sg} (hw : wp_X2_openTinsAhead_b62 m x1 K4 Q v2 v3 s0 σ) : G X σ [(0, .ref (ad (tE X) m 0 0)), (1, .int x1), (2, .int v2), (3, .int v3)] [.int s0] 62 := by
  unfold wp_X2_openTinsAhead_b62 at hw
  refine gx_istore (lv' := [(4, .int s0), (0, .ref (ad (tE X) m 0 0)), (1, .int x1), (2, .int v2), (3, .int v3)]) C dX2_openTinsAhead_62 (by decide) rfl ?_
  refine gx_aload_n C dX2_openTinsAhead_64 1 rfl ?_
  refine gx_iload_n C dX2_openTinsAhead_65 4 rfl ?_
  refine gx_vcalli (As := [.int v3]) (rest := []) C (c_X2_isOpen _ _ hm hw) (ok0 hm) rfl rfl bw_351 bw_353 bs_12 bw_2 bw_354 hy_X2_isOpen ⟨by decide, by decide⟩ rfl (Nat.le_of_ble_eq_true rfl) dX2_openTinsAhead_66 (fun r13 σ14 hw => ?_)
  refine gx_if_eq (tgt := 80) C dX2_openTinsAhead_69 (by decide) (fun c15 => ?_) (fun c15 => ?_)
  · replace hw := hw.1 c15
    refine gx_sub (lv' := [(0, .ref (ad (tE X) m 0 0)), (1, .int x1), (2, .int v2), (3, .int v3)]) [1, 2, 3, 4] rfl ?_
    exact g_X2_openTinsAhead_b80 C hm hK4 hw
  · replace hw := hw.2 c15
    refine gx_iload C dX2_openTinsAhead_72 0 rfl ?_
    refine gx_if_eq (tgt := 80) C dX2_openTinsAhead_74 (by decide) (fun c16 => ?_) (fun c16 => ?_)
    · replace hw := hw.1 c16
      refine gx_sub (lv' := [(0, .ref (ad (tE X) m 0 0)), (1, .int x1), (2, .int v2), (3, .int v3)]) [1, 2, 3, 4] rfl ?_
      exact g_X2_openTinsAhead_b80 C hm hK4 hw
    · replace hw := hw.2 c16
      obtain ⟨z17, e_z17⟩ : ∃ z : Int32, z = v2 + (1 : Int32) := ⟨_, rfl⟩
      replace hw := hw z17 e_z17
      refine gx_iinc (v := z17) (lv' := [(2, .int z17), (4, .int s0), (0, .ref (ad (tE X) m 0 0)), (1, .int x1), (3, .int v3)]) C dX2_openTinsAhead_77 3 rfl (by rw [e_z17]; rfl) (by decide) rfl ?_
      refine gx_sub (lv' := [(0, .ref (ad (tE X) m 0 0)), (1, .int x1), (2, .int z17), (3, .int v3)]) [2, 3, 0, 4] rfl ?_
      exact g_X2_openTinsAhead_b80 C hm hK4 hw
def wp_X2_openTinsAhead_b61 (m : Nat) (x1 : Int32) (K4 : Int32 → Int32 → Sg → Prop) (Q : Int32 → Sg → Prop) (v2 : Int32) (v3 : Int32) (σ : Sg) : Prop := wp_X2_openTinsAhead_b62 m x1 K4 Q v2 v3 (0 : Int32) σ
set_option maxRecDepth 100000 in
set_option maxHeartbeats 4000000 in
theorem g_X2_openTinsAhead_b61 {X : Tx} {Q : Int32 → Sg → Prop} (C : Cx X cX2_openTinsAhead "SweetWraps$Machine" (some .int) 3 63 5 (QI (tE X) Q)) {m : Nat} {x1 : Int32} (hm : m < 11) {K4 : Int32 → Int32 → Sg → Prop} (hK4 : ∀ (v2 : Int32) (v3 : Int32) (σ : Sg), K4 v2 v3 σ → G X σ [(0, .ref (ad (tE X) m 0 0)), (1, .int x1), (2, .int v2), (3, .int v3)] [] 4) {v2 : Int32} {v3 : Int32} {σ : Sg} (hw : wp_X2_openTinsAhead_b61 m x1 K4 Q v2 v3 σ) : G X σ [(0, .ref (ad (tE X) m 0 0)), (1, .int x1), (2, .int v2), (3, .int v3)] [] 61 := by
  unfold wp_X2_openTinsAhead_b61 at hw
  refine gx_iconst (v := (0 : Int32)) C dX2_openTinsAhead_61 (by decide) ?_
  exact g_X2_openTinsAhead_b62 C hm hK4 hw
def wp_X2_openTinsAhead_b57 (m : Nat) (x1 : Int32) (K4 : Int32 → Int32 → Sg → Prop) (Q : Int32 → Sg → Prop) (v2 : Int32) (v3 : Int32) (σ : Sg) : Prop := wp_X2_openTinsAhead_b62 m x1 K4 Q v2 v3 (1 : Int32) σ
set_option maxRecDepth 100000 in
set_option maxHeartbeats 4000000 in
theorem g_X2_openTinsAhead_b57 {X : Tx} {Q : Int32 → Sg → Prop} (C : Cx X cX2_openTinsAhead "SweetWraps$Machine" (some .int) 3 63 5 (QI (tE X) Q)) {m : Nat} {x1 : Int32} (hm : m < 11) {K4 : Int32 → Int32 → Sg → Prop} (hK4 : ∀ (v2 : Int32) (v3 : Int32) (σ : Sg), K4 v2 v3 σ → G X σ [(0, .ref (ad (tE X) m 0 0)), (1, .int x1), (2, .int v2), (3, .int v3)] [] 4) {v2 : Int32} {v3 : Int32} {σ : Sg} (hw : wp_X2_openTinsAhead_b57 m x1 K4 Q v2 v3 σ) : G X σ [(0, .ref (ad (tE X) m 0 0)), (1, .int x1), (2, .int v2), (3, .int v3)] [] 57 := by
  unfold wp_X2_openTinsAhead_b57 at hw
  refine gx_iconst (v := (1 : Int32)) C dX2_openTinsAhead_57 (by decide) ?_
  refine gx_goto (tgt := 62) C dX2_openTinsAhead_58 (by decide) ?_
  exact g_X2_openTinsAhead_b62 C hm hK4 hw
def st_X2_openTinsAhead_L4 (m : Nat) (x1 : Int32) (Q : Int32 → Sg → Prop) (K4 : Int32 → Int32 → Sg → Prop) (v2 : Int32) (v3 : Int32) (σ : Sg) : Prop := (((16 : Int32) ≤ v3 → Q v2 σ) ∧ (¬ (16 : Int32) ≤ v3 → (vp_in v3 16 ∧ ∀ a3 : Nat, a3 = v3.toNatClampNeg → (vp_in x1 16 ∧ ∀ a5 : Nat, a5 = x1.toNatClampNeg → (((σ m 8 a5 2) < (σ m 8 a3 2) → wp_X2_openTinsAhead_b57 m x1 K4 Q v2 v3 σ) ∧ (¬ (σ m 8 a5 2) < (σ m 8 a3 2) → (vp_in v3 16 ∧ ∀ a8 : Nat, a8 = v3.toNatClampNeg → (vp_in x1 16 ∧ ∀ a10 : Nat, a10 = x1.toNatClampNeg → ((¬ (σ m 8 a8 2) = (σ m 8 a10 2) → wp_X2_openTinsAhead_b61 m x1 K4 Q v2 v3 σ) ∧ ((σ m 8 a8 2) = (σ m 8 a10 2) → ((x1 ≤ v3 → wp_X2_openTinsAhead_b61 m x1 K4 Q v2 v3 σ) ∧ (¬ x1 ≤ v3 → wp_X2_openTinsAhead_b57 m x1 K4 Q v2 v3 σ))))))))))))
def wp_X2_openTinsAhead_L4 (m : Nat) (x1 : Int32) (Q : Int32 → Sg → Prop) (v2 : Int32) (v3 : Int32) (σ : Sg) : Prop := ∃ n : Nat, lpN (fun (K : Int32 × Int32 × Sg → Prop) (a : Int32 × Int32 × Sg) => st_X2_openTinsAhead_L4 m x1 Q (fun v2 v3 σ => K (v2, v3, σ)) (a.1) (a.2.1) (a.2.2)) n (v2, v3, σ)
set_option maxRecDepth 100000 in
set_option maxHeartbeats 4000000 in
theorem gs_X2_openTinsAhead_L4 {X : Tx} {Q : Int32 → Sg → Prop} (C : Cx X cX2_openTinsAhead "SweetWraps$Machine" (some .int) 3 63 5 (QI (tE X) Q)) {m : Nat} {x1 : Int32} (hm : m < 11) {K4 : Int32 → Int32 → Sg → Prop} (hK4 : ∀ (v2 : Int32) (v3 : Int32) (σ : Sg), K4 v2 v3 σ → G X σ [(0, .ref (ad (tE X) m 0 0)), (1, .int x1), (2, .int v2), (3, .int v3)] [] 4) {v2 : Int32} {v3 : Int32} {σ : Sg} (hw : st_X2_openTinsAhead_L4 m x1 Q K4 v2 v3 σ) : G X σ [(0, .ref (ad (tE X) m 0 0)), (1, .int x1), (2, .int v2), (3, .int v3)] [] 4 := by
  unfold st_X2_openTinsAhead_L4 at hw
  refine gx_iload_n C dX2_openTinsAhead_4 3 rfl ?_
  refine gx_bipush (v := (16 : Int32)) C dX2_openTinsAhead_5 (by decide) ?_
  refine gx_icmp_ge (tgt := 86) C dX2_openTinsAhead_7 (by decide) (fun c1 => ?_) (fun c1 => ?_)
  · replace hw := hw.1 c1
    refine gx_iload_n C dX2_openTinsAhead_86 2 rfl ?_
    exact gx_iret C rfl rfl dX2_openTinsAhead_87 hw
  · replace hw := hw.2 c1
    refine gx_aload_n C dX2_openTinsAhead_10 0 rfl ?_
    refine gx_get C (ok0 hm) rfl rfl inX2 (ref := "SweetWraps$Machine") 2 (by decide) bw_92 rfl rfl dX2_openTinsAhead_11 ?_
    refine gx_iload_n C dX2_openTinsAhead_14 3 rfl ?_
    have h2 := hw.1
    replace hw := hw.2
    obtain ⟨a3, e_a3⟩ : ∃ z : Nat, z = v3.toNatClampNeg := ⟨_, rfl⟩
    replace hw := hw a3 e_a3
    have ha3 : a3 < 16 := by rw [e_a3]; exact vp_lt h2
    refine gx_aald C (ok3 hm) rfl (t0 := 4) rfl h2 (v := .ref (ad (tE X) m 8 a3)) (by rw [e_a3]; rfl) dX2_openTinsAhead_15 ?_
    refine gx_get C (ok8 hm ha3) rfl rfl inX4 (ref := "SweetWraps$Tin") 2 (by decide) bw_76 rfl rfl dX2_openTinsAhead_16 ?_
    refine gx_aload_n C dX2_openTinsAhead_19 0 rfl ?_
    refine gx_get C (ok0 hm) rfl rfl inX2 (ref := "SweetWraps$Machine") 2 (by decide) bw_92 rfl rfl dX2_openTinsAhead_20 ?_
    refine gx_iload_n C dX2_openTinsAhead_23 1 rfl ?_
    have h4 := hw.1
    replace hw := hw.2
    obtain ⟨a5, e_a5⟩ : ∃ z : Nat, z = x1.toNatClampNeg := ⟨_, rfl⟩
    replace hw := hw a5 e_a5
    have ha5 : a5 < 16 := by rw [e_a5]; exact vp_lt h4
    refine gx_aald C (ok3 hm) rfl (t0 := 4) rfl h4 (v := .ref (ad (tE X) m 8 a5)) (by rw [e_a5]; rfl) dX2_openTinsAhead_24 ?_
    refine gx_get C (ok8 hm ha5) rfl rfl inX4 (ref := "SweetWraps$Tin") 2 (by decide) bw_76 rfl rfl dX2_openTinsAhead_25 ?_
    refine gx_icmp_gt (tgt := 57) C dX2_openTinsAhead_28 (by decide) (fun c6 => ?_) (fun c6 => ?_)
    · replace hw := hw.1 c6
      exact g_X2_openTinsAhead_b57 C hm hK4 hw
    · replace hw := hw.2 c6
      refine gx_aload_n C dX2_openTinsAhead_31 0 rfl ?_
      refine gx_get C (ok0 hm) rfl rfl inX2 (ref := "SweetWraps$Machine") 2 (by decide) bw_92 rfl rfl dX2_openTinsAhead_32 ?_
      refine gx_iload_n C dX2_openTinsAhead_35 3 rfl ?_
      have h7 := hw.1
      replace hw := hw.2
      obtain ⟨a8, e_a8⟩ : ∃ z : Nat, z = v3.toNatClampNeg := ⟨_, rfl⟩
      replace hw := hw a8 e_a8
      have ha8 : a8 < 16 := by rw [e_a8]; exact vp_lt h7
      refine gx_aald C (ok3 hm) rfl (t0 := 4) rfl h7 (v := .ref (ad (tE X) m 8 a8)) (by rw [e_a8]; rfl) dX2_openTinsAhead_36 ?_
      refine gx_get C (ok8 hm ha8) rfl rfl inX4 (ref := "SweetWraps$Tin") 2 (by decide) bw_76 rfl rfl dX2_openTinsAhead_37 ?_
      refine gx_aload_n C dX2_openTinsAhead_40 0 rfl ?_
      refine gx_get C (ok0 hm) rfl rfl inX2 (ref := "SweetWraps$Machine") 2 (by decide) bw_92 rfl rfl dX2_openTinsAhead_41 ?_
      refine gx_iload_n C dX2_openTinsAhead_44 1 rfl ?_
      have h9 := hw.1
      replace hw := hw.2
      obtain ⟨a10, e_a10⟩ : ∃ z : Nat, z = x1.toNatClampNeg := ⟨_, rfl⟩
      replace hw := hw a10 e_a10
      have ha10 : a10 < 16 := by rw [e_a10]; exact vp_lt h9
      refine gx_aald C (ok3 hm) rfl (t0 := 4) rfl h9 (v := .ref (ad (tE X) m 8 a10)) (by rw [e_a10]; rfl) dX2_openTinsAhead_45 ?_
      refine gx_get C (ok8 hm ha10) rfl rfl inX4 (ref := "SweetWraps$Tin") 2 (by decide) bw_76 rfl rfl dX2_openTinsAhead_46 ?_
      refine gx_icmp_ne (tgt := 61) C dX2_openTinsAhead_49 (by decide) (fun c11 => ?_) (fun c11 => ?_)
      · replace hw := hw.1 c11
        exact g_X2_openTinsAhead_b61 C hm hK4 hw
      · replace hw := hw.2 c11
        refine gx_iload_n C dX2_openTinsAhead_52 3 rfl ?_
        refine gx_iload_n C dX2_openTinsAhead_53 1 rfl ?_
        refine gx_icmp_ge (tgt := 61) C dX2_openTinsAhead_54 (by decide) (fun c12 => ?_) (fun c12 => ?_)
        · replace hw := hw.1 c12
          exact g_X2_openTinsAhead_b61 C hm hK4 hw
        · replace hw := hw.2 c12
          exact g_X2_openTinsAhead_b57 C hm hK4 hw
set_option maxRecDepth 100000 in
set_option maxHeartbeats 4000000 in
theorem g_X2_openTinsAhead_L4 {X : Tx} {Q : Int32 → Sg → Prop} (C : Cx X cX2_openTinsAhead "SweetWraps$Machine" (some .int) 3 63 5 (QI (tE X) Q)) {m : Nat} {x1 : Int32} (hm : m < 11) {v2 : Int32} {v3 : Int32} {σ : Sg} (hw : wp_X2_openTinsAhead_L4 m x1 Q v2 v3 σ) : G X σ [(0, .ref (ad (tE X) m 0 0)), (1, .int x1), (2, .int v2), (3, .int v3)] [] 4 := by
  obtain ⟨n, hw⟩ := hw
  exact lpN_G (P := (fun (a : Int32 × Int32 × Sg) => G X (a.2.2) [(0, .ref (ad (tE X) m 0 0)), (1, .int x1), (2, .int (a.1)), (3, .int (a.2.1))] [] 4)) (fun K a hK h => gs_X2_openTinsAhead_L4 C hm (fun v2 v3 σ h => hK (v2, v3, σ) h) h) n _ hw
def wp_X2_openTinsAhead (m : Nat) (x1 : Int32) (σ : Sg) (Q : Int32 → Sg → Prop) : Prop := wp_X2_openTinsAhead_L4 m x1 Q (0 : Int32) (0 : Int32) σ
set_option maxRecDepth 100000 in
set_option maxHeartbeats 4000000 in
theorem c_X2_openTinsAhead (l : Launch) (E : Ev) {m : Nat} {x1 : Int32} (hm : m < 11) {σ : Sg} {Q : Int32 → Sg → Prop} (hw : wp_X2_openTinsAhead m x1 σ Q) : CT l E yX2_openTinsAhead cX2_openTinsAhead 5 (some .int) 3 63 [.ref (ad E m 0 0), .int x1] σ (QI E Q) := by
  refine CT_of (by decide) (Nat.le_of_ble_eq_true rfl) (fun X h1 h2 C => ?_)
  subst h1; subst h2
  have C : Cx X cX2_openTinsAhead "SweetWraps$Machine" (some .int) 3 63 5 (QI (tE X) Q) := C
  show G X σ [(0, .ref (ad (tE X) m 0 0)), (1, .int x1)] [] 0
  unfold wp_X2_openTinsAhead at hw
  refine gx_iconst (v := (0 : Int32)) C dX2_openTinsAhead_0 (by decide) ?_
  refine gx_istore_n (lv' := [(2, .int (0 : Int32)), (0, .ref (ad (tE X) m 0 0)), (1, .int x1)]) C dX2_openTinsAhead_1 (by decide) rfl ?_
  refine gx_iconst (v := (0 : Int32)) C dX2_openTinsAhead_2 (by decide) ?_
  refine gx_istore_n (lv' := [(3, .int (0 : Int32)), (2, .int (0 : Int32)), (0, .ref (ad (tE X) m 0 0)), (1, .int x1)]) C dX2_openTinsAhead_3 (by decide) rfl ?_
  refine gx_sub (lv' := [(0, .ref (ad (tE X) m 0 0)), (1, .int x1), (2, .int (0 : Int32)), (3, .int (0 : Int32))]) [2, 3, 1, 0] rfl ?_
  exact g_X2_openTinsAhead_L4 C hm hw
theorem hy_X2_openTinsAhead : yX2_openTinsAhead.cls = "SweetWraps$Machine" ∧ yX2_openTinsAhead.cls ≠ "java/lang/invoke/MethodHandle" ∧ yX2_openTinsAhead.cls ≠ "java/lang/invoke/VarHandle" ∧ (parseMethodDescriptor yX2_openTinsAhead.desc).map (fun d => d.parameters.length) = some 1 := by decide +kernel

theorem dX2_tinOfRank_0 : decode cX2_tinOfRank 0 = .ok (.iconst 0, 1) := by decide +kernel
theorem dX2_tinOfRank_1 : decode cX2_tinOfRank 1 = .ok (.istore_n 2, 1) := by decide +kernel
theorem dX2_tinOfRank_2 : decode cX2_tinOfRank 2 = .ok (.iload_n 2, 1) := by decide +kernel
theorem dX2_tinOfRank_3 : decode cX2_tinOfRank 3 = .ok (.bipush 16, 2) := by decide +kernel
theorem dX2_tinOfRank_5 : decode cX2_tinOfRank 5 = .ok (.if_icmp .ge 28, 3) := by decide +kernel
theorem dX2_tinOfRank_8 : decode cX2_tinOfRank 8 = .ok (.aload_n 0, 1) := by decide +kernel
theorem dX2_tinOfRank_9 : decode cX2_tinOfRank 9 = .ok (.iload_n 2, 1) := by decide +kernel
theorem dX2_tinOfRank_10 : decode cX2_tinOfRank 10 = .ok (.invokevirtual 171, 3) := by decide +kernel
theorem dX2_tinOfRank_13 : decode cX2_tinOfRank 13 = .ok (.ifCond .eq 14, 3) := by decide +kernel
theorem dX2_tinOfRank_16 : decode cX2_tinOfRank 16 = .ok (.aload_n 0, 1) := by decide +kernel
theorem dX2_tinOfRank_17 : decode cX2_tinOfRank 17 = .ok (.iload_n 2, 1) := by decide +kernel
theorem dX2_tinOfRank_18 : decode cX2_tinOfRank 18 = .ok (.invokevirtual 185, 3) := by decide +kernel
theorem dX2_tinOfRank_21 : decode cX2_tinOfRank 21 = .ok (.iload_n 1, 1) := by decide +kernel
theorem dX2_tinOfRank_22 : decode cX2_tinOfRank 22 = .ok (.if_icmp .ne 5, 3) := by decide +kernel
theorem dX2_tinOfRank_25 : decode cX2_tinOfRank 25 = .ok (.iload_n 2, 1) := by decide +kernel
theorem dX2_tinOfRank_26 : decode cX2_tinOfRank 26 = .ok (.ireturn, 1) := by decide +kernel
theorem dX2_tinOfRank_27 : decode cX2_tinOfRank 27 = .ok (.iinc 2 1, 3) := by decide +kernel
theorem dX2_tinOfRank_30 : decode cX2_tinOfRank 30 = .ok (.goto (-28), 3) := by decide +kernel
theorem dX2_tinOfRank_33 : decode cX2_tinOfRank 33 = .ok (.iconst (-1), 1) := by decide +kernel
theorem dX2_tinOfRank_34 : decode cX2_tinOfRank 34 = .ok (.ireturn, 1) := by decide +kernel
def wp_X2_tinOfRank_b27 (m : Nat) (x1 : Int32) (K2 : Int32 → Sg → Prop) (Q : Int32 → Sg → Prop) (v2 : Int32) (σ : Sg) : Prop := ∀ z8 : Int32, z8 = v2 + (1 : Int32) → K2 z8 σ
set_option maxRecDepth 100000 in
set_option maxHeartbeats 4000000 in
theorem g_X2_tinOfRank_b27 {X : Tx} {Q : Int32 → Sg → Prop} (C : Cx X cX2_tinOfRank "SweetWraps$Machine" (some .int) 4 87 3 (QI (tE X) Q)) {m : Nat} {x1 : Int32} (hm : m < 11) {K2 : Int32 → Sg → Prop} (hK2 : ∀ (v2 : Int32) (σ : Sg), K2 v2 σ → G X σ [(0, .ref (ad (tE X) m 0 0)), (1, .int x1), (2, .int v2)] [] 2) {v2 : Int32} {σ : Sg} (hw : wp_X2_tinOfRank_b27 m x1 K2 Q v2 σ) : G X σ [(0, .ref (ad (tE X) m 0 0)), (1, .int x1), (2, .int v2)] [] 27 := by
  unfold wp_X2_tinOfRank_b27 at hw
  obtain ⟨z8, e_z8⟩ : ∃ z : Int32, z = v2 + (1 : Int32) := ⟨_, rfl⟩
  replace hw := hw z8 e_z8
  refine gx_iinc (v := z8) (lv' := [(2, .int z8), (0, .ref (ad (tE X) m 0 0)), (1, .int x1)]) C dX2_tinOfRank_27 2 rfl (by rw [e_z8]; rfl) (by decide) rfl ?_
  refine gx_goto (tgt := 2) C dX2_tinOfRank_30 (by decide) ?_
  refine gx_sub (lv' := [(0, .ref (ad (tE X) m 0 0)), (1, .int x1), (2, .int z8)]) [1, 2, 0] rfl ?_
  exact hK2 _ _ hw
def st_X2_tinOfRank_L2 (m : Nat) (x1 : Int32) (Q : Int32 → Sg → Prop) (K2 : Int32 → Sg → Prop) (v2 : Int32) (σ : Sg) : Prop := (((16 : Int32) ≤ v2 → Q (-1 : Int32) σ) ∧ (¬ (16 : Int32) ≤ v2 → wp_X2_isOpen m v2 σ (fun r2 σ3 => ((r2 = 0 → wp_X2_tinOfRank_b27 m x1 K2 Q v2 σ3) ∧ (¬ r2 = 0 → wp_X2_openTinsAhead m v2 σ3 (fun r5 σ6 => ((¬ r5 = x1 → wp_X2_tinOfRank_b27 m x1 K2 Q v2 σ6) ∧ (r5 = x1 → Q v2 σ6))))))))
def wp_X2_tinOfRank_L2 (m : Nat) (x1 : Int32) (Q : Int32 → Sg → Prop) (v2 : Int32) (σ : Sg) : Prop := ∃ n : Nat, lpN (fun (K : Int32 × Sg → Prop) (a : Int32 × Sg) => st_X2_tinOfRank_L2 m x1 Q (fun v2 σ => K (v2, σ)) (a.1) (a.2)) n (v2, σ)
set_option maxRecDepth 100000 in
set_option maxHeartbeats 4000000 in
theorem gs_X2_tinOfRank_L2 {X : Tx} {Q : Int32 → Sg → Prop} (C : Cx X cX2_tinOfRank "SweetWraps$Machine" (some .int) 4 87 3 (QI (tE X) Q)) {m : Nat} {x1 : Int32} (hm : m < 11) {K2 : Int32 → Sg → Prop} (hK2 : ∀ (v2 : Int32) (σ : Sg), K2 v2 σ → G X σ [(0, .ref (ad (tE X) m 0 0)), (1, .int x1), (2, .int v2)] [] 2) {v2 : Int32} {σ : Sg} (hw : st_X2_tinOfRank_L2 m x1 Q K2 v2 σ) : G X σ [(0, .ref (ad (tE X) m 0 0)), (1, .int x1), (2, .int v2)] [] 2 := by
  unfold st_X2_tinOfRank_L2 at hw
  refine gx_iload_n C dX2_tinOfRank_2 2 rfl ?_
  refine gx_bipush (v := (16 : Int32)) C dX2_tinOfRank_3 (by decide) ?_
  refine gx_icmp_ge (tgt := 33) C dX2_tinOfRank_5 (by decide) (fun c1 => ?_) (fun c1 => ?_)
  · replace hw := hw.1 c1
    refine gx_iconst (v := (-1 : Int32)) C dX2_tinOfRank_33 (by decide) ?_
    exact gx_iret C rfl rfl dX2_tinOfRank_34 hw
  · replace hw := hw.2 c1
    refine gx_aload_n C dX2_tinOfRank_8 0 rfl ?_
    refine gx_iload_n C dX2_tinOfRank_9 2 rfl ?_
    refine gx_vcalli (As := [.int v2]) (rest := []) C (c_X2_isOpen _ _ hm hw) (ok0 hm) rfl rfl bw_351 bw_353 bs_12 bw_2 bw_354 hy_X2_isOpen ⟨by decide, by decide⟩ rfl (Nat.le_of_ble_eq_true rfl) dX2_tinOfRank_10 (fun r2 σ3 hw => ?_)
    refine gx_if_eq (tgt := 27) C dX2_tinOfRank_13 (by decide) (fun c4 => ?_) (fun c4 => ?_)
    · replace hw := hw.1 c4
      exact g_X2_tinOfRank_b27 C hm hK2 hw
    · replace hw := hw.2 c4
      refine gx_aload_n C dX2_tinOfRank_16 0 rfl ?_
      refine gx_iload_n C dX2_tinOfRank_17 2 rfl ?_
      refine gx_vcalli (As := [.int v2]) (rest := []) C (c_X2_openTinsAhead _ _ hm hw) (ok0 hm) rfl rfl bw_482 bw_484 bs_17 bw_2 bw_485 hy_X2_openTinsAhead ⟨by decide, by decide⟩ rfl (Nat.le_of_ble_eq_true rfl) dX2_tinOfRank_18 (fun r5 σ6 hw => ?_)
      refine gx_iload_n C dX2_tinOfRank_21 1 rfl ?_
      refine gx_icmp_ne (tgt := 27) C dX2_tinOfRank_22 (by decide) (fun c7 => ?_) (fun c7 => ?_)
      · replace hw := hw.1 c7
        exact g_X2_tinOfRank_b27 C hm hK2 hw
      · replace hw := hw.2 c7
        refine gx_iload_n C dX2_tinOfRank_25 2 rfl ?_
        exact gx_iret C rfl rfl dX2_tinOfRank_26 hw
set_option maxRecDepth 100000 in
set_option maxHeartbeats 4000000 in
theorem g_X2_tinOfRank_L2 {X : Tx} {Q : Int32 → Sg → Prop} (C : Cx X cX2_tinOfRank "SweetWraps$Machine" (some .int) 4 87 3 (QI (tE X) Q)) {m : Nat} {x1 : Int32} (hm : m < 11) {v2 : Int32} {σ : Sg} (hw : wp_X2_tinOfRank_L2 m x1 Q v2 σ) : G X σ [(0, .ref (ad (tE X) m 0 0)), (1, .int x1), (2, .int v2)] [] 2 := by
  obtain ⟨n, hw⟩ := hw
  exact lpN_G (P := (fun (a : Int32 × Sg) => G X (a.2) [(0, .ref (ad (tE X) m 0 0)), (1, .int x1), (2, .int (a.1))] [] 2)) (fun K a hK h => gs_X2_tinOfRank_L2 C hm (fun v2 σ h => hK (v2, σ) h) h) n _ hw
def wp_X2_tinOfRank (m : Nat) (x1 : Int32) (σ : Sg) (Q : Int32 → Sg → Prop) : Prop := wp_X2_tinOfRank_L2 m x1 Q (0 : Int32) σ
set_option maxRecDepth 100000 in
set_option maxHeartbeats 4000000 in
theorem c_X2_tinOfRank (l : Launch) (E : Ev) {m : Nat} {x1 : Int32} (hm : m < 11) {σ : Sg} {Q : Int32 → Sg → Prop} (hw : wp_X2_tinOfRank m x1 σ Q) : CT l E yX2_tinOfRank cX2_tinOfRank 3 (some .int) 4 87 [.ref (ad E m 0 0), .int x1] σ (QI E Q) := by
  refine CT_of (by decide) (Nat.le_of_ble_eq_true rfl) (fun X h1 h2 C => ?_)
  subst h1; subst h2
  have C : Cx X cX2_tinOfRank "SweetWraps$Machine" (some .int) 4 87 3 (QI (tE X) Q) := C
  show G X σ [(0, .ref (ad (tE X) m 0 0)), (1, .int x1)] [] 0
  unfold wp_X2_tinOfRank at hw
  refine gx_iconst (v := (0 : Int32)) C dX2_tinOfRank_0 (by decide) ?_
  refine gx_istore_n (lv' := [(2, .int (0 : Int32)), (0, .ref (ad (tE X) m 0 0)), (1, .int x1)]) C dX2_tinOfRank_1 (by decide) rfl ?_
  refine gx_sub (lv' := [(0, .ref (ad (tE X) m 0 0)), (1, .int x1), (2, .int (0 : Int32))]) [1, 2, 0] rfl ?_
  exact g_X2_tinOfRank_L2 C hm hw
theorem hy_X2_tinOfRank : yX2_tinOfRank.cls = "SweetWraps$Machine" ∧ yX2_tinOfRank.cls ≠ "java/lang/invoke/MethodHandle" ∧ yX2_tinOfRank.cls ≠ "java/lang/invoke/VarHandle" ∧ (parseMethodDescriptor yX2_tinOfRank.desc).map (fun d => d.parameters.length) = some 1 := by decide +kernel

theorem dX2_sweetsInHoppers_0 : decode cX2_sweetsInHoppers 0 = .ok (.iconst 0, 1) := by decide +kernel
theorem dX2_sweetsInHoppers_1 : decode cX2_sweetsInHoppers 1 = .ok (.istore_n 2, 1) := by decide +kernel
theorem dX2_sweetsInHoppers_2 : decode cX2_sweetsInHoppers 2 = .ok (.iconst 0, 1) := by decide +kernel
theorem dX2_sweetsInHoppers_3 : decode cX2_sweetsInHoppers 3 = .ok (.istore_n 3, 1) := by decide +kernel
theorem dX2_sweetsInHoppers_4 : decode cX2_sweetsInHoppers 4 = .ok (.iload_n 3, 1) := by decide +kernel
theorem dX2_sweetsInHoppers_5 : decode cX2_sweetsInHoppers 5 = .ok (.iconst 4, 1) := by decide +kernel
theorem dX2_sweetsInHoppers_6 : decode cX2_sweetsInHoppers 6 = .ok (.if_icmp .ge 22, 3) := by decide +kernel
theorem dX2_sweetsInHoppers_9 : decode cX2_sweetsInHoppers 9 = .ok (.iload_n 2, 1) := by decide +kernel
theorem dX2_sweetsInHoppers_10 : decode cX2_sweetsInHoppers 10 = .ok (.aload_n 0, 1) := by decide +kernel
theorem dX2_sweetsInHoppers_11 : decode cX2_sweetsInHoppers 11 = .ok (.getfield 17, 3) := by decide +kernel
theorem dX2_sweetsInHoppers_14 : decode cX2_sweetsInHoppers 14 = .ok (.iload_n 3, 1) := by decide +kernel
theorem dX2_sweetsInHoppers_15 : decode cX2_sweetsInHoppers 15 = .ok (.aaload, 1) := by decide +kernel
theorem dX2_sweetsInHoppers_16 : decode cX2_sweetsInHoppers 16 = .ok (.iload_n 1, 1) := by decide +kernel
theorem dX2_sweetsInHoppers_17 : decode cX2_sweetsInHoppers 17 = .ok (.invokevirtual 191, 3) := by decide +kernel
theorem dX2_sweetsInHoppers_20 : decode cX2_sweetsInHoppers 20 = .ok (.iadd, 1) := by decide +kernel
theorem dX2_sweetsInHoppers_21 : decode cX2_sweetsInHoppers 21 = .ok (.istore_n 2, 1) := by decide +kernel
theorem dX2_sweetsInHoppers_22 : decode cX2_sweetsInHoppers 22 = .ok (.iinc 3 1, 3) := by decide +kernel
theorem dX2_sweetsInHoppers_25 : decode cX2_sweetsInHoppers 25 = .ok (.goto (-21), 3) := by decide +kernel
theorem dX2_sweetsInHoppers_28 : decode cX2_sweetsInHoppers 28 = .ok (.iload_n 2, 1) := by decide +kernel
theorem dX2_sweetsInHoppers_29 : decode cX2_sweetsInHoppers 29 = .ok (.ireturn, 1) := by decide +kernel
def st_X2_sweetsInHoppers_L4 (m : Nat) (x1 : Int32) (Q : Int32 → Sg → Prop) (K4 : Int32 → Int32 → Sg → Prop) (v2 : Int32) (v3 : Int32) (σ : Sg) : Prop := (((4 : Int32) ≤ v3 → Q v2 σ) ∧ (¬ (4 : Int32) ≤ v3 → (vp_in v3 4 ∧ ∀ a3 : Nat, a3 = v3.toNatClampNeg → wp_X1_sweetsOf m a3 x1 σ (fun r4 σ5 => ∀ z6 : Int32, z6 = (v2 + r4) → ∀ z7 : Int32, z7 = v3 + (1 : Int32) → K4 z6 z7 σ5))))
def wp_X2_sweetsInHoppers_L4 (m : Nat) (x1 : Int32) (Q : Int32 → Sg → Prop) (v2 : Int32) (v3 : Int32) (σ : Sg) : Prop := ∃ n : Nat, lpN (fun (K : Int32 × Int32 × Sg → Prop) (a : Int32 × Int32 × Sg) => st_X2_sweetsInHoppers_L4 m x1 Q (fun v2 v3 σ => K (v2, v3, σ)) (a.1) (a.2.1) (a.2.2)) n (v2, v3, σ)
set_option maxRecDepth 100000 in
set_option maxHeartbeats 4000000 in
theorem gs_X2_sweetsInHoppers_L4 {X : Tx} {Q : Int32 → Sg → Prop} (C : Cx X cX2_sweetsInHoppers "SweetWraps$Machine" (some .int) 1 23 4 (QI (tE X) Q)) {m : Nat} {x1 : Int32} (hm : m < 11) {K4 : Int32 → Int32 → Sg → Prop} (hK4 : ∀ (v2 : Int32) (v3 : Int32) (σ : Sg), K4 v2 v3 σ → G X σ [(0, .ref (ad (tE X) m 0 0)), (1, .int x1), (2, .int v2), (3, .int v3)] [] 4) {v2 : Int32} {v3 : Int32} {σ : Sg} (hw : st_X2_sweetsInHoppers_L4 m x1 Q K4 v2 v3 σ) : G X σ [(0, .ref (ad (tE X) m 0 0)), (1, .int x1), (2, .int v2), (3, .int v3)] [] 4 := by
  unfold st_X2_sweetsInHoppers_L4 at hw
  refine gx_iload_n C dX2_sweetsInHoppers_4 3 rfl ?_
  refine gx_iconst (v := (4 : Int32)) C dX2_sweetsInHoppers_5 (by decide) ?_
  refine gx_icmp_ge (tgt := 28) C dX2_sweetsInHoppers_6 (by decide) (fun c1 => ?_) (fun c1 => ?_)
  · replace hw := hw.1 c1
    refine gx_iload_n C dX2_sweetsInHoppers_28 2 rfl ?_
    exact gx_iret C rfl rfl dX2_sweetsInHoppers_29 hw
  · replace hw := hw.2 c1
    refine gx_iload_n C dX2_sweetsInHoppers_9 2 rfl ?_
    refine gx_aload_n C dX2_sweetsInHoppers_10 0 rfl ?_
    refine gx_get C (ok0 hm) rfl rfl inX2 (ref := "SweetWraps$Machine") 1 (by decide) bw_90 rfl rfl dX2_sweetsInHoppers_11 ?_
    refine gx_iload_n C dX2_sweetsInHoppers_14 3 rfl ?_
    have h2 := hw.1
    replace hw := hw.2
    obtain ⟨a3, e_a3⟩ : ∃ z : Nat, z = v3.toNatClampNeg := ⟨_, rfl⟩
    replace hw := hw a3 e_a3
    have ha3 : a3 < 4 := by rw [e_a3]; exact vp_lt h2
    refine gx_aald C (ok2 hm) rfl (t0 := 3) rfl h2 (v := .ref (ad (tE X) m 5 a3)) (by rw [e_a3]; rfl) dX2_sweetsInHoppers_15 ?_
    refine gx_iload_n C dX2_sweetsInHoppers_16 1 rfl ?_
    refine gx_vcalli (As := [.int x1]) (rest := [.int v2]) C (c_X1_sweetsOf _ _ hm ha3 hw) (ok5 hm ha3) rfl rfl bw_442 bw_443 bw_444 bw_3 bw_445 hy_X1_sweetsOf ⟨by decide, by decide⟩ rfl (Nat.le_of_ble_eq_true rfl) dX2_sweetsInHoppers_17 (fun r4 σ5 hw => ?_)
    refine gx_iadd C dX2_sweetsInHoppers_20 ?_
    obtain ⟨z6, e_z6⟩ : ∃ z : Int32, z = (v2 + r4) := ⟨_, rfl⟩
    replace hw := hw z6 e_z6
    refine gx_top e_z6 ?_
    refine gx_istore_n (lv' := [(2, .int z6), (0, .ref (ad (tE X) m 0 0)), (1, .int x1), (3, .int v3)]) C dX2_sweetsInHoppers_21 (by decide) rfl ?_
    obtain ⟨z7, e_z7⟩ : ∃ z : Int32, z = v3 + (1 : Int32) := ⟨_, rfl⟩
    replace hw := hw z7 e_z7
    refine gx_iinc (v := z7) (lv' := [(3, .int z7), (2, .int z6), (0, .ref (ad (tE X) m 0 0)), (1, .int x1)]) C dX2_sweetsInHoppers_22 3 rfl (by rw [e_z7]; rfl) (by decide) rfl ?_
    refine gx_goto (tgt := 4) C dX2_sweetsInHoppers_25 (by decide) ?_
    refine gx_sub (lv' := [(0, .ref (ad (tE X) m 0 0)), (1, .int x1), (2, .int z6), (3, .int z7)]) [2, 3, 1, 0] rfl ?_
    exact hK4 _ _ _ hw
set_option maxRecDepth 100000 in
set_option maxHeartbeats 4000000 in
theorem g_X2_sweetsInHoppers_L4 {X : Tx} {Q : Int32 → Sg → Prop} (C : Cx X cX2_sweetsInHoppers "SweetWraps$Machine" (some .int) 1 23 4 (QI (tE X) Q)) {m : Nat} {x1 : Int32} (hm : m < 11) {v2 : Int32} {v3 : Int32} {σ : Sg} (hw : wp_X2_sweetsInHoppers_L4 m x1 Q v2 v3 σ) : G X σ [(0, .ref (ad (tE X) m 0 0)), (1, .int x1), (2, .int v2), (3, .int v3)] [] 4 := by
  obtain ⟨n, hw⟩ := hw
  exact lpN_G (P := (fun (a : Int32 × Int32 × Sg) => G X (a.2.2) [(0, .ref (ad (tE X) m 0 0)), (1, .int x1), (2, .int (a.1)), (3, .int (a.2.1))] [] 4)) (fun K a hK h => gs_X2_sweetsInHoppers_L4 C hm (fun v2 v3 σ h => hK (v2, v3, σ) h) h) n _ hw
def wp_X2_sweetsInHoppers (m : Nat) (x1 : Int32) (σ : Sg) (Q : Int32 → Sg → Prop) : Prop := wp_X2_sweetsInHoppers_L4 m x1 Q (0 : Int32) (0 : Int32) σ
set_option maxRecDepth 100000 in
set_option maxHeartbeats 4000000 in
theorem c_X2_sweetsInHoppers (l : Launch) (E : Ev) {m : Nat} {x1 : Int32} (hm : m < 11) {σ : Sg} {Q : Int32 → Sg → Prop} (hw : wp_X2_sweetsInHoppers m x1 σ Q) : CT l E yX2_sweetsInHoppers cX2_sweetsInHoppers 4 (some .int) 1 23 [.ref (ad E m 0 0), .int x1] σ (QI E Q) := by
  refine CT_of (by decide) (Nat.le_of_ble_eq_true rfl) (fun X h1 h2 C => ?_)
  subst h1; subst h2
  have C : Cx X cX2_sweetsInHoppers "SweetWraps$Machine" (some .int) 1 23 4 (QI (tE X) Q) := C
  show G X σ [(0, .ref (ad (tE X) m 0 0)), (1, .int x1)] [] 0
  unfold wp_X2_sweetsInHoppers at hw
  refine gx_iconst (v := (0 : Int32)) C dX2_sweetsInHoppers_0 (by decide) ?_
  refine gx_istore_n (lv' := [(2, .int (0 : Int32)), (0, .ref (ad (tE X) m 0 0)), (1, .int x1)]) C dX2_sweetsInHoppers_1 (by decide) rfl ?_
  refine gx_iconst (v := (0 : Int32)) C dX2_sweetsInHoppers_2 (by decide) ?_
  refine gx_istore_n (lv' := [(3, .int (0 : Int32)), (2, .int (0 : Int32)), (0, .ref (ad (tE X) m 0 0)), (1, .int x1)]) C dX2_sweetsInHoppers_3 (by decide) rfl ?_
  refine gx_sub (lv' := [(0, .ref (ad (tE X) m 0 0)), (1, .int x1), (2, .int (0 : Int32)), (3, .int (0 : Int32))]) [2, 3, 1, 0] rfl ?_
  exact g_X2_sweetsInHoppers_L4 C hm hw
theorem hy_X2_sweetsInHoppers : yX2_sweetsInHoppers.cls = "SweetWraps$Machine" ∧ yX2_sweetsInHoppers.cls ≠ "java/lang/invoke/MethodHandle" ∧ yX2_sweetsInHoppers.cls ≠ "java/lang/invoke/VarHandle" ∧ (parseMethodDescriptor yX2_sweetsInHoppers.desc).map (fun d => d.parameters.length) = some 1 := by decide +kernel

theorem dX2_flavourFact_0 : decode cX2_flavourFact 0 = .ok (.iload_n 1, 1) := by decide +kernel
theorem dX2_flavourFact_1 : decode cX2_flavourFact 1 = .ok (.bipush 6, 2) := by decide +kernel
theorem dX2_flavourFact_3 : decode cX2_flavourFact 3 = .ok (.invokestatic 56, 3) := by decide +kernel
theorem dX2_flavourFact_6 : decode cX2_flavourFact 6 = .ok (.ifCond .ne 5, 3) := by decide +kernel
theorem dX2_flavourFact_9 : decode cX2_flavourFact 9 = .ok (.iconst (-1), 1) := by decide +kernel
theorem dX2_flavourFact_10 : decode cX2_flavourFact 10 = .ok (.ireturn, 1) := by decide +kernel
theorem dX2_flavourFact_11 : decode cX2_flavourFact 11 = .ok (.iload_n 2, 1) := by decide +kernel
theorem dX2_flavourFact_12 : decode cX2_flavourFact 12 = .ok (.tableswitch 59 0 3 #[32, 38, 45, 52], 32) := by decide +kernel
theorem dX2_flavourFact_44 : decode cX2_flavourFact 44 = .ok (.aload_n 0, 1) := by decide +kernel
theorem dX2_flavourFact_45 : decode cX2_flavourFact 45 = .ok (.iload_n 1, 1) := by decide +kernel
theorem dX2_flavourFact_46 : decode cX2_flavourFact 46 = .ok (.invokevirtual 188, 3) := by decide +kernel
theorem dX2_flavourFact_49 : decode cX2_flavourFact 49 = .ok (.ireturn, 1) := by decide +kernel
theorem dX2_flavourFact_50 : decode cX2_flavourFact 50 = .ok (.aload_n 0, 1) := by decide +kernel
theorem dX2_flavourFact_51 : decode cX2_flavourFact 51 = .ok (.iload_n 1, 1) := by decide +kernel
theorem dX2_flavourFact_52 : decode cX2_flavourFact 52 = .ok (.iconst 0, 1) := by decide +kernel
theorem dX2_flavourFact_53 : decode cX2_flavourFact 53 = .ok (.invokevirtual 181, 3) := by decide +kernel
theorem dX2_flavourFact_56 : decode cX2_flavourFact 56 = .ok (.ireturn, 1) := by decide +kernel
theorem dX2_flavourFact_57 : decode cX2_flavourFact 57 = .ok (.aload_n 0, 1) := by decide +kernel
theorem dX2_flavourFact_58 : decode cX2_flavourFact 58 = .ok (.iload_n 1, 1) := by decide +kernel
theorem dX2_flavourFact_59 : decode cX2_flavourFact 59 = .ok (.iconst 1, 1) := by decide +kernel
theorem dX2_flavourFact_60 : decode cX2_flavourFact 60 = .ok (.invokevirtual 181, 3) := by decide +kernel
theorem dX2_flavourFact_63 : decode cX2_flavourFact 63 = .ok (.ireturn, 1) := by decide +kernel
theorem dX2_flavourFact_64 : decode cX2_flavourFact 64 = .ok (.aload_n 0, 1) := by decide +kernel
theorem dX2_flavourFact_65 : decode cX2_flavourFact 65 = .ok (.getfield 27, 3) := by decide +kernel
theorem dX2_flavourFact_68 : decode cX2_flavourFact 68 = .ok (.iload_n 1, 1) := by decide +kernel
theorem dX2_flavourFact_69 : decode cX2_flavourFact 69 = .ok (.iaload, 1) := by decide +kernel
theorem dX2_flavourFact_70 : decode cX2_flavourFact 70 = .ok (.ireturn, 1) := by decide +kernel
theorem dX2_flavourFact_71 : decode cX2_flavourFact 71 = .ok (.bipush (-2), 2) := by decide +kernel
theorem dX2_flavourFact_73 : decode cX2_flavourFact 73 = .ok (.ireturn, 1) := by decide +kernel
def wp_X2_flavourFact (m : Nat) (x1 : Int32) (x2 : Int32) (σ : Sg) (Q : Int32 → Sg → Prop) : Prop := wp_X5_isIndex x1 (6 : Int32) σ (fun r1 σ2 => ((¬ r1 = 0 → ((x2 = (0 : Int32) → wp_X2_sweetsInHoppers m x1 σ2 (fun r8 σ9 => Q r8 σ9)) ∧ (¬ x2 = (0 : Int32) → ((x2 = (1 : Int32) → wp_X2_sweetsInTins m x1 (0 : Int32) σ2 (fun r10 σ11 => Q r10 σ11)) ∧ (¬ x2 = (1 : Int32) → ((x2 = (2 : Int32) → wp_X2_sweetsInTins m x1 (1 : Int32) σ2 (fun r12 σ13 => Q r12 σ13)) ∧ (¬ x2 = (2 : Int32) → ((x2 = (3 : Int32) → (vp_in x1 6 ∧ Q (σ2 m 4 0 x1.toNatClampNeg) σ2)) ∧ (¬ x2 = (3 : Int32) → Q (-2 : Int32) σ2))))))))) ∧ (r1 = 0 → Q (-1 : Int32) σ2)))
set_option maxRecDepth 100000 in
set_option maxHeartbeats 4000000 in
theorem c_X2_flavourFact (l : Launch) (E : Ev) {m : Nat} {x1 : Int32} {x2 : Int32} (hm : m < 11) {σ : Sg} {Q : Int32 → Sg → Prop} (hw : wp_X2_flavourFact m x1 x2 σ Q) : CT l E yX2_flavourFact cX2_flavourFact 3 (some .int) 2 46 [.ref (ad E m 0 0), .int x1, .int x2] σ (QI E Q) := by
  refine CT_of (by decide) (Nat.le_of_ble_eq_true rfl) (fun X h1 h2 C => ?_)
  subst h1; subst h2
  have C : Cx X cX2_flavourFact "SweetWraps$Machine" (some .int) 2 46 3 (QI (tE X) Q) := C
  show G X σ [(0, .ref (ad (tE X) m 0 0)), (1, .int x1), (2, .int x2)] [] 0
  unfold wp_X2_flavourFact at hw
  refine gx_iload_n C dX2_flavourFact_0 1 rfl ?_
  refine gx_bipush (v := (6 : Int32)) C dX2_flavourFact_1 (by decide) ?_
  refine gx_ncalli (As := [.int x1, .int (6 : Int32)]) (rest := []) (host := "SweetWraps") C (c_X5_isIndex _ _ hw) (nest_in _ (by decide +kernel)) bw_224 bw_1 bw_225 hyS_X5_isIndex ⟨by decide, by decide⟩ rfl (Nat.le_of_ble_eq_true rfl) dX2_flavourFact_3 (fun r1 σ2 hw => ?_)
  refine gx_if_ne (tgt := 11) C dX2_flavourFact_6 (by decide) (fun c3 => ?_) (fun c3 => ?_)
  · replace hw := hw.1 c3
    refine gx_iload_n C dX2_flavourFact_11 2 rfl ?_
    by_cases c4 : x2 = (0 : Int32)
    · replace hw := hw.1 c4
      refine gx_table (tgt := 44) (off := 32) C dX2_flavourFact_12 (0 : Int32) c4 (by decide) (by decide) rfl (by decide) ?_
      refine gx_aload_n C dX2_flavourFact_44 0 rfl ?_
      refine gx_iload_n C dX2_flavourFact_45 1 rfl ?_
      refine gx_vcalli (As := [.int x1]) (rest := []) C (c_X2_sweetsInHoppers _ _ hm hw) (ok0 hm) rfl rfl bw_438 bw_440 bs_16 bw_2 bw_441 hy_X2_sweetsInHoppers ⟨by decide, by decide⟩ rfl (Nat.le_of_ble_eq_true rfl) dX2_flavourFact_46 (fun r8 σ9 hw => ?_)
      exact gx_iret C rfl rfl dX2_flavourFact_49 hw
    · replace hw := hw.2 c4
      by_cases c5 : x2 = (1 : Int32)
      · replace hw := hw.1 c5
        refine gx_table (tgt := 50) (off := 38) C dX2_flavourFact_12 (1 : Int32) c5 (by decide) (by decide) rfl (by decide) ?_
        refine gx_aload_n C dX2_flavourFact_50 0 rfl ?_
        refine gx_iload_n C dX2_flavourFact_51 1 rfl ?_
        refine gx_iconst (v := (0 : Int32)) C dX2_flavourFact_52 (by decide) ?_
        refine gx_vcalli (As := [.int x1, .int (0 : Int32)]) (rest := []) C (c_X2_sweetsInTins _ _ hm hw) (ok0 hm) rfl rfl bw_323 bw_325 bs_9 bw_2 bw_326 hy_X2_sweetsInTins ⟨by decide, by decide⟩ rfl (Nat.le_of_ble_eq_true rfl) dX2_flavourFact_53 (fun r10 σ11 hw => ?_)
        exact gx_iret C rfl rfl dX2_flavourFact_56 hw
      · replace hw := hw.2 c5
        by_cases c6 : x2 = (2 : Int32)
        · replace hw := hw.1 c6
          refine gx_table (tgt := 57) (off := 45) C dX2_flavourFact_12 (2 : Int32) c6 (by decide) (by decide) rfl (by decide) ?_
          refine gx_aload_n C dX2_flavourFact_57 0 rfl ?_
          refine gx_iload_n C dX2_flavourFact_58 1 rfl ?_
          refine gx_iconst (v := (1 : Int32)) C dX2_flavourFact_59 (by decide) ?_
          refine gx_vcalli (As := [.int x1, .int (1 : Int32)]) (rest := []) C (c_X2_sweetsInTins _ _ hm hw) (ok0 hm) rfl rfl bw_323 bw_325 bs_9 bw_2 bw_326 hy_X2_sweetsInTins ⟨by decide, by decide⟩ rfl (Nat.le_of_ble_eq_true rfl) dX2_flavourFact_60 (fun r12 σ13 hw => ?_)
          exact gx_iret C rfl rfl dX2_flavourFact_63 hw
        · replace hw := hw.2 c6
          by_cases c7 : x2 = (3 : Int32)
          · replace hw := hw.1 c7
            refine gx_table (tgt := 64) (off := 52) C dX2_flavourFact_12 (3 : Int32) c7 (by decide) (by decide) rfl (by decide) ?_
            refine gx_aload_n C dX2_flavourFact_64 0 rfl ?_
            refine gx_get C (ok0 hm) rfl rfl inX2 (ref := "SweetWraps$Machine") 3 (by decide) bw_93 rfl rfl dX2_flavourFact_65 ?_
            refine gx_iload_n C dX2_flavourFact_68 1 rfl ?_
            refine gx_iald C (ok4 hm) rfl hw.1 _ rfl dX2_flavourFact_69 ?_
            replace hw := hw.2
            exact gx_iret C rfl rfl dX2_flavourFact_70 hw
          · replace hw := hw.2 c7
            refine gx_tableD (tgt := 71) C dX2_flavourFact_12 (by decide) [((32 : Int), (0 : Nat)), ((38 : Int), (1 : Nat)), ((45 : Int), (2 : Nat)), ((52 : Int), (3 : Nat))] rfl (List.forall_mem_cons.mpr ⟨Or.inr ⟨(0 : Int32), c4, by decide⟩, List.forall_mem_cons.mpr ⟨Or.inr ⟨(1 : Int32), c5, by decide⟩, List.forall_mem_cons.mpr ⟨Or.inr ⟨(2 : Int32), c6, by decide⟩, List.forall_mem_cons.mpr ⟨Or.inr ⟨(3 : Int32), c7, by decide⟩, fun _ h => absurd h List.not_mem_nil⟩⟩⟩⟩) (by decide) ?_
            refine gx_bipush (v := (-2 : Int32)) C dX2_flavourFact_71 (by decide) ?_
            exact gx_iret C rfl rfl dX2_flavourFact_73 hw
  · replace hw := hw.2 c3
    refine gx_iconst (v := (-1 : Int32)) C dX2_flavourFact_9 (by decide) ?_
    exact gx_iret C rfl rfl dX2_flavourFact_10 hw
theorem hy_X2_flavourFact : yX2_flavourFact.cls = "SweetWraps$Machine" ∧ yX2_flavourFact.cls ≠ "java/lang/invoke/MethodHandle" ∧ yX2_flavourFact.cls ≠ "java/lang/invoke/VarHandle" ∧ (parseMethodDescriptor yX2_flavourFact.desc).map (fun d => d.parameters.length) = some 2 := by decide +kernel

theorem dX2_sweetsInAllTins_0 : decode cX2_sweetsInAllTins 0 = .ok (.aload_n 0, 1) := by decide +kernel
theorem dX2_sweetsInAllTins_1 : decode cX2_sweetsInAllTins 1 = .ok (.iload_n 1, 1) := by decide +kernel
theorem dX2_sweetsInAllTins_2 : decode cX2_sweetsInAllTins 2 = .ok (.iconst 0, 1) := by decide +kernel
theorem dX2_sweetsInAllTins_3 : decode cX2_sweetsInAllTins 3 = .ok (.invokevirtual 181, 3) := by decide +kernel
theorem dX2_sweetsInAllTins_6 : decode cX2_sweetsInAllTins 6 = .ok (.aload_n 0, 1) := by decide +kernel
theorem dX2_sweetsInAllTins_7 : decode cX2_sweetsInAllTins 7 = .ok (.iload_n 1, 1) := by decide +kernel
theorem dX2_sweetsInAllTins_8 : decode cX2_sweetsInAllTins 8 = .ok (.iconst 1, 1) := by decide +kernel
theorem dX2_sweetsInAllTins_9 : decode cX2_sweetsInAllTins 9 = .ok (.invokevirtual 181, 3) := by decide +kernel
theorem dX2_sweetsInAllTins_12 : decode cX2_sweetsInAllTins 12 = .ok (.iadd, 1) := by decide +kernel
theorem dX2_sweetsInAllTins_13 : decode cX2_sweetsInAllTins 13 = .ok (.ireturn, 1) := by decide +kernel
def wp_X2_sweetsInAllTins (m : Nat) (x1 : Int32) (σ : Sg) (Q : Int32 → Sg → Prop) : Prop := wp_X2_sweetsInTins m x1 (0 : Int32) σ (fun r1 σ2 => wp_X2_sweetsInTins m x1 (1 : Int32) σ2 (fun r3 σ4 => Q (r1 + r3) σ4))
set_option maxRecDepth 100000 in
set_option maxHeartbeats 4000000 in
theorem c_X2_sweetsInAllTins (l : Launch) (E : Ev) {m : Nat} {x1 : Int32} (hm : m < 11) {σ : Sg} {Q : Int32 → Sg → Prop} (hw : wp_X2_sweetsInAllTins m x1 σ Q) : CT l E yX2_sweetsInAllTins cX2_sweetsInAllTins 2 (some .int) 1 24 [.ref (ad E m 0 0), .int x1] σ (QI E Q) := by
  refine CT_of (by decide) (Nat.le_of_ble_eq_true rfl) (fun X h1 h2 C => ?_)
  subst h1; subst h2
  have C : Cx X cX2_sweetsInAllTins "SweetWraps$Machine" (some .int) 1 24 2 (QI (tE X) Q) := C
  show G X σ [(0, .ref (ad (tE X) m 0 0)), (1, .int x1)] [] 0
  unfold wp_X2_sweetsInAllTins at hw
  refine gx_aload_n C dX2_sweetsInAllTins_0 0 rfl ?_
  refine gx_iload_n C dX2_sweetsInAllTins_1 1 rfl ?_
  refine gx_iconst (v := (0 : Int32)) C dX2_sweetsInAllTins_2 (by decide) ?_
  refine gx_vcalli (As := [.int x1, .int (0 : Int32)]) (rest := []) C (c_X2_sweetsInTins _ _ hm hw) (ok0 hm) rfl rfl bw_323 bw_325 bs_9 bw_2 bw_326 hy_X2_sweetsInTins ⟨by decide, by decide⟩ rfl (Nat.le_of_ble_eq_true rfl) dX2_sweetsInAllTins_3 (fun r1 σ2 hw => ?_)
  refine gx_aload_n C dX2_sweetsInAllTins_6 0 rfl ?_
  refine gx_iload_n C dX2_sweetsInAllTins_7 1 rfl ?_
  refine gx_iconst (v := (1 : Int32)) C dX2_sweetsInAllTins_8 (by decide) ?_
  refine gx_vcalli (As := [.int x1, .int (1 : Int32)]) (rest := [.int r1]) C (c_X2_sweetsInTins _ _ hm hw) (ok0 hm) rfl rfl bw_323 bw_325 bs_9 bw_2 bw_326 hy_X2_sweetsInTins ⟨by decide, by decide⟩ rfl (Nat.le_of_ble_eq_true rfl) dX2_sweetsInAllTins_9 (fun r3 σ4 hw => ?_)
  refine gx_iadd C dX2_sweetsInAllTins_12 ?_
  exact gx_iret C rfl rfl dX2_sweetsInAllTins_13 hw
theorem hy_X2_sweetsInAllTins : yX2_sweetsInAllTins.cls = "SweetWraps$Machine" ∧ yX2_sweetsInAllTins.cls ≠ "java/lang/invoke/MethodHandle" ∧ yX2_sweetsInAllTins.cls ≠ "java/lang/invoke/VarHandle" ∧ (parseMethodDescriptor yX2_sweetsInAllTins.desc).map (fun d => d.parameters.length) = some 1 := by decide +kernel

theorem dX2_flavoursAhead_0 : decode cX2_flavoursAhead 0 = .ok (.aload_n 0, 1) := by decide +kernel
theorem dX2_flavoursAhead_1 : decode cX2_flavoursAhead 1 = .ok (.iload_n 1, 1) := by decide +kernel
theorem dX2_flavoursAhead_2 : decode cX2_flavoursAhead 2 = .ok (.invokevirtual 194, 3) := by decide +kernel
theorem dX2_flavoursAhead_5 : decode cX2_flavoursAhead 5 = .ok (.istore_n 2, 1) := by decide +kernel
theorem dX2_flavoursAhead_6 : decode cX2_flavoursAhead 6 = .ok (.iconst 0, 1) := by decide +kernel
theorem dX2_flavoursAhead_7 : decode cX2_flavoursAhead 7 = .ok (.istore_n 3, 1) := by decide +kernel
theorem dX2_flavoursAhead_8 : decode cX2_flavoursAhead 8 = .ok (.iconst 0, 1) := by decide +kernel
theorem dX2_flavoursAhead_9 : decode cX2_flavoursAhead 9 = .ok (.istore 4, 2) := by decide +kernel
theorem dX2_flavoursAhead_11 : decode cX2_flavoursAhead 11 = .ok (.iload 4, 2) := by decide +kernel
theorem dX2_flavoursAhead_13 : decode cX2_flavoursAhead 13 = .ok (.bipush 6, 2) := by decide +kernel
theorem dX2_flavoursAhead_15 : decode cX2_flavoursAhead 15 = .ok (.if_icmp .ge 38, 3) := by decide +kernel
theorem dX2_flavoursAhead_18 : decode cX2_flavoursAhead 18 = .ok (.aload_n 0, 1) := by decide +kernel
theorem dX2_flavoursAhead_19 : decode cX2_flavoursAhead 19 = .ok (.iload 4, 2) := by decide +kernel
theorem dX2_flavoursAhead_21 : decode cX2_flavoursAhead 21 = .ok (.invokevirtual 194, 3) := by decide +kernel
theorem dX2_flavoursAhead_24 : decode cX2_flavoursAhead 24 = .ok (.istore 5, 2) := by decide +kernel
theorem dX2_flavoursAhead_26 : decode cX2_flavoursAhead 26 = .ok (.iload 5, 2) := by decide +kernel
theorem dX2_flavoursAhead_28 : decode cX2_flavoursAhead 28 = .ok (.iload_n 2, 1) := by decide +kernel
theorem dX2_flavoursAhead_29 : decode cX2_flavoursAhead 29 = .ok (.if_icmp .gt 15, 3) := by decide +kernel
theorem dX2_flavoursAhead_32 : decode cX2_flavoursAhead 32 = .ok (.iload 5, 2) := by decide +kernel
theorem dX2_flavoursAhead_34 : decode cX2_flavoursAhead 34 = .ok (.iload_n 2, 1) := by decide +kernel
theorem dX2_flavoursAhead_35 : decode cX2_flavoursAhead 35 = .ok (.if_icmp .ne 12, 3) := by decide +kernel
theorem dX2_flavoursAhead_38 : decode cX2_flavoursAhead 38 = .ok (.iload 4, 2) := by decide +kernel
theorem dX2_flavoursAhead_40 : decode cX2_flavoursAhead 40 = .ok (.iload_n 1, 1) := by decide +kernel
theorem dX2_flavoursAhead_41 : decode cX2_flavoursAhead 41 = .ok (.if_icmp .ge 6, 3) := by decide +kernel
theorem dX2_flavoursAhead_44 : decode cX2_flavoursAhead 44 = .ok (.iinc 3 1, 3) := by decide +kernel
theorem dX2_flavoursAhead_47 : decode cX2_flavoursAhead 47 = .ok (.iinc 4 1, 3) := by decide +kernel
theorem dX2_flavoursAhead_50 : decode cX2_flavoursAhead 50 = .ok (.goto (-39), 3) := by decide +kernel
theorem dX2_flavoursAhead_53 : decode cX2_flavoursAhead 53 = .ok (.iload_n 3, 1) := by decide +kernel
theorem dX2_flavoursAhead_54 : decode cX2_flavoursAhead 54 = .ok (.ireturn, 1) := by decide +kernel
def wp_X2_flavoursAhead_b47 (m : Nat) (x1 : Int32) (K11 : Int32 → Int32 → Int32 → Sg → Prop) (Q : Int32 → Sg → Prop) (v2 : Int32) (v3 : Int32) (v4 : Int32) (σ : Sg) : Prop := ∀ z9 : Int32, z9 = v4 + (1 : Int32) → K11 v2 v3 z9 σ
set_option maxRecDepth 100000 in
set_option maxHeartbeats 4000000 in
theorem g_X2_flavoursAhead_b47 {X : Tx} {Q : Int32 → Sg → Prop} (C : Cx X cX2_flavoursAhead "SweetWraps$Machine" (some .int) 2 45 6 (QI (tE X) Q)) {m : Nat} {x1 : Int32} (hm : m < 11) {K11 : Int32 → Int32 → Int32 → Sg → Prop} (hK11 : ∀ (v2 : Int32) (v3 : Int32) (v4 : Int32) (σ : Sg), K11 v2 v3 v4 σ → G X σ [(0, .ref (ad (tE X) m 0 0)), (1, .int x1), (2, .int v2), (3, .int v3), (4, .int v4)] [] 11) {v2 : Int32} {v3 : Int32} {v4 : Int32} {σ : Sg} (hw : wp_X2_flavoursAhead_b47 m x1 K11 Q v2 v3 v4 σ) : G X σ [(0, .ref (ad (tE X) m 0 0)), (1, .int x1), (2, .int v2), (3, .int v3), (4, .int v4)] [] 47 := by
  unfold wp_X2_flavoursAhead_b47 at hw
  obtain ⟨z9, e_z9⟩ : ∃ z : Int32, z = v4 + (1 : Int32) := ⟨_, rfl⟩
  replace hw := hw z9 e_z9
  refine gx_iinc (v := z9) (lv' := [(4, .int z9), (0, .ref (ad (tE X) m 0 0)), (1, .int x1), (2, .int v2), (3, .int v3)]) C dX2_flavoursAhead_47 4 rfl (by rw [e_z9]; rfl) (by decide) rfl ?_
  refine gx_goto (tgt := 11) C dX2_flavoursAhead_50 (by decide) ?_
  refine gx_sub (lv' := [(0, .ref (ad (tE X) m 0 0)), (1, .int x1), (2, .int v2), (3, .int v3), (4, .int z9)]) [1, 2, 3, 4, 0] rfl ?_
  exact hK11 _ _ _ _ hw
def wp_X2_flavoursAhead_b44 (m : Nat) (x1 : Int32) (K11 : Int32 → Int32 → Int32 → Sg → Prop) (Q : Int32 → Sg → Prop) (v2 : Int32) (v3 : Int32) (v4 : Int32) (σ : Sg) : Prop := ∀ z10 : Int32, z10 = v3 + (1 : Int32) → wp_X2_flavoursAhead_b47 m x1 K11 Q v2 z10 v4 σ
set_option maxRecDepth 100000 in
set_option maxHeartbeats 4000000 in
theorem g_X2_flavoursAhead_b44 {X : Tx} {Q : Int32 → Sg → Prop} (C : Cx X cX2_flavoursAhead "SweetWraps$Machine" (some .int) 2 45 6 (QI (tE X) Q)) {m : Nat} {x1 : Int32} (hm : m < 11) {K11 : Int32 → Int32 → Int32 → Sg → Prop} (hK11 : ∀ (v2 : Int32) (v3 : Int32) (v4 : Int32) (σ : Sg), K11 v2 v3 v4 σ → G X σ [(0, .ref (ad (tE X) m 0 0)), (1, .int x1), (2, .int v2), (3, .int v3), (4, .int v4)] [] 11) {v2 : Int32} {v3 : Int32} {v4 : Int32} {σ : Sg} (hw : wp_X2_flavoursAhead_b44 m x1 K11 Q v2 v3 v4 σ) : G X σ [(0, .ref (ad (tE X) m 0 0)), (1, .int x1), (2, .int v2), (3, .int v3), (4, .int v4)] [] 44 := by
  unfold wp_X2_flavoursAhead_b44 at hw
  obtain ⟨z10, e_z10⟩ : ∃ z : Int32, z = v3 + (1 : Int32) := ⟨_, rfl⟩
  replace hw := hw z10 e_z10
  refine gx_iinc (v := z10) (lv' := [(3, .int z10), (0, .ref (ad (tE X) m 0 0)), (1, .int x1), (2, .int v2), (4, .int v4)]) C dX2_flavoursAhead_44 3 rfl (by rw [e_z10]; rfl) (by decide) rfl ?_
  refine gx_sub (lv' := [(0, .ref (ad (tE X) m 0 0)), (1, .int x1), (2, .int v2), (3, .int z10), (4, .int v4)]) [1, 2, 3, 0, 4] rfl ?_
  exact g_X2_flavoursAhead_b47 C hm hK11 hw
def st_X2_flavoursAhead_L11 (m : Nat) (x1 : Int32) (Q : Int32 → Sg → Prop) (K11 : Int32 → Int32 → Int32 → Sg → Prop) (v2 : Int32) (v3 : Int32) (v4 : Int32) (σ : Sg) : Prop := (((6 : Int32) ≤ v4 → Q v3 σ) ∧ (¬ (6 : Int32) ≤ v4 → wp_X2_sweetsInAllTins m v4 σ (fun r4 σ5 => ((v2 < r4 → wp_X2_flavoursAhead_b44 m x1 K11 Q v2 v3 v4 σ5) ∧ (¬ v2 < r4 → ((¬ r4 = v2 → wp_X2_flavoursAhead_b47 m x1 K11 Q v2 v3 v4 σ5) ∧ (r4 = v2 → ((x1 ≤ v4 → wp_X2_flavoursAhead_b47 m x1 K11 Q v2 v3 v4 σ5) ∧ (¬ x1 ≤ v4 → wp_X2_flavoursAhead_b44 m x1 K11 Q v2 v3 v4 σ5)))))))))
def wp_X2_flavoursAhead_L11 (m : Nat) (x1 : Int32) (Q : Int32 → Sg → Prop) (v2 : Int32) (v3 : Int32) (v4 : Int32) (σ : Sg) : Prop := ∃ n : Nat, lpN (fun (K : Int32 × Int32 × Int32 × Sg → Prop) (a : Int32 × Int32 × Int32 × Sg) => st_X2_flavoursAhead_L11 m x1 Q (fun v2 v3 v4 σ => K (v2, v3, v4, σ)) (a.1) (a.2.1) (a.2.2.1) (a.2.2.2)) n (v2, v3, v4, σ)
set_option maxRecDepth 100000 in
set_option maxHeartbeats 4000000 in
theorem gs_X2_flavoursAhead_L11 {X : Tx} {Q : Int32 → Sg → Prop} (C : Cx X cX2_flavoursAhead "SweetWraps$Machine" (some .int) 2 45 6 (QI (tE X) Q)) {m : Nat} {x1 : Int32} (hm : m < 11) {K11 : Int32 → Int32 → Int32 → Sg → Prop} (hK11 : ∀ (v2 : Int32) (v3 : Int32) (v4 : Int32) (σ : Sg), K11 v2 v3 v4 σ → G X σ [(0, .ref (ad (tE X) m 0 0)), (1, .int x1), (2, .int v2), (3, .int v3), (4, .int v4)] [] 11) {v2 : Int32} {v3 : Int32} {v4 : Int32} {σ : Sg} (hw : st_X2_flavoursAhead_L11 m x1 Q K11 v2 v3 v4 σ) : G X σ [(0, .ref (ad (tE X) m 0 0)), (1, .int x1), (2, .int v2), (3, .int v3), (4, .int v4)] [] 11 := by
  unfold st_X2_flavoursAhead_L11 at hw
  refine gx_iload C dX2_flavoursAhead_11 4 rfl ?_
  refine gx_bipush (v := (6 : Int32)) C dX2_flavoursAhead_13 (by decide) ?_
  refine gx_icmp_ge (tgt := 53) C dX2_flavoursAhead_15 (by decide) (fun c3 => ?_) (fun c3 => ?_)
  · replace hw := hw.1 c3
    refine gx_iload_n C dX2_flavoursAhead_53 3 rfl ?_
    exact gx_iret C rfl rfl dX2_flavoursAhead_54 hw
  · replace hw := hw.2 c3
    refine gx_aload_n C dX2_flavoursAhead_18 0 rfl ?_
    refine gx_iload C dX2_flavoursAhead_19 4 rfl ?_
    refine gx_vcalli (As := [.int v4]) (rest := []) C (c_X2_sweetsInAllTins _ _ hm hw) (ok0 hm) rfl rfl bw_494 bw_496 bs_18 bw_2 bw_497 hy_X2_sweetsInAllTins ⟨by decide, by decide⟩ rfl (Nat.le_of_ble_eq_true rfl) dX2_flavoursAhead_21 (fun r4 σ5 hw => ?_)
    refine gx_istore (lv' := [(5, .int r4), (0, .ref (ad (tE X) m 0 0)), (1, .int x1), (2, .int v2), (3, .int v3), (4, .int v4)]) C dX2_flavoursAhead_24 (by decide) rfl ?_
    refine gx_iload C dX2_flavoursAhead_26 0 rfl ?_
    refine gx_iload_n C dX2_flavoursAhead_28 3 rfl ?_
    refine gx_icmp_gt (tgt := 44) C dX2_flavoursAhead_29 (by decide) (fun c6 => ?_) (fun c6 => ?_)
    · replace hw := hw.1 c6
      refine gx_sub (lv' := [(0, .ref (ad (tE X) m 0 0)), (1, .int x1), (2, .int v2), (3, .int v3), (4, .int v4)]) [1, 2, 3, 4, 5] rfl ?_
      exact g_X2_flavoursAhead_b44 C hm hK11 hw
    · replace hw := hw.2 c6
      refine gx_iload C dX2_flavoursAhead_32 0 rfl ?_
      refine gx_iload_n C dX2_flavoursAhead_34 3 rfl ?_
      refine gx_icmp_ne (tgt := 47) C dX2_flavoursAhead_35 (by decide) (fun c7 => ?_) (fun c7 => ?_)
      · replace hw := hw.1 c7
        refine gx_sub (lv' := [(0, .ref (ad (tE X) m 0 0)), (1, .int x1), (2, .int v2), (3, .int v3), (4, .int v4)]) [1, 2, 3, 4, 5] rfl ?_
        exact g_X2_flavoursAhead_b47 C hm hK11 hw
      · replace hw := hw.2 c7
        refine gx_iload C dX2_flavoursAhead_38 5 rfl ?_
        refine gx_iload_n C dX2_flavoursAhead_40 2 rfl ?_
        refine gx_icmp_ge (tgt := 47) C dX2_flavoursAhead_41 (by decide) (fun c8 => ?_) (fun c8 => ?_)
        · replace hw := hw.1 c8
          refine gx_sub (lv' := [(0, .ref (ad (tE X) m 0 0)), (1, .int x1), (2, .int v2), (3, .int v3), (4, .int v4)]) [1, 2, 3, 4, 5] rfl ?_
          exact g_X2_flavoursAhead_b47 C hm hK11 hw
        · replace hw := hw.2 c8
          refine gx_sub (lv' := [(0, .ref (ad (tE X) m 0 0)), (1, .int x1), (2, .int v2), (3, .int v3), (4, .int v4)]) [1, 2, 3, 4, 5] rfl ?_
          exact g_X2_flavoursAhead_b44 C hm hK11 hw
set_option maxRecDepth 100000 in
set_option maxHeartbeats 4000000 in
theorem g_X2_flavoursAhead_L11 {X : Tx} {Q : Int32 → Sg → Prop} (C : Cx X cX2_flavoursAhead "SweetWraps$Machine" (some .int) 2 45 6 (QI (tE X) Q)) {m : Nat} {x1 : Int32} (hm : m < 11) {v2 : Int32} {v3 : Int32} {v4 : Int32} {σ : Sg} (hw : wp_X2_flavoursAhead_L11 m x1 Q v2 v3 v4 σ) : G X σ [(0, .ref (ad (tE X) m 0 0)), (1, .int x1), (2, .int v2), (3, .int v3), (4, .int v4)] [] 11 := by
  obtain ⟨n, hw⟩ := hw
  exact lpN_G (P := (fun (a : Int32 × Int32 × Int32 × Sg) => G X (a.2.2.2) [(0, .ref (ad (tE X) m 0 0)), (1, .int x1), (2, .int (a.1)), (3, .int (a.2.1)), (4, .int (a.2.2.1))] [] 11)) (fun K a hK h => gs_X2_flavoursAhead_L11 C hm (fun v2 v3 v4 σ h => hK (v2, v3, v4, σ) h) h) n _ hw
def wp_X2_flavoursAhead (m : Nat) (x1 : Int32) (σ : Sg) (Q : Int32 → Sg → Prop) : Prop := wp_X2_sweetsInAllTins m x1 σ (fun r1 σ2 => wp_X2_flavoursAhead_L11 m x1 Q r1 (0 : Int32) (0 : Int32) σ2)
set_option maxRecDepth 100000 in
set_option maxHeartbeats 4000000 in
theorem c_X2_flavoursAhead (l : Launch) (E : Ev) {m : Nat} {x1 : Int32} (hm : m < 11) {σ : Sg} {Q : Int32 → Sg → Prop} (hw : wp_X2_flavoursAhead m x1 σ Q) : CT l E yX2_flavoursAhead cX2_flavoursAhead 6 (some .int) 2 45 [.ref (ad E m 0 0), .int x1] σ (QI E Q) := by
  refine CT_of (by decide) (Nat.le_of_ble_eq_true rfl) (fun X h1 h2 C => ?_)
  subst h1; subst h2
  have C : Cx X cX2_flavoursAhead "SweetWraps$Machine" (some .int) 2 45 6 (QI (tE X) Q) := C
  show G X σ [(0, .ref (ad (tE X) m 0 0)), (1, .int x1)] [] 0
  unfold wp_X2_flavoursAhead at hw
  refine gx_aload_n C dX2_flavoursAhead_0 0 rfl ?_
  refine gx_iload_n C dX2_flavoursAhead_1 1 rfl ?_
  refine gx_vcalli (As := [.int x1]) (rest := []) C (c_X2_sweetsInAllTins _ _ hm hw) (ok0 hm) rfl rfl bw_494 bw_496 bs_18 bw_2 bw_497 hy_X2_sweetsInAllTins ⟨by decide, by decide⟩ rfl (Nat.le_of_ble_eq_true rfl) dX2_flavoursAhead_2 (fun r1 σ2 hw => ?_)
  refine gx_istore_n (lv' := [(2, .int r1), (0, .ref (ad (tE X) m 0 0)), (1, .int x1)]) C dX2_flavoursAhead_5 (by decide) rfl ?_
  refine gx_iconst (v := (0 : Int32)) C dX2_flavoursAhead_6 (by decide) ?_
  refine gx_istore_n (lv' := [(3, .int (0 : Int32)), (2, .int r1), (0, .ref (ad (tE X) m 0 0)), (1, .int x1)]) C dX2_flavoursAhead_7 (by decide) rfl ?_
  refine gx_iconst (v := (0 : Int32)) C dX2_flavoursAhead_8 (by decide) ?_
  refine gx_istore (lv' := [(4, .int (0 : Int32)), (3, .int (0 : Int32)), (2, .int r1), (0, .ref (ad (tE X) m 0 0)), (1, .int x1)]) C dX2_flavoursAhead_9 (by decide) rfl ?_
  refine gx_sub (lv' := [(0, .ref (ad (tE X) m 0 0)), (1, .int x1), (2, .int r1), (3, .int (0 : Int32)), (4, .int (0 : Int32))]) [3, 4, 2, 1, 0] rfl ?_
  exact g_X2_flavoursAhead_L11 C hm hw
theorem hy_X2_flavoursAhead : yX2_flavoursAhead.cls = "SweetWraps$Machine" ∧ yX2_flavoursAhead.cls ≠ "java/lang/invoke/MethodHandle" ∧ yX2_flavoursAhead.cls ≠ "java/lang/invoke/VarHandle" ∧ (parseMethodDescriptor yX2_flavoursAhead.desc).map (fun d => d.parameters.length) = some 1 := by decide +kernel

theorem dX2_flavourOfRank_0 : decode cX2_flavourOfRank 0 = .ok (.iconst 0, 1) := by decide +kernel
theorem dX2_flavourOfRank_1 : decode cX2_flavourOfRank 1 = .ok (.istore_n 2, 1) := by decide +kernel
theorem dX2_flavourOfRank_2 : decode cX2_flavourOfRank 2 = .ok (.iload_n 2, 1) := by decide +kernel
theorem dX2_flavourOfRank_3 : decode cX2_flavourOfRank 3 = .ok (.bipush 6, 2) := by decide +kernel
theorem dX2_flavourOfRank_5 : decode cX2_flavourOfRank 5 = .ok (.if_icmp .ge 28, 3) := by decide +kernel
theorem dX2_flavourOfRank_8 : decode cX2_flavourOfRank 8 = .ok (.aload_n 0, 1) := by decide +kernel
theorem dX2_flavourOfRank_9 : decode cX2_flavourOfRank 9 = .ok (.iload_n 2, 1) := by decide +kernel
theorem dX2_flavourOfRank_10 : decode cX2_flavourOfRank 10 = .ok (.invokevirtual 194, 3) := by decide +kernel
theorem dX2_flavourOfRank_13 : decode cX2_flavourOfRank 13 = .ok (.ifCond .le 14, 3) := by decide +kernel
theorem dX2_flavourOfRank_16 : decode cX2_flavourOfRank 16 = .ok (.aload_n 0, 1) := by decide +kernel
theorem dX2_flavourOfRank_17 : decode cX2_flavourOfRank 17 = .ok (.iload_n 2, 1) := by decide +kernel
theorem dX2_flavourOfRank_18 : decode cX2_flavourOfRank 18 = .ok (.invokevirtual 197, 3) := by decide +kernel
theorem dX2_flavourOfRank_21 : decode cX2_flavourOfRank 21 = .ok (.iload_n 1, 1) := by decide +kernel
theorem dX2_flavourOfRank_22 : decode cX2_flavourOfRank 22 = .ok (.if_icmp .ne 5, 3) := by decide +kernel
theorem dX2_flavourOfRank_25 : decode cX2_flavourOfRank 25 = .ok (.iload_n 2, 1) := by decide +kernel
theorem dX2_flavourOfRank_26 : decode cX2_flavourOfRank 26 = .ok (.ireturn, 1) := by decide +kernel
theorem dX2_flavourOfRank_27 : decode cX2_flavourOfRank 27 = .ok (.iinc 2 1, 3) := by decide +kernel
theorem dX2_flavourOfRank_30 : decode cX2_flavourOfRank 30 = .ok (.goto (-28), 3) := by decide +kernel
theorem dX2_flavourOfRank_33 : decode cX2_flavourOfRank 33 = .ok (.iconst (-1), 1) := by decide +kernel
theorem dX2_flavourOfRank_34 : decode cX2_flavourOfRank 34 = .ok (.ireturn, 1) := by decide +kernel
def wp_X2_flavourOfRank_b27 (m : Nat) (x1 : Int32) (K2 : Int32 → Sg → Prop) (Q : Int32 → Sg → Prop) (v2 : Int32) (σ : Sg) : Prop := ∀ z8 : Int32, z8 = v2 + (1 : Int32) → K2 z8 σ
set_option maxRecDepth 100000 in
set_option maxHeartbeats 4000000 in
theorem g_X2_flavourOfRank_b27 {X : Tx} {Q : Int32 → Sg → Prop} (C : Cx X cX2_flavourOfRank "SweetWraps$Machine" (some .int) 3 70 3 (QI (tE X) Q)) {m : Nat} {x1 : Int32} (hm : m < 11) {K2 : Int32 → Sg → Prop} (hK2 : ∀ (v2 : Int32) (σ : Sg), K2 v2 σ → G X σ [(0, .ref (ad (tE X) m 0 0)), (1, .int x1), (2, .int v2)] [] 2) {v2 : Int32} {σ : Sg} (hw : wp_X2_flavourOfRank_b27 m x1 K2 Q v2 σ) : G X σ [(0, .ref (ad (tE X) m 0 0)), (1, .int x1), (2, .int v2)] [] 27 := by
  unfold wp_X2_flavourOfRank_b27 at hw
  obtain ⟨z8, e_z8⟩ : ∃ z : Int32, z = v2 + (1 : Int32) := ⟨_, rfl⟩
  replace hw := hw z8 e_z8
  refine gx_iinc (v := z8) (lv' := [(2, .int z8), (0, .ref (ad (tE X) m 0 0)), (1, .int x1)]) C dX2_flavourOfRank_27 2 rfl (by rw [e_z8]; rfl) (by decide) rfl ?_
  refine gx_goto (tgt := 2) C dX2_flavourOfRank_30 (by decide) ?_
  refine gx_sub (lv' := [(0, .ref (ad (tE X) m 0 0)), (1, .int x1), (2, .int z8)]) [1, 2, 0] rfl ?_
  exact hK2 _ _ hw
def st_X2_flavourOfRank_L2 (m : Nat) (x1 : Int32) (Q : Int32 → Sg → Prop) (K2 : Int32 → Sg → Prop) (v2 : Int32) (σ : Sg) : Prop := (((6 : Int32) ≤ v2 → Q (-1 : Int32) σ) ∧ (¬ (6 : Int32) ≤ v2 → wp_X2_sweetsInAllTins m v2 σ (fun r2 σ3 => ((r2 ≤ 0 → wp_X2_flavourOfRank_b27 m x1 K2 Q v2 σ3) ∧ (¬ r2 ≤ 0 → wp_X2_flavoursAhead m v2 σ3 (fun r5 σ6 => ((¬ r5 = x1 → wp_X2_flavourOfRank_b27 m x1 K2 Q v2 σ6) ∧ (r5 = x1 → Q v2 σ6))))))))
def wp_X2_flavourOfRank_L2 (m : Nat) (x1 : Int32) (Q : Int32 → Sg → Prop) (v2 : Int32) (σ : Sg) : Prop := ∃ n : Nat, lpN (fun (K : Int32 × Sg → Prop) (a : Int32 × Sg) => st_X2_flavourOfRank_L2 m x1 Q (fun v2 σ => K (v2, σ)) (a.1) (a.2)) n (v2, σ)
set_option maxRecDepth 100000 in
set_option maxHeartbeats 4000000 in
theorem gs_X2_flavourOfRank_L2 {X : Tx} {Q : Int32 → Sg → Prop} (C : Cx X cX2_flavourOfRank "SweetWraps$Machine" (some .int) 3 70 3 (QI (tE X) Q)) {m : Nat} {x1 : Int32} (hm : m < 11) {K2 : Int32 → Sg → Prop} (hK2 : ∀ (v2 : Int32) (σ : Sg), K2 v2 σ → G X σ [(0, .ref (ad (tE X) m 0 0)), (1, .int x1), (2, .int v2)] [] 2) {v2 : Int32} {σ : Sg} (hw : st_X2_flavourOfRank_L2 m x1 Q K2 v2 σ) : G X σ [(0, .ref (ad (tE X) m 0 0)), (1, .int x1), (2, .int v2)] [] 2 := by
  unfold st_X2_flavourOfRank_L2 at hw
  refine gx_iload_n C dX2_flavourOfRank_2 2 rfl ?_
  refine gx_bipush (v := (6 : Int32)) C dX2_flavourOfRank_3 (by decide) ?_
  refine gx_icmp_ge (tgt := 33) C dX2_flavourOfRank_5 (by decide) (fun c1 => ?_) (fun c1 => ?_)
  · replace hw := hw.1 c1
    refine gx_iconst (v := (-1 : Int32)) C dX2_flavourOfRank_33 (by decide) ?_
    exact gx_iret C rfl rfl dX2_flavourOfRank_34 hw
  · replace hw := hw.2 c1
    refine gx_aload_n C dX2_flavourOfRank_8 0 rfl ?_
    refine gx_iload_n C dX2_flavourOfRank_9 2 rfl ?_
    refine gx_vcalli (As := [.int v2]) (rest := []) C (c_X2_sweetsInAllTins _ _ hm hw) (ok0 hm) rfl rfl bw_494 bw_496 bs_18 bw_2 bw_497 hy_X2_sweetsInAllTins ⟨by decide, by decide⟩ rfl (Nat.le_of_ble_eq_true rfl) dX2_flavourOfRank_10 (fun r2 σ3 hw => ?_)
    refine gx_if_le (tgt := 27) C dX2_flavourOfRank_13 (by decide) (fun c4 => ?_) (fun c4 => ?_)
    · replace hw := hw.1 c4
      exact g_X2_flavourOfRank_b27 C hm hK2 hw
    · replace hw := hw.2 c4
      refine gx_aload_n C dX2_flavourOfRank_16 0 rfl ?_
      refine gx_iload_n C dX2_flavourOfRank_17 2 rfl ?_
      refine gx_vcalli (As := [.int v2]) (rest := []) C (c_X2_flavoursAhead _ _ hm hw) (ok0 hm) rfl rfl bw_498 bw_500 bs_19 bw_2 bw_501 hy_X2_flavoursAhead ⟨by decide, by decide⟩ rfl (Nat.le_of_ble_eq_true rfl) dX2_flavourOfRank_18 (fun r5 σ6 hw => ?_)
      refine gx_iload_n C dX2_flavourOfRank_21 1 rfl ?_
      refine gx_icmp_ne (tgt := 27) C dX2_flavourOfRank_22 (by decide) (fun c7 => ?_) (fun c7 => ?_)
      · replace hw := hw.1 c7
        exact g_X2_flavourOfRank_b27 C hm hK2 hw
      · replace hw := hw.2 c7
        refine gx_iload_n C dX2_flavourOfRank_25 2 rfl ?_
        exact gx_iret C rfl rfl dX2_flavourOfRank_26 hw
set_option maxRecDepth 100000 in
set_option maxHeartbeats 4000000 in
theorem g_X2_flavourOfRank_L2 {X : Tx} {Q : Int32 → Sg → Prop} (C : Cx X cX2_flavourOfRank "SweetWraps$Machine" (some .int) 3 70 3 (QI (tE X) Q)) {m : Nat} {x1 : Int32} (hm : m < 11) {v2 : Int32} {σ : Sg} (hw : wp_X2_flavourOfRank_L2 m x1 Q v2 σ) : G X σ [(0, .ref (ad (tE X) m 0 0)), (1, .int x1), (2, .int v2)] [] 2 := by
  obtain ⟨n, hw⟩ := hw
  exact lpN_G (P := (fun (a : Int32 × Sg) => G X (a.2) [(0, .ref (ad (tE X) m 0 0)), (1, .int x1), (2, .int (a.1))] [] 2)) (fun K a hK h => gs_X2_flavourOfRank_L2 C hm (fun v2 σ h => hK (v2, σ) h) h) n _ hw
def wp_X2_flavourOfRank (m : Nat) (x1 : Int32) (σ : Sg) (Q : Int32 → Sg → Prop) : Prop := wp_X2_flavourOfRank_L2 m x1 Q (0 : Int32) σ
set_option maxRecDepth 100000 in
set_option maxHeartbeats 4000000 in
theorem c_X2_flavourOfRank (l : Launch) (E : Ev) {m : Nat} {x1 : Int32} (hm : m < 11) {σ : Sg} {Q : Int32 → Sg → Prop} (hw : wp_X2_flavourOfRank m x1 σ Q) : CT l E yX2_flavourOfRank cX2_flavourOfRank 3 (some .int) 3 70 [.ref (ad E m 0 0), .int x1] σ (QI E Q) := by
  refine CT_of (by decide) (Nat.le_of_ble_eq_true rfl) (fun X h1 h2 C => ?_)
  subst h1; subst h2
  have C : Cx X cX2_flavourOfRank "SweetWraps$Machine" (some .int) 3 70 3 (QI (tE X) Q) := C
  show G X σ [(0, .ref (ad (tE X) m 0 0)), (1, .int x1)] [] 0
  unfold wp_X2_flavourOfRank at hw
  refine gx_iconst (v := (0 : Int32)) C dX2_flavourOfRank_0 (by decide) ?_
  refine gx_istore_n (lv' := [(2, .int (0 : Int32)), (0, .ref (ad (tE X) m 0 0)), (1, .int x1)]) C dX2_flavourOfRank_1 (by decide) rfl ?_
  refine gx_sub (lv' := [(0, .ref (ad (tE X) m 0 0)), (1, .int x1), (2, .int (0 : Int32))]) [1, 2, 0] rfl ?_
  exact g_X2_flavourOfRank_L2 C hm hw
theorem hy_X2_flavourOfRank : yX2_flavourOfRank.cls = "SweetWraps$Machine" ∧ yX2_flavourOfRank.cls ≠ "java/lang/invoke/MethodHandle" ∧ yX2_flavourOfRank.cls ≠ "java/lang/invoke/VarHandle" ∧ (parseMethodDescriptor yX2_flavourOfRank.desc).map (fun d => d.parameters.length) = some 1 := by decide +kernel

theorem dX2_tinsForHoppers_0 : decode cX2_tinsForHoppers 0 = .ok (.aload_n 0, 1) := by decide +kernel
theorem dX2_tinsForHoppers_1 : decode cX2_tinsForHoppers 1 = .ok (.getfield 9, 3) := by decide +kernel
theorem dX2_tinsForHoppers_4 : decode cX2_tinsForHoppers 4 = .ok (.iconst 2, 1) := by decide +kernel
theorem dX2_tinsForHoppers_5 : decode cX2_tinsForHoppers 5 = .ok (.iaload, 1) := by decide +kernel
theorem dX2_tinsForHoppers_6 : decode cX2_tinsForHoppers 6 = .ok (.istore_n 1, 1) := by decide +kernel
theorem dX2_tinsForHoppers_7 : decode cX2_tinsForHoppers 7 = .ok (.iload_n 1, 1) := by decide +kernel
theorem dX2_tinsForHoppers_8 : decode cX2_tinsForHoppers 8 = .ok (.iconst 1, 1) := by decide +kernel
theorem dX2_tinsForHoppers_9 : decode cX2_tinsForHoppers 9 = .ok (.if_icmp .ge 5, 3) := by decide +kernel
theorem dX2_tinsForHoppers_12 : decode cX2_tinsForHoppers 12 = .ok (.iconst 0, 1) := by decide +kernel
theorem dX2_tinsForHoppers_13 : decode cX2_tinsForHoppers 13 = .ok (.ireturn, 1) := by decide +kernel
theorem dX2_tinsForHoppers_14 : decode cX2_tinsForHoppers 14 = .ok (.iconst 0, 1) := by decide +kernel
theorem dX2_tinsForHoppers_15 : decode cX2_tinsForHoppers 15 = .ok (.istore_n 2, 1) := by decide +kernel
theorem dX2_tinsForHoppers_16 : decode cX2_tinsForHoppers 16 = .ok (.iconst 0, 1) := by decide +kernel
theorem dX2_tinsForHoppers_17 : decode cX2_tinsForHoppers 17 = .ok (.istore_n 3, 1) := by decide +kernel
theorem dX2_tinsForHoppers_18 : decode cX2_tinsForHoppers 18 = .ok (.iload_n 3, 1) := by decide +kernel
theorem dX2_tinsForHoppers_19 : decode cX2_tinsForHoppers 19 = .ok (.bipush 6, 2) := by decide +kernel
theorem dX2_tinsForHoppers_21 : decode cX2_tinsForHoppers 21 = .ok (.if_icmp .ge 23, 3) := by decide +kernel
theorem dX2_tinsForHoppers_24 : decode cX2_tinsForHoppers 24 = .ok (.iload_n 2, 1) := by decide +kernel
theorem dX2_tinsForHoppers_25 : decode cX2_tinsForHoppers 25 = .ok (.aload_n 0, 1) := by decide +kernel
theorem dX2_tinsForHoppers_26 : decode cX2_tinsForHoppers 26 = .ok (.iload_n 3, 1) := by decide +kernel
theorem dX2_tinsForHoppers_27 : decode cX2_tinsForHoppers 27 = .ok (.invokevirtual 188, 3) := by decide +kernel
theorem dX2_tinsForHoppers_30 : decode cX2_tinsForHoppers 30 = .ok (.iload_n 1, 1) := by decide +kernel
theorem dX2_tinsForHoppers_31 : decode cX2_tinsForHoppers 31 = .ok (.iadd, 1) := by decide +kernel
theorem dX2_tinsForHoppers_32 : decode cX2_tinsForHoppers 32 = .ok (.iconst 1, 1) := by decide +kernel
theorem dX2_tinsForHoppers_33 : decode cX2_tinsForHoppers 33 = .ok (.isub, 1) := by decide +kernel
theorem dX2_tinsForHoppers_34 : decode cX2_tinsForHoppers 34 = .ok (.iload_n 1, 1) := by decide +kernel
theorem dX2_tinsForHoppers_35 : decode cX2_tinsForHoppers 35 = .ok (.idiv, 1) := by decide +kernel
theorem dX2_tinsForHoppers_36 : decode cX2_tinsForHoppers 36 = .ok (.iadd, 1) := by decide +kernel
theorem dX2_tinsForHoppers_37 : decode cX2_tinsForHoppers 37 = .ok (.istore_n 2, 1) := by decide +kernel
theorem dX2_tinsForHoppers_38 : decode cX2_tinsForHoppers 38 = .ok (.iinc 3 1, 3) := by decide +kernel
theorem dX2_tinsForHoppers_41 : decode cX2_tinsForHoppers 41 = .ok (.goto (-23), 3) := by decide +kernel
theorem dX2_tinsForHoppers_44 : decode cX2_tinsForHoppers 44 = .ok (.iload_n 2, 1) := by decide +kernel
theorem dX2_tinsForHoppers_45 : decode cX2_tinsForHoppers 45 = .ok (.ireturn, 1) := by decide +kernel
def st_X2_tinsForHoppers_L18 (m : Nat) (Q : Int32 → Sg → Prop) (K18 : Int32 → Int32 → Int32 → Sg → Prop) (v1 : Int32) (v2 : Int32) (v3 : Int32) (σ : Sg) : Prop := (((6 : Int32) ≤ v3 → Q v2 σ) ∧ (¬ (6 : Int32) ≤ v3 → wp_X2_sweetsInHoppers m v3 σ (fun r4 σ5 => (¬ v1 = 0 ∧ ∀ z6 : Int32, z6 = (v2 + (((r4 + v1) - (1 : Int32)) / v1)) → ∀ z7 : Int32, z7 = v3 + (1 : Int32) → K18 v1 z6 z7 σ5))))
def wp_X2_tinsForHoppers_L18 (m : Nat) (Q : Int32 → Sg → Prop) (v1 : Int32) (v2 : Int32) (v3 : Int32) (σ : Sg) : Prop := ∃ n : Nat, lpN (fun (K : Int32 × Int32 × Int32 × Sg → Prop) (a : Int32 × Int32 × Int32 × Sg) => st_X2_tinsForHoppers_L18 m Q (fun v1 v2 v3 σ => K (v1, v2, v3, σ)) (a.1) (a.2.1) (a.2.2.1) (a.2.2.2)) n (v1, v2, v3, σ)
set_option maxRecDepth 100000 in
set_option maxHeartbeats 4000000 in
theorem gs_X2_tinsForHoppers_L18 {X : Tx} {Q : Int32 → Sg → Prop} (C : Cx X cX2_tinsForHoppers "SweetWraps$Machine" (some .int) 2 46 4 (QI (tE X) Q)) {m : Nat} (hm : m < 11) {K18 : Int32 → Int32 → Int32 → Sg → Prop} (hK18 : ∀ (v1 : Int32) (v2 : Int32) (v3 : Int32) (σ : Sg), K18 v1 v2 v3 σ → G X σ [(0, .ref (ad (tE X) m 0 0)), (1, .int v1), (2, .int v2), (3, .int v3)] [] 18) {v1 : Int32} {v2 : Int32} {v3 : Int32} {σ : Sg} (hw : st_X2_tinsForHoppers_L18 m Q K18 v1 v2 v3 σ) : G X σ [(0, .ref (ad (tE X) m 0 0)), (1, .int v1), (2, .int v2), (3, .int v3)] [] 18 := by
  unfold st_X2_tinsForHoppers_L18 at hw
  refine gx_iload_n C dX2_tinsForHoppers_18 3 rfl ?_
  refine gx_bipush (v := (6 : Int32)) C dX2_tinsForHoppers_19 (by decide) ?_
  refine gx_icmp_ge (tgt := 44) C dX2_tinsForHoppers_21 (by decide) (fun c3 => ?_) (fun c3 => ?_)
  · replace hw := hw.1 c3
    refine gx_iload_n C dX2_tinsForHoppers_44 2 rfl ?_
    exact gx_iret C rfl rfl dX2_tinsForHoppers_45 hw
  · replace hw := hw.2 c3
    refine gx_iload_n C dX2_tinsForHoppers_24 2 rfl ?_
    refine gx_aload_n C dX2_tinsForHoppers_25 0 rfl ?_
    refine gx_iload_n C dX2_tinsForHoppers_26 3 rfl ?_
    refine gx_vcalli (As := [.int v3]) (rest := [.int v2]) C (c_X2_sweetsInHoppers _ _ hm hw) (ok0 hm) rfl rfl bw_438 bw_440 bs_16 bw_2 bw_441 hy_X2_sweetsInHoppers ⟨by decide, by decide⟩ rfl (Nat.le_of_ble_eq_true rfl) dX2_tinsForHoppers_27 (fun r4 σ5 hw => ?_)
    refine gx_iload_n C dX2_tinsForHoppers_30 1 rfl ?_
    refine gx_iadd C dX2_tinsForHoppers_31 ?_
    refine gx_iconst (v := (1 : Int32)) C dX2_tinsForHoppers_32 (by decide) ?_
    refine gx_isub C dX2_tinsForHoppers_33 ?_
    refine gx_iload_n C dX2_tinsForHoppers_34 1 rfl ?_
    refine gx_idiv C dX2_tinsForHoppers_35 hw.1 ?_
    replace hw := hw.2
    refine gx_iadd C dX2_tinsForHoppers_36 ?_
    obtain ⟨z6, e_z6⟩ : ∃ z : Int32, z = (v2 + (((r4 + v1) - (1 : Int32)) / v1)) := ⟨_, rfl⟩
    replace hw := hw z6 e_z6
    refine gx_top e_z6 ?_
    refine gx_istore_n (lv' := [(2, .int z6), (0, .ref (ad (tE X) m 0 0)), (1, .int v1), (3, .int v3)]) C dX2_tinsForHoppers_37 (by decide) rfl ?_
    obtain ⟨z7, e_z7⟩ : ∃ z : Int32, z = v3 + (1 : Int32) := ⟨_, rfl⟩
    replace hw := hw z7 e_z7
    refine gx_iinc (v := z7) (lv' := [(3, .int z7), (2, .int z6), (0, .ref (ad (tE X) m 0 0)), (1, .int v1)]) C dX2_tinsForHoppers_38 3 rfl (by rw [e_z7]; rfl) (by decide) rfl ?_
    refine gx_goto (tgt := 18) C dX2_tinsForHoppers_41 (by decide) ?_
    refine gx_sub (lv' := [(0, .ref (ad (tE X) m 0 0)), (1, .int v1), (2, .int z6), (3, .int z7)]) [2, 3, 1, 0] rfl ?_
    exact hK18 _ _ _ _ hw
set_option maxRecDepth 100000 in
set_option maxHeartbeats 4000000 in
theorem g_X2_tinsForHoppers_L18 {X : Tx} {Q : Int32 → Sg → Prop} (C : Cx X cX2_tinsForHoppers "SweetWraps$Machine" (some .int) 2 46 4 (QI (tE X) Q)) {m : Nat} (hm : m < 11) {v1 : Int32} {v2 : Int32} {v3 : Int32} {σ : Sg} (hw : wp_X2_tinsForHoppers_L18 m Q v1 v2 v3 σ) : G X σ [(0, .ref (ad (tE X) m 0 0)), (1, .int v1), (2, .int v2), (3, .int v3)] [] 18 := by
  obtain ⟨n, hw⟩ := hw
  exact lpN_G (P := (fun (a : Int32 × Int32 × Int32 × Sg) => G X (a.2.2.2) [(0, .ref (ad (tE X) m 0 0)), (1, .int (a.1)), (2, .int (a.2.1)), (3, .int (a.2.2.1))] [] 18)) (fun K a hK h => gs_X2_tinsForHoppers_L18 C hm (fun v1 v2 v3 σ h => hK (v1, v2, v3, σ) h) h) n _ hw
def wp_X2_tinsForHoppers (m : Nat) (σ : Sg) (Q : Int32 → Sg → Prop) : Prop := ∀ z1 : Int32, z1 = (σ m 1 0 2) → (((1 : Int32) ≤ z1 → wp_X2_tinsForHoppers_L18 m Q z1 (0 : Int32) (0 : Int32) σ) ∧ (¬ (1 : Int32) ≤ z1 → Q (0 : Int32) σ))
set_option maxRecDepth 100000 in
set_option maxHeartbeats 4000000 in
theorem c_X2_tinsForHoppers (l : Launch) (E : Ev) {m : Nat} (hm : m < 11) {σ : Sg} {Q : Int32 → Sg → Prop} (hw : wp_X2_tinsForHoppers m σ Q) : CT l E yX2_tinsForHoppers cX2_tinsForHoppers 4 (some .int) 2 46 [.ref (ad E m 0 0)] σ (QI E Q) := by
  refine CT_of (by decide) (Nat.le_of_ble_eq_true rfl) (fun X h1 h2 C => ?_)
  subst h1; subst h2
  have C : Cx X cX2_tinsForHoppers "SweetWraps$Machine" (some .int) 2 46 4 (QI (tE X) Q) := C
  show G X σ [(0, .ref (ad (tE X) m 0 0))] [] 0
  unfold wp_X2_tinsForHoppers at hw
  refine gx_aload_n C dX2_tinsForHoppers_0 0 rfl ?_
  refine gx_get C (ok0 hm) rfl rfl inX2 (ref := "SweetWraps$Machine") 0 (by decide) bw_88 rfl rfl dX2_tinsForHoppers_1 ?_
  refine gx_iconst (v := (2 : Int32)) C dX2_tinsForHoppers_4 (by decide) ?_
  refine gx_iald C (ok1 hm) rfl (n := 4) (x := (2 : Int32)) (by unfold vp_in; decide) 2 (by decide) dX2_tinsForHoppers_5 ?_
  obtain ⟨z1, e_z1⟩ : ∃ z : Int32, z = (σ m 1 0 2) := ⟨_, rfl⟩
  replace hw := hw z1 e_z1
  refine gx_top e_z1 ?_
  refine gx_istore_n (lv' := [(1, .int z1), (0, .ref (ad (tE X) m 0 0))]) C dX2_tinsForHoppers_6 (by decide) rfl ?_
  refine gx_iload_n C dX2_tinsForHoppers_7 0 rfl ?_
  refine gx_iconst (v := (1 : Int32)) C dX2_tinsForHoppers_8 (by decide) ?_
  refine gx_icmp_ge (tgt := 14) C dX2_tinsForHoppers_9 (by decide) (fun c2 => ?_) (fun c2 => ?_)
  · replace hw := hw.1 c2
    refine gx_iconst (v := (0 : Int32)) C dX2_tinsForHoppers_14 (by decide) ?_
    refine gx_istore_n (lv' := [(2, .int (0 : Int32)), (1, .int z1), (0, .ref (ad (tE X) m 0 0))]) C dX2_tinsForHoppers_15 (by decide) rfl ?_
    refine gx_iconst (v := (0 : Int32)) C dX2_tinsForHoppers_16 (by decide) ?_
    refine gx_istore_n (lv' := [(3, .int (0 : Int32)), (2, .int (0 : Int32)), (1, .int z1), (0, .ref (ad (tE X) m 0 0))]) C dX2_tinsForHoppers_17 (by decide) rfl ?_
    refine gx_sub (lv' := [(0, .ref (ad (tE X) m 0 0)), (1, .int z1), (2, .int (0 : Int32)), (3, .int (0 : Int32))]) [3, 2, 1, 0] rfl ?_
    exact g_X2_tinsForHoppers_L18 C hm hw
  · replace hw := hw.2 c2
    refine gx_iconst (v := (0 : Int32)) C dX2_tinsForHoppers_12 (by decide) ?_
    exact gx_iret C rfl rfl dX2_tinsForHoppers_13 hw
theorem hy_X2_tinsForHoppers : yX2_tinsForHoppers.cls = "SweetWraps$Machine" ∧ yX2_tinsForHoppers.cls ≠ "java/lang/invoke/MethodHandle" ∧ yX2_tinsForHoppers.cls ≠ "java/lang/invoke/VarHandle" ∧ (parseMethodDescriptor yX2_tinsForHoppers.desc).map (fun d => d.parameters.length) = some 0 := by decide +kernel

theorem dX2_number_0 : decode cX2_number 0 = .ok (.iload_n 1, 1) := by decide +kernel
theorem dX2_number_1 : decode cX2_number 1 = .ok (.tableswitch 164 0 14 #[75, 80, 85, 91, 97, 103, 110, 115, 121, 126, 131, 136, 143, 150, 157], 75) := by decide +kernel
theorem dX2_number_76 : decode cX2_number 76 = .ok (.aload_n 0, 1) := by decide +kernel
theorem dX2_number_77 : decode cX2_number 77 = .ok (.getfield 47, 3) := by decide +kernel
theorem dX2_number_80 : decode cX2_number 80 = .ok (.ireturn, 1) := by decide +kernel
theorem dX2_number_81 : decode cX2_number 81 = .ok (.aload_n 0, 1) := by decide +kernel
theorem dX2_number_82 : decode cX2_number 82 = .ok (.getfield 43, 3) := by decide +kernel
theorem dX2_number_85 : decode cX2_number 85 = .ok (.ireturn, 1) := by decide +kernel
theorem dX2_number_86 : decode cX2_number 86 = .ok (.aload_n 0, 1) := by decide +kernel
theorem dX2_number_87 : decode cX2_number 87 = .ok (.iconst 0, 1) := by decide +kernel
theorem dX2_number_88 : decode cX2_number 88 = .ok (.invokevirtual 200, 3) := by decide +kernel
theorem dX2_number_91 : decode cX2_number 91 = .ok (.ireturn, 1) := by decide +kernel
theorem dX2_number_92 : decode cX2_number 92 = .ok (.aload_n 0, 1) := by decide +kernel
theorem dX2_number_93 : decode cX2_number 93 = .ok (.iconst 1, 1) := by decide +kernel
theorem dX2_number_94 : decode cX2_number 94 = .ok (.invokevirtual 200, 3) := by decide +kernel
theorem dX2_number_97 : decode cX2_number 97 = .ok (.ireturn, 1) := by decide +kernel
theorem dX2_number_98 : decode cX2_number 98 = .ok (.aload_n 0, 1) := by decide +kernel
theorem dX2_number_99 : decode cX2_number 99 = .ok (.iconst 0, 1) := by decide +kernel
theorem dX2_number_100 : decode cX2_number 100 = .ok (.invokevirtual 204, 3) := by decide +kernel
theorem dX2_number_103 : decode cX2_number 103 = .ok (.ireturn, 1) := by decide +kernel
theorem dX2_number_104 : decode cX2_number 104 = .ok (.aload_n 0, 1) := by decide +kernel
theorem dX2_number_105 : decode cX2_number 105 = .ok (.bipush 6, 2) := by decide +kernel
theorem dX2_number_107 : decode cX2_number 107 = .ok (.invokevirtual 204, 3) := by decide +kernel
theorem dX2_number_110 : decode cX2_number 110 = .ok (.ireturn, 1) := by decide +kernel
theorem dX2_number_111 : decode cX2_number 111 = .ok (.aload_n 0, 1) := by decide +kernel
theorem dX2_number_112 : decode cX2_number 112 = .ok (.invokevirtual 207, 3) := by decide +kernel
theorem dX2_number_115 : decode cX2_number 115 = .ok (.ireturn, 1) := by decide +kernel
theorem dX2_number_116 : decode cX2_number 116 = .ok (.aload_n 0, 1) := by decide +kernel
theorem dX2_number_117 : decode cX2_number 117 = .ok (.iconst 3, 1) := by decide +kernel
theorem dX2_number_118 : decode cX2_number 118 = .ok (.invokevirtual 204, 3) := by decide +kernel
theorem dX2_number_121 : decode cX2_number 121 = .ok (.ireturn, 1) := by decide +kernel
theorem dX2_number_122 : decode cX2_number 122 = .ok (.aload_n 0, 1) := by decide +kernel
theorem dX2_number_123 : decode cX2_number 123 = .ok (.getfield 50, 3) := by decide +kernel
theorem dX2_number_126 : decode cX2_number 126 = .ok (.ireturn, 1) := by decide +kernel
theorem dX2_number_127 : decode cX2_number 127 = .ok (.aload_n 0, 1) := by decide +kernel
theorem dX2_number_128 : decode cX2_number 128 = .ok (.getfield 53, 3) := by decide +kernel
theorem dX2_number_131 : decode cX2_number 131 = .ok (.ireturn, 1) := by decide +kernel
theorem dX2_number_132 : decode cX2_number 132 = .ok (.aload_n 0, 1) := by decide +kernel
theorem dX2_number_133 : decode cX2_number 133 = .ok (.invokevirtual 210, 3) := by decide +kernel
theorem dX2_number_136 : decode cX2_number 136 = .ok (.ireturn, 1) := by decide +kernel
theorem dX2_number_137 : decode cX2_number 137 = .ok (.aload_n 0, 1) := by decide +kernel
theorem dX2_number_138 : decode cX2_number 138 = .ok (.getfield 9, 3) := by decide +kernel
theorem dX2_number_141 : decode cX2_number 141 = .ok (.iconst 0, 1) := by decide +kernel
theorem dX2_number_142 : decode cX2_number 142 = .ok (.iaload, 1) := by decide +kernel
theorem dX2_number_143 : decode cX2_number 143 = .ok (.ireturn, 1) := by decide +kernel
theorem dX2_number_144 : decode cX2_number 144 = .ok (.aload_n 0, 1) := by decide +kernel
theorem dX2_number_145 : decode cX2_number 145 = .ok (.getfield 9, 3) := by decide +kernel
theorem dX2_number_148 : decode cX2_number 148 = .ok (.iconst 1, 1) := by decide +kernel
theorem dX2_number_149 : decode cX2_number 149 = .ok (.iaload, 1) := by decide +kernel
theorem dX2_number_150 : decode cX2_number 150 = .ok (.ireturn, 1) := by decide +kernel
theorem dX2_number_151 : decode cX2_number 151 = .ok (.aload_n 0, 1) := by decide +kernel
theorem dX2_number_152 : decode cX2_number 152 = .ok (.getfield 9, 3) := by decide +kernel
theorem dX2_number_155 : decode cX2_number 155 = .ok (.iconst 2, 1) := by decide +kernel
theorem dX2_number_156 : decode cX2_number 156 = .ok (.iaload, 1) := by decide +kernel
theorem dX2_number_157 : decode cX2_number 157 = .ok (.ireturn, 1) := by decide +kernel
theorem dX2_number_158 : decode cX2_number 158 = .ok (.aload_n 0, 1) := by decide +kernel
theorem dX2_number_159 : decode cX2_number 159 = .ok (.getfield 9, 3) := by decide +kernel
theorem dX2_number_162 : decode cX2_number 162 = .ok (.iconst 3, 1) := by decide +kernel
theorem dX2_number_163 : decode cX2_number 163 = .ok (.iaload, 1) := by decide +kernel
theorem dX2_number_164 : decode cX2_number 164 = .ok (.ireturn, 1) := by decide +kernel
theorem dX2_number_165 : decode cX2_number 165 = .ok (.bipush (-2), 2) := by decide +kernel
theorem dX2_number_167 : decode cX2_number 167 = .ok (.ireturn, 1) := by decide +kernel
def wp_X2_number (m : Nat) (x1 : Int32) (σ : Sg) (Q : Int32 → Sg → Prop) : Prop := ((x1 = (0 : Int32) → Q (σ m 0 0 5) σ) ∧ (¬ x1 = (0 : Int32) → ((x1 = (1 : Int32) → Q (σ m 0 0 4) σ) ∧ (¬ x1 = (1 : Int32) → ((x1 = (2 : Int32) → wp_X2_tinsThatAre m (0 : Int32) σ (fun r16 σ17 => Q r16 σ17)) ∧ (¬ x1 = (2 : Int32) → ((x1 = (3 : Int32) → wp_X2_tinsThatAre m (1 : Int32) σ (fun r18 σ19 => Q r18 σ19)) ∧ (¬ x1 = (3 : Int32) → ((x1 = (4 : Int32) → wp_X2_overLanes m (0 : Int32) σ (fun r20 σ21 => Q r20 σ21)) ∧ (¬ x1 = (4 : Int32) → ((x1 = (5 : Int32) → wp_X2_overLanes m (6 : Int32) σ (fun r22 σ23 => Q r22 σ23)) ∧ (¬ x1 = (5 : Int32) → ((x1 = (6 : Int32) → wp_X2_sweetsShipped m σ (fun r24 σ25 => Q r24 σ25)) ∧ (¬ x1 = (6 : Int32) → ((x1 = (7 : Int32) → wp_X2_overLanes m (3 : Int32) σ (fun r26 σ27 => Q r26 σ27)) ∧ (¬ x1 = (7 : Int32) → ((x1 = (8 : Int32) → Q (σ m 0 0 6) σ) ∧ (¬ x1 = (8 : Int32) → ((x1 = (9 : Int32) → Q (σ m 0 0 7) σ) ∧ (¬ x1 = (9 : Int32) → ((x1 = (10 : Int32) → wp_X2_standingLanes m σ (fun r28 σ29 => Q r28 σ29)) ∧ (¬ x1 = (10 : Int32) → ((x1 = (11 : Int32) → Q (σ m 1 0 0) σ) ∧ (¬ x1 = (11 : Int32) → ((x1 = (12 : Int32) → Q (σ m 1 0 1) σ) ∧ (¬ x1 = (12 : Int32) → ((x1 = (13 : Int32) → Q (σ m 1 0 2) σ) ∧ (¬ x1 = (13 : Int32) → ((x1 = (14 : Int32) → Q (σ m 1 0 3) σ) ∧ (¬ x1 = (14 : Int32) → Q (-2 : Int32) σ))))))))))))))))))))))))))))))
set_option maxRecDepth 100000 in
set_option maxHeartbeats 4000000 in
theorem c_X2_number (l : Launch) (E : Ev) {m : Nat} {x1 : Int32} (hm : m < 11) {σ : Sg} {Q : Int32 → Sg → Prop} (hw : wp_X2_number m x1 σ Q) : CT l E yX2_number cX2_number 2 (some .int) 5 111 [.ref (ad E m 0 0), .int x1] σ (QI E Q) := by
  refine CT_of (by decide) (Nat.le_of_ble_eq_true rfl) (fun X h1 h2 C => ?_)
  subst h1; subst h2
  have C : Cx X cX2_number "SweetWraps$Machine" (some .int) 5 111 2 (QI (tE X) Q) := C
  show G X σ [(0, .ref (ad (tE X) m 0 0)), (1, .int x1)] [] 0
  unfold wp_X2_number at hw
  refine gx_iload_n C dX2_number_0 1 rfl ?_
  by_cases c1 : x1 = (0 : Int32)
  · replace hw := hw.1 c1
    refine gx_table (tgt := 76) (off := 75) C dX2_number_1 (0 : Int32) c1 (by decide) (by decide) rfl (by decide) ?_
    refine gx_aload_n C dX2_number_76 0 rfl ?_
    refine gx_get C (ok0 hm) rfl rfl inX2 (ref := "SweetWraps$Machine") 5 (by decide) bw_95 rfl rfl dX2_number_77 ?_
    exact gx_iret C rfl rfl dX2_number_80 hw
  · replace hw := hw.2 c1
    by_cases c2 : x1 = (1 : Int32)
    · replace hw := hw.1 c2
      refine gx_table (tgt := 81) (off := 80) C dX2_number_1 (1 : Int32) c2 (by decide) (by decide) rfl (by decide) ?_
      refine gx_aload_n C dX2_number_81 0 rfl ?_
      refine gx_get C (ok0 hm) rfl rfl inX2 (ref := "SweetWraps$Machine") 4 (by decide) bw_94 rfl rfl dX2_number_82 ?_
      exact gx_iret C rfl rfl dX2_number_85 hw
    · replace hw := hw.2 c2
      by_cases c3 : x1 = (2 : Int32)
      · replace hw := hw.1 c3
        refine gx_table (tgt := 86) (off := 85) C dX2_number_1 (2 : Int32) c3 (by decide) (by decide) rfl (by decide) ?_
        refine gx_aload_n C dX2_number_86 0 rfl ?_
        refine gx_iconst (v := (0 : Int32)) C dX2_number_87 (by decide) ?_
        refine gx_vcalli (As := [.int (0 : Int32)]) (rest := []) C (c_X2_tinsThatAre _ _ hm hw) (ok0 hm) rfl rfl bw_278 bw_280 bs_1 bw_2 bw_281 hy_X2_tinsThatAre ⟨by decide, by decide⟩ rfl (Nat.le_of_ble_eq_true rfl) dX2_number_88 (fun r16 σ17 hw => ?_)
        exact gx_iret C rfl rfl dX2_number_91 hw
      · replace hw := hw.2 c3
        by_cases c4 : x1 = (3 : Int32)
        · replace hw := hw.1 c4
          refine gx_table (tgt := 92) (off := 91) C dX2_number_1 (3 : Int32) c4 (by decide) (by decide) rfl (by decide) ?_
          refine gx_aload_n C dX2_number_92 0 rfl ?_
          refine gx_iconst (v := (1 : Int32)) C dX2_number_93 (by decide) ?_
          refine gx_vcalli (As := [.int (1 : Int32)]) (rest := []) C (c_X2_tinsThatAre _ _ hm hw) (ok0 hm) rfl rfl bw_278 bw_280 bs_1 bw_2 bw_281 hy_X2_tinsThatAre ⟨by decide, by decide⟩ rfl (Nat.le_of_ble_eq_true rfl) dX2_number_94 (fun r18 σ19 hw => ?_)
          exact gx_iret C rfl rfl dX2_number_97 hw
        · replace hw := hw.2 c4
          by_cases c5 : x1 = (4 : Int32)
          · replace hw := hw.1 c5
            refine gx_table (tgt := 98) (off := 97) C dX2_number_1 (4 : Int32) c5 (by decide) (by decide) rfl (by decide) ?_
            refine gx_aload_n C dX2_number_98 0 rfl ?_
            refine gx_iconst (v := (0 : Int32)) C dX2_number_99 (by decide) ?_
            refine gx_vcalli (As := [.int (0 : Int32)]) (rest := []) C (c_X2_overLanes _ _ hm hw) (ok0 hm) rfl rfl bw_286 bw_288 bs_3 bw_2 bw_289 hy_X2_overLanes ⟨by decide, by decide⟩ rfl (Nat.le_of_ble_eq_true rfl) dX2_number_100 (fun r20 σ21 hw => ?_)
            exact gx_iret C rfl rfl dX2_number_103 hw
          · replace hw := hw.2 c5
            by_cases c6 : x1 = (5 : Int32)
            · replace hw := hw.1 c6
              refine gx_table (tgt := 104) (off := 103) C dX2_number_1 (5 : Int32) c6 (by decide) (by decide) rfl (by decide) ?_
              refine gx_aload_n C dX2_number_104 0 rfl ?_
              refine gx_bipush (v := (6 : Int32)) C dX2_number_105 (by decide) ?_
              refine gx_vcalli (As := [.int (6 : Int32)]) (rest := []) C (c_X2_overLanes _ _ hm hw) (ok0 hm) rfl rfl bw_286 bw_288 bs_3 bw_2 bw_289 hy_X2_overLanes ⟨by decide, by decide⟩ rfl (Nat.le_of_ble_eq_true rfl) dX2_number_107 (fun r22 σ23 hw => ?_)
              exact gx_iret C rfl rfl dX2_number_110 hw
            · replace hw := hw.2 c6
              by_cases c7 : x1 = (6 : Int32)
              · replace hw := hw.1 c7
                refine gx_table (tgt := 111) (off := 110) C dX2_number_1 (6 : Int32) c7 (by decide) (by decide) rfl (by decide) ?_
                refine gx_aload_n C dX2_number_111 0 rfl ?_
                refine gx_vcalli (As := []) (rest := []) C (c_X2_sweetsShipped _ _ hm hw) (ok0 hm) rfl rfl bw_319 bw_321 bs_8 bw_2 bw_322 hy_X2_sweetsShipped ⟨by decide, by decide⟩ rfl (Nat.le_of_ble_eq_true rfl) dX2_number_112 (fun r24 σ25 hw => ?_)
                exact gx_iret C rfl rfl dX2_number_115 hw
              · replace hw := hw.2 c7
                by_cases c8 : x1 = (7 : Int32)
                · replace hw := hw.1 c8
                  refine gx_table (tgt := 116) (off := 115) C dX2_number_1 (7 : Int32) c8 (by decide) (by decide) rfl (by decide) ?_
                  refine gx_aload_n C dX2_number_116 0 rfl ?_
                  refine gx_iconst (v := (3 : Int32)) C dX2_number_117 (by decide) ?_
                  refine gx_vcalli (As := [.int (3 : Int32)]) (rest := []) C (c_X2_overLanes _ _ hm hw) (ok0 hm) rfl rfl bw_286 bw_288 bs_3 bw_2 bw_289 hy_X2_overLanes ⟨by decide, by decide⟩ rfl (Nat.le_of_ble_eq_true rfl) dX2_number_118 (fun r26 σ27 hw => ?_)
                  exact gx_iret C rfl rfl dX2_number_121 hw
                · replace hw := hw.2 c8
                  by_cases c9 : x1 = (8 : Int32)
                  · replace hw := hw.1 c9
                    refine gx_table (tgt := 122) (off := 121) C dX2_number_1 (8 : Int32) c9 (by decide) (by decide) rfl (by decide) ?_
                    refine gx_aload_n C dX2_number_122 0 rfl ?_
                    refine gx_get C (ok0 hm) rfl rfl inX2 (ref := "SweetWraps$Machine") 6 (by decide) bw_96 rfl rfl dX2_number_123 ?_
                    exact gx_iret C rfl rfl dX2_number_126 hw
                  · replace hw := hw.2 c9
                    by_cases c10 : x1 = (9 : Int32)
                    · replace hw := hw.1 c10
                      refine gx_table (tgt := 127) (off := 126) C dX2_number_1 (9 : Int32) c10 (by decide) (by decide) rfl (by decide) ?_
                      refine gx_aload_n C dX2_number_127 0 rfl ?_
                      refine gx_get C (ok0 hm) rfl rfl inX2 (ref := "SweetWraps$Machine") 7 (by decide) bw_97 rfl rfl dX2_number_128 ?_
                      exact gx_iret C rfl rfl dX2_number_131 hw
                    · replace hw := hw.2 c10
                      by_cases c11 : x1 = (10 : Int32)
                      · replace hw := hw.1 c11
                        refine gx_table (tgt := 132) (off := 131) C dX2_number_1 (10 : Int32) c11 (by decide) (by decide) rfl (by decide) ?_
                        refine gx_aload_n C dX2_number_132 0 rfl ?_
                        refine gx_vcalli (As := []) (rest := []) C (c_X2_standingLanes _ _ hm hw) (ok0 hm) rfl rfl bw_327 bw_329 bs_10 bw_2 bw_330 hy_X2_standingLanes ⟨by decide, by decide⟩ rfl (Nat.le_of_ble_eq_true rfl) dX2_number_133 (fun r28 σ29 hw => ?_)
                        exact gx_iret C rfl rfl dX2_number_136 hw
                      · replace hw := hw.2 c11
                        by_cases c12 : x1 = (11 : Int32)
                        · replace hw := hw.1 c12
                          refine gx_table (tgt := 137) (off := 136) C dX2_number_1 (11 : Int32) c12 (by decide) (by decide) rfl (by decide) ?_
                          refine gx_aload_n C dX2_number_137 0 rfl ?_
                          refine gx_get C (ok0 hm) rfl rfl inX2 (ref := "SweetWraps$Machine") 0 (by decide) bw_88 rfl rfl dX2_number_138 ?_
                          refine gx_iconst (v := (0 : Int32)) C dX2_number_141 (by decide) ?_
                          refine gx_iald C (ok1 hm) rfl (n := 4) (x := (0 : Int32)) (by unfold vp_in; decide) 0 (by decide) dX2_number_142 ?_
                          exact gx_iret C rfl rfl dX2_number_143 hw
                        · replace hw := hw.2 c12
                          by_cases c13 : x1 = (12 : Int32)
                          · replace hw := hw.1 c13
                            refine gx_table (tgt := 144) (off := 143) C dX2_number_1 (12 : Int32) c13 (by decide) (by decide) rfl (by decide) ?_
                            refine gx_aload_n C dX2_number_144 0 rfl ?_
                            refine gx_get C (ok0 hm) rfl rfl inX2 (ref := "SweetWraps$Machine") 0 (by decide) bw_88 rfl rfl dX2_number_145 ?_
                            refine gx_iconst (v := (1 : Int32)) C dX2_number_148 (by decide) ?_
                            refine gx_iald C (ok1 hm) rfl (n := 4) (x := (1 : Int32)) (by unfold vp_in; decide) 1 (by decide) dX2_number_149 ?_
                            exact gx_iret C rfl rfl dX2_number_150 hw
                          · replace hw := hw.2 c13
                            by_cases c14 : x1 = (13 : Int32)
                            · replace hw := hw.1 c14
                              refine gx_table (tgt := 151) (off := 150) C dX2_number_1 (13 : Int32) c14 (by decide) (by decide) rfl (by decide) ?_
                              refine gx_aload_n C dX2_number_151 0 rfl ?_
                              refine gx_get C (ok0 hm) rfl rfl inX2 (ref := "SweetWraps$Machine") 0 (by decide) bw_88 rfl rfl dX2_number_152 ?_
                              refine gx_iconst (v := (2 : Int32)) C dX2_number_155 (by decide) ?_
                              refine gx_iald C (ok1 hm) rfl (n := 4) (x := (2 : Int32)) (by unfold vp_in; decide) 2 (by decide) dX2_number_156 ?_
                              exact gx_iret C rfl rfl dX2_number_157 hw
                            · replace hw := hw.2 c14
                              by_cases c15 : x1 = (14 : Int32)
                              · replace hw := hw.1 c15
                                refine gx_table (tgt := 158) (off := 157) C dX2_number_1 (14 : Int32) c15 (by decide) (by decide) rfl (by decide) ?_
                                refine gx_aload_n C dX2_number_158 0 rfl ?_
                                refine gx_get C (ok0 hm) rfl rfl inX2 (ref := "SweetWraps$Machine") 0 (by decide) bw_88 rfl rfl dX2_number_159 ?_
                                refine gx_iconst (v := (3 : Int32)) C dX2_number_162 (by decide) ?_
                                refine gx_iald C (ok1 hm) rfl (n := 4) (x := (3 : Int32)) (by unfold vp_in; decide) 3 (by decide) dX2_number_163 ?_
                                exact gx_iret C rfl rfl dX2_number_164 hw
                              · replace hw := hw.2 c15
                                refine gx_tableD (tgt := 165) C dX2_number_1 (by decide) [((75 : Int), (0 : Nat)), ((80 : Int), (1 : Nat)), ((85 : Int), (2 : Nat)), ((91 : Int), (3 : Nat)), ((97 : Int), (4 : Nat)), ((103 : Int), (5 : Nat)), ((110 : Int), (6 : Nat)), ((115 : Int), (7 : Nat)), ((121 : Int), (8 : Nat)), ((126 : Int), (9 : Nat)), ((131 : Int), (10 : Nat)), ((136 : Int), (11 : Nat)), ((143 : Int), (12 : Nat)), ((150 : Int), (13 : Nat)), ((157 : Int), (14 : Nat))] rfl (List.forall_mem_cons.mpr ⟨Or.inr ⟨(0 : Int32), c1, by decide⟩, List.forall_mem_cons.mpr ⟨Or.inr ⟨(1 : Int32), c2, by decide⟩, List.forall_mem_cons.mpr ⟨Or.inr ⟨(2 : Int32), c3, by decide⟩, List.forall_mem_cons.mpr ⟨Or.inr ⟨(3 : Int32), c4, by decide⟩, List.forall_mem_cons.mpr ⟨Or.inr ⟨(4 : Int32), c5, by decide⟩, List.forall_mem_cons.mpr ⟨Or.inr ⟨(5 : Int32), c6, by decide⟩, List.forall_mem_cons.mpr ⟨Or.inr ⟨(6 : Int32), c7, by decide⟩, List.forall_mem_cons.mpr ⟨Or.inr ⟨(7 : Int32), c8, by decide⟩, List.forall_mem_cons.mpr ⟨Or.inr ⟨(8 : Int32), c9, by decide⟩, List.forall_mem_cons.mpr ⟨Or.inr ⟨(9 : Int32), c10, by decide⟩, List.forall_mem_cons.mpr ⟨Or.inr ⟨(10 : Int32), c11, by decide⟩, List.forall_mem_cons.mpr ⟨Or.inr ⟨(11 : Int32), c12, by decide⟩, List.forall_mem_cons.mpr ⟨Or.inr ⟨(12 : Int32), c13, by decide⟩, List.forall_mem_cons.mpr ⟨Or.inr ⟨(13 : Int32), c14, by decide⟩, List.forall_mem_cons.mpr ⟨Or.inr ⟨(14 : Int32), c15, by decide⟩, fun _ h => absurd h List.not_mem_nil⟩⟩⟩⟩⟩⟩⟩⟩⟩⟩⟩⟩⟩⟩⟩) (by decide) ?_
                                refine gx_bipush (v := (-2 : Int32)) C dX2_number_165 (by decide) ?_
                                exact gx_iret C rfl rfl dX2_number_167 hw
theorem hy_X2_number : yX2_number.cls = "SweetWraps$Machine" ∧ yX2_number.cls ≠ "java/lang/invoke/MethodHandle" ∧ yX2_number.cls ≠ "java/lang/invoke/VarHandle" ∧ (parseMethodDescriptor yX2_number.desc).map (fun d => d.parameters.length) = some 1 := by decide +kernel
