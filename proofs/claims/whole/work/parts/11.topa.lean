theorem dX0_prepare_0 : decode cX0_prepare 0 = .ok (.aload_n 0, 1) := by decide +kernel
theorem dX0_prepare_1 : decode cX0_prepare 1 = .ok (.getfield 18, 3) := by decide +kernel
theorem dX0_prepare_4 : decode cX0_prepare 4 = .ok (.aload_n 1, 1) := by decide +kernel
theorem dX0_prepare_5 : decode cX0_prepare 5 = .ok (.invokevirtual 22, 3) := by decide +kernel
theorem dX0_prepare_8 : decode cX0_prepare 8 = .ok (.return_, 1) := by decide +kernel
def wp_X0_prepare (m1 : Nat) (σ : Sg) (Q : Sg → Prop) : Prop := ∀ b1 : Nat, b1 = (σ 11 11 0 1).toNatClampNeg → (b1 < 11 ∧ wp_X2_copyFrom b1 m1 σ (fun σ2 => Q σ2))
set_option maxRecDepth 100000 in
set_option maxHeartbeats 4000000 in
theorem c_X0_prepare (l : Launch) (E : Ev) {m1 : Nat} (hm1 : m1 < 11) {σ : Sg} {Q : Sg → Prop} (hw : wp_X0_prepare m1 σ Q) : CT l E yX0_prepare cX0_prepare 2 none 4 124 [.ref (ad E 11 11 0), .ref (ad E m1 0 0)] σ (QV E Q) := by
  refine CT_of (by decide) (Nat.le_of_ble_eq_true rfl) (fun X h1 h2 C => ?_)
  subst h1; subst h2
  have C : Cx X cX0_prepare "SweetWraps$History" none 4 124 2 (QV (tE X) Q) := C
  show G X σ [(0, .ref (ad (tE X) 11 11 0)), (1, .ref (ad (tE X) m1 0 0))] [] 0
  unfold wp_X0_prepare at hw
  refine gx_aload_n C dX0_prepare_0 0 rfl ?_
  refine gx_get C okg_11 rfl rfl inX0 (ref := "SweetWraps$History") 1 (by decide) bw_131 rfl rfl dX0_prepare_1 ?_
  obtain ⟨b1, e_b1⟩ : ∃ z : Nat, z = (σ 11 11 0 1).toNatClampNeg := ⟨_, rfl⟩
  replace hw := hw b1 e_b1
  rw [← e_b1]
  have hb1 := hw.1
  replace hw := hw.2
  refine gx_aload_n C dX0_prepare_4 1 rfl ?_
  refine gx_vcallv (As := [.ref (ad (tE X) m1 0 0)]) (rest := []) C (c_X2_copyFrom _ _ hb1 hm1 hw) (ok0 hb1) rfl rfl bw_198 bw_199 bw_200 bw_2 bw_201 hy_X2_copyFrom ⟨by decide, by decide⟩ rfl (Nat.le_of_ble_eq_true rfl) dX0_prepare_5 (fun σ2 hw => ?_)
  exact gx_vret C dX0_prepare_8 hw
theorem hy_X0_prepare : yX0_prepare.cls = "SweetWraps$History" ∧ yX0_prepare.cls ≠ "java/lang/invoke/MethodHandle" ∧ yX0_prepare.cls ≠ "java/lang/invoke/VarHandle" ∧ (parseMethodDescriptor yX0_prepare.desc).map (fun d => d.parameters.length) = some 1 := by decide +kernel

theorem dX0_dropOldest_0 : decode cX0_dropOldest 0 = .ok (.aload_n 0, 1) := by decide +kernel
theorem dX0_dropOldest_1 : decode cX0_dropOldest 1 = .ok (.getfield 11, 3) := by decide +kernel
theorem dX0_dropOldest_4 : decode cX0_dropOldest 4 = .ok (.iconst 0, 1) := by decide +kernel
theorem dX0_dropOldest_5 : decode cX0_dropOldest 5 = .ok (.aaload, 1) := by decide +kernel
theorem dX0_dropOldest_6 : decode cX0_dropOldest 6 = .ok (.astore_n 1, 1) := by decide +kernel
theorem dX0_dropOldest_7 : decode cX0_dropOldest 7 = .ok (.iconst 0, 1) := by decide +kernel
theorem dX0_dropOldest_8 : decode cX0_dropOldest 8 = .ok (.istore_n 2, 1) := by decide +kernel
theorem dX0_dropOldest_9 : decode cX0_dropOldest 9 = .ok (.iload_n 2, 1) := by decide +kernel
theorem dX0_dropOldest_10 : decode cX0_dropOldest 10 = .ok (.iconst 1, 1) := by decide +kernel
theorem dX0_dropOldest_11 : decode cX0_dropOldest 11 = .ok (.iadd, 1) := by decide +kernel
theorem dX0_dropOldest_12 : decode cX0_dropOldest 12 = .ok (.aload_n 0, 1) := by decide +kernel
theorem dX0_dropOldest_13 : decode cX0_dropOldest 13 = .ok (.getfield 11, 3) := by decide +kernel
theorem dX0_dropOldest_16 : decode cX0_dropOldest 16 = .ok (.arraylength, 1) := by decide +kernel
theorem dX0_dropOldest_17 : decode cX0_dropOldest 17 = .ok (.if_icmp .ge 23, 3) := by decide +kernel
theorem dX0_dropOldest_20 : decode cX0_dropOldest 20 = .ok (.aload_n 0, 1) := by decide +kernel
theorem dX0_dropOldest_21 : decode cX0_dropOldest 21 = .ok (.getfield 11, 3) := by decide +kernel
theorem dX0_dropOldest_24 : decode cX0_dropOldest 24 = .ok (.iload_n 2, 1) := by decide +kernel
theorem dX0_dropOldest_25 : decode cX0_dropOldest 25 = .ok (.aload_n 0, 1) := by decide +kernel
theorem dX0_dropOldest_26 : decode cX0_dropOldest 26 = .ok (.getfield 11, 3) := by decide +kernel
theorem dX0_dropOldest_29 : decode cX0_dropOldest 29 = .ok (.iload_n 2, 1) := by decide +kernel
theorem dX0_dropOldest_30 : decode cX0_dropOldest 30 = .ok (.iconst 1, 1) := by decide +kernel
theorem dX0_dropOldest_31 : decode cX0_dropOldest 31 = .ok (.iadd, 1) := by decide +kernel
theorem dX0_dropOldest_32 : decode cX0_dropOldest 32 = .ok (.aaload, 1) := by decide +kernel
theorem dX0_dropOldest_33 : decode cX0_dropOldest 33 = .ok (.aastore, 1) := by decide +kernel
theorem dX0_dropOldest_34 : decode cX0_dropOldest 34 = .ok (.iinc 2 1, 3) := by decide +kernel
theorem dX0_dropOldest_37 : decode cX0_dropOldest 37 = .ok (.goto (-28), 3) := by decide +kernel
theorem dX0_dropOldest_40 : decode cX0_dropOldest 40 = .ok (.aload_n 0, 1) := by decide +kernel
theorem dX0_dropOldest_41 : decode cX0_dropOldest 41 = .ok (.getfield 11, 3) := by decide +kernel
theorem dX0_dropOldest_44 : decode cX0_dropOldest 44 = .ok (.iconst 5, 1) := by decide +kernel
theorem dX0_dropOldest_45 : decode cX0_dropOldest 45 = .ok (.aload_n 1, 1) := by decide +kernel
theorem dX0_dropOldest_46 : decode cX0_dropOldest 46 = .ok (.aastore, 1) := by decide +kernel
theorem dX0_dropOldest_47 : decode cX0_dropOldest 47 = .ok (.aload_n 0, 1) := by decide +kernel
theorem dX0_dropOldest_48 : decode cX0_dropOldest 48 = .ok (.iconst 5, 1) := by decide +kernel
theorem dX0_dropOldest_49 : decode cX0_dropOldest 49 = .ok (.putfield 26, 3) := by decide +kernel
theorem dX0_dropOldest_52 : decode cX0_dropOldest 52 = .ok (.return_, 1) := by decide +kernel
def st_X0_dropOldest_L9 (Q : Sg → Prop) (K9 : Nat → Int32 → Sg → Prop) (v1 : Nat) (v2 : Int32) (σ : Sg) : Prop := v1 < 11 ∧ ((((6 : Int32) ≤ (v2 + (1 : Int32)) → ∀ σ4 : Sg, σ4 = up σ 11 12 0 5 (nI v1) → ∀ σ5 : Sg, σ5 = up σ4 11 11 0 2 (5 : Int32) → Q σ5) ∧ (¬ (6 : Int32) ≤ (v2 + (1 : Int32)) → (vp_in (v2 + (1 : Int32)) 6 ∧ ∀ b7 : Nat, b7 = (σ 11 12 0 (v2 + (1 : Int32)).toNatClampNeg).toNatClampNeg → (b7 < 11 ∧ (vp_in v2 6 ∧ ∀ σ8 : Sg, σ8 = up σ 11 12 0 v2.toNatClampNeg (nI b7) → ∀ z9 : Int32, z9 = v2 + (1 : Int32) → K9 v1 z9 σ8))))))
def wp_X0_dropOldest_L9 (Q : Sg → Prop) (v1 : Nat) (v2 : Int32) (σ : Sg) : Prop := ∃ n : Nat, lpN (fun (K : Nat × Int32 × Sg → Prop) (a : Nat × Int32 × Sg) => st_X0_dropOldest_L9 Q (fun v1 v2 σ => K (v1, v2, σ)) (a.1) (a.2.1) (a.2.2)) n (v1, v2, σ)
set_option maxRecDepth 100000 in
set_option maxHeartbeats 4000000 in
theorem gs_X0_dropOldest_L9 {X : Tx} {Q : Sg → Prop} (C : Cx X cX0_dropOldest "SweetWraps$History" none 0 0 3 (QV (tE X) Q)) {K9 : Nat → Int32 → Sg → Prop} (hK9 : ∀ (v1 : Nat) (v2 : Int32) (σ : Sg), K9 v1 v2 σ → G X σ [(0, .ref (ad (tE X) 11 11 0)), (1, .ref (ad (tE X) v1 0 0)), (2, .int v2)] [] 9) {v1 : Nat} {v2 : Int32} {σ : Sg} (hw : st_X0_dropOldest_L9 Q K9 v1 v2 σ) : G X σ [(0, .ref (ad (tE X) 11 11 0)), (1, .ref (ad (tE X) v1 0 0)), (2, .int v2)] [] 9 := by
  unfold st_X0_dropOldest_L9 at hw
  have hv1 := hw.1
  replace hw := hw.2
  refine gx_iload_n C dX0_dropOldest_9 2 rfl ?_
  refine gx_iconst (v := (1 : Int32)) C dX0_dropOldest_10 (by decide) ?_
  refine gx_iadd C dX0_dropOldest_11 ?_
  refine gx_aload_n C dX0_dropOldest_12 0 rfl ?_
  refine gx_get C okg_11 rfl rfl inX0 (ref := "SweetWraps$History") 0 (by decide) bw_130 rfl rfl dX0_dropOldest_13 ?_
  refine gx_alen C okg_12 rfl (t0 := 5) rfl (v := (6 : Int32)) rfl dX0_dropOldest_16 ?_
  refine gx_icmp_ge (tgt := 40) C dX0_dropOldest_17 (by decide) (fun c3 => ?_) (fun c3 => ?_)
  · replace hw := hw.1 c3
    refine gx_aload_n C dX0_dropOldest_40 0 rfl ?_
    refine gx_get C okg_11 rfl rfl inX0 (ref := "SweetWraps$History") 0 (by decide) bw_130 rfl rfl dX0_dropOldest_41 ?_
    refine gx_iconst (v := (5 : Int32)) C dX0_dropOldest_44 (by decide) ?_
    refine gx_aload_n C dX0_dropOldest_45 1 rfl ?_
    refine gx_aastM C hv1 (x := (5 : Int32)) (by unfold vp_in; decide) 5 (by decide) dX0_dropOldest_46 ?_
    obtain ⟨σ4, e_σ4⟩ : ∃ z : Sg, z = up σ 11 12 0 5 (nI v1) := ⟨_, rfl⟩
    replace hw := hw σ4 e_σ4
    refine gx_st e_σ4 ?_
    refine gx_aload_n C dX0_dropOldest_47 0 rfl ?_
    refine gx_iconst (v := (5 : Int32)) C dX0_dropOldest_48 (by decide) ?_
    refine gx_put C okg_11 rfl rfl inX0 tyX0 tyX0_ok nmX0 (ref := "SweetWraps$History") 2 (by decide) bw_132 rfl rfl (v := .int (5 : Int32)) rfl rfl (Nat.le_of_ble_eq_true rfl) (upd (σ4 11 11 0) 2 (5 : Int32)) rfl dX0_dropOldest_49 ?_
    obtain ⟨σ5, e_σ5⟩ : ∃ z : Sg, z = up σ4 11 11 0 2 (5 : Int32) := ⟨_, rfl⟩
    replace hw := hw σ5 e_σ5
    refine gx_st e_σ5 ?_
    exact gx_vret C dX0_dropOldest_52 hw
  · replace hw := hw.2 c3
    refine gx_aload_n C dX0_dropOldest_20 0 rfl ?_
    refine gx_get C okg_11 rfl rfl inX0 (ref := "SweetWraps$History") 0 (by decide) bw_130 rfl rfl dX0_dropOldest_21 ?_
    refine gx_iload_n C dX0_dropOldest_24 2 rfl ?_
    refine gx_aload_n C dX0_dropOldest_25 0 rfl ?_
    refine gx_get C okg_11 rfl rfl inX0 (ref := "SweetWraps$History") 0 (by decide) bw_130 rfl rfl dX0_dropOldest_26 ?_
    refine gx_iload_n C dX0_dropOldest_29 2 rfl ?_
    refine gx_iconst (v := (1 : Int32)) C dX0_dropOldest_30 (by decide) ?_
    refine gx_iadd C dX0_dropOldest_31 ?_
    have h6 := hw.1
    replace hw := hw.2
    obtain ⟨b7, e_b7⟩ : ∃ z : Nat, z = (σ 11 12 0 (v2 + (1 : Int32)).toNatClampNeg).toNatClampNeg := ⟨_, rfl⟩
    replace hw := hw b7 e_b7
    have hb7 := hw.1
    replace hw := hw.2
    refine gx_aald C okg_12 rfl (t0 := 5) rfl h6 (v := .ref (ad (tE X) b7 0 0)) (by rw [e_b7]; rfl) dX0_dropOldest_32 ?_
    refine gx_aastM C hb7 hw.1 _ rfl dX0_dropOldest_33 ?_
    replace hw := hw.2
    obtain ⟨σ8, e_σ8⟩ : ∃ z : Sg, z = up σ 11 12 0 v2.toNatClampNeg (nI b7) := ⟨_, rfl⟩
    replace hw := hw σ8 e_σ8
    refine gx_st e_σ8 ?_
    obtain ⟨z9, e_z9⟩ : ∃ z : Int32, z = v2 + (1 : Int32) := ⟨_, rfl⟩
    replace hw := hw z9 e_z9
    refine gx_iinc (v := z9) (lv' := [(2, .int z9), (0, .ref (ad (tE X) 11 11 0)), (1, .ref (ad (tE X) v1 0 0))]) C dX0_dropOldest_34 2 rfl (by rw [e_z9]; rfl) (by decide) rfl ?_
    refine gx_goto (tgt := 9) C dX0_dropOldest_37 (by decide) ?_
    refine gx_sub (lv' := [(0, .ref (ad (tE X) 11 11 0)), (1, .ref (ad (tE X) v1 0 0)), (2, .int z9)]) [1, 2, 0] rfl ?_
    exact hK9 _ _ _ hw
set_option maxRecDepth 100000 in
set_option maxHeartbeats 4000000 in
theorem g_X0_dropOldest_L9 {X : Tx} {Q : Sg → Prop} (C : Cx X cX0_dropOldest "SweetWraps$History" none 0 0 3 (QV (tE X) Q)) {v1 : Nat} {v2 : Int32} {σ : Sg} (hw : wp_X0_dropOldest_L9 Q v1 v2 σ) : G X σ [(0, .ref (ad (tE X) 11 11 0)), (1, .ref (ad (tE X) v1 0 0)), (2, .int v2)] [] 9 := by
  obtain ⟨n, hw⟩ := hw
  exact lpN_G (P := (fun (a : Nat × Int32 × Sg) => G X (a.2.2) [(0, .ref (ad (tE X) 11 11 0)), (1, .ref (ad (tE X) (a.1) 0 0)), (2, .int (a.2.1))] [] 9)) (fun K a hK h => gs_X0_dropOldest_L9 C (fun v1 v2 σ h => hK (v1, v2, σ) h) h) n _ hw
def wp_X0_dropOldest (σ : Sg) (Q : Sg → Prop) : Prop := ∀ b2 : Nat, b2 = (σ 11 12 0 (0 : Int32).toNatClampNeg).toNatClampNeg → (b2 < 11 ∧ wp_X0_dropOldest_L9 Q b2 (0 : Int32) σ)
set_option maxRecDepth 100000 in
set_option maxHeartbeats 4000000 in
theorem c_X0_dropOldest (l : Launch) (E : Ev) {σ : Sg} {Q : Sg → Prop} (hw : wp_X0_dropOldest σ Q) : CT l E yX0_dropOldest cX0_dropOldest 3 none 0 0 [.ref (ad E 11 11 0)] σ (QV E Q) := by
  refine CT_of (by decide) (Nat.le_of_ble_eq_true rfl) (fun X h1 h2 C => ?_)
  subst h1; subst h2
  have C : Cx X cX0_dropOldest "SweetWraps$History" none 0 0 3 (QV (tE X) Q) := C
  show G X σ [(0, .ref (ad (tE X) 11 11 0))] [] 0
  unfold wp_X0_dropOldest at hw
  refine gx_aload_n C dX0_dropOldest_0 0 rfl ?_
  refine gx_get C okg_11 rfl rfl inX0 (ref := "SweetWraps$History") 0 (by decide) bw_130 rfl rfl dX0_dropOldest_1 ?_
  refine gx_iconst (v := (0 : Int32)) C dX0_dropOldest_4 (by decide) ?_
  have h1 : vp_in (0 : Int32) 6 := by unfold vp_in; decide
  obtain ⟨b2, e_b2⟩ : ∃ z : Nat, z = (σ 11 12 0 (0 : Int32).toNatClampNeg).toNatClampNeg := ⟨_, rfl⟩
  replace hw := hw b2 e_b2
  have hb2 := hw.1
  replace hw := hw.2
  refine gx_aald C okg_12 rfl (t0 := 5) rfl h1 (v := .ref (ad (tE X) b2 0 0)) (by rw [e_b2]; rfl) dX0_dropOldest_5 ?_
  refine gx_astore_n (lv' := [(1, .ref (ad (tE X) b2 0 0)), (0, .ref (ad (tE X) 11 11 0))]) C dX0_dropOldest_6 (by decide) rfl ?_
  refine gx_iconst (v := (0 : Int32)) C dX0_dropOldest_7 (by decide) ?_
  refine gx_istore_n (lv' := [(2, .int (0 : Int32)), (1, .ref (ad (tE X) b2 0 0)), (0, .ref (ad (tE X) 11 11 0))]) C dX0_dropOldest_8 (by decide) rfl ?_
  refine gx_sub (lv' := [(0, .ref (ad (tE X) 11 11 0)), (1, .ref (ad (tE X) b2 0 0)), (2, .int (0 : Int32))]) [2, 1, 0] rfl ?_
  exact g_X0_dropOldest_L9 C hw
theorem hy_X0_dropOldest : yX0_dropOldest.cls = "SweetWraps$History" ∧ yX0_dropOldest.cls ≠ "java/lang/invoke/MethodHandle" ∧ yX0_dropOldest.cls ≠ "java/lang/invoke/VarHandle" ∧ (parseMethodDescriptor yX0_dropOldest.desc).map (fun d => d.parameters.length) = some 0 := by decide +kernel

theorem dX0_record_0 : decode cX0_record 0 = .ok (.iload_n 1, 1) := by decide +kernel
theorem dX0_record_1 : decode cX0_record 1 = .ok (.ifCond .ge 5, 3) := by decide +kernel
theorem dX0_record_4 : decode cX0_record 4 = .ok (.iload_n 1, 1) := by decide +kernel
theorem dX0_record_5 : decode cX0_record 5 = .ok (.ireturn, 1) := by decide +kernel
theorem dX0_record_6 : decode cX0_record 6 = .ok (.aload_n 0, 1) := by decide +kernel
theorem dX0_record_7 : decode cX0_record 7 = .ok (.getfield 26, 3) := by decide +kernel
theorem dX0_record_10 : decode cX0_record 10 = .ok (.bipush 6, 2) := by decide +kernel
theorem dX0_record_12 : decode cX0_record 12 = .ok (.if_icmp .lt 7, 3) := by decide +kernel
theorem dX0_record_15 : decode cX0_record 15 = .ok (.aload_n 0, 1) := by decide +kernel
theorem dX0_record_16 : decode cX0_record 16 = .ok (.invokevirtual 30, 3) := by decide +kernel
theorem dX0_record_19 : decode cX0_record 19 = .ok (.aload_n 0, 1) := by decide +kernel
theorem dX0_record_20 : decode cX0_record 20 = .ok (.getfield 26, 3) := by decide +kernel
theorem dX0_record_23 : decode cX0_record 23 = .ok (.bipush 6, 2) := by decide +kernel
theorem dX0_record_25 : decode cX0_record 25 = .ok (.invokestatic 33, 3) := by decide +kernel
theorem dX0_record_28 : decode cX0_record 28 = .ok (.ifCond .ne 5, 3) := by decide +kernel
theorem dX0_record_31 : decode cX0_record 31 = .ok (.iload_n 1, 1) := by decide +kernel
theorem dX0_record_32 : decode cX0_record 32 = .ok (.ireturn, 1) := by decide +kernel
theorem dX0_record_33 : decode cX0_record 33 = .ok (.aload_n 0, 1) := by decide +kernel
theorem dX0_record_34 : decode cX0_record 34 = .ok (.getfield 11, 3) := by decide +kernel
theorem dX0_record_37 : decode cX0_record 37 = .ok (.aload_n 0, 1) := by decide +kernel
theorem dX0_record_38 : decode cX0_record 38 = .ok (.getfield 26, 3) := by decide +kernel
theorem dX0_record_41 : decode cX0_record 41 = .ok (.aaload, 1) := by decide +kernel
theorem dX0_record_42 : decode cX0_record 42 = .ok (.astore_n 2, 1) := by decide +kernel
theorem dX0_record_43 : decode cX0_record 43 = .ok (.aload_n 0, 1) := by decide +kernel
theorem dX0_record_44 : decode cX0_record 44 = .ok (.getfield 11, 3) := by decide +kernel
theorem dX0_record_47 : decode cX0_record 47 = .ok (.aload_n 0, 1) := by decide +kernel
theorem dX0_record_48 : decode cX0_record 48 = .ok (.getfield 26, 3) := by decide +kernel
theorem dX0_record_51 : decode cX0_record 51 = .ok (.aload_n 0, 1) := by decide +kernel
theorem dX0_record_52 : decode cX0_record 52 = .ok (.getfield 18, 3) := by decide +kernel
theorem dX0_record_55 : decode cX0_record 55 = .ok (.aastore, 1) := by decide +kernel
theorem dX0_record_56 : decode cX0_record 56 = .ok (.aload_n 0, 1) := by decide +kernel
theorem dX0_record_57 : decode cX0_record 57 = .ok (.aload_n 2, 1) := by decide +kernel
theorem dX0_record_58 : decode cX0_record 58 = .ok (.putfield 18, 3) := by decide +kernel
theorem dX0_record_61 : decode cX0_record 61 = .ok (.aload_n 0, 1) := by decide +kernel
theorem dX0_record_62 : decode cX0_record 62 = .ok (.dup, 1) := by decide +kernel
theorem dX0_record_63 : decode cX0_record 63 = .ok (.getfield 26, 3) := by decide +kernel
theorem dX0_record_66 : decode cX0_record 66 = .ok (.iconst 1, 1) := by decide +kernel
theorem dX0_record_67 : decode cX0_record 67 = .ok (.iadd, 1) := by decide +kernel
theorem dX0_record_68 : decode cX0_record 68 = .ok (.putfield 26, 3) := by decide +kernel
theorem dX0_record_71 : decode cX0_record 71 = .ok (.iload_n 1, 1) := by decide +kernel
theorem dX0_record_72 : decode cX0_record 72 = .ok (.ireturn, 1) := by decide +kernel
def wp_X0_record_b19 (x1 : Int32) (Q : Int32 → Sg → Prop) (σ : Sg) : Prop := wp_X5_isIndex (σ 11 11 0 2) (6 : Int32) σ (fun r4 σ5 => ((¬ r4 = 0 → (vp_in (σ5 11 11 0 2) 6 ∧ ∀ b8 : Nat, b8 = (σ5 11 12 0 (σ5 11 11 0 2).toNatClampNeg).toNatClampNeg → (b8 < 11 ∧ ∀ b9 : Nat, b9 = (σ5 11 11 0 1).toNatClampNeg → (b9 < 11 ∧ (vp_in (σ5 11 11 0 2) 6 ∧ ∀ σ10 : Sg, σ10 = up σ5 11 12 0 (σ5 11 11 0 2).toNatClampNeg (nI b9) → ∀ σ11 : Sg, σ11 = up σ10 11 11 0 1 (nI b8) → ∀ σ12 : Sg, σ12 = up σ11 11 11 0 2 ((σ11 11 11 0 2) + (1 : Int32)) → Q x1 σ12))))) ∧ (r4 = 0 → Q x1 σ5)))
set_option maxRecDepth 100000 in
set_option maxHeartbeats 4000000 in
theorem g_X0_record_b19 {X : Tx} {Q : Int32 → Sg → Prop} (C : Cx X cX0_record "SweetWraps$History" (some .int) 1 22 3 (QI (tE X) Q)) {x1 : Int32} {σ : Sg} (hw : wp_X0_record_b19 x1 Q σ) : G X σ [(0, .ref (ad (tE X) 11 11 0)), (1, .int x1)] [] 19 := by
  unfold wp_X0_record_b19 at hw
  refine gx_aload_n C dX0_record_19 0 rfl ?_
  refine gx_get C okg_11 rfl rfl inX0 (ref := "SweetWraps$History") 2 (by decide) bw_132 rfl rfl dX0_record_20 ?_
  refine gx_bipush (v := (6 : Int32)) C dX0_record_23 (by decide) ?_
  refine gx_ncalli (As := [.int (σ 11 11 0 2), .int (6 : Int32)]) (rest := []) (host := "SweetWraps") C (c_X5_isIndex _ _ hw) (nest_in _ (by decide +kernel)) bw_226 bw_1 bw_227 hyS_X5_isIndex ⟨by decide, by decide⟩ rfl (Nat.le_of_ble_eq_true rfl) dX0_record_25 (fun r4 σ5 hw => ?_)
  refine gx_if_ne (tgt := 33) C dX0_record_28 (by decide) (fun c6 => ?_) (fun c6 => ?_)
  · replace hw := hw.1 c6
    refine gx_aload_n C dX0_record_33 0 rfl ?_
    refine gx_get C okg_11 rfl rfl inX0 (ref := "SweetWraps$History") 0 (by decide) bw_130 rfl rfl dX0_record_34 ?_
    refine gx_aload_n C dX0_record_37 0 rfl ?_
    refine gx_get C okg_11 rfl rfl inX0 (ref := "SweetWraps$History") 2 (by decide) bw_132 rfl rfl dX0_record_38 ?_
    have h7 := hw.1
    replace hw := hw.2
    obtain ⟨b8, e_b8⟩ : ∃ z : Nat, z = (σ5 11 12 0 (σ5 11 11 0 2).toNatClampNeg).toNatClampNeg := ⟨_, rfl⟩
    replace hw := hw b8 e_b8
    have hb8 := hw.1
    replace hw := hw.2
    refine gx_aald C okg_12 rfl (t0 := 5) rfl h7 (v := .ref (ad (tE X) b8 0 0)) (by rw [e_b8]; rfl) dX0_record_41 ?_
    refine gx_astore_n (lv' := [(2, .ref (ad (tE X) b8 0 0)), (0, .ref (ad (tE X) 11 11 0)), (1, .int x1)]) C dX0_record_42 (by decide) rfl ?_
    refine gx_aload_n C dX0_record_43 1 rfl ?_
    refine gx_get C okg_11 rfl rfl inX0 (ref := "SweetWraps$History") 0 (by decide) bw_130 rfl rfl dX0_record_44 ?_
    refine gx_aload_n C dX0_record_47 1 rfl ?_
    refine gx_get C okg_11 rfl rfl inX0 (ref := "SweetWraps$History") 2 (by decide) bw_132 rfl rfl dX0_record_48 ?_
    refine gx_aload_n C dX0_record_51 1 rfl ?_
    refine gx_get C okg_11 rfl rfl inX0 (ref := "SweetWraps$History") 1 (by decide) bw_131 rfl rfl dX0_record_52 ?_
    obtain ⟨b9, e_b9⟩ : ∃ z : Nat, z = (σ5 11 11 0 1).toNatClampNeg := ⟨_, rfl⟩
    replace hw := hw b9 e_b9
    rw [← e_b9]
    have hb9 := hw.1
    replace hw := hw.2
    refine gx_aastM C hb9 hw.1 _ rfl dX0_record_55 ?_
    replace hw := hw.2
    obtain ⟨σ10, e_σ10⟩ : ∃ z : Sg, z = up σ5 11 12 0 (σ5 11 11 0 2).toNatClampNeg (nI b9) := ⟨_, rfl⟩
    replace hw := hw σ10 e_σ10
    refine gx_st e_σ10 ?_
    refine gx_aload_n C dX0_record_56 1 rfl ?_
    refine gx_aload_n C dX0_record_57 0 rfl ?_
    refine gx_put C okg_11 rfl rfl inX0 tyX0 tyX0_ok nmX0 (ref := "SweetWraps$History") 1 (by decide) bw_131 rfl rfl (v := .ref (ad (tE X) b8 0 0)) rfl rfl (Nat.le_of_ble_eq_true rfl) (upd (σ10 11 11 0) 1 (nI b8)) (ce_prep _ _ hb8) dX0_record_58 ?_
    obtain ⟨σ11, e_σ11⟩ : ∃ z : Sg, z = up σ10 11 11 0 1 (nI b8) := ⟨_, rfl⟩
    replace hw := hw σ11 e_σ11
    refine gx_st e_σ11 ?_
    refine gx_aload_n C dX0_record_61 1 rfl ?_
    refine gx_dup C dX0_record_62 rfl ?_
    refine gx_get C okg_11 rfl rfl inX0 (ref := "SweetWraps$History") 2 (by decide) bw_132 rfl rfl dX0_record_63 ?_
    refine gx_iconst (v := (1 : Int32)) C dX0_record_66 (by decide) ?_
    refine gx_iadd C dX0_record_67 ?_
    refine gx_put C okg_11 rfl rfl inX0 tyX0 tyX0_ok nmX0 (ref := "SweetWraps$History") 2 (by decide) bw_132 rfl rfl (v := .int ((σ11 11 11 0 2) + (1 : Int32))) rfl rfl (Nat.le_of_ble_eq_true rfl) (upd (σ11 11 11 0) 2 ((σ11 11 11 0 2) + (1 : Int32))) rfl dX0_record_68 ?_
    obtain ⟨σ12, e_σ12⟩ : ∃ z : Sg, z = up σ11 11 11 0 2 ((σ11 11 11 0 2) + (1 : Int32)) := ⟨_, rfl⟩
    replace hw := hw σ12 e_σ12
    refine gx_st e_σ12 ?_
    refine gx_iload_n C dX0_record_71 2 rfl ?_
    exact gx_iret C rfl rfl dX0_record_72 hw
  · replace hw := hw.2 c6
    refine gx_iload_n C dX0_record_31 1 rfl ?_
    exact gx_iret C rfl rfl dX0_record_32 hw
def wp_X0_record (x1 : Int32) (σ : Sg) (Q : Int32 → Sg → Prop) : Prop := ((0 ≤ x1 → (((σ 11 11 0 2) < (6 : Int32) → wp_X0_record_b19 x1 Q σ) ∧ (¬ (σ 11 11 0 2) < (6 : Int32) → wp_X0_dropOldest σ (fun σ3 => wp_X0_record_b19 x1 Q σ3)))) ∧ (¬ 0 ≤ x1 → Q x1 σ))
set_option maxRecDepth 100000 in
set_option maxHeartbeats 4000000 in
theorem c_X0_record (l : Launch) (E : Ev) {x1 : Int32} {σ : Sg} {Q : Int32 → Sg → Prop} (hw : wp_X0_record x1 σ Q) : CT l E yX0_record cX0_record 3 (some .int) 1 22 [.ref (ad E 11 11 0), .int x1] σ (QI E Q) := by
  refine CT_of (by decide) (Nat.le_of_ble_eq_true rfl) (fun X h1 h2 C => ?_)
  subst h1; subst h2
  have C : Cx X cX0_record "SweetWraps$History" (some .int) 1 22 3 (QI (tE X) Q) := C
  show G X σ [(0, .ref (ad (tE X) 11 11 0)), (1, .int x1)] [] 0
  unfold wp_X0_record at hw
  refine gx_iload_n C dX0_record_0 1 rfl ?_
  refine gx_if_ge (tgt := 6) C dX0_record_1 (by decide) (fun c1 => ?_) (fun c1 => ?_)
  · replace hw := hw.1 c1
    refine gx_aload_n C dX0_record_6 0 rfl ?_
    refine gx_get C okg_11 rfl rfl inX0 (ref := "SweetWraps$History") 2 (by decide) bw_132 rfl rfl dX0_record_7 ?_
    refine gx_bipush (v := (6 : Int32)) C dX0_record_10 (by decide) ?_
    refine gx_icmp_lt (tgt := 19) C dX0_record_12 (by decide) (fun c2 => ?_) (fun c2 => ?_)
    · replace hw := hw.1 c2
      exact g_X0_record_b19 C hw
    · replace hw := hw.2 c2
      refine gx_aload_n C dX0_record_15 0 rfl ?_
      refine gx_vcallv (As := []) (rest := []) C (c_X0_dropOldest _ _ hw) okg_11 rfl rfl bw_239 bw_241 bs_0 bw_5 bw_242 hy_X0_dropOldest ⟨by decide, by decide⟩ rfl (Nat.le_of_ble_eq_true rfl) dX0_record_16 (fun σ3 hw => ?_)
      exact g_X0_record_b19 C hw
  · replace hw := hw.2 c1
    refine gx_iload_n C dX0_record_4 1 rfl ?_
    exact gx_iret C rfl rfl dX0_record_5 hw
theorem hy_X0_record : yX0_record.cls = "SweetWraps$History" ∧ yX0_record.cls ≠ "java/lang/invoke/MethodHandle" ∧ yX0_record.cls ≠ "java/lang/invoke/VarHandle" ∧ (parseMethodDescriptor yX0_record.desc).map (fun d => d.parameters.length) = some 1 := by decide +kernel

theorem dX0_stepBack_0 : decode cX0_stepBack 0 = .ok (.aload_n 0, 1) := by decide +kernel
theorem dX0_stepBack_1 : decode cX0_stepBack 1 = .ok (.getfield 26, 3) := by decide +kernel
theorem dX0_stepBack_4 : decode cX0_stepBack 4 = .ok (.iconst 1, 1) := by decide +kernel
theorem dX0_stepBack_5 : decode cX0_stepBack 5 = .ok (.isub, 1) := by decide +kernel
theorem dX0_stepBack_6 : decode cX0_stepBack 6 = .ok (.bipush 6, 2) := by decide +kernel
theorem dX0_stepBack_8 : decode cX0_stepBack 8 = .ok (.invokestatic 33, 3) := by decide +kernel
theorem dX0_stepBack_11 : decode cX0_stepBack 11 = .ok (.ifCond .ne 6, 3) := by decide +kernel
theorem dX0_stepBack_14 : decode cX0_stepBack 14 = .ok (.bipush (-5), 2) := by decide +kernel
theorem dX0_stepBack_16 : decode cX0_stepBack 16 = .ok (.ireturn, 1) := by decide +kernel
theorem dX0_stepBack_17 : decode cX0_stepBack 17 = .ok (.aload_n 0, 1) := by decide +kernel
theorem dX0_stepBack_18 : decode cX0_stepBack 18 = .ok (.dup, 1) := by decide +kernel
theorem dX0_stepBack_19 : decode cX0_stepBack 19 = .ok (.getfield 26, 3) := by decide +kernel
theorem dX0_stepBack_22 : decode cX0_stepBack 22 = .ok (.iconst 1, 1) := by decide +kernel
theorem dX0_stepBack_23 : decode cX0_stepBack 23 = .ok (.isub, 1) := by decide +kernel
theorem dX0_stepBack_24 : decode cX0_stepBack 24 = .ok (.putfield 26, 3) := by decide +kernel
theorem dX0_stepBack_27 : decode cX0_stepBack 27 = .ok (.aload_n 1, 1) := by decide +kernel
theorem dX0_stepBack_28 : decode cX0_stepBack 28 = .ok (.aload_n 0, 1) := by decide +kernel
theorem dX0_stepBack_29 : decode cX0_stepBack 29 = .ok (.getfield 11, 3) := by decide +kernel
theorem dX0_stepBack_32 : decode cX0_stepBack 32 = .ok (.aload_n 0, 1) := by decide +kernel
theorem dX0_stepBack_33 : decode cX0_stepBack 33 = .ok (.getfield 26, 3) := by decide +kernel
theorem dX0_stepBack_36 : decode cX0_stepBack 36 = .ok (.aaload, 1) := by decide +kernel
theorem dX0_stepBack_37 : decode cX0_stepBack 37 = .ok (.invokevirtual 22, 3) := by decide +kernel
theorem dX0_stepBack_40 : decode cX0_stepBack 40 = .ok (.aload_n 0, 1) := by decide +kernel
theorem dX0_stepBack_41 : decode cX0_stepBack 41 = .ok (.getfield 26, 3) := by decide +kernel
theorem dX0_stepBack_44 : decode cX0_stepBack 44 = .ok (.ireturn, 1) := by decide +kernel
def wp_X0_stepBack (m1 : Nat) (σ : Sg) (Q : Int32 → Sg → Prop) : Prop := wp_X5_isIndex ((σ 11 11 0 2) - (1 : Int32)) (6 : Int32) σ (fun r1 σ2 => ((¬ r1 = 0 → ∀ σ4 : Sg, σ4 = up σ2 11 11 0 2 ((σ2 11 11 0 2) - (1 : Int32)) → (vp_in (σ4 11 11 0 2) 6 ∧ ∀ b6 : Nat, b6 = (σ4 11 12 0 (σ4 11 11 0 2).toNatClampNeg).toNatClampNeg → (b6 < 11 ∧ wp_X2_copyFrom m1 b6 σ4 (fun σ7 => Q (σ7 11 11 0 2) σ7)))) ∧ (r1 = 0 → Q (-5 : Int32) σ2)))
set_option maxRecDepth 100000 in
set_option maxHeartbeats 4000000 in
theorem c_X0_stepBack (l : Launch) (E : Ev) {m1 : Nat} (hm1 : m1 < 11) {σ : Sg} {Q : Int32 → Sg → Prop} (hw : wp_X0_stepBack m1 σ Q) : CT l E yX0_stepBack cX0_stepBack 2 (some .int) 4 124 [.ref (ad E 11 11 0), .ref (ad E m1 0 0)] σ (QI E Q) := by
  refine CT_of (by decide) (Nat.le_of_ble_eq_true rfl) (fun X h1 h2 C => ?_)
  subst h1; subst h2
  have C : Cx X cX0_stepBack "SweetWraps$History" (some .int) 4 124 2 (QI (tE X) Q) := C
  show G X σ [(0, .ref (ad (tE X) 11 11 0)), (1, .ref (ad (tE X) m1 0 0))] [] 0
  unfold wp_X0_stepBack at hw
  refine gx_aload_n C dX0_stepBack_0 0 rfl ?_
  refine gx_get C okg_11 rfl rfl inX0 (ref := "SweetWraps$History") 2 (by decide) bw_132 rfl rfl dX0_stepBack_1 ?_
  refine gx_iconst (v := (1 : Int32)) C dX0_stepBack_4 (by decide) ?_
  refine gx_isub C dX0_stepBack_5 ?_
  refine gx_bipush (v := (6 : Int32)) C dX0_stepBack_6 (by decide) ?_
  refine gx_ncalli (As := [.int ((σ 11 11 0 2) - (1 : Int32)), .int (6 : Int32)]) (rest := []) (host := "SweetWraps") C (c_X5_isIndex _ _ hw) (nest_in _ (by decide +kernel)) bw_226 bw_1 bw_227 hyS_X5_isIndex ⟨by decide, by decide⟩ rfl (Nat.le_of_ble_eq_true rfl) dX0_stepBack_8 (fun r1 σ2 hw => ?_)
  refine gx_if_ne (tgt := 17) C dX0_stepBack_11 (by decide) (fun c3 => ?_) (fun c3 => ?_)
  · replace hw := hw.1 c3
    refine gx_aload_n C dX0_stepBack_17 0 rfl ?_
    refine gx_dup C dX0_stepBack_18 rfl ?_
    refine gx_get C okg_11 rfl rfl inX0 (ref := "SweetWraps$History") 2 (by decide) bw_132 rfl rfl dX0_stepBack_19 ?_
    refine gx_iconst (v := (1 : Int32)) C dX0_stepBack_22 (by decide) ?_
    refine gx_isub C dX0_stepBack_23 ?_
    refine gx_put C okg_11 rfl rfl inX0 tyX0 tyX0_ok nmX0 (ref := "SweetWraps$History") 2 (by decide) bw_132 rfl rfl (v := .int ((σ2 11 11 0 2) - (1 : Int32))) rfl rfl (Nat.le_of_ble_eq_true rfl) (upd (σ2 11 11 0) 2 ((σ2 11 11 0 2) - (1 : Int32))) rfl dX0_stepBack_24 ?_
    obtain ⟨σ4, e_σ4⟩ : ∃ z : Sg, z = up σ2 11 11 0 2 ((σ2 11 11 0 2) - (1 : Int32)) := ⟨_, rfl⟩
    replace hw := hw σ4 e_σ4
    refine gx_st e_σ4 ?_
    refine gx_aload_n C dX0_stepBack_27 1 rfl ?_
    refine gx_aload_n C dX0_stepBack_28 0 rfl ?_
    refine gx_get C okg_11 rfl rfl inX0 (ref := "SweetWraps$History") 0 (by decide) bw_130 rfl rfl dX0_stepBack_29 ?_
    refine gx_aload_n C dX0_stepBack_32 0 rfl ?_
    refine gx_get C okg_11 rfl rfl inX0 (ref := "SweetWraps$History") 2 (by decide) bw_132 rfl rfl dX0_stepBack_33 ?_
    have h5 := hw.1
    replace hw := hw.2
    obtain ⟨b6, e_b6⟩ : ∃ z : Nat, z = (σ4 11 12 0 (σ4 11 11 0 2).toNatClampNeg).toNatClampNeg := ⟨_, rfl⟩
    replace hw := hw b6 e_b6
    have hb6 := hw.1
    replace hw := hw.2
    refine gx_aald C okg_12 rfl (t0 := 5) rfl h5 (v := .ref (ad (tE X) b6 0 0)) (by rw [e_b6]; rfl) dX0_stepBack_36 ?_
    refine gx_vcallv (As := [.ref (ad (tE X) b6 0 0)]) (rest := []) C (c_X2_copyFrom _ _ hm1 hb6 hw) (ok0 hm1) rfl rfl bw_198 bw_199 bw_200 bw_2 bw_201 hy_X2_copyFrom ⟨by decide, by decide⟩ rfl (Nat.le_of_ble_eq_true rfl) dX0_stepBack_37 (fun σ7 hw => ?_)
    refine gx_aload_n C dX0_stepBack_40 0 rfl ?_
    refine gx_get C okg_11 rfl rfl inX0 (ref := "SweetWraps$History") 2 (by decide) bw_132 rfl rfl dX0_stepBack_41 ?_
    exact gx_iret C rfl rfl dX0_stepBack_44 hw
  · replace hw := hw.2 c3
    refine gx_bipush (v := (-5 : Int32)) C dX0_stepBack_14 (by decide) ?_
    exact gx_iret C rfl rfl dX0_stepBack_16 hw
theorem hy_X0_stepBack : yX0_stepBack.cls = "SweetWraps$History" ∧ yX0_stepBack.cls ≠ "java/lang/invoke/MethodHandle" ∧ yX0_stepBack.cls ≠ "java/lang/invoke/VarHandle" ∧ (parseMethodDescriptor yX0_stepBack.desc).map (fun d => d.parameters.length) = some 1 := by decide +kernel

theorem dX3_charactersIn_0 : decode cX3_charactersIn 0 = .ok (.lload_n 0, 1) := by decide +kernel
theorem dX3_charactersIn_1 : decode cX3_charactersIn 1 = .ok (.lstore_n 2, 1) := by decide +kernel
theorem dX3_charactersIn_2 : decode cX3_charactersIn 2 = .ok (.iconst 0, 1) := by decide +kernel
theorem dX3_charactersIn_3 : decode cX3_charactersIn 3 = .ok (.istore 4, 2) := by decide +kernel
theorem dX3_charactersIn_5 : decode cX3_charactersIn 5 = .ok (.lload_n 2, 1) := by decide +kernel
theorem dX3_charactersIn_6 : decode cX3_charactersIn 6 = .ok (.lconst 0, 1) := by decide +kernel
theorem dX3_charactersIn_7 : decode cX3_charactersIn 7 = .ok (.lcmp, 1) := by decide +kernel
theorem dX3_charactersIn_8 : decode cX3_charactersIn 8 = .ok (.ifCond .eq 39, 3) := by decide +kernel
theorem dX3_charactersIn_11 : decode cX3_charactersIn 11 = .ok (.iload 4, 2) := by decide +kernel
theorem dX3_charactersIn_13 : decode cX3_charactersIn 13 = .ok (.bipush 8, 2) := by decide +kernel
theorem dX3_charactersIn_15 : decode cX3_charactersIn 15 = .ok (.if_icmp .ge 32, 3) := by decide +kernel
theorem dX3_charactersIn_18 : decode cX3_charactersIn 18 = .ok (.lload_n 2, 1) := by decide +kernel
theorem dX3_charactersIn_19 : decode cX3_charactersIn 19 = .ok (.ldc2_w 31, 3) := by decide +kernel
theorem dX3_charactersIn_22 : decode cX3_charactersIn 22 = .ok (.land, 1) := by decide +kernel
theorem dX3_charactersIn_23 : decode cX3_charactersIn 23 = .ok (.l2i, 1) := by decide +kernel
theorem dX3_charactersIn_24 : decode cX3_charactersIn 24 = .ok (.bipush 33, 2) := by decide +kernel
theorem dX3_charactersIn_26 : decode cX3_charactersIn 26 = .ok (.bipush 126, 2) := by decide +kernel
theorem dX3_charactersIn_28 : decode cX3_charactersIn 28 = .ok (.invokestatic 33, 3) := by decide +kernel
theorem dX3_charactersIn_31 : decode cX3_charactersIn 31 = .ok (.ifCond .ne 5, 3) := by decide +kernel
theorem dX3_charactersIn_34 : decode cX3_charactersIn 34 = .ok (.iconst 0, 1) := by decide +kernel
theorem dX3_charactersIn_35 : decode cX3_charactersIn 35 = .ok (.ireturn, 1) := by decide +kernel
theorem dX3_charactersIn_36 : decode cX3_charactersIn 36 = .ok (.lload_n 2, 1) := by decide +kernel
theorem dX3_charactersIn_37 : decode cX3_charactersIn 37 = .ok (.bipush 8, 2) := by decide +kernel
theorem dX3_charactersIn_39 : decode cX3_charactersIn 39 = .ok (.lushr, 1) := by decide +kernel
theorem dX3_charactersIn_40 : decode cX3_charactersIn 40 = .ok (.lstore_n 2, 1) := by decide +kernel
theorem dX3_charactersIn_41 : decode cX3_charactersIn 41 = .ok (.iinc 4 1, 3) := by decide +kernel
theorem dX3_charactersIn_44 : decode cX3_charactersIn 44 = .ok (.goto (-39), 3) := by decide +kernel
theorem dX3_charactersIn_47 : decode cX3_charactersIn 47 = .ok (.iload 4, 2) := by decide +kernel
theorem dX3_charactersIn_49 : decode cX3_charactersIn 49 = .ok (.ireturn, 1) := by decide +kernel
def st_X3_charactersIn_L5 (y0 : Int64) (Q : Int32 → Sg → Prop) (K5 : Int64 → Int32 → Sg → Prop) (v2 : Int64) (v4 : Int32) (σ : Sg) : Prop := (((lg_cmp v2 (0 : Int64)) = 0 → Q v4 σ) ∧ (¬ (lg_cmp v2 (0 : Int64)) = 0 → (((8 : Int32) ≤ v4 → Q v4 σ) ∧ (¬ (8 : Int32) ≤ v4 → wp_X5_isBetween (Int64.toInt32 (v2 &&& (255 : Int64))) (33 : Int32) (126 : Int32) σ (fun r3 σ4 => ((¬ r3 = 0 → ∀ u6 : Int64, u6 = (v2.toUInt64 >>> (Int64.toUInt64 (Int32.toInt64 (8 : Int32)) &&& Int64.toUInt64 63)).toInt64 → ∀ z7 : Int32, z7 = v4 + (1 : Int32) → K5 u6 z7 σ4) ∧ (r3 = 0 → Q (0 : Int32) σ4)))))))
def wp_X3_charactersIn_L5 (y0 : Int64) (Q : Int32 → Sg → Prop) (v2 : Int64) (v4 : Int32) (σ : Sg) : Prop := ∃ n : Nat, lpN (fun (K : Int64 × Int32 × Sg → Prop) (a : Int64 × Int32 × Sg) => st_X3_charactersIn_L5 y0 Q (fun v2 v4 σ => K (v2, v4, σ)) (a.1) (a.2.1) (a.2.2)) n (v2, v4, σ)
set_option maxRecDepth 100000 in
set_option maxHeartbeats 4000000 in
theorem gs_X3_charactersIn_L5 {X : Tx} {Q : Int32 → Sg → Prop} (C : Cx X cX3_charactersIn "SweetWraps$Pad" (some .int) 1 22 5 (QI (tE X) Q)) {y0 : Int64} {K5 : Int64 → Int32 → Sg → Prop} (hK5 : ∀ (v2 : Int64) (v4 : Int32) (σ : Sg), K5 v2 v4 σ → G X σ [(2, .long v2), (4, .int v4)] [] 5) {v2 : Int64} {v4 : Int32} {σ : Sg} (hw : st_X3_charactersIn_L5 y0 Q K5 v2 v4 σ) : G X σ [(2, .long v2), (4, .int v4)] [] 5 := by
  unfold st_X3_charactersIn_L5 at hw
  refine gx_lload_n C dX3_charactersIn_5 0 rfl ?_
  refine gx_lconst (v := (0 : Int64)) C dX3_charactersIn_6 (by decide) ?_
  refine gx_lcmp C dX3_charactersIn_7 ?_
  refine gx_if_eq (tgt := 47) C dX3_charactersIn_8 (by decide) (fun c1 => ?_) (fun c1 => ?_)
  · replace hw := hw.1 c1
    refine gx_iload C dX3_charactersIn_47 1 rfl ?_
    exact gx_iret C rfl rfl dX3_charactersIn_49 hw
  · replace hw := hw.2 c1
    refine gx_iload C dX3_charactersIn_11 1 rfl ?_
    refine gx_bipush (v := (8 : Int32)) C dX3_charactersIn_13 (by decide) ?_
    refine gx_icmp_ge (tgt := 47) C dX3_charactersIn_15 (by decide) (fun c2 => ?_) (fun c2 => ?_)
    · replace hw := hw.1 c2
      refine gx_iload C dX3_charactersIn_47 1 rfl ?_
      exact gx_iret C rfl rfl dX3_charactersIn_49 hw
    · replace hw := hw.2 c2
      refine gx_lload_n C dX3_charactersIn_18 0 rfl ?_
      refine gx_ldc2 C dX3_charactersIn_19 bw_522 ?_
      refine gx_land C dX3_charactersIn_22 ?_
      refine gx_l2i C dX3_charactersIn_23 ?_
      refine gx_bipush (v := (33 : Int32)) C dX3_charactersIn_24 (by decide) ?_
      refine gx_bipush (v := (126 : Int32)) C dX3_charactersIn_26 (by decide) ?_
      refine gx_ncalli (As := [.int (Int64.toInt32 (v2 &&& (255 : Int64))), .int (33 : Int32), .int (126 : Int32)]) (rest := []) (host := "SweetWraps") C (c_X5_isBetween _ _ hw) (nest_in _ (by decide +kernel)) bw_233 bw_1 bw_234 hyS_X5_isBetween ⟨by decide, by decide⟩ rfl (Nat.le_of_ble_eq_true rfl) dX3_charactersIn_28 (fun r3 σ4 hw => ?_)
      refine gx_if_ne (tgt := 36) C dX3_charactersIn_31 (by decide) (fun c5 => ?_) (fun c5 => ?_)
      · replace hw := hw.1 c5
        refine gx_lload_n C dX3_charactersIn_36 0 rfl ?_
        refine gx_bipush (v := (8 : Int32)) C dX3_charactersIn_37 (by decide) ?_
        refine gx_lushr C dX3_charactersIn_39 ?_
        obtain ⟨u6, e_u6⟩ : ∃ z : Int64, z = (v2.toUInt64 >>> (Int64.toUInt64 (Int32.toInt64 (8 : Int32)) &&& Int64.toUInt64 63)).toInt64 := ⟨_, rfl⟩
        replace hw := hw u6 e_u6
        refine gx_topl e_u6 ?_
        refine gx_lstore_n (lv' := [(2, .long u6), (4, .int v4)]) C dX3_charactersIn_40 (by decide) rfl ?_
        obtain ⟨z7, e_z7⟩ : ∃ z : Int32, z = v4 + (1 : Int32) := ⟨_, rfl⟩
        replace hw := hw z7 e_z7
        refine gx_iinc (v := z7) (lv' := [(4, .int z7), (2, .long u6)]) C dX3_charactersIn_41 1 rfl (by rw [e_z7]; rfl) (by decide) rfl ?_
        refine gx_goto (tgt := 5) C dX3_charactersIn_44 (by decide) ?_
        refine gx_sub (lv' := [(2, .long u6), (4, .int z7)]) [1, 0] rfl ?_
        exact hK5 _ _ _ hw
      · replace hw := hw.2 c5
        refine gx_iconst (v := (0 : Int32)) C dX3_charactersIn_34 (by decide) ?_
        exact gx_iret C rfl rfl dX3_charactersIn_35 hw
set_option maxRecDepth 100000 in
set_option maxHeartbeats 4000000 in
theorem g_X3_charactersIn_L5 {X : Tx} {Q : Int32 → Sg → Prop} (C : Cx X cX3_charactersIn "SweetWraps$Pad" (some .int) 1 22 5 (QI (tE X) Q)) {y0 : Int64} {v2 : Int64} {v4 : Int32} {σ : Sg} (hw : wp_X3_charactersIn_L5 y0 Q v2 v4 σ) : G X σ [(2, .long v2), (4, .int v4)] [] 5 := by
  obtain ⟨n, hw⟩ := hw
  exact lpN_G (P := (fun (a : Int64 × Int32 × Sg) => G X (a.2.2) [(2, .long (a.1)), (4, .int (a.2.1))] [] 5)) (fun K a hK h => gs_X3_charactersIn_L5 C (fun v2 v4 σ h => hK (v2, v4, σ) h) h) n _ hw
def wp_X3_charactersIn (y0 : Int64) (σ : Sg) (Q : Int32 → Sg → Prop) : Prop := wp_X3_charactersIn_L5 y0 Q y0 (0 : Int32) σ
set_option maxRecDepth 100000 in
set_option maxHeartbeats 4000000 in
theorem c_X3_charactersIn (l : Launch) (E : Ev) {y0 : Int64} {σ : Sg} {Q : Int32 → Sg → Prop} (hw : wp_X3_charactersIn y0 σ Q) : CT l E yX3_charactersIn cX3_charactersIn 5 (some .int) 1 22 [.long y0] σ (QI E Q) := by
  refine CT_of (by decide) (Nat.le_of_ble_eq_true rfl) (fun X h1 h2 C => ?_)
  subst h1; subst h2
  have C : Cx X cX3_charactersIn "SweetWraps$Pad" (some .int) 1 22 5 (QI (tE X) Q) := C
  show G X σ [(0, .long y0)] [] 0
  unfold wp_X3_charactersIn at hw
  refine gx_lload_n C dX3_charactersIn_0 0 rfl ?_
  refine gx_lstore_n (lv' := [(2, .long y0), (0, .long y0)]) C dX3_charactersIn_1 (by decide) rfl ?_
  refine gx_iconst (v := (0 : Int32)) C dX3_charactersIn_2 (by decide) ?_
  refine gx_istore (lv' := [(4, .int (0 : Int32)), (2, .long y0), (0, .long y0)]) C dX3_charactersIn_3 (by decide) rfl ?_
  refine gx_sub (lv' := [(2, .long y0), (4, .int (0 : Int32))]) [1, 0] rfl ?_
  exact g_X3_charactersIn_L5 C hw
theorem hyS_X3_charactersIn : yX3_charactersIn.cls ≠ "java/lang/invoke/MethodHandle" ∧ yX3_charactersIn.cls ≠ "java/lang/invoke/VarHandle" ∧ (parseMethodDescriptor yX3_charactersIn.desc).map (fun d => d.parameters.length) = some 1 := by decide +kernel

theorem dX3_append_0 : decode cX3_append 0 = .ok (.lload_n 1, 1) := by decide +kernel
theorem dX3_append_1 : decode cX3_append 1 = .ok (.invokestatic 19, 3) := by decide +kernel
theorem dX3_append_4 : decode cX3_append 4 = .ok (.istore_n 3, 1) := by decide +kernel
theorem dX3_append_5 : decode cX3_append 5 = .ok (.iload_n 3, 1) := by decide +kernel
theorem dX3_append_6 : decode cX3_append 6 = .ok (.iconst 1, 1) := by decide +kernel
theorem dX3_append_7 : decode cX3_append 7 = .ok (.if_icmp .ge 6, 3) := by decide +kernel
theorem dX3_append_10 : decode cX3_append 10 = .ok (.bipush (-2), 2) := by decide +kernel
theorem dX3_append_12 : decode cX3_append 12 = .ok (.ireturn, 1) := by decide +kernel
theorem dX3_append_13 : decode cX3_append 13 = .ok (.aload_n 0, 1) := by decide +kernel
theorem dX3_append_14 : decode cX3_append 14 = .ok (.getfield 23, 3) := by decide +kernel
theorem dX3_append_17 : decode cX3_append 17 = .ok (.iload_n 3, 1) := by decide +kernel
theorem dX3_append_18 : decode cX3_append 18 = .ok (.iadd, 1) := by decide +kernel
theorem dX3_append_19 : decode cX3_append 19 = .ok (.bipush 80, 2) := by decide +kernel
theorem dX3_append_21 : decode cX3_append 21 = .ok (.if_icmp .le 6, 3) := by decide +kernel
theorem dX3_append_24 : decode cX3_append 24 = .ok (.bipush (-4), 2) := by decide +kernel
theorem dX3_append_26 : decode cX3_append 26 = .ok (.ireturn, 1) := by decide +kernel
theorem dX3_append_27 : decode cX3_append 27 = .ok (.lload_n 1, 1) := by decide +kernel
theorem dX3_append_28 : decode cX3_append 28 = .ok (.lstore 4, 2) := by decide +kernel
theorem dX3_append_30 : decode cX3_append 30 = .ok (.aload_n 0, 1) := by decide +kernel
theorem dX3_append_31 : decode cX3_append 31 = .ok (.getfield 23, 3) := by decide +kernel
theorem dX3_append_34 : decode cX3_append 34 = .ok (.iload_n 3, 1) := by decide +kernel
theorem dX3_append_35 : decode cX3_append 35 = .ok (.iadd, 1) := by decide +kernel
theorem dX3_append_36 : decode cX3_append 36 = .ok (.iconst 1, 1) := by decide +kernel
theorem dX3_append_37 : decode cX3_append 37 = .ok (.isub, 1) := by decide +kernel
theorem dX3_append_38 : decode cX3_append 38 = .ok (.istore 6, 2) := by decide +kernel
theorem dX3_append_40 : decode cX3_append 40 = .ok (.iload 6, 2) := by decide +kernel
theorem dX3_append_42 : decode cX3_append 42 = .ok (.aload_n 0, 1) := by decide +kernel
theorem dX3_append_43 : decode cX3_append 43 = .ok (.getfield 23, 3) := by decide +kernel
theorem dX3_append_46 : decode cX3_append 46 = .ok (.if_icmp .lt 41, 3) := by decide +kernel
theorem dX3_append_49 : decode cX3_append 49 = .ok (.iload 6, 2) := by decide +kernel
theorem dX3_append_51 : decode cX3_append 51 = .ok (.bipush 80, 2) := by decide +kernel
theorem dX3_append_53 : decode cX3_append 53 = .ok (.invokestatic 27, 3) := by decide +kernel
theorem dX3_append_56 : decode cX3_append 56 = .ok (.ifCond .eq 31, 3) := by decide +kernel
theorem dX3_append_59 : decode cX3_append 59 = .ok (.aload_n 0, 1) := by decide +kernel
theorem dX3_append_60 : decode cX3_append 60 = .ok (.getfield 9, 3) := by decide +kernel
theorem dX3_append_63 : decode cX3_append 63 = .ok (.iload 6, 2) := by decide +kernel
theorem dX3_append_65 : decode cX3_append 65 = .ok (.lload 4, 2) := by decide +kernel
theorem dX3_append_67 : decode cX3_append 67 = .ok (.ldc2_w 31, 3) := by decide +kernel
theorem dX3_append_70 : decode cX3_append 70 = .ok (.land, 1) := by decide +kernel
theorem dX3_append_71 : decode cX3_append 71 = .ok (.l2i, 1) := by decide +kernel
theorem dX3_append_72 : decode cX3_append 72 = .ok (.i2c, 1) := by decide +kernel
theorem dX3_append_73 : decode cX3_append 73 = .ok (.castore, 1) := by decide +kernel
theorem dX3_append_74 : decode cX3_append 74 = .ok (.lload 4, 2) := by decide +kernel
theorem dX3_append_76 : decode cX3_append 76 = .ok (.bipush 8, 2) := by decide +kernel
theorem dX3_append_78 : decode cX3_append 78 = .ok (.lushr, 1) := by decide +kernel
theorem dX3_append_79 : decode cX3_append 79 = .ok (.lstore 4, 2) := by decide +kernel
theorem dX3_append_81 : decode cX3_append 81 = .ok (.iinc 6 (-1), 3) := by decide +kernel
theorem dX3_append_84 : decode cX3_append 84 = .ok (.goto (-44), 3) := by decide +kernel
theorem dX3_append_87 : decode cX3_append 87 = .ok (.aload_n 0, 1) := by decide +kernel
theorem dX3_append_88 : decode cX3_append 88 = .ok (.dup, 1) := by decide +kernel
theorem dX3_append_89 : decode cX3_append 89 = .ok (.getfield 23, 3) := by decide +kernel
theorem dX3_append_92 : decode cX3_append 92 = .ok (.iload_n 3, 1) := by decide +kernel
theorem dX3_append_93 : decode cX3_append 93 = .ok (.iadd, 1) := by decide +kernel
theorem dX3_append_94 : decode cX3_append 94 = .ok (.putfield 23, 3) := by decide +kernel
theorem dX3_append_97 : decode cX3_append 97 = .ok (.aload_n 0, 1) := by decide +kernel
theorem dX3_append_98 : decode cX3_append 98 = .ok (.getfield 23, 3) := by decide +kernel
theorem dX3_append_101 : decode cX3_append 101 = .ok (.ireturn, 1) := by decide +kernel
def wp_X3_append_b87 (y1 : Int64) (Q : Int32 → Sg → Prop) (v3 : Int32) (σ : Sg) : Prop := ∀ σ13 : Sg, σ13 = up σ 11 15 0 2 ((σ 11 15 0 2) + v3) → Q (σ13 11 15 0 2) σ13
set_option maxRecDepth 100000 in
set_option maxHeartbeats 4000000 in
theorem g_X3_append_b87 {X : Tx} {Q : Int32 → Sg → Prop} (C : Cx X cX3_append "SweetWraps$Pad" (some .int) 2 46 7 (QI (tE X) Q)) {y1 : Int64} {v3 : Int32} {σ : Sg} (hw : wp_X3_append_b87 y1 Q v3 σ) : G X σ [(0, .ref (ad (tE X) 11 15 0)), (3, .int v3)] [] 87 := by
  unfold wp_X3_append_b87 at hw
  refine gx_aload_n C dX3_append_87 0 rfl ?_
  refine gx_dup C dX3_append_88 rfl ?_
  refine gx_get C okg_15 rfl rfl inX3 (ref := "SweetWraps$Pad") 2 (by decide) bw_150 rfl rfl dX3_append_89 ?_
  refine gx_iload_n C dX3_append_92 1 rfl ?_
  refine gx_iadd C dX3_append_93 ?_
  refine gx_put C okg_15 rfl rfl inX3 tyX3 tyX3_ok nmX3 (ref := "SweetWraps$Pad") 2 (by decide) bw_150 rfl rfl (v := .int ((σ 11 15 0 2) + v3)) rfl rfl (Nat.le_of_ble_eq_true rfl) (upd (σ 11 15 0) 2 ((σ 11 15 0 2) + v3)) rfl dX3_append_94 ?_
  obtain ⟨σ13, e_σ13⟩ : ∃ z : Sg, z = up σ 11 15 0 2 ((σ 11 15 0 2) + v3) := ⟨_, rfl⟩
  replace hw := hw σ13 e_σ13
  refine gx_st e_σ13 ?_
  refine gx_aload_n C dX3_append_97 0 rfl ?_
  refine gx_get C okg_15 rfl rfl inX3 (ref := "SweetWraps$Pad") 2 (by decide) bw_150 rfl rfl dX3_append_98 ?_
  exact gx_iret C rfl rfl dX3_append_101 hw
def st_X3_append_L40 (y1 : Int64) (Q : Int32 → Sg → Prop) (K40 : Int32 → Int64 → Int32 → Sg → Prop) (v3 : Int32) (v4 : Int64) (v6 : Int32) (σ : Sg) : Prop := ((v6 < (σ 11 15 0 2) → wp_X3_append_b87 y1 Q v3 σ) ∧ (¬ v6 < (σ 11 15 0 2) → wp_X5_isIndex v6 (80 : Int32) σ (fun r7 σ8 => ((r7 = 0 → wp_X3_append_b87 y1 Q v3 σ8) ∧ (¬ r7 = 0 → (vp_in v6 80 ∧ ∀ σ10 : Sg, σ10 = up σ8 11 16 0 v6.toNatClampNeg ((Int32.toUInt32 (Int64.toInt32 (v4 &&& (255 : Int64))) % 65536).toInt32) → ∀ u11 : Int64, u11 = (v4.toUInt64 >>> (Int64.toUInt64 (Int32.toInt64 (8 : Int32)) &&& Int64.toUInt64 63)).toInt64 → ∀ z12 : Int32, z12 = v6 + (-1 : Int32) → K40 v3 u11 z12 σ10))))))
def wp_X3_append_L40 (y1 : Int64) (Q : Int32 → Sg → Prop) (v3 : Int32) (v4 : Int64) (v6 : Int32) (σ : Sg) : Prop := ∃ n : Nat, lpN (fun (K : Int32 × Int64 × Int32 × Sg → Prop) (a : Int32 × Int64 × Int32 × Sg) => st_X3_append_L40 y1 Q (fun v3 v4 v6 σ => K (v3, v4, v6, σ)) (a.1) (a.2.1) (a.2.2.1) (a.2.2.2)) n (v3, v4, v6, σ)
set_option maxRecDepth 100000 in
set_option maxHeartbeats 4000000 in
theorem gs_X3_append_L40 {X : Tx} {Q : Int32 → Sg → Prop} (C : Cx X cX3_append "SweetWraps$Pad" (some .int) 2 46 7 (QI (tE X) Q)) {y1 : Int64} {K40 : Int32 → Int64 → Int32 → Sg → Prop} (hK40 : ∀ (v3 : Int32) (v4 : Int64) (v6 : Int32) (σ : Sg), K40 v3 v4 v6 σ → G X σ [(0, .ref (ad (tE X) 11 15 0)), (3, .int v3), (4, .long v4), (6, .int v6)] [] 40) {v3 : Int32} {v4 : Int64} {v6 : Int32} {σ : Sg} (hw : st_X3_append_L40 y1 Q K40 v3 v4 v6 σ) : G X σ [(0, .ref (ad (tE X) 11 15 0)), (3, .int v3), (4, .long v4), (6, .int v6)] [] 40 := by
  unfold st_X3_append_L40 at hw
  refine gx_iload C dX3_append_40 3 rfl ?_
  refine gx_aload_n C dX3_append_42 0 rfl ?_
  refine gx_get C okg_15 rfl rfl inX3 (ref := "SweetWraps$Pad") 2 (by decide) bw_150 rfl rfl dX3_append_43 ?_
  refine gx_icmp_lt (tgt := 87) C dX3_append_46 (by decide) (fun c6 => ?_) (fun c6 => ?_)
  · replace hw := hw.1 c6
    refine gx_sub (lv' := [(0, .ref (ad (tE X) 11 15 0)), (3, .int v3)]) [0, 1] rfl ?_
    exact g_X3_append_b87 C hw
  · replace hw := hw.2 c6
    refine gx_iload C dX3_append_49 3 rfl ?_
    refine gx_bipush (v := (80 : Int32)) C dX3_append_51 (by decide) ?_
    refine gx_ncalli (As := [.int v6, .int (80 : Int32)]) (rest := []) (host := "SweetWraps") C (c_X5_isIndex _ _ hw) (nest_in _ (by decide +kernel)) bw_226 bw_1 bw_227 hyS_X5_isIndex ⟨by decide, by decide⟩ rfl (Nat.le_of_ble_eq_true rfl) dX3_append_53 (fun r7 σ8 hw => ?_)
    refine gx_if_eq (tgt := 87) C dX3_append_56 (by decide) (fun c9 => ?_) (fun c9 => ?_)
    · replace hw := hw.1 c9
      refine gx_sub (lv' := [(0, .ref (ad (tE X) 11 15 0)), (3, .int v3)]) [0, 1] rfl ?_
      exact g_X3_append_b87 C hw
    · replace hw := hw.2 c9
      refine gx_aload_n C dX3_append_59 0 rfl ?_
      refine gx_get C okg_15 rfl rfl inX3 (ref := "SweetWraps$Pad") 0 (by decide) bw_147 rfl rfl dX3_append_60 ?_
      refine gx_iload C dX3_append_63 3 rfl ?_
      refine gx_lload C dX3_append_65 2 rfl ?_
      refine gx_ldc2 C dX3_append_67 bw_522 ?_
      refine gx_land C dX3_append_70 ?_
      refine gx_l2i C dX3_append_71 ?_
      refine gx_i2c C dX3_append_72 ?_
      refine gx_cast C okg_16 (fun _ => rfl) hw.1 _ rfl (y' := ((Int32.toUInt32 (Int64.toInt32 (v4 &&& (255 : Int64))) % 65536).toInt32)) (pk_vc _) dX3_append_73 ?_
      replace hw := hw.2
      obtain ⟨σ10, e_σ10⟩ : ∃ z : Sg, z = up σ8 11 16 0 v6.toNatClampNeg ((Int32.toUInt32 (Int64.toInt32 (v4 &&& (255 : Int64))) % 65536).toInt32) := ⟨_, rfl⟩
      replace hw := hw σ10 e_σ10
      refine gx_st e_σ10 ?_
      refine gx_lload C dX3_append_74 2 rfl ?_
      refine gx_bipush (v := (8 : Int32)) C dX3_append_76 (by decide) ?_
      refine gx_lushr C dX3_append_78 ?_
      obtain ⟨u11, e_u11⟩ : ∃ z : Int64, z = (v4.toUInt64 >>> (Int64.toUInt64 (Int32.toInt64 (8 : Int32)) &&& Int64.toUInt64 63)).toInt64 := ⟨_, rfl⟩
      replace hw := hw u11 e_u11
      refine gx_topl e_u11 ?_
      refine gx_lstore (lv' := [(4, .long u11), (0, .ref (ad (tE X) 11 15 0)), (3, .int v3), (6, .int v6)]) C dX3_append_79 (by decide) rfl ?_
      obtain ⟨z12, e_z12⟩ : ∃ z : Int32, z = v6 + (-1 : Int32) := ⟨_, rfl⟩
      replace hw := hw z12 e_z12
      refine gx_iinc (v := z12) (lv' := [(6, .int z12), (4, .long u11), (0, .ref (ad (tE X) 11 15 0)), (3, .int v3)]) C dX3_append_81 3 rfl (by rw [e_z12]; rfl) (by decide) rfl ?_
      refine gx_goto (tgt := 40) C dX3_append_84 (by decide) ?_
      refine gx_sub (lv' := [(0, .ref (ad (tE X) 11 15 0)), (3, .int v3), (4, .long u11), (6, .int z12)]) [2, 3, 1, 0] rfl ?_
      exact hK40 _ _ _ _ hw
set_option maxRecDepth 100000 in
set_option maxHeartbeats 4000000 in
theorem g_X3_append_L40 {X : Tx} {Q : Int32 → Sg → Prop} (C : Cx X cX3_append "SweetWraps$Pad" (some .int) 2 46 7 (QI (tE X) Q)) {y1 : Int64} {v3 : Int32} {v4 : Int64} {v6 : Int32} {σ : Sg} (hw : wp_X3_append_L40 y1 Q v3 v4 v6 σ) : G X σ [(0, .ref (ad (tE X) 11 15 0)), (3, .int v3), (4, .long v4), (6, .int v6)] [] 40 := by
  obtain ⟨n, hw⟩ := hw
  exact lpN_G (P := (fun (a : Int32 × Int64 × Int32 × Sg) => G X (a.2.2.2) [(0, .ref (ad (tE X) 11 15 0)), (3, .int (a.1)), (4, .long (a.2.1)), (6, .int (a.2.2.1))] [] 40)) (fun K a hK h => gs_X3_append_L40 C (fun v3 v4 v6 σ h => hK (v3, v4, v6, σ) h) h) n _ hw
def wp_X3_append (y1 : Int64) (σ : Sg) (Q : Int32 → Sg → Prop) : Prop := wp_X3_charactersIn y1 σ (fun r1 σ2 => (((1 : Int32) ≤ r1 → ((((σ2 11 15 0 2) + r1) ≤ (80 : Int32) → ∀ z5 : Int32, z5 = (((σ2 11 15 0 2) + r1) - (1 : Int32)) → wp_X3_append_L40 y1 Q r1 y1 z5 σ2) ∧ (¬ ((σ2 11 15 0 2) + r1) ≤ (80 : Int32) → Q (-4 : Int32) σ2))) ∧ (¬ (1 : Int32) ≤ r1 → Q (-2 : Int32) σ2)))
set_option maxRecDepth 100000 in
set_option maxHeartbeats 4000000 in
theorem c_X3_append (l : Launch) (E : Ev) {y1 : Int64} {σ : Sg} {Q : Int32 → Sg → Prop} (hw : wp_X3_append y1 σ Q) : CT l E yX3_append cX3_append 7 (some .int) 2 46 [.ref (ad E 11 15 0), .long y1] σ (QI E Q) := by
  refine CT_of (by decide) (Nat.le_of_ble_eq_true rfl) (fun X h1 h2 C => ?_)
  subst h1; subst h2
  have C : Cx X cX3_append "SweetWraps$Pad" (some .int) 2 46 7 (QI (tE X) Q) := C
  show G X σ [(0, .ref (ad (tE X) 11 15 0)), (1, .long y1)] [] 0
  unfold wp_X3_append at hw
  refine gx_lload_n C dX3_append_0 1 rfl ?_
  refine gx_scalli (As := [.long y1]) (rest := []) C (c_X3_charactersIn _ _ hw) bw_519 bw_520 bw_6 bw_521 hyS_X3_charactersIn ⟨by decide, by decide⟩ rfl (Nat.le_of_ble_eq_true rfl) dX3_append_1 (fun r1 σ2 hw => ?_)
  refine gx_istore_n (lv' := [(3, .int r1), (0, .ref (ad (tE X) 11 15 0)), (1, .long y1)]) C dX3_append_4 (by decide) rfl ?_
  refine gx_iload_n C dX3_append_5 0 rfl ?_
  refine gx_iconst (v := (1 : Int32)) C dX3_append_6 (by decide) ?_
  refine gx_icmp_ge (tgt := 13) C dX3_append_7 (by decide) (fun c3 => ?_) (fun c3 => ?_)
  · replace hw := hw.1 c3
    refine gx_aload_n C dX3_append_13 1 rfl ?_
    refine gx_get C okg_15 rfl rfl inX3 (ref := "SweetWraps$Pad") 2 (by decide) bw_150 rfl rfl dX3_append_14 ?_
    refine gx_iload_n C dX3_append_17 0 rfl ?_
    refine gx_iadd C dX3_append_18 ?_
    refine gx_bipush (v := (80 : Int32)) C dX3_append_19 (by decide) ?_
    refine gx_icmp_le (tgt := 27) C dX3_append_21 (by decide) (fun c4 => ?_) (fun c4 => ?_)
    · replace hw := hw.1 c4
      refine gx_lload_n C dX3_append_27 2 rfl ?_
      refine gx_lstore (lv' := [(4, .long y1), (3, .int r1), (0, .ref (ad (tE X) 11 15 0)), (1, .long y1)]) C dX3_append_28 (by decide) rfl ?_
      refine gx_aload_n C dX3_append_30 2 rfl ?_
      refine gx_get C okg_15 rfl rfl inX3 (ref := "SweetWraps$Pad") 2 (by decide) bw_150 rfl rfl dX3_append_31 ?_
      refine gx_iload_n C dX3_append_34 1 rfl ?_
      refine gx_iadd C dX3_append_35 ?_
      refine gx_iconst (v := (1 : Int32)) C dX3_append_36 (by decide) ?_
      refine gx_isub C dX3_append_37 ?_
      obtain ⟨z5, e_z5⟩ : ∃ z : Int32, z = (((σ2 11 15 0 2) + r1) - (1 : Int32)) := ⟨_, rfl⟩
      replace hw := hw z5 e_z5
      refine gx_top e_z5 ?_
      refine gx_istore (lv' := [(6, .int z5), (4, .long y1), (3, .int r1), (0, .ref (ad (tE X) 11 15 0)), (1, .long y1)]) C dX3_append_38 (by decide) rfl ?_
      refine gx_sub (lv' := [(0, .ref (ad (tE X) 11 15 0)), (3, .int r1), (4, .long y1), (6, .int z5)]) [3, 2, 1, 0] rfl ?_
      exact g_X3_append_L40 C hw
    · replace hw := hw.2 c4
      refine gx_bipush (v := (-4 : Int32)) C dX3_append_24 (by decide) ?_
      exact gx_iret C rfl rfl dX3_append_26 hw
  · replace hw := hw.2 c3
    refine gx_bipush (v := (-2 : Int32)) C dX3_append_10 (by decide) ?_
    exact gx_iret C rfl rfl dX3_append_12 hw
theorem hy_X3_append : yX3_append.cls = "SweetWraps$Pad" ∧ yX3_append.cls ≠ "java/lang/invoke/MethodHandle" ∧ yX3_append.cls ≠ "java/lang/invoke/VarHandle" ∧ (parseMethodDescriptor yX3_append.desc).map (fun d => d.parameters.length) = some 1 := by decide +kernel

theorem dX3_clear_0 : decode cX3_clear 0 = .ok (.aload_n 0, 1) := by decide +kernel
theorem dX3_clear_1 : decode cX3_clear 1 = .ok (.getfield 23, 3) := by decide +kernel
theorem dX3_clear_4 : decode cX3_clear 4 = .ok (.istore_n 1, 1) := by decide +kernel
theorem dX3_clear_5 : decode cX3_clear 5 = .ok (.aload_n 0, 1) := by decide +kernel
theorem dX3_clear_6 : decode cX3_clear 6 = .ok (.iconst 0, 1) := by decide +kernel
theorem dX3_clear_7 : decode cX3_clear 7 = .ok (.putfield 23, 3) := by decide +kernel
theorem dX3_clear_10 : decode cX3_clear 10 = .ok (.iload_n 1, 1) := by decide +kernel
theorem dX3_clear_11 : decode cX3_clear 11 = .ok (.ireturn, 1) := by decide +kernel
def wp_X3_clear (σ : Sg) (Q : Int32 → Sg → Prop) : Prop := ∀ z1 : Int32, z1 = (σ 11 15 0 2) → ∀ σ2 : Sg, σ2 = up σ 11 15 0 2 (0 : Int32) → Q z1 σ2
set_option maxRecDepth 100000 in
set_option maxHeartbeats 4000000 in
theorem c_X3_clear (l : Launch) (E : Ev) {σ : Sg} {Q : Int32 → Sg → Prop} (hw : wp_X3_clear σ Q) : CT l E yX3_clear cX3_clear 2 (some .int) 0 0 [.ref (ad E 11 15 0)] σ (QI E Q) := by
  refine CT_of (by decide) (Nat.le_of_ble_eq_true rfl) (fun X h1 h2 C => ?_)
  subst h1; subst h2
  have C : Cx X cX3_clear "SweetWraps$Pad" (some .int) 0 0 2 (QI (tE X) Q) := C
  show G X σ [(0, .ref (ad (tE X) 11 15 0))] [] 0
  unfold wp_X3_clear at hw
  refine gx_aload_n C dX3_clear_0 0 rfl ?_
  refine gx_get C okg_15 rfl rfl inX3 (ref := "SweetWraps$Pad") 2 (by decide) bw_150 rfl rfl dX3_clear_1 ?_
  obtain ⟨z1, e_z1⟩ : ∃ z : Int32, z = (σ 11 15 0 2) := ⟨_, rfl⟩
  replace hw := hw z1 e_z1
  refine gx_top e_z1 ?_
  refine gx_istore_n (lv' := [(1, .int z1), (0, .ref (ad (tE X) 11 15 0))]) C dX3_clear_4 (by decide) rfl ?_
  refine gx_aload_n C dX3_clear_5 1 rfl ?_
  refine gx_iconst (v := (0 : Int32)) C dX3_clear_6 (by decide) ?_
  refine gx_put C okg_15 rfl rfl inX3 tyX3 tyX3_ok nmX3 (ref := "SweetWraps$Pad") 2 (by decide) bw_150 rfl rfl (v := .int (0 : Int32)) rfl rfl (Nat.le_of_ble_eq_true rfl) (upd (σ 11 15 0) 2 (0 : Int32)) rfl dX3_clear_7 ?_
  obtain ⟨σ2, e_σ2⟩ : ∃ z : Sg, z = up σ 11 15 0 2 (0 : Int32) := ⟨_, rfl⟩
  replace hw := hw σ2 e_σ2
  refine gx_st e_σ2 ?_
  refine gx_iload_n C dX3_clear_10 0 rfl ?_
  exact gx_iret C rfl rfl dX3_clear_11 hw
theorem hy_X3_clear : yX3_clear.cls = "SweetWraps$Pad" ∧ yX3_clear.cls ≠ "java/lang/invoke/MethodHandle" ∧ yX3_clear.cls ≠ "java/lang/invoke/VarHandle" ∧ (parseMethodDescriptor yX3_clear.desc).map (fun d => d.parameters.length) = some 0 := by decide +kernel

theorem dX3_startReading_0 : decode cX3_startReading 0 = .ok (.aload_n 0, 1) := by decide +kernel
theorem dX3_startReading_1 : decode cX3_startReading 1 = .ok (.iconst 0, 1) := by decide +kernel
theorem dX3_startReading_2 : decode cX3_startReading 2 = .ok (.putfield 44, 3) := by decide +kernel
theorem dX3_startReading_5 : decode cX3_startReading 5 = .ok (.return_, 1) := by decide +kernel
def wp_X3_startReading (σ : Sg) (Q : Sg → Prop) : Prop := ∀ σ1 : Sg, σ1 = up σ 11 15 0 3 (0 : Int32) → Q σ1
set_option maxRecDepth 100000 in
set_option maxHeartbeats 4000000 in
theorem c_X3_startReading (l : Launch) (E : Ev) {σ : Sg} {Q : Sg → Prop} (hw : wp_X3_startReading σ Q) : CT l E yX3_startReading cX3_startReading 1 none 0 0 [.ref (ad E 11 15 0)] σ (QV E Q) := by
  refine CT_of (by decide) (Nat.le_of_ble_eq_true rfl) (fun X h1 h2 C => ?_)
  subst h1; subst h2
  have C : Cx X cX3_startReading "SweetWraps$Pad" none 0 0 1 (QV (tE X) Q) := C
  show G X σ [(0, .ref (ad (tE X) 11 15 0))] [] 0
  unfold wp_X3_startReading at hw
  refine gx_aload_n C dX3_startReading_0 0 rfl ?_
  refine gx_iconst (v := (0 : Int32)) C dX3_startReading_1 (by decide) ?_
  refine gx_put C okg_15 rfl rfl inX3 tyX3 tyX3_ok nmX3 (ref := "SweetWraps$Pad") 3 (by decide) bw_152 rfl rfl (v := .int (0 : Int32)) rfl rfl (Nat.le_of_ble_eq_true rfl) (upd (σ 11 15 0) 3 (0 : Int32)) rfl dX3_startReading_2 ?_
  obtain ⟨σ1, e_σ1⟩ : ∃ z : Sg, z = up σ 11 15 0 3 (0 : Int32) := ⟨_, rfl⟩
  replace hw := hw σ1 e_σ1
  refine gx_st e_σ1 ?_
  exact gx_vret C dX3_startReading_5 hw
theorem hy_X3_startReading : yX3_startReading.cls = "SweetWraps$Pad" ∧ yX3_startReading.cls ≠ "java/lang/invoke/MethodHandle" ∧ yX3_startReading.cls ≠ "java/lang/invoke/VarHandle" ∧ (parseMethodDescriptor yX3_startReading.desc).map (fun d => d.parameters.length) = some 0 := by decide +kernel

theorem dX3_signHere_0 : decode cX3_signHere 0 = .ok (.aload_n 0, 1) := by decide +kernel
theorem dX3_signHere_1 : decode cX3_signHere 1 = .ok (.getfield 44, 3) := by decide +kernel
theorem dX3_signHere_4 : decode cX3_signHere 4 = .ok (.ifCond .lt 35, 3) := by decide +kernel
theorem dX3_signHere_7 : decode cX3_signHere 7 = .ok (.aload_n 0, 1) := by decide +kernel
theorem dX3_signHere_8 : decode cX3_signHere 8 = .ok (.getfield 44, 3) := by decide +kernel
theorem dX3_signHere_11 : decode cX3_signHere 11 = .ok (.aload_n 0, 1) := by decide +kernel
theorem dX3_signHere_12 : decode cX3_signHere 12 = .ok (.getfield 23, 3) := by decide +kernel
theorem dX3_signHere_15 : decode cX3_signHere 15 = .ok (.if_icmp .ge 24, 3) := by decide +kernel
theorem dX3_signHere_18 : decode cX3_signHere 18 = .ok (.aload_n 0, 1) := by decide +kernel
theorem dX3_signHere_19 : decode cX3_signHere 19 = .ok (.getfield 44, 3) := by decide +kernel
theorem dX3_signHere_22 : decode cX3_signHere 22 = .ok (.bipush 80, 2) := by decide +kernel
theorem dX3_signHere_24 : decode cX3_signHere 24 = .ok (.if_icmp .ge 15, 3) := by decide +kernel
theorem dX3_signHere_27 : decode cX3_signHere 27 = .ok (.aload_n 0, 1) := by decide +kernel
theorem dX3_signHere_28 : decode cX3_signHere 28 = .ok (.getfield 9, 3) := by decide +kernel
theorem dX3_signHere_31 : decode cX3_signHere 31 = .ok (.aload_n 0, 1) := by decide +kernel
theorem dX3_signHere_32 : decode cX3_signHere 32 = .ok (.getfield 44, 3) := by decide +kernel
theorem dX3_signHere_35 : decode cX3_signHere 35 = .ok (.caload, 1) := by decide +kernel
theorem dX3_signHere_36 : decode cX3_signHere 36 = .ok (.goto 4, 3) := by decide +kernel
theorem dX3_signHere_39 : decode cX3_signHere 39 = .ok (.iconst 0, 1) := by decide +kernel
theorem dX3_signHere_40 : decode cX3_signHere 40 = .ok (.ireturn, 1) := by decide +kernel
def wp_X3_signHere (σ : Sg) (Q : Int32 → Sg → Prop) : Prop := (((σ 11 15 0 3) < 0 → Q (0 : Int32) σ) ∧ (¬ (σ 11 15 0 3) < 0 → (((σ 11 15 0 2) ≤ (σ 11 15 0 3) → Q (0 : Int32) σ) ∧ (¬ (σ 11 15 0 2) ≤ (σ 11 15 0 3) → (((80 : Int32) ≤ (σ 11 15 0 3) → Q (0 : Int32) σ) ∧ (¬ (80 : Int32) ≤ (σ 11 15 0 3) → (vp_in (σ 11 15 0 3) 80 ∧ Q (σ 11 16 0 (σ 11 15 0 3).toNatClampNeg) σ)))))))
set_option maxRecDepth 100000 in
set_option maxHeartbeats 4000000 in
theorem c_X3_signHere (l : Launch) (E : Ev) {σ : Sg} {Q : Int32 → Sg → Prop} (hw : wp_X3_signHere σ Q) : CT l E yX3_signHere cX3_signHere 1 (some .int) 0 0 [.ref (ad E 11 15 0)] σ (QI E Q) := by
  refine CT_of (by decide) (Nat.le_of_ble_eq_true rfl) (fun X h1 h2 C => ?_)
  subst h1; subst h2
  have C : Cx X cX3_signHere "SweetWraps$Pad" (some .int) 0 0 1 (QI (tE X) Q) := C
  show G X σ [(0, .ref (ad (tE X) 11 15 0))] [] 0
  unfold wp_X3_signHere at hw
  refine gx_aload_n C dX3_signHere_0 0 rfl ?_
  refine gx_get C okg_15 rfl rfl inX3 (ref := "SweetWraps$Pad") 3 (by decide) bw_152 rfl rfl dX3_signHere_1 ?_
  refine gx_if_lt (tgt := 39) C dX3_signHere_4 (by decide) (fun c1 => ?_) (fun c1 => ?_)
  · replace hw := hw.1 c1
    refine gx_iconst (v := (0 : Int32)) C dX3_signHere_39 (by decide) ?_
    exact gx_iret C rfl rfl dX3_signHere_40 hw
  · replace hw := hw.2 c1
    refine gx_aload_n C dX3_signHere_7 0 rfl ?_
    refine gx_get C okg_15 rfl rfl inX3 (ref := "SweetWraps$Pad") 3 (by decide) bw_152 rfl rfl dX3_signHere_8 ?_
    refine gx_aload_n C dX3_signHere_11 0 rfl ?_
    refine gx_get C okg_15 rfl rfl inX3 (ref := "SweetWraps$Pad") 2 (by decide) bw_150 rfl rfl dX3_signHere_12 ?_
    refine gx_icmp_ge (tgt := 39) C dX3_signHere_15 (by decide) (fun c2 => ?_) (fun c2 => ?_)
    · replace hw := hw.1 c2
      refine gx_iconst (v := (0 : Int32)) C dX3_signHere_39 (by decide) ?_
      exact gx_iret C rfl rfl dX3_signHere_40 hw
    · replace hw := hw.2 c2
      refine gx_aload_n C dX3_signHere_18 0 rfl ?_
      refine gx_get C okg_15 rfl rfl inX3 (ref := "SweetWraps$Pad") 3 (by decide) bw_152 rfl rfl dX3_signHere_19 ?_
      refine gx_bipush (v := (80 : Int32)) C dX3_signHere_22 (by decide) ?_
      refine gx_icmp_ge (tgt := 39) C dX3_signHere_24 (by decide) (fun c3 => ?_) (fun c3 => ?_)
      · replace hw := hw.1 c3
        refine gx_iconst (v := (0 : Int32)) C dX3_signHere_39 (by decide) ?_
        exact gx_iret C rfl rfl dX3_signHere_40 hw
      · replace hw := hw.2 c3
        refine gx_aload_n C dX3_signHere_27 0 rfl ?_
        refine gx_get C okg_15 rfl rfl inX3 (ref := "SweetWraps$Pad") 0 (by decide) bw_147 rfl rfl dX3_signHere_28 ?_
        refine gx_aload_n C dX3_signHere_31 0 rfl ?_
        refine gx_get C okg_15 rfl rfl inX3 (ref := "SweetWraps$Pad") 3 (by decide) bw_152 rfl rfl dX3_signHere_32 ?_
        refine gx_cald C okg_16 rfl hw.1 _ rfl dX3_signHere_35 ?_
        replace hw := hw.2
        refine gx_goto (tgt := 40) C dX3_signHere_36 (by decide) ?_
        exact gx_iret C rfl rfl dX3_signHere_40 hw
theorem hy_X3_signHere : yX3_signHere.cls = "SweetWraps$Pad" ∧ yX3_signHere.cls ≠ "java/lang/invoke/MethodHandle" ∧ yX3_signHere.cls ≠ "java/lang/invoke/VarHandle" ∧ (parseMethodDescriptor yX3_signHere.desc).map (fun d => d.parameters.length) = some 0 := by decide +kernel

theorem dX3_isDigitHere_0 : decode cX3_isDigitHere 0 = .ok (.aload_n 0, 1) := by decide +kernel
theorem dX3_isDigitHere_1 : decode cX3_isDigitHere 1 = .ok (.invokevirtual 51, 3) := by decide +kernel
theorem dX3_isDigitHere_4 : decode cX3_isDigitHere 4 = .ok (.bipush 48, 2) := by decide +kernel
theorem dX3_isDigitHere_6 : decode cX3_isDigitHere 6 = .ok (.bipush 57, 2) := by decide +kernel
theorem dX3_isDigitHere_8 : decode cX3_isDigitHere 8 = .ok (.invokestatic 33, 3) := by decide +kernel
theorem dX3_isDigitHere_11 : decode cX3_isDigitHere 11 = .ok (.ireturn, 1) := by decide +kernel
def wp_X3_isDigitHere (σ : Sg) (Q : Int32 → Sg → Prop) : Prop := wp_X3_signHere σ (fun r1 σ2 => wp_X5_isBetween r1 (48 : Int32) (57 : Int32) σ2 (fun r3 σ4 => (r3 = 0 ∨ r3 = 1) ∧ Q r3 σ4))
set_option maxRecDepth 100000 in
set_option maxHeartbeats 4000000 in
theorem c_X3_isDigitHere (l : Launch) (E : Ev) {σ : Sg} {Q : Int32 → Sg → Prop} (hw : wp_X3_isDigitHere σ Q) : CT l E yX3_isDigitHere cX3_isDigitHere 1 (some .boolean) 1 22 [.ref (ad E 11 15 0)] σ (QI E Q) := by
  refine CT_of (by decide) (Nat.le_of_ble_eq_true rfl) (fun X h1 h2 C => ?_)
  subst h1; subst h2
  have C : Cx X cX3_isDigitHere "SweetWraps$Pad" (some .boolean) 1 22 1 (QI (tE X) Q) := C
  show G X σ [(0, .ref (ad (tE X) 11 15 0))] [] 0
  unfold wp_X3_isDigitHere at hw
  refine gx_aload_n C dX3_isDigitHere_0 0 rfl ?_
  refine gx_vcalli (As := []) (rest := []) C (c_X3_signHere _ _ hw) okg_15 rfl rfl bw_549 bw_551 bs_20 bw_6 bw_552 hy_X3_signHere ⟨by decide, by decide⟩ rfl (Nat.le_of_ble_eq_true rfl) dX3_isDigitHere_1 (fun r1 σ2 hw => ?_)
  refine gx_bipush (v := (48 : Int32)) C dX3_isDigitHere_4 (by decide) ?_
  refine gx_bipush (v := (57 : Int32)) C dX3_isDigitHere_6 (by decide) ?_
  refine gx_ncalli (As := [.int r1, .int (48 : Int32), .int (57 : Int32)]) (rest := []) (host := "SweetWraps") C (c_X5_isBetween _ _ hw) (nest_in _ (by decide +kernel)) bw_233 bw_1 bw_234 hyS_X5_isBetween ⟨by decide, by decide⟩ rfl (Nat.le_of_ble_eq_true rfl) dX3_isDigitHere_8 (fun r3 σ4 hw => ?_)
  exact gx_iret C rfl (nb_bool hw.1) dX3_isDigitHere_11 hw.2
theorem hy_X3_isDigitHere : yX3_isDigitHere.cls = "SweetWraps$Pad" ∧ yX3_isDigitHere.cls ≠ "java/lang/invoke/MethodHandle" ∧ yX3_isDigitHere.cls ≠ "java/lang/invoke/VarHandle" ∧ (parseMethodDescriptor yX3_isDigitHere.desc).map (fun d => d.parameters.length) = some 0 := by decide +kernel

theorem dX3_keepValue_0 : decode cX3_keepValue 0 = .ok (.aload_n 0, 1) := by decide +kernel
theorem dX3_keepValue_1 : decode cX3_keepValue 1 = .ok (.getfield 58, 3) := by decide +kernel
theorem dX3_keepValue_4 : decode cX3_keepValue 4 = .ok (.iconst 3, 1) := by decide +kernel
theorem dX3_keepValue_5 : decode cX3_keepValue 5 = .ok (.invokestatic 27, 3) := by decide +kernel
theorem dX3_keepValue_8 : decode cX3_keepValue 8 = .ok (.ifCond .ne 4, 3) := by decide +kernel
theorem dX3_keepValue_11 : decode cX3_keepValue 11 = .ok (.return_, 1) := by decide +kernel
theorem dX3_keepValue_12 : decode cX3_keepValue 12 = .ok (.aload_n 0, 1) := by decide +kernel
theorem dX3_keepValue_13 : decode cX3_keepValue 13 = .ok (.getfield 15, 3) := by decide +kernel
theorem dX3_keepValue_16 : decode cX3_keepValue 16 = .ok (.aload_n 0, 1) := by decide +kernel
theorem dX3_keepValue_17 : decode cX3_keepValue 17 = .ok (.getfield 58, 3) := by decide +kernel
theorem dX3_keepValue_20 : decode cX3_keepValue 20 = .ok (.iload_n 1, 1) := by decide +kernel
theorem dX3_keepValue_21 : decode cX3_keepValue 21 = .ok (.iastore, 1) := by decide +kernel
theorem dX3_keepValue_22 : decode cX3_keepValue 22 = .ok (.aload_n 0, 1) := by decide +kernel
theorem dX3_keepValue_23 : decode cX3_keepValue 23 = .ok (.dup, 1) := by decide +kernel
theorem dX3_keepValue_24 : decode cX3_keepValue 24 = .ok (.getfield 58, 3) := by decide +kernel
theorem dX3_keepValue_27 : decode cX3_keepValue 27 = .ok (.iconst 1, 1) := by decide +kernel
theorem dX3_keepValue_28 : decode cX3_keepValue 28 = .ok (.iadd, 1) := by decide +kernel
theorem dX3_keepValue_29 : decode cX3_keepValue 29 = .ok (.putfield 58, 3) := by decide +kernel
theorem dX3_keepValue_32 : decode cX3_keepValue 32 = .ok (.return_, 1) := by decide +kernel
def wp_X3_keepValue (x1 : Int32) (σ : Sg) (Q : Sg → Prop) : Prop := wp_X5_isIndex (σ 11 15 0 5) (3 : Int32) σ (fun r1 σ2 => ((¬ r1 = 0 → (vp_in (σ2 11 15 0 5) 3 ∧ ∀ σ4 : Sg, σ4 = up σ2 11 17 0 (σ2 11 15 0 5).toNatClampNeg x1 → ∀ σ5 : Sg, σ5 = up σ4 11 15 0 5 ((σ4 11 15 0 5) + (1 : Int32)) → Q σ5)) ∧ (r1 = 0 → Q σ2)))
set_option maxRecDepth 100000 in
set_option maxHeartbeats 4000000 in
theorem c_X3_keepValue (l : Launch) (E : Ev) {x1 : Int32} {σ : Sg} {Q : Sg → Prop} (hw : wp_X3_keepValue x1 σ Q) : CT l E yX3_keepValue cX3_keepValue 2 none 1 21 [.ref (ad E 11 15 0), .int x1] σ (QV E Q) := by
  refine CT_of (by decide) (Nat.le_of_ble_eq_true rfl) (fun X h1 h2 C => ?_)
  subst h1; subst h2
  have C : Cx X cX3_keepValue "SweetWraps$Pad" none 1 21 2 (QV (tE X) Q) := C
  show G X σ [(0, .ref (ad (tE X) 11 15 0)), (1, .int x1)] [] 0
  unfold wp_X3_keepValue at hw
  refine gx_aload_n C dX3_keepValue_0 0 rfl ?_
  refine gx_get C okg_15 rfl rfl inX3 (ref := "SweetWraps$Pad") 5 (by decide) bw_155 rfl rfl dX3_keepValue_1 ?_
  refine gx_iconst (v := (3 : Int32)) C dX3_keepValue_4 (by decide) ?_
  refine gx_ncalli (As := [.int (σ 11 15 0 5), .int (3 : Int32)]) (rest := []) (host := "SweetWraps") C (c_X5_isIndex _ _ hw) (nest_in _ (by decide +kernel)) bw_226 bw_1 bw_227 hyS_X5_isIndex ⟨by decide, by decide⟩ rfl (Nat.le_of_ble_eq_true rfl) dX3_keepValue_5 (fun r1 σ2 hw => ?_)
  refine gx_if_ne (tgt := 12) C dX3_keepValue_8 (by decide) (fun c3 => ?_) (fun c3 => ?_)
  · replace hw := hw.1 c3
    refine gx_aload_n C dX3_keepValue_12 0 rfl ?_
    refine gx_get C okg_15 rfl rfl inX3 (ref := "SweetWraps$Pad") 1 (by decide) bw_148 rfl rfl dX3_keepValue_13 ?_
    refine gx_aload_n C dX3_keepValue_16 0 rfl ?_
    refine gx_get C okg_15 rfl rfl inX3 (ref := "SweetWraps$Pad") 5 (by decide) bw_155 rfl rfl dX3_keepValue_17 ?_
    refine gx_iload_n C dX3_keepValue_20 1 rfl ?_
    refine gx_iast C okg_17 (fun _ => rfl) hw.1 _ rfl rfl dX3_keepValue_21 ?_
    replace hw := hw.2
    obtain ⟨σ4, e_σ4⟩ : ∃ z : Sg, z = up σ2 11 17 0 (σ2 11 15 0 5).toNatClampNeg x1 := ⟨_, rfl⟩
    replace hw := hw σ4 e_σ4
    refine gx_st e_σ4 ?_
    refine gx_aload_n C dX3_keepValue_22 0 rfl ?_
    refine gx_dup C dX3_keepValue_23 rfl ?_
    refine gx_get C okg_15 rfl rfl inX3 (ref := "SweetWraps$Pad") 5 (by decide) bw_155 rfl rfl dX3_keepValue_24 ?_
    refine gx_iconst (v := (1 : Int32)) C dX3_keepValue_27 (by decide) ?_
    refine gx_iadd C dX3_keepValue_28 ?_
    refine gx_put C okg_15 rfl rfl inX3 tyX3 tyX3_ok nmX3 (ref := "SweetWraps$Pad") 5 (by decide) bw_155 rfl rfl (v := .int ((σ4 11 15 0 5) + (1 : Int32))) rfl rfl (Nat.le_of_ble_eq_true rfl) (upd (σ4 11 15 0) 5 ((σ4 11 15 0 5) + (1 : Int32))) rfl dX3_keepValue_29 ?_
    obtain ⟨σ5, e_σ5⟩ : ∃ z : Sg, z = up σ4 11 15 0 5 ((σ4 11 15 0 5) + (1 : Int32)) := ⟨_, rfl⟩
    replace hw := hw σ5 e_σ5
    refine gx_st e_σ5 ?_
    exact gx_vret C dX3_keepValue_32 hw
  · replace hw := hw.2 c3
    exact gx_vret C dX3_keepValue_11 hw
theorem hy_X3_keepValue : yX3_keepValue.cls = "SweetWraps$Pad" ∧ yX3_keepValue.cls ≠ "java/lang/invoke/MethodHandle" ∧ yX3_keepValue.cls ≠ "java/lang/invoke/VarHandle" ∧ (parseMethodDescriptor yX3_keepValue.desc).map (fun d => d.parameters.length) = some 1 := by decide +kernel

theorem dX3_readDigit_0 : decode cX3_readDigit 0 = .ok (.aload_n 0, 1) := by decide +kernel
theorem dX3_readDigit_1 : decode cX3_readDigit 1 = .ok (.invokevirtual 99, 3) := by decide +kernel
theorem dX3_readDigit_4 : decode cX3_readDigit 4 = .ok (.ifCond .ne 5, 3) := by decide +kernel
theorem dX3_readDigit_7 : decode cX3_readDigit 7 = .ok (.iconst 0, 1) := by decide +kernel
theorem dX3_readDigit_8 : decode cX3_readDigit 8 = .ok (.ireturn, 1) := by decide +kernel
theorem dX3_readDigit_9 : decode cX3_readDigit 9 = .ok (.aload_n 0, 1) := by decide +kernel
theorem dX3_readDigit_10 : decode cX3_readDigit 10 = .ok (.aload_n 0, 1) := by decide +kernel
theorem dX3_readDigit_11 : decode cX3_readDigit 11 = .ok (.invokevirtual 51, 3) := by decide +kernel
theorem dX3_readDigit_14 : decode cX3_readDigit 14 = .ok (.bipush 48, 2) := by decide +kernel
theorem dX3_readDigit_16 : decode cX3_readDigit 16 = .ok (.isub, 1) := by decide +kernel
theorem dX3_readDigit_17 : decode cX3_readDigit 17 = .ok (.invokevirtual 102, 3) := by decide +kernel
theorem dX3_readDigit_20 : decode cX3_readDigit 20 = .ok (.aload_n 0, 1) := by decide +kernel
theorem dX3_readDigit_21 : decode cX3_readDigit 21 = .ok (.dup, 1) := by decide +kernel
theorem dX3_readDigit_22 : decode cX3_readDigit 22 = .ok (.getfield 44, 3) := by decide +kernel
theorem dX3_readDigit_25 : decode cX3_readDigit 25 = .ok (.iconst 1, 1) := by decide +kernel
theorem dX3_readDigit_26 : decode cX3_readDigit 26 = .ok (.iadd, 1) := by decide +kernel
theorem dX3_readDigit_27 : decode cX3_readDigit 27 = .ok (.putfield 44, 3) := by decide +kernel
theorem dX3_readDigit_30 : decode cX3_readDigit 30 = .ok (.iconst 1, 1) := by decide +kernel
theorem dX3_readDigit_31 : decode cX3_readDigit 31 = .ok (.ireturn, 1) := by decide +kernel
def wp_X3_readDigit (σ : Sg) (Q : Int32 → Sg → Prop) : Prop := wp_X3_isDigitHere σ (fun r1 σ2 => ((¬ r1 = 0 → wp_X3_signHere σ2 (fun r4 σ5 => wp_X3_keepValue (r4 - (48 : Int32)) σ5 (fun σ6 => ∀ σ7 : Sg, σ7 = up σ6 11 15 0 3 ((σ6 11 15 0 3) + (1 : Int32)) → Q (1 : Int32) σ7))) ∧ (r1 = 0 → Q (0 : Int32) σ2)))
set_option maxRecDepth 100000 in
set_option maxHeartbeats 4000000 in
theorem c_X3_readDigit (l : Launch) (E : Ev) {σ : Sg} {Q : Int32 → Sg → Prop} (hw : wp_X3_readDigit σ Q) : CT l E yX3_readDigit cX3_readDigit 1 (some .boolean) 2 42 [.ref (ad E 11 15 0)] σ (QI E Q) := by
  refine CT_of (by decide) (Nat.le_of_ble_eq_true rfl) (fun X h1 h2 C => ?_)
  subst h1; subst h2
  have C : Cx X cX3_readDigit "SweetWraps$Pad" (some .boolean) 2 42 1 (QI (tE X) Q) := C
  show G X σ [(0, .ref (ad (tE X) 11 15 0))] [] 0
  unfold wp_X3_readDigit at hw
  refine gx_aload_n C dX3_readDigit_0 0 rfl ?_
  refine gx_vcalli (As := []) (rest := []) C (c_X3_isDigitHere _ _ hw) okg_15 rfl rfl bw_619 bw_621 bs_23 bw_6 bw_622 hy_X3_isDigitHere ⟨by decide, by decide⟩ rfl (Nat.le_of_ble_eq_true rfl) dX3_readDigit_1 (fun r1 σ2 hw => ?_)
  refine gx_if_ne (tgt := 9) C dX3_readDigit_4 (by decide) (fun c3 => ?_) (fun c3 => ?_)
  · replace hw := hw.1 c3
    refine gx_aload_n C dX3_readDigit_9 0 rfl ?_
    refine gx_aload_n C dX3_readDigit_10 0 rfl ?_
    refine gx_vcalli (As := []) (rest := [.ref (ad (tE X) 11 15 0)]) C (c_X3_signHere _ _ hw) okg_15 rfl rfl bw_549 bw_551 bs_20 bw_6 bw_552 hy_X3_signHere ⟨by decide, by decide⟩ rfl (Nat.le_of_ble_eq_true rfl) dX3_readDigit_11 (fun r4 σ5 hw => ?_)
    refine gx_bipush (v := (48 : Int32)) C dX3_readDigit_14 (by decide) ?_
    refine gx_isub C dX3_readDigit_16 ?_
    refine gx_vcallv (As := [.int (r4 - (48 : Int32))]) (rest := []) C (c_X3_keepValue _ _ hw) okg_15 rfl rfl bw_623 bw_625 bs_24 bw_6 bw_626 hy_X3_keepValue ⟨by decide, by decide⟩ rfl (Nat.le_of_ble_eq_true rfl) dX3_readDigit_17 (fun σ6 hw => ?_)
    refine gx_aload_n C dX3_readDigit_20 0 rfl ?_
    refine gx_dup C dX3_readDigit_21 rfl ?_
    refine gx_get C okg_15 rfl rfl inX3 (ref := "SweetWraps$Pad") 3 (by decide) bw_152 rfl rfl dX3_readDigit_22 ?_
    refine gx_iconst (v := (1 : Int32)) C dX3_readDigit_25 (by decide) ?_
    refine gx_iadd C dX3_readDigit_26 ?_
    refine gx_put C okg_15 rfl rfl inX3 tyX3 tyX3_ok nmX3 (ref := "SweetWraps$Pad") 3 (by decide) bw_152 rfl rfl (v := .int ((σ6 11 15 0 3) + (1 : Int32))) rfl rfl (Nat.le_of_ble_eq_true rfl) (upd (σ6 11 15 0) 3 ((σ6 11 15 0 3) + (1 : Int32))) rfl dX3_readDigit_27 ?_
    obtain ⟨σ7, e_σ7⟩ : ∃ z : Sg, z = up σ6 11 15 0 3 ((σ6 11 15 0 3) + (1 : Int32)) := ⟨_, rfl⟩
    replace hw := hw σ7 e_σ7
    refine gx_st e_σ7 ?_
    refine gx_iconst (v := (1 : Int32)) C dX3_readDigit_30 (by decide) ?_
    exact gx_iret C rfl rfl dX3_readDigit_31 hw
  · replace hw := hw.2 c3
    refine gx_iconst (v := (0 : Int32)) C dX3_readDigit_7 (by decide) ?_
    exact gx_iret C rfl rfl dX3_readDigit_8 hw
theorem hy_X3_readDigit : yX3_readDigit.cls = "SweetWraps$Pad" ∧ yX3_readDigit.cls ≠ "java/lang/invoke/MethodHandle" ∧ yX3_readDigit.cls ≠ "java/lang/invoke/VarHandle" ∧ (parseMethodDescriptor yX3_readDigit.desc).map (fun d => d.parameters.length) = some 0 := by decide +kernel

theorem dX3_readNumber_0 : decode cX3_readNumber 0 = .ok (.aload_n 0, 1) := by decide +kernel
theorem dX3_readNumber_1 : decode cX3_readNumber 1 = .ok (.invokevirtual 99, 3) := by decide +kernel
theorem dX3_readNumber_4 : decode cX3_readNumber 4 = .ok (.ifCond .ne 5, 3) := by decide +kernel
theorem dX3_readNumber_7 : decode cX3_readNumber 7 = .ok (.iconst 0, 1) := by decide +kernel
theorem dX3_readNumber_8 : decode cX3_readNumber 8 = .ok (.ireturn, 1) := by decide +kernel
theorem dX3_readNumber_9 : decode cX3_readNumber 9 = .ok (.aload_n 0, 1) := by decide +kernel
theorem dX3_readNumber_10 : decode cX3_readNumber 10 = .ok (.invokevirtual 51, 3) := by decide +kernel
theorem dX3_readNumber_13 : decode cX3_readNumber 13 = .ok (.bipush 48, 2) := by decide +kernel
theorem dX3_readNumber_15 : decode cX3_readNumber 15 = .ok (.isub, 1) := by decide +kernel
theorem dX3_readNumber_16 : decode cX3_readNumber 16 = .ok (.istore_n 1, 1) := by decide +kernel
theorem dX3_readNumber_17 : decode cX3_readNumber 17 = .ok (.aload_n 0, 1) := by decide +kernel
theorem dX3_readNumber_18 : decode cX3_readNumber 18 = .ok (.dup, 1) := by decide +kernel
theorem dX3_readNumber_19 : decode cX3_readNumber 19 = .ok (.getfield 44, 3) := by decide +kernel
theorem dX3_readNumber_22 : decode cX3_readNumber 22 = .ok (.iconst 1, 1) := by decide +kernel
theorem dX3_readNumber_23 : decode cX3_readNumber 23 = .ok (.iadd, 1) := by decide +kernel
theorem dX3_readNumber_24 : decode cX3_readNumber 24 = .ok (.putfield 44, 3) := by decide +kernel
theorem dX3_readNumber_27 : decode cX3_readNumber 27 = .ok (.aload_n 0, 1) := by decide +kernel
theorem dX3_readNumber_28 : decode cX3_readNumber 28 = .ok (.getfield 44, 3) := by decide +kernel
theorem dX3_readNumber_31 : decode cX3_readNumber 31 = .ok (.aload_n 0, 1) := by decide +kernel
theorem dX3_readNumber_32 : decode cX3_readNumber 32 = .ok (.getfield 23, 3) := by decide +kernel
theorem dX3_readNumber_35 : decode cX3_readNumber 35 = .ok (.if_icmp .ge 51, 3) := by decide +kernel
theorem dX3_readNumber_38 : decode cX3_readNumber 38 = .ok (.aload_n 0, 1) := by decide +kernel
theorem dX3_readNumber_39 : decode cX3_readNumber 39 = .ok (.invokevirtual 99, 3) := by decide +kernel
theorem dX3_readNumber_42 : decode cX3_readNumber 42 = .ok (.ifCond .eq 44, 3) := by decide +kernel
theorem dX3_readNumber_45 : decode cX3_readNumber 45 = .ok (.iload_n 1, 1) := by decide +kernel
theorem dX3_readNumber_46 : decode cX3_readNumber 46 = .ok (.bipush 10, 2) := by decide +kernel
theorem dX3_readNumber_48 : decode cX3_readNumber 48 = .ok (.imul, 1) := by decide +kernel
theorem dX3_readNumber_49 : decode cX3_readNumber 49 = .ok (.aload_n 0, 1) := by decide +kernel
theorem dX3_readNumber_50 : decode cX3_readNumber 50 = .ok (.invokevirtual 51, 3) := by decide +kernel
theorem dX3_readNumber_53 : decode cX3_readNumber 53 = .ok (.iadd, 1) := by decide +kernel
theorem dX3_readNumber_54 : decode cX3_readNumber 54 = .ok (.bipush 48, 2) := by decide +kernel
theorem dX3_readNumber_56 : decode cX3_readNumber 56 = .ok (.isub, 1) := by decide +kernel
theorem dX3_readNumber_57 : decode cX3_readNumber 57 = .ok (.istore_n 2, 1) := by decide +kernel
theorem dX3_readNumber_58 : decode cX3_readNumber 58 = .ok (.iload_n 1, 1) := by decide +kernel
theorem dX3_readNumber_59 : decode cX3_readNumber 59 = .ok (.ifCond .eq 10, 3) := by decide +kernel
theorem dX3_readNumber_62 : decode cX3_readNumber 62 = .ok (.iload_n 2, 1) := by decide +kernel
theorem dX3_readNumber_63 : decode cX3_readNumber 63 = .ok (.sipush 999, 3) := by decide +kernel
theorem dX3_readNumber_66 : decode cX3_readNumber 66 = .ok (.if_icmp .le 5, 3) := by decide +kernel
theorem dX3_readNumber_69 : decode cX3_readNumber 69 = .ok (.iconst 0, 1) := by decide +kernel
theorem dX3_readNumber_70 : decode cX3_readNumber 70 = .ok (.ireturn, 1) := by decide +kernel
theorem dX3_readNumber_71 : decode cX3_readNumber 71 = .ok (.iload_n 2, 1) := by decide +kernel
theorem dX3_readNumber_72 : decode cX3_readNumber 72 = .ok (.istore_n 1, 1) := by decide +kernel
theorem dX3_readNumber_73 : decode cX3_readNumber 73 = .ok (.aload_n 0, 1) := by decide +kernel
theorem dX3_readNumber_74 : decode cX3_readNumber 74 = .ok (.dup, 1) := by decide +kernel
theorem dX3_readNumber_75 : decode cX3_readNumber 75 = .ok (.getfield 44, 3) := by decide +kernel
theorem dX3_readNumber_78 : decode cX3_readNumber 78 = .ok (.iconst 1, 1) := by decide +kernel
theorem dX3_readNumber_79 : decode cX3_readNumber 79 = .ok (.iadd, 1) := by decide +kernel
theorem dX3_readNumber_80 : decode cX3_readNumber 80 = .ok (.putfield 44, 3) := by decide +kernel
theorem dX3_readNumber_83 : decode cX3_readNumber 83 = .ok (.goto (-56), 3) := by decide +kernel
theorem dX3_readNumber_86 : decode cX3_readNumber 86 = .ok (.aload_n 0, 1) := by decide +kernel
theorem dX3_readNumber_87 : decode cX3_readNumber 87 = .ok (.iload_n 1, 1) := by decide +kernel
theorem dX3_readNumber_88 : decode cX3_readNumber 88 = .ok (.invokevirtual 102, 3) := by decide +kernel
theorem dX3_readNumber_91 : decode cX3_readNumber 91 = .ok (.iconst 1, 1) := by decide +kernel
theorem dX3_readNumber_92 : decode cX3_readNumber 92 = .ok (.ireturn, 1) := by decide +kernel
def wp_X3_readNumber_b86 (Q : Int32 → Sg → Prop) (v1 : Int32) (σ : Sg) : Prop := wp_X3_keepValue v1 σ (fun σ18 => Q (1 : Int32) σ18)
set_option maxRecDepth 100000 in
set_option maxHeartbeats 4000000 in
theorem g_X3_readNumber_b86 {X : Tx} {Q : Int32 → Sg → Prop} (C : Cx X cX3_readNumber "SweetWraps$Pad" (some .boolean) 2 42 3 (QI (tE X) Q)) {v1 : Int32} {σ : Sg} (hw : wp_X3_readNumber_b86 Q v1 σ) : G X σ [(0, .ref (ad (tE X) 11 15 0)), (1, .int v1)] [] 86 := by
  unfold wp_X3_readNumber_b86 at hw
  refine gx_aload_n C dX3_readNumber_86 0 rfl ?_
  refine gx_iload_n C dX3_readNumber_87 1 rfl ?_
  refine gx_vcallv (As := [.int v1]) (rest := []) C (c_X3_keepValue _ _ hw) okg_15 rfl rfl bw_623 bw_625 bs_24 bw_6 bw_626 hy_X3_keepValue ⟨by decide, by decide⟩ rfl (Nat.le_of_ble_eq_true rfl) dX3_readNumber_88 (fun σ18 hw => ?_)
  refine gx_iconst (v := (1 : Int32)) C dX3_readNumber_91 (by decide) ?_
  exact gx_iret C rfl rfl dX3_readNumber_92 hw
def st_X3_readNumber_L27 (Q : Int32 → Sg → Prop) (K27 : Int32 → Sg → Prop) (v1 : Int32) (σ : Sg) : Prop := (((σ 11 15 0 2) ≤ (σ 11 15 0 3) → wp_X3_readNumber_b86 Q v1 σ) ∧ (¬ (σ 11 15 0 2) ≤ (σ 11 15 0 3) → wp_X3_isDigitHere σ (fun r9 σ10 => ((r9 = 0 → wp_X3_readNumber_b86 Q v1 σ10) ∧ (¬ r9 = 0 → wp_X3_signHere σ10 (fun r12 σ13 => ∀ z14 : Int32, z14 = (((v1 * (10 : Int32)) + r12) - (48 : Int32)) → ((v1 = 0 → Q (0 : Int32) σ13) ∧ (¬ v1 = 0 → ((z14 ≤ (999 : Int32) → ∀ σ17 : Sg, σ17 = up σ13 11 15 0 3 ((σ13 11 15 0 3) + (1 : Int32)) → K27 z14 σ17) ∧ (¬ z14 ≤ (999 : Int32) → Q (0 : Int32) σ13))))))))))
def wp_X3_readNumber_L27 (Q : Int32 → Sg → Prop) (v1 : Int32) (σ : Sg) : Prop := ∃ n : Nat, lpN (fun (K : Int32 × Sg → Prop) (a : Int32 × Sg) => st_X3_readNumber_L27 Q (fun v1 σ => K (v1, σ)) (a.1) (a.2)) n (v1, σ)
set_option maxRecDepth 100000 in
set_option maxHeartbeats 4000000 in
theorem gs_X3_readNumber_L27 {X : Tx} {Q : Int32 → Sg → Prop} (C : Cx X cX3_readNumber "SweetWraps$Pad" (some .boolean) 2 42 3 (QI (tE X) Q)) {K27 : Int32 → Sg → Prop} (hK27 : ∀ (v1 : Int32) (σ : Sg), K27 v1 σ → G X σ [(0, .ref (ad (tE X) 11 15 0)), (1, .int v1)] [] 27) {v1 : Int32} {σ : Sg} (hw : st_X3_readNumber_L27 Q K27 v1 σ) : G X σ [(0, .ref (ad (tE X) 11 15 0)), (1, .int v1)] [] 27 := by
  unfold st_X3_readNumber_L27 at hw
  refine gx_aload_n C dX3_readNumber_27 0 rfl ?_
  refine gx_get C okg_15 rfl rfl inX3 (ref := "SweetWraps$Pad") 3 (by decide) bw_152 rfl rfl dX3_readNumber_28 ?_
  refine gx_aload_n C dX3_readNumber_31 0 rfl ?_
  refine gx_get C okg_15 rfl rfl inX3 (ref := "SweetWraps$Pad") 2 (by decide) bw_150 rfl rfl dX3_readNumber_32 ?_
  refine gx_icmp_ge (tgt := 86) C dX3_readNumber_35 (by decide) (fun c8 => ?_) (fun c8 => ?_)
  · replace hw := hw.1 c8
    exact g_X3_readNumber_b86 C hw
  · replace hw := hw.2 c8
    refine gx_aload_n C dX3_readNumber_38 0 rfl ?_
    refine gx_vcalli (As := []) (rest := []) C (c_X3_isDigitHere _ _ hw) okg_15 rfl rfl bw_619 bw_621 bs_23 bw_6 bw_622 hy_X3_isDigitHere ⟨by decide, by decide⟩ rfl (Nat.le_of_ble_eq_true rfl) dX3_readNumber_39 (fun r9 σ10 hw => ?_)
    refine gx_if_eq (tgt := 86) C dX3_readNumber_42 (by decide) (fun c11 => ?_) (fun c11 => ?_)
    · replace hw := hw.1 c11
      exact g_X3_readNumber_b86 C hw
    · replace hw := hw.2 c11
      refine gx_iload_n C dX3_readNumber_45 1 rfl ?_
      refine gx_bipush (v := (10 : Int32)) C dX3_readNumber_46 (by decide) ?_
      refine gx_imul C dX3_readNumber_48 ?_
      refine gx_aload_n C dX3_readNumber_49 0 rfl ?_
      refine gx_vcalli (As := []) (rest := [.int (v1 * (10 : Int32))]) C (c_X3_signHere _ _ hw) okg_15 rfl rfl bw_549 bw_551 bs_20 bw_6 bw_552 hy_X3_signHere ⟨by decide, by decide⟩ rfl (Nat.le_of_ble_eq_true rfl) dX3_readNumber_50 (fun r12 σ13 hw => ?_)
      refine gx_iadd C dX3_readNumber_53 ?_
      refine gx_bipush (v := (48 : Int32)) C dX3_readNumber_54 (by decide) ?_
      refine gx_isub C dX3_readNumber_56 ?_
      obtain ⟨z14, e_z14⟩ : ∃ z : Int32, z = (((v1 * (10 : Int32)) + r12) - (48 : Int32)) := ⟨_, rfl⟩
      replace hw := hw z14 e_z14
      refine gx_top e_z14 ?_
      refine gx_istore_n (lv' := [(2, .int z14), (0, .ref (ad (tE X) 11 15 0)), (1, .int v1)]) C dX3_readNumber_57 (by decide) rfl ?_
      refine gx_iload_n C dX3_readNumber_58 2 rfl ?_
      refine gx_if_eq (tgt := 69) C dX3_readNumber_59 (by decide) (fun c15 => ?_) (fun c15 => ?_)
      · replace hw := hw.1 c15
        refine gx_iconst (v := (0 : Int32)) C dX3_readNumber_69 (by decide) ?_
        exact gx_iret C rfl rfl dX3_readNumber_70 hw
      · replace hw := hw.2 c15
        refine gx_iload_n C dX3_readNumber_62 0 rfl ?_
        refine gx_sipush (v := (999 : Int32)) C dX3_readNumber_63 (by decide) ?_
        refine gx_icmp_le (tgt := 71) C dX3_readNumber_66 (by decide) (fun c16 => ?_) (fun c16 => ?_)
        · replace hw := hw.1 c16
          refine gx_iload_n C dX3_readNumber_71 0 rfl ?_
          refine gx_istore_n (lv' := [(1, .int z14), (2, .int z14), (0, .ref (ad (tE X) 11 15 0))]) C dX3_readNumber_72 (by decide) rfl ?_
          refine gx_aload_n C dX3_readNumber_73 2 rfl ?_
          refine gx_dup C dX3_readNumber_74 rfl ?_
          refine gx_get C okg_15 rfl rfl inX3 (ref := "SweetWraps$Pad") 3 (by decide) bw_152 rfl rfl dX3_readNumber_75 ?_
          refine gx_iconst (v := (1 : Int32)) C dX3_readNumber_78 (by decide) ?_
          refine gx_iadd C dX3_readNumber_79 ?_
          refine gx_put C okg_15 rfl rfl inX3 tyX3 tyX3_ok nmX3 (ref := "SweetWraps$Pad") 3 (by decide) bw_152 rfl rfl (v := .int ((σ13 11 15 0 3) + (1 : Int32))) rfl rfl (Nat.le_of_ble_eq_true rfl) (upd (σ13 11 15 0) 3 ((σ13 11 15 0 3) + (1 : Int32))) rfl dX3_readNumber_80 ?_
          obtain ⟨σ17, e_σ17⟩ : ∃ z : Sg, z = up σ13 11 15 0 3 ((σ13 11 15 0 3) + (1 : Int32)) := ⟨_, rfl⟩
          replace hw := hw σ17 e_σ17
          refine gx_st e_σ17 ?_
          refine gx_goto (tgt := 27) C dX3_readNumber_83 (by decide) ?_
          refine gx_sub (lv' := [(0, .ref (ad (tE X) 11 15 0)), (1, .int z14)]) [2, 0] rfl ?_
          exact hK27 _ _ hw
        · replace hw := hw.2 c16
          refine gx_iconst (v := (0 : Int32)) C dX3_readNumber_69 (by decide) ?_
          exact gx_iret C rfl rfl dX3_readNumber_70 hw
set_option maxRecDepth 100000 in
set_option maxHeartbeats 4000000 in
theorem g_X3_readNumber_L27 {X : Tx} {Q : Int32 → Sg → Prop} (C : Cx X cX3_readNumber "SweetWraps$Pad" (some .boolean) 2 42 3 (QI (tE X) Q)) {v1 : Int32} {σ : Sg} (hw : wp_X3_readNumber_L27 Q v1 σ) : G X σ [(0, .ref (ad (tE X) 11 15 0)), (1, .int v1)] [] 27 := by
  obtain ⟨n, hw⟩ := hw
  exact lpN_G (P := (fun (a : Int32 × Sg) => G X (a.2) [(0, .ref (ad (tE X) 11 15 0)), (1, .int (a.1))] [] 27)) (fun K a hK h => gs_X3_readNumber_L27 C (fun v1 σ h => hK (v1, σ) h) h) n _ hw
def wp_X3_readNumber (σ : Sg) (Q : Int32 → Sg → Prop) : Prop := wp_X3_isDigitHere σ (fun r1 σ2 => ((¬ r1 = 0 → wp_X3_signHere σ2 (fun r4 σ5 => ∀ z6 : Int32, z6 = (r4 - (48 : Int32)) → ∀ σ7 : Sg, σ7 = up σ5 11 15 0 3 ((σ5 11 15 0 3) + (1 : Int32)) → wp_X3_readNumber_L27 Q z6 σ7)) ∧ (r1 = 0 → Q (0 : Int32) σ2)))
set_option maxRecDepth 100000 in
set_option maxHeartbeats 4000000 in
theorem c_X3_readNumber (l : Launch) (E : Ev) {σ : Sg} {Q : Int32 → Sg → Prop} (hw : wp_X3_readNumber σ Q) : CT l E yX3_readNumber cX3_readNumber 3 (some .boolean) 2 42 [.ref (ad E 11 15 0)] σ (QI E Q) := by
  refine CT_of (by decide) (Nat.le_of_ble_eq_true rfl) (fun X h1 h2 C => ?_)
  subst h1; subst h2
  have C : Cx X cX3_readNumber "SweetWraps$Pad" (some .boolean) 2 42 3 (QI (tE X) Q) := C
  show G X σ [(0, .ref (ad (tE X) 11 15 0))] [] 0
  unfold wp_X3_readNumber at hw
  refine gx_aload_n C dX3_readNumber_0 0 rfl ?_
  refine gx_vcalli (As := []) (rest := []) C (c_X3_isDigitHere _ _ hw) okg_15 rfl rfl bw_619 bw_621 bs_23 bw_6 bw_622 hy_X3_isDigitHere ⟨by decide, by decide⟩ rfl (Nat.le_of_ble_eq_true rfl) dX3_readNumber_1 (fun r1 σ2 hw => ?_)
  refine gx_if_ne (tgt := 9) C dX3_readNumber_4 (by decide) (fun c3 => ?_) (fun c3 => ?_)
  · replace hw := hw.1 c3
    refine gx_aload_n C dX3_readNumber_9 0 rfl ?_
    refine gx_vcalli (As := []) (rest := []) C (c_X3_signHere _ _ hw) okg_15 rfl rfl bw_549 bw_551 bs_20 bw_6 bw_552 hy_X3_signHere ⟨by decide, by decide⟩ rfl (Nat.le_of_ble_eq_true rfl) dX3_readNumber_10 (fun r4 σ5 hw => ?_)
    refine gx_bipush (v := (48 : Int32)) C dX3_readNumber_13 (by decide) ?_
    refine gx_isub C dX3_readNumber_15 ?_
    obtain ⟨z6, e_z6⟩ : ∃ z : Int32, z = (r4 - (48 : Int32)) := ⟨_, rfl⟩
    replace hw := hw z6 e_z6
    refine gx_top e_z6 ?_
    refine gx_istore_n (lv' := [(1, .int z6), (0, .ref (ad (tE X) 11 15 0))]) C dX3_readNumber_16 (by decide) rfl ?_
    refine gx_aload_n C dX3_readNumber_17 1 rfl ?_
    refine gx_dup C dX3_readNumber_18 rfl ?_
    refine gx_get C okg_15 rfl rfl inX3 (ref := "SweetWraps$Pad") 3 (by decide) bw_152 rfl rfl dX3_readNumber_19 ?_
    refine gx_iconst (v := (1 : Int32)) C dX3_readNumber_22 (by decide) ?_
    refine gx_iadd C dX3_readNumber_23 ?_
    refine gx_put C okg_15 rfl rfl inX3 tyX3 tyX3_ok nmX3 (ref := "SweetWraps$Pad") 3 (by decide) bw_152 rfl rfl (v := .int ((σ5 11 15 0 3) + (1 : Int32))) rfl rfl (Nat.le_of_ble_eq_true rfl) (upd (σ5 11 15 0) 3 ((σ5 11 15 0 3) + (1 : Int32))) rfl dX3_readNumber_24 ?_
    obtain ⟨σ7, e_σ7⟩ : ∃ z : Sg, z = up σ5 11 15 0 3 ((σ5 11 15 0 3) + (1 : Int32)) := ⟨_, rfl⟩
    replace hw := hw σ7 e_σ7
    refine gx_st e_σ7 ?_
    refine gx_sub (lv' := [(0, .ref (ad (tE X) 11 15 0)), (1, .int z6)]) [1, 0] rfl ?_
    exact g_X3_readNumber_L27 C hw
  · replace hw := hw.2 c3
    refine gx_iconst (v := (0 : Int32)) C dX3_readNumber_7 (by decide) ?_
    exact gx_iret C rfl rfl dX3_readNumber_8 hw
theorem hy_X3_readNumber : yX3_readNumber.cls = "SweetWraps$Pad" ∧ yX3_readNumber.cls ≠ "java/lang/invoke/MethodHandle" ∧ yX3_readNumber.cls ≠ "java/lang/invoke/VarHandle" ∧ (parseMethodDescriptor yX3_readNumber.desc).map (fun d => d.parameters.length) = some 0 := by decide +kernel

theorem dX3_readSign_0 : decode cX3_readSign 0 = .ok (.aload_n 0, 1) := by decide +kernel
theorem dX3_readSign_1 : decode cX3_readSign 1 = .ok (.invokevirtual 51, 3) := by decide +kernel
theorem dX3_readSign_4 : decode cX3_readSign 4 = .ok (.iload_n 1, 1) := by decide +kernel
theorem dX3_readSign_5 : decode cX3_readSign 5 = .ok (.if_icmp .eq 5, 3) := by decide +kernel
theorem dX3_readSign_8 : decode cX3_readSign 8 = .ok (.iconst 0, 1) := by decide +kernel
theorem dX3_readSign_9 : decode cX3_readSign 9 = .ok (.ireturn, 1) := by decide +kernel
theorem dX3_readSign_10 : decode cX3_readSign 10 = .ok (.aload_n 0, 1) := by decide +kernel
theorem dX3_readSign_11 : decode cX3_readSign 11 = .ok (.dup, 1) := by decide +kernel
theorem dX3_readSign_12 : decode cX3_readSign 12 = .ok (.getfield 44, 3) := by decide +kernel
theorem dX3_readSign_15 : decode cX3_readSign 15 = .ok (.iconst 1, 1) := by decide +kernel
theorem dX3_readSign_16 : decode cX3_readSign 16 = .ok (.iadd, 1) := by decide +kernel
theorem dX3_readSign_17 : decode cX3_readSign 17 = .ok (.putfield 44, 3) := by decide +kernel
theorem dX3_readSign_20 : decode cX3_readSign 20 = .ok (.iconst 1, 1) := by decide +kernel
theorem dX3_readSign_21 : decode cX3_readSign 21 = .ok (.ireturn, 1) := by decide +kernel
def wp_X3_readSign (x1 : Int32) (σ : Sg) (Q : Int32 → Sg → Prop) : Prop := wp_X3_signHere σ (fun r1 σ2 => ((r1 = x1 → ∀ σ4 : Sg, σ4 = up σ2 11 15 0 3 ((σ2 11 15 0 3) + (1 : Int32)) → Q (1 : Int32) σ4) ∧ (¬ r1 = x1 → Q (0 : Int32) σ2)))
set_option maxRecDepth 100000 in
set_option maxHeartbeats 4000000 in
theorem c_X3_readSign (l : Launch) (E : Ev) {x1 : Int32} {σ : Sg} {Q : Int32 → Sg → Prop} (hw : wp_X3_readSign x1 σ Q) : CT l E yX3_readSign cX3_readSign 2 (some .boolean) 1 20 [.ref (ad E 11 15 0), .int x1] σ (QI E Q) := by
  refine CT_of (by decide) (Nat.le_of_ble_eq_true rfl) (fun X h1 h2 C => ?_)
  subst h1; subst h2
  have C : Cx X cX3_readSign "SweetWraps$Pad" (some .boolean) 1 20 2 (QI (tE X) Q) := C
  show G X σ [(0, .ref (ad (tE X) 11 15 0)), (1, .int x1)] [] 0
  unfold wp_X3_readSign at hw
  refine gx_aload_n C dX3_readSign_0 0 rfl ?_
  refine gx_vcalli (As := []) (rest := []) C (c_X3_signHere _ _ hw) okg_15 rfl rfl bw_549 bw_551 bs_20 bw_6 bw_552 hy_X3_signHere ⟨by decide, by decide⟩ rfl (Nat.le_of_ble_eq_true rfl) dX3_readSign_1 (fun r1 σ2 hw => ?_)
  refine gx_iload_n C dX3_readSign_4 1 rfl ?_
  refine gx_icmp_eq (tgt := 10) C dX3_readSign_5 (by decide) (fun c3 => ?_) (fun c3 => ?_)
  · replace hw := hw.1 c3
    refine gx_aload_n C dX3_readSign_10 0 rfl ?_
    refine gx_dup C dX3_readSign_11 rfl ?_
    refine gx_get C okg_15 rfl rfl inX3 (ref := "SweetWraps$Pad") 3 (by decide) bw_152 rfl rfl dX3_readSign_12 ?_
    refine gx_iconst (v := (1 : Int32)) C dX3_readSign_15 (by decide) ?_
    refine gx_iadd C dX3_readSign_16 ?_
    refine gx_put C okg_15 rfl rfl inX3 tyX3 tyX3_ok nmX3 (ref := "SweetWraps$Pad") 3 (by decide) bw_152 rfl rfl (v := .int ((σ2 11 15 0 3) + (1 : Int32))) rfl rfl (Nat.le_of_ble_eq_true rfl) (upd (σ2 11 15 0) 3 ((σ2 11 15 0 3) + (1 : Int32))) rfl dX3_readSign_17 ?_
    obtain ⟨σ4, e_σ4⟩ : ∃ z : Sg, z = up σ2 11 15 0 3 ((σ2 11 15 0 3) + (1 : Int32)) := ⟨_, rfl⟩
    replace hw := hw σ4 e_σ4
    refine gx_st e_σ4 ?_
    refine gx_iconst (v := (1 : Int32)) C dX3_readSign_20 (by decide) ?_
    exact gx_iret C rfl rfl dX3_readSign_21 hw
  · replace hw := hw.2 c3
    refine gx_iconst (v := (0 : Int32)) C dX3_readSign_8 (by decide) ?_
    exact gx_iret C rfl rfl dX3_readSign_9 hw
theorem hy_X3_readSign : yX3_readSign.cls = "SweetWraps$Pad" ∧ yX3_readSign.cls ≠ "java/lang/invoke/MethodHandle" ∧ yX3_readSign.cls ≠ "java/lang/invoke/VarHandle" ∧ (parseMethodDescriptor yX3_readSign.desc).map (fun d => d.parameters.length) = some 1 := by decide +kernel

theorem dX3_readPart_0 : decode cX3_readPart 0 = .ok (.iload_n 1, 1) := by decide +kernel
theorem dX3_readPart_1 : decode cX3_readPart 1 = .ok (.lookupswitch 37 #[(100, 27), (110, 32)], 27) := by decide +kernel
theorem dX3_readPart_28 : decode cX3_readPart 28 = .ok (.aload_n 0, 1) := by decide +kernel
theorem dX3_readPart_29 : decode cX3_readPart 29 = .ok (.invokevirtual 93, 3) := by decide +kernel
theorem dX3_readPart_32 : decode cX3_readPart 32 = .ok (.ireturn, 1) := by decide +kernel
theorem dX3_readPart_33 : decode cX3_readPart 33 = .ok (.aload_n 0, 1) := by decide +kernel
theorem dX3_readPart_34 : decode cX3_readPart 34 = .ok (.invokevirtual 96, 3) := by decide +kernel
theorem dX3_readPart_37 : decode cX3_readPart 37 = .ok (.ireturn, 1) := by decide +kernel
theorem dX3_readPart_38 : decode cX3_readPart 38 = .ok (.aload_n 0, 1) := by decide +kernel
theorem dX3_readPart_39 : decode cX3_readPart 39 = .ok (.iload_n 1, 1) := by decide +kernel
theorem dX3_readPart_40 : decode cX3_readPart 40 = .ok (.invokevirtual 47, 3) := by decide +kernel
theorem dX3_readPart_43 : decode cX3_readPart 43 = .ok (.ireturn, 1) := by decide +kernel
def wp_X3_readPart (x1 : Int32) (σ : Sg) (Q : Int32 → Sg → Prop) : Prop := ((x1 = (100 : Int32) → wp_X3_readDigit σ (fun r3 σ4 => (r3 = 0 ∨ r3 = 1) ∧ Q r3 σ4)) ∧ (¬ x1 = (100 : Int32) → ((x1 = (110 : Int32) → wp_X3_readNumber σ (fun r5 σ6 => (r5 = 0 ∨ r5 = 1) ∧ Q r5 σ6)) ∧ (¬ x1 = (110 : Int32) → wp_X3_readSign x1 σ (fun r7 σ8 => (r7 = 0 ∨ r7 = 1) ∧ Q r7 σ8)))))
set_option maxRecDepth 100000 in
set_option maxHeartbeats 4000000 in
theorem c_X3_readPart (l : Launch) (E : Ev) {x1 : Int32} {σ : Sg} {Q : Int32 → Sg → Prop} (hw : wp_X3_readPart x1 σ Q) : CT l E yX3_readPart cX3_readPart 2 (some .boolean) 3 64 [.ref (ad E 11 15 0), .int x1] σ (QI E Q) := by
  refine CT_of (by decide) (Nat.le_of_ble_eq_true rfl) (fun X h1 h2 C => ?_)
  subst h1; subst h2
  have C : Cx X cX3_readPart "SweetWraps$Pad" (some .boolean) 3 64 2 (QI (tE X) Q) := C
  show G X σ [(0, .ref (ad (tE X) 11 15 0)), (1, .int x1)] [] 0
  unfold wp_X3_readPart at hw
  refine gx_iload_n C dX3_readPart_0 1 rfl ?_
  by_cases c1 : x1 = (100 : Int32)
  · replace hw := hw.1 c1
    refine gx_lookup (tgt := 28) (off := 27) C dX3_readPart_1 (by decide) (by rw [c1]; rfl) (by decide) ?_
    refine gx_aload_n C dX3_readPart_28 0 rfl ?_
    refine gx_vcalli (As := []) (rest := []) C (c_X3_readDigit _ _ hw) okg_15 rfl rfl bw_615 bw_617 bs_22 bw_6 bw_618 hy_X3_readDigit ⟨by decide, by decide⟩ rfl (Nat.le_of_ble_eq_true rfl) dX3_readPart_29 (fun r3 σ4 hw => ?_)
    exact gx_iret C rfl (nb_bool hw.1) dX3_readPart_32 hw.2
  · replace hw := hw.2 c1
    by_cases c2 : x1 = (110 : Int32)
    · replace hw := hw.1 c2
      refine gx_lookup (tgt := 33) (off := 32) C dX3_readPart_1 (by decide) (by rw [c2]; rfl) (by decide) ?_
      refine gx_aload_n C dX3_readPart_33 0 rfl ?_
      refine gx_vcalli (As := []) (rest := []) C (c_X3_readNumber _ _ hw) okg_15 rfl rfl bw_627 bw_629 bs_25 bw_6 bw_630 hy_X3_readNumber ⟨by decide, by decide⟩ rfl (Nat.le_of_ble_eq_true rfl) dX3_readPart_34 (fun r5 σ6 hw => ?_)
      exact gx_iret C rfl (nb_bool hw.1) dX3_readPart_37 hw.2
    · replace hw := hw.2 c2
      refine gx_lookup (tgt := 38) (off := 37) C dX3_readPart_1 (by decide) ((lv_osw c1 (by decide)).trans ((lv_osw c2 (by decide)).trans (rfl))) (by decide) ?_
      refine gx_aload_n C dX3_readPart_38 0 rfl ?_
      refine gx_iload_n C dX3_readPart_39 1 rfl ?_
      refine gx_vcalli (As := [.int x1]) (rest := []) C (c_X3_readSign _ _ hw) okg_15 rfl rfl bw_631 bw_632 bw_633 bw_6 bw_634 hy_X3_readSign ⟨by decide, by decide⟩ rfl (Nat.le_of_ble_eq_true rfl) dX3_readPart_40 (fun r7 σ8 hw => ?_)
      exact gx_iret C rfl (nb_bool hw.1) dX3_readPart_43 hw.2
theorem hy_X3_readPart : yX3_readPart.cls = "SweetWraps$Pad" ∧ yX3_readPart.cls ≠ "java/lang/invoke/MethodHandle" ∧ yX3_readPart.cls ≠ "java/lang/invoke/VarHandle" ∧ (parseMethodDescriptor yX3_readPart.desc).map (fun d => d.parameters.length) = some 1 := by decide +kernel

theorem dX3_readOrder_0 : decode cX3_readOrder 0 = .ok (.aload_n 0, 1) := by decide +kernel
theorem dX3_readOrder_1 : decode cX3_readOrder 1 = .ok (.aload_n 0, 1) := by decide +kernel
theorem dX3_readOrder_2 : decode cX3_readOrder 2 = .ok (.invokevirtual 51, 3) := by decide +kernel
theorem dX3_readOrder_5 : decode cX3_readOrder 5 = .ok (.putfield 55, 3) := by decide +kernel
theorem dX3_readOrder_8 : decode cX3_readOrder 8 = .ok (.aload_n 0, 1) := by decide +kernel
theorem dX3_readOrder_9 : decode cX3_readOrder 9 = .ok (.iconst 0, 1) := by decide +kernel
theorem dX3_readOrder_10 : decode cX3_readOrder 10 = .ok (.putfield 58, 3) := by decide +kernel
theorem dX3_readOrder_13 : decode cX3_readOrder 13 = .ok (.aload_n 0, 1) := by decide +kernel
theorem dX3_readOrder_14 : decode cX3_readOrder 14 = .ok (.getfield 55, 3) := by decide +kernel
theorem dX3_readOrder_17 : decode cX3_readOrder 17 = .ok (.invokestatic 61, 3) := by decide +kernel
theorem dX3_readOrder_20 : decode cX3_readOrder 20 = .ok (.astore_n 1, 1) := by decide +kernel
theorem dX3_readOrder_21 : decode cX3_readOrder 21 = .ok (.iconst 0, 1) := by decide +kernel
theorem dX3_readOrder_22 : decode cX3_readOrder 22 = .ok (.istore_n 2, 1) := by decide +kernel
theorem dX3_readOrder_23 : decode cX3_readOrder 23 = .ok (.iload_n 2, 1) := by decide +kernel
theorem dX3_readOrder_24 : decode cX3_readOrder 24 = .ok (.aload_n 1, 1) := by decide +kernel
theorem dX3_readOrder_25 : decode cX3_readOrder 25 = .ok (.invokevirtual 65, 3) := by decide +kernel
theorem dX3_readOrder_28 : decode cX3_readOrder 28 = .ok (.if_icmp .ge 23, 3) := by decide +kernel
theorem dX3_readOrder_31 : decode cX3_readOrder 31 = .ok (.aload_n 0, 1) := by decide +kernel
theorem dX3_readOrder_32 : decode cX3_readOrder 32 = .ok (.aload_n 1, 1) := by decide +kernel
theorem dX3_readOrder_33 : decode cX3_readOrder 33 = .ok (.iload_n 2, 1) := by decide +kernel
theorem dX3_readOrder_34 : decode cX3_readOrder 34 = .ok (.invokevirtual 69, 3) := by decide +kernel
theorem dX3_readOrder_37 : decode cX3_readOrder 37 = .ok (.invokevirtual 73, 3) := by decide +kernel
theorem dX3_readOrder_40 : decode cX3_readOrder 40 = .ok (.ifCond .ne 5, 3) := by decide +kernel
theorem dX3_readOrder_43 : decode cX3_readOrder 43 = .ok (.iconst 0, 1) := by decide +kernel
theorem dX3_readOrder_44 : decode cX3_readOrder 44 = .ok (.ireturn, 1) := by decide +kernel
theorem dX3_readOrder_45 : decode cX3_readOrder 45 = .ok (.iinc 2 1, 3) := by decide +kernel
theorem dX3_readOrder_48 : decode cX3_readOrder 48 = .ok (.goto (-25), 3) := by decide +kernel
theorem dX3_readOrder_51 : decode cX3_readOrder 51 = .ok (.aload_n 1, 1) := by decide +kernel
theorem dX3_readOrder_52 : decode cX3_readOrder 52 = .ok (.invokevirtual 76, 3) := by decide +kernel
theorem dX3_readOrder_55 : decode cX3_readOrder 55 = .ok (.ifCond .ne 7, 3) := by decide +kernel
theorem dX3_readOrder_58 : decode cX3_readOrder 58 = .ok (.iconst 1, 1) := by decide +kernel
theorem dX3_readOrder_59 : decode cX3_readOrder 59 = .ok (.goto 4, 3) := by decide +kernel
theorem dX3_readOrder_62 : decode cX3_readOrder 62 = .ok (.iconst 0, 1) := by decide +kernel
theorem dX3_readOrder_63 : decode cX3_readOrder 63 = .ok (.ireturn, 1) := by decide +kernel
def st_X3_readOrder_L23 (Q : Int32 → Sg → Prop) (K23 : Nat → Int32 → Sg → Prop) (v1 : Nat) (v2 : Int32) (σ : Sg) : Prop := v1 < 7 ∧ (wp_J0_length_8abf5 v1 σ (fun r6 σ7 => ((r6 ≤ v2 → wp_J0_isEmpty_aae02 v1 σ7 (fun r9 σ10 => ((¬ r9 = 0 → Q (0 : Int32) σ10) ∧ (r9 = 0 → Q (1 : Int32) σ10)))) ∧ (¬ r6 ≤ v2 → wp_J0_charAt_5068e v1 v2 σ7 (fun r12 σ13 => wp_X3_readPart r12 σ13 (fun r14 σ15 => ((¬ r14 = 0 → ∀ z17 : Int32, z17 = v2 + (1 : Int32) → K23 v1 z17 σ15) ∧ (r14 = 0 → Q (0 : Int32) σ15))))))))
def wp_X3_readOrder_L23 (Q : Int32 → Sg → Prop) (v1 : Nat) (v2 : Int32) (σ : Sg) : Prop := ∃ n : Nat, lpN (fun (K : Nat × Int32 × Sg → Prop) (a : Nat × Int32 × Sg) => st_X3_readOrder_L23 Q (fun v1 v2 σ => K (v1, v2, σ)) (a.1) (a.2.1) (a.2.2)) n (v1, v2, σ)
set_option maxRecDepth 100000 in
set_option maxHeartbeats 4000000 in
theorem gs_X3_readOrder_L23 {X : Tx} {Q : Int32 → Sg → Prop} (C : Cx X cX3_readOrder "SweetWraps$Pad" (some .boolean) 4 123 3 (QI (tE X) Q)) {K23 : Nat → Int32 → Sg → Prop} (hK23 : ∀ (v1 : Nat) (v2 : Int32) (σ : Sg), K23 v1 v2 σ → G X σ [(0, .ref (ad (tE X) 11 15 0)), (1, .ref (eK (tE X) v1)), (2, .int v2)] [] 23) {v1 : Nat} {v2 : Int32} {σ : Sg} (hw : st_X3_readOrder_L23 Q K23 v1 v2 σ) : G X σ [(0, .ref (ad (tE X) 11 15 0)), (1, .ref (eK (tE X) v1)), (2, .int v2)] [] 23 := by
  unfold st_X3_readOrder_L23 at hw
  have hv1 := hw.1
  replace hw := hw.2
  refine gx_iload_n C dX3_readOrder_23 2 rfl ?_
  refine gx_aload_n C dX3_readOrder_24 1 rfl ?_
  refine gx_kcalli (As := []) (rest := [.int v2]) C hv1 (c_J0_length_8abf5 _ _ hv1 hw) bw_563 bw_564 bw_565 bw_10 bw_566 hy_J0_length_8abf5 ⟨by decide, by decide⟩ rfl (Nat.le_of_ble_eq_true rfl) dX3_readOrder_25 (fun r6 σ7 hw => ?_)
  refine gx_icmp_ge (tgt := 51) C dX3_readOrder_28 (by decide) (fun c8 => ?_) (fun c8 => ?_)
  · replace hw := hw.1 c8
    refine gx_aload_n C dX3_readOrder_51 1 rfl ?_
    refine gx_kcalli (As := []) (rest := []) C hv1 (c_J0_isEmpty_aae02 _ _ hv1 hw) bw_635 bw_636 bw_637 bw_10 bw_638 hy_J0_isEmpty_aae02 ⟨by decide, by decide⟩ rfl (Nat.le_of_ble_eq_true rfl) dX3_readOrder_52 (fun r9 σ10 hw => ?_)
    refine gx_if_ne (tgt := 62) C dX3_readOrder_55 (by decide) (fun c11 => ?_) (fun c11 => ?_)
    · replace hw := hw.1 c11
      refine gx_iconst (v := (0 : Int32)) C dX3_readOrder_62 (by decide) ?_
      exact gx_iret C rfl rfl dX3_readOrder_63 hw
    · replace hw := hw.2 c11
      refine gx_iconst (v := (1 : Int32)) C dX3_readOrder_58 (by decide) ?_
      refine gx_goto (tgt := 63) C dX3_readOrder_59 (by decide) ?_
      exact gx_iret C rfl rfl dX3_readOrder_63 hw
  · replace hw := hw.2 c8
    refine gx_aload_n C dX3_readOrder_31 0 rfl ?_
    refine gx_aload_n C dX3_readOrder_32 1 rfl ?_
    refine gx_iload_n C dX3_readOrder_33 2 rfl ?_
    refine gx_kcalli (As := [.int v2]) (rest := [.ref (ad (tE X) 11 15 0)]) C hv1 (c_J0_charAt_5068e _ _ hv1 hw) bw_573 bw_574 bw_575 bw_10 bw_576 hy_J0_charAt_5068e ⟨by decide, by decide⟩ rfl (Nat.le_of_ble_eq_true rfl) dX3_readOrder_34 (fun r12 σ13 hw => ?_)
    refine gx_vcalli (As := [.int r12]) (rest := []) C (c_X3_readPart _ _ hw) okg_15 rfl rfl bw_611 bw_613 bs_21 bw_6 bw_614 hy_X3_readPart ⟨by decide, by decide⟩ rfl (Nat.le_of_ble_eq_true rfl) dX3_readOrder_37 (fun r14 σ15 hw => ?_)
    refine gx_if_ne (tgt := 45) C dX3_readOrder_40 (by decide) (fun c16 => ?_) (fun c16 => ?_)
    · replace hw := hw.1 c16
      obtain ⟨z17, e_z17⟩ : ∃ z : Int32, z = v2 + (1 : Int32) := ⟨_, rfl⟩
      replace hw := hw z17 e_z17
      refine gx_iinc (v := z17) (lv' := [(2, .int z17), (0, .ref (ad (tE X) 11 15 0)), (1, .ref (eK (tE X) v1))]) C dX3_readOrder_45 2 rfl (by rw [e_z17]; rfl) (by decide) rfl ?_
      refine gx_goto (tgt := 23) C dX3_readOrder_48 (by decide) ?_
      refine gx_sub (lv' := [(0, .ref (ad (tE X) 11 15 0)), (1, .ref (eK (tE X) v1)), (2, .int z17)]) [1, 2, 0] rfl ?_
      exact hK23 _ _ _ hw
    · replace hw := hw.2 c16
      refine gx_iconst (v := (0 : Int32)) C dX3_readOrder_43 (by decide) ?_
      exact gx_iret C rfl rfl dX3_readOrder_44 hw
set_option maxRecDepth 100000 in
set_option maxHeartbeats 4000000 in
theorem g_X3_readOrder_L23 {X : Tx} {Q : Int32 → Sg → Prop} (C : Cx X cX3_readOrder "SweetWraps$Pad" (some .boolean) 4 123 3 (QI (tE X) Q)) {v1 : Nat} {v2 : Int32} {σ : Sg} (hw : wp_X3_readOrder_L23 Q v1 v2 σ) : G X σ [(0, .ref (ad (tE X) 11 15 0)), (1, .ref (eK (tE X) v1)), (2, .int v2)] [] 23 := by
  obtain ⟨n, hw⟩ := hw
  exact lpN_G (P := (fun (a : Nat × Int32 × Sg) => G X (a.2.2) [(0, .ref (ad (tE X) 11 15 0)), (1, .ref (eK (tE X) (a.1))), (2, .int (a.2.1))] [] 23)) (fun K a hK h => gs_X3_readOrder_L23 C (fun v1 v2 σ h => hK (v1, v2, σ) h) h) n _ hw
def wp_X3_readOrder (σ : Sg) (Q : Int32 → Sg → Prop) : Prop := wp_X3_signHere σ (fun r1 σ2 => ∀ σ3 : Sg, σ3 = up σ2 11 15 0 4 r1 → ∀ σ4 : Sg, σ4 = up σ3 11 15 0 5 (0 : Int32) → ∀ jj5 : Nat, jj5 = shp (σ4 11 15 0 4) → wp_X3_readOrder_L23 Q jj5 (0 : Int32) σ4)
set_option maxRecDepth 100000 in
set_option maxHeartbeats 4000000 in
theorem c_X3_readOrder (l : Launch) (E : Ev) {σ : Sg} {Q : Int32 → Sg → Prop} (hw : wp_X3_readOrder σ Q) : CT l E yX3_readOrder cX3_readOrder 3 (some .boolean) 4 123 [.ref (ad E 11 15 0)] σ (QI E Q) := by
  refine CT_of (by decide) (Nat.le_of_ble_eq_true rfl) (fun X h1 h2 C => ?_)
  subst h1; subst h2
  have C : Cx X cX3_readOrder "SweetWraps$Pad" (some .boolean) 4 123 3 (QI (tE X) Q) := C
  show G X σ [(0, .ref (ad (tE X) 11 15 0))] [] 0
  unfold wp_X3_readOrder at hw
  refine gx_aload_n C dX3_readOrder_0 0 rfl ?_
  refine gx_aload_n C dX3_readOrder_1 0 rfl ?_
  refine gx_vcalli (As := []) (rest := [.ref (ad (tE X) 11 15 0)]) C (c_X3_signHere _ _ hw) okg_15 rfl rfl bw_549 bw_551 bs_20 bw_6 bw_552 hy_X3_signHere ⟨by decide, by decide⟩ rfl (Nat.le_of_ble_eq_true rfl) dX3_readOrder_2 (fun r1 σ2 hw => ?_)
  refine gx_put C okg_15 rfl rfl inX3 tyX3 tyX3_ok nmX3 (ref := "SweetWraps$Pad") 4 (by decide) bw_153 rfl rfl (v := .int r1) rfl rfl (Nat.le_of_ble_eq_true rfl) (upd (σ2 11 15 0) 4 r1) rfl dX3_readOrder_5 ?_
  obtain ⟨σ3, e_σ3⟩ : ∃ z : Sg, z = up σ2 11 15 0 4 r1 := ⟨_, rfl⟩
  replace hw := hw σ3 e_σ3
  refine gx_st e_σ3 ?_
  refine gx_aload_n C dX3_readOrder_8 0 rfl ?_
  refine gx_iconst (v := (0 : Int32)) C dX3_readOrder_9 (by decide) ?_
  refine gx_put C okg_15 rfl rfl inX3 tyX3 tyX3_ok nmX3 (ref := "SweetWraps$Pad") 5 (by decide) bw_155 rfl rfl (v := .int (0 : Int32)) rfl rfl (Nat.le_of_ble_eq_true rfl) (upd (σ3 11 15 0) 5 (0 : Int32)) rfl dX3_readOrder_10 ?_
  obtain ⟨σ4, e_σ4⟩ : ∃ z : Sg, z = up σ3 11 15 0 5 (0 : Int32) := ⟨_, rfl⟩
  replace hw := hw σ4 e_σ4
  refine gx_st e_σ4 ?_
  refine gx_aload_n C dX3_readOrder_13 0 rfl ?_
  refine gx_get C okg_15 rfl rfl inX3 (ref := "SweetWraps$Pad") 4 (by decide) bw_153 rfl rfl dX3_readOrder_14 ?_
  obtain ⟨jj5, e_jj5⟩ : ∃ z : Nat, z = shp (σ4 11 15 0 4) := ⟨_, rfl⟩
  replace hw := hw jj5 e_jj5
  have hjj5 : jj5 < 7 := by rw [e_jj5]; exact shp_lt _
  refine gx_shapeOf C dX3_readOrder_17 bw_553 e_jj5 ⟨by decide, by decide⟩ ?_
  refine gx_astore_n (lv' := [(1, .ref (eK (tE X) jj5)), (0, .ref (ad (tE X) 11 15 0))]) C dX3_readOrder_20 (by decide) rfl ?_
  refine gx_iconst (v := (0 : Int32)) C dX3_readOrder_21 (by decide) ?_
  refine gx_istore_n (lv' := [(2, .int (0 : Int32)), (1, .ref (eK (tE X) jj5)), (0, .ref (ad (tE X) 11 15 0))]) C dX3_readOrder_22 (by decide) rfl ?_
  refine gx_sub (lv' := [(0, .ref (ad (tE X) 11 15 0)), (1, .ref (eK (tE X) jj5)), (2, .int (0 : Int32))]) [2, 1, 0] rfl ?_
  exact g_X3_readOrder_L23 C hw
theorem hy_X3_readOrder : yX3_readOrder.cls = "SweetWraps$Pad" ∧ yX3_readOrder.cls ≠ "java/lang/invoke/MethodHandle" ∧ yX3_readOrder.cls ≠ "java/lang/invoke/VarHandle" ∧ (parseMethodDescriptor yX3_readOrder.desc).map (fun d => d.parameters.length) = some 0 := by decide +kernel

theorem dX3_findFault_0 : decode cX3_findFault 0 = .ok (.aload_n 0, 1) := by decide +kernel
theorem dX3_findFault_1 : decode cX3_findFault 1 = .ok (.invokevirtual 37, 3) := by decide +kernel
theorem dX3_findFault_4 : decode cX3_findFault 4 = .ok (.iconst 0, 1) := by decide +kernel
theorem dX3_findFault_5 : decode cX3_findFault 5 = .ok (.istore_n 1, 1) := by decide +kernel
theorem dX3_findFault_6 : decode cX3_findFault 6 = .ok (.iload_n 1, 1) := by decide +kernel
theorem dX3_findFault_7 : decode cX3_findFault 7 = .ok (.bipush 80, 2) := by decide +kernel
theorem dX3_findFault_9 : decode cX3_findFault 9 = .ok (.if_icmp .ge 49, 3) := by decide +kernel
theorem dX3_findFault_12 : decode cX3_findFault 12 = .ok (.aload_n 0, 1) := by decide +kernel
theorem dX3_findFault_13 : decode cX3_findFault 13 = .ok (.invokevirtual 40, 3) := by decide +kernel
theorem dX3_findFault_16 : decode cX3_findFault 16 = .ok (.ifCond .ne 8, 3) := by decide +kernel
theorem dX3_findFault_19 : decode cX3_findFault 19 = .ok (.aload_n 0, 1) := by decide +kernel
theorem dX3_findFault_20 : decode cX3_findFault 20 = .ok (.getfield 44, 3) := by decide +kernel
theorem dX3_findFault_23 : decode cX3_findFault 23 = .ok (.ireturn, 1) := by decide +kernel
theorem dX3_findFault_24 : decode cX3_findFault 24 = .ok (.aload_n 0, 1) := by decide +kernel
theorem dX3_findFault_25 : decode cX3_findFault 25 = .ok (.getfield 44, 3) := by decide +kernel
theorem dX3_findFault_28 : decode cX3_findFault 28 = .ok (.aload_n 0, 1) := by decide +kernel
theorem dX3_findFault_29 : decode cX3_findFault 29 = .ok (.getfield 23, 3) := by decide +kernel
theorem dX3_findFault_32 : decode cX3_findFault 32 = .ok (.if_icmp .lt 6, 3) := by decide +kernel
theorem dX3_findFault_35 : decode cX3_findFault 35 = .ok (.bipush (-6), 2) := by decide +kernel
theorem dX3_findFault_37 : decode cX3_findFault 37 = .ok (.ireturn, 1) := by decide +kernel
theorem dX3_findFault_38 : decode cX3_findFault 38 = .ok (.aload_n 0, 1) := by decide +kernel
theorem dX3_findFault_39 : decode cX3_findFault 39 = .ok (.bipush 59, 2) := by decide +kernel
theorem dX3_findFault_41 : decode cX3_findFault 41 = .ok (.invokevirtual 47, 3) := by decide +kernel
theorem dX3_findFault_44 : decode cX3_findFault 44 = .ok (.ifCond .ne 8, 3) := by decide +kernel
theorem dX3_findFault_47 : decode cX3_findFault 47 = .ok (.aload_n 0, 1) := by decide +kernel
theorem dX3_findFault_48 : decode cX3_findFault 48 = .ok (.getfield 44, 3) := by decide +kernel
theorem dX3_findFault_51 : decode cX3_findFault 51 = .ok (.ireturn, 1) := by decide +kernel
theorem dX3_findFault_52 : decode cX3_findFault 52 = .ok (.iinc 1 1, 3) := by decide +kernel
theorem dX3_findFault_55 : decode cX3_findFault 55 = .ok (.goto (-49), 3) := by decide +kernel
theorem dX3_findFault_58 : decode cX3_findFault 58 = .ok (.aload_n 0, 1) := by decide +kernel
theorem dX3_findFault_59 : decode cX3_findFault 59 = .ok (.getfield 44, 3) := by decide +kernel
theorem dX3_findFault_62 : decode cX3_findFault 62 = .ok (.ireturn, 1) := by decide +kernel
def st_X3_findFault_L6 (Q : Int32 → Sg → Prop) (K6 : Int32 → Sg → Prop) (v1 : Int32) (σ : Sg) : Prop := (((80 : Int32) ≤ v1 → Q (σ 11 15 0 3) σ) ∧ (¬ (80 : Int32) ≤ v1 → wp_X3_readOrder σ (fun r3 σ4 => ((¬ r3 = 0 → (((σ4 11 15 0 3) < (σ4 11 15 0 2) → wp_X3_readSign (59 : Int32) σ4 (fun r7 σ8 => ((¬ r7 = 0 → ∀ z10 : Int32, z10 = v1 + (1 : Int32) → K6 z10 σ8) ∧ (r7 = 0 → Q (σ8 11 15 0 3) σ8)))) ∧ (¬ (σ4 11 15 0 3) < (σ4 11 15 0 2) → Q (-6 : Int32) σ4))) ∧ (r3 = 0 → Q (σ4 11 15 0 3) σ4)))))
def wp_X3_findFault_L6 (Q : Int32 → Sg → Prop) (v1 : Int32) (σ : Sg) : Prop := ∃ n : Nat, lpN (fun (K : Int32 × Sg → Prop) (a : Int32 × Sg) => st_X3_findFault_L6 Q (fun v1 σ => K (v1, σ)) (a.1) (a.2)) n (v1, σ)
set_option maxRecDepth 100000 in
set_option maxHeartbeats 4000000 in
theorem gs_X3_findFault_L6 {X : Tx} {Q : Int32 → Sg → Prop} (C : Cx X cX3_findFault "SweetWraps$Pad" (some .int) 5 145 2 (QI (tE X) Q)) {K6 : Int32 → Sg → Prop} (hK6 : ∀ (v1 : Int32) (σ : Sg), K6 v1 σ → G X σ [(0, .ref (ad (tE X) 11 15 0)), (1, .int v1)] [] 6) {v1 : Int32} {σ : Sg} (hw : st_X3_findFault_L6 Q K6 v1 σ) : G X σ [(0, .ref (ad (tE X) 11 15 0)), (1, .int v1)] [] 6 := by
  unfold st_X3_findFault_L6 at hw
  refine gx_iload_n C dX3_findFault_6 1 rfl ?_
  refine gx_bipush (v := (80 : Int32)) C dX3_findFault_7 (by decide) ?_
  refine gx_icmp_ge (tgt := 58) C dX3_findFault_9 (by decide) (fun c2 => ?_) (fun c2 => ?_)
  · replace hw := hw.1 c2
    refine gx_aload_n C dX3_findFault_58 0 rfl ?_
    refine gx_get C okg_15 rfl rfl inX3 (ref := "SweetWraps$Pad") 3 (by decide) bw_152 rfl rfl dX3_findFault_59 ?_
    exact gx_iret C rfl rfl dX3_findFault_62 hw
  · replace hw := hw.2 c2
    refine gx_aload_n C dX3_findFault_12 0 rfl ?_
    refine gx_vcalli (As := []) (rest := []) C (c_X3_readOrder _ _ hw) okg_15 rfl rfl bw_545 bw_546 bw_547 bw_6 bw_548 hy_X3_readOrder ⟨by decide, by decide⟩ rfl (Nat.le_of_ble_eq_true rfl) dX3_findFault_13 (fun r3 σ4 hw => ?_)
    refine gx_if_ne (tgt := 24) C dX3_findFault_16 (by decide) (fun c5 => ?_) (fun c5 => ?_)
    · replace hw := hw.1 c5
      refine gx_aload_n C dX3_findFault_24 0 rfl ?_
      refine gx_get C okg_15 rfl rfl inX3 (ref := "SweetWraps$Pad") 3 (by decide) bw_152 rfl rfl dX3_findFault_25 ?_
      refine gx_aload_n C dX3_findFault_28 0 rfl ?_
      refine gx_get C okg_15 rfl rfl inX3 (ref := "SweetWraps$Pad") 2 (by decide) bw_150 rfl rfl dX3_findFault_29 ?_
      refine gx_icmp_lt (tgt := 38) C dX3_findFault_32 (by decide) (fun c6 => ?_) (fun c6 => ?_)
      · replace hw := hw.1 c6
        refine gx_aload_n C dX3_findFault_38 0 rfl ?_
        refine gx_bipush (v := (59 : Int32)) C dX3_findFault_39 (by decide) ?_
        refine gx_vcalli (As := [.int (59 : Int32)]) (rest := []) C (c_X3_readSign _ _ hw) okg_15 rfl rfl bw_631 bw_632 bw_633 bw_6 bw_634 hy_X3_readSign ⟨by decide, by decide⟩ rfl (Nat.le_of_ble_eq_true rfl) dX3_findFault_41 (fun r7 σ8 hw => ?_)
        refine gx_if_ne (tgt := 52) C dX3_findFault_44 (by decide) (fun c9 => ?_) (fun c9 => ?_)
        · replace hw := hw.1 c9
          obtain ⟨z10, e_z10⟩ : ∃ z : Int32, z = v1 + (1 : Int32) := ⟨_, rfl⟩
          replace hw := hw z10 e_z10
          refine gx_iinc (v := z10) (lv' := [(1, .int z10), (0, .ref (ad (tE X) 11 15 0))]) C dX3_findFault_52 1 rfl (by rw [e_z10]; rfl) (by decide) rfl ?_
          refine gx_goto (tgt := 6) C dX3_findFault_55 (by decide) ?_
          refine gx_sub (lv' := [(0, .ref (ad (tE X) 11 15 0)), (1, .int z10)]) [1, 0] rfl ?_
          exact hK6 _ _ hw
        · replace hw := hw.2 c9
          refine gx_aload_n C dX3_findFault_47 0 rfl ?_
          refine gx_get C okg_15 rfl rfl inX3 (ref := "SweetWraps$Pad") 3 (by decide) bw_152 rfl rfl dX3_findFault_48 ?_
          exact gx_iret C rfl rfl dX3_findFault_51 hw
      · replace hw := hw.2 c6
        refine gx_bipush (v := (-6 : Int32)) C dX3_findFault_35 (by decide) ?_
        exact gx_iret C rfl rfl dX3_findFault_37 hw
    · replace hw := hw.2 c5
      refine gx_aload_n C dX3_findFault_19 0 rfl ?_
      refine gx_get C okg_15 rfl rfl inX3 (ref := "SweetWraps$Pad") 3 (by decide) bw_152 rfl rfl dX3_findFault_20 ?_
      exact gx_iret C rfl rfl dX3_findFault_23 hw
set_option maxRecDepth 100000 in
set_option maxHeartbeats 4000000 in
theorem g_X3_findFault_L6 {X : Tx} {Q : Int32 → Sg → Prop} (C : Cx X cX3_findFault "SweetWraps$Pad" (some .int) 5 145 2 (QI (tE X) Q)) {v1 : Int32} {σ : Sg} (hw : wp_X3_findFault_L6 Q v1 σ) : G X σ [(0, .ref (ad (tE X) 11 15 0)), (1, .int v1)] [] 6 := by
  obtain ⟨n, hw⟩ := hw
  exact lpN_G (P := (fun (a : Int32 × Sg) => G X (a.2) [(0, .ref (ad (tE X) 11 15 0)), (1, .int (a.1))] [] 6)) (fun K a hK h => gs_X3_findFault_L6 C (fun v1 σ h => hK (v1, σ) h) h) n _ hw
def wp_X3_findFault (σ : Sg) (Q : Int32 → Sg → Prop) : Prop := wp_X3_startReading σ (fun σ1 => wp_X3_findFault_L6 Q (0 : Int32) σ1)
set_option maxRecDepth 100000 in
set_option maxHeartbeats 4000000 in
theorem c_X3_findFault (l : Launch) (E : Ev) {σ : Sg} {Q : Int32 → Sg → Prop} (hw : wp_X3_findFault σ Q) : CT l E yX3_findFault cX3_findFault 2 (some .int) 5 145 [.ref (ad E 11 15 0)] σ (QI E Q) := by
  refine CT_of (by decide) (Nat.le_of_ble_eq_true rfl) (fun X h1 h2 C => ?_)
  subst h1; subst h2
  have C : Cx X cX3_findFault "SweetWraps$Pad" (some .int) 5 145 2 (QI (tE X) Q) := C
  show G X σ [(0, .ref (ad (tE X) 11 15 0))] [] 0
  unfold wp_X3_findFault at hw
  refine gx_aload_n C dX3_findFault_0 0 rfl ?_
  refine gx_vcallv (As := []) (rest := []) C (c_X3_startReading _ _ hw) okg_15 rfl rfl bw_541 bw_542 bw_543 bw_6 bw_544 hy_X3_startReading ⟨by decide, by decide⟩ rfl (Nat.le_of_ble_eq_true rfl) dX3_findFault_1 (fun σ1 hw => ?_)
  refine gx_iconst (v := (0 : Int32)) C dX3_findFault_4 (by decide) ?_
  refine gx_istore_n (lv' := [(1, .int (0 : Int32)), (0, .ref (ad (tE X) 11 15 0))]) C dX3_findFault_5 (by decide) rfl ?_
  refine gx_sub (lv' := [(0, .ref (ad (tE X) 11 15 0)), (1, .int (0 : Int32))]) [1, 0] rfl ?_
  exact g_X3_findFault_L6 C hw
theorem hy_X3_findFault : yX3_findFault.cls = "SweetWraps$Pad" ∧ yX3_findFault.cls ≠ "java/lang/invoke/MethodHandle" ∧ yX3_findFault.cls ≠ "java/lang/invoke/VarHandle" ∧ (parseMethodDescriptor yX3_findFault.desc).map (fun d => d.parameters.length) = some 0 := by decide +kernel

theorem dX5_set_0 : decode cX5_set 0 = .ok (.aload_n 0, 1) := by decide +kernel
theorem dX5_set_1 : decode cX5_set 1 = .ok (.getfield 22, 3) := by decide +kernel
theorem dX5_set_4 : decode cX5_set 4 = .ok (.aload_n 0, 1) := by decide +kernel
theorem dX5_set_5 : decode cX5_set 5 = .ok (.getfield 10, 3) := by decide +kernel
theorem dX5_set_8 : decode cX5_set 8 = .ok (.invokevirtual 41, 3) := by decide +kernel
theorem dX5_set_11 : decode cX5_set 11 = .ok (.aload_n 0, 1) := by decide +kernel
theorem dX5_set_12 : decode cX5_set 12 = .ok (.getfield 22, 3) := by decide +kernel
theorem dX5_set_15 : decode cX5_set 15 = .ok (.aload_n 0, 1) := by decide +kernel
theorem dX5_set_16 : decode cX5_set 16 = .ok (.getfield 10, 3) := by decide +kernel
theorem dX5_set_19 : decode cX5_set 19 = .ok (.iload_n 1, 1) := by decide +kernel
theorem dX5_set_20 : decode cX5_set 20 = .ok (.iload_n 2, 1) := by decide +kernel
theorem dX5_set_21 : decode cX5_set 21 = .ok (.invokevirtual 45, 3) := by decide +kernel
theorem dX5_set_24 : decode cX5_set 24 = .ok (.invokevirtual 49, 3) := by decide +kernel
theorem dX5_set_27 : decode cX5_set 27 = .ok (.ireturn, 1) := by decide +kernel
def wp_X5_set (x1 : Int32) (x2 : Int32) (σ : Sg) (Q : Int32 → Sg → Prop) : Prop := wp_X0_prepare 0 σ (fun σ1 => wp_X2_changeSetting 0 x1 x2 σ1 (fun r2 σ3 => wp_X0_record r2 σ3 (fun r4 σ5 => Q r4 σ5)))
set_option maxRecDepth 100000 in
set_option maxHeartbeats 4000000 in
theorem c_X5_set (l : Launch) (E : Ev) {x1 : Int32} {x2 : Int32} {σ : Sg} {Q : Int32 → Sg → Prop} (hw : wp_X5_set x1 x2 σ Q) : CT l E yX5_set cX5_set 3 (some .int) 5 145 [.ref (ad E 11 10 0), .int x1, .int x2] σ (QI E Q) := by
  refine CT_of (by decide) (Nat.le_of_ble_eq_true rfl) (fun X h1 h2 C => ?_)
  subst h1; subst h2
  have C : Cx X cX5_set "SweetWraps" (some .int) 5 145 3 (QI (tE X) Q) := C
  show G X σ [(0, .ref (ad (tE X) 11 10 0)), (1, .int x1), (2, .int x2)] [] 0
  unfold wp_X5_set at hw
  refine gx_aload_n C dX5_set_0 0 rfl ?_
  refine gx_get C okg_10 rfl rfl inX5 (ref := "SweetWraps") 2 (by decide) bw_173 rfl rfl dX5_set_1 ?_
  refine gx_aload_n C dX5_set_4 0 rfl ?_
  refine gx_get C okg_10 rfl rfl inX5 (ref := "SweetWraps") 0 (by decide) bw_171 rfl rfl dX5_set_5 ?_
  refine gx_vcallv (As := [.ref (ad (tE X) 0 0 0)]) (rest := []) C (c_X0_prepare _ _ (by decide) hw) okg_11 rfl rfl bw_194 bw_195 bw_196 bw_5 bw_197 hy_X0_prepare ⟨by decide, by decide⟩ rfl (Nat.le_of_ble_eq_true rfl) dX5_set_8 (fun σ1 hw => ?_)
  refine gx_aload_n C dX5_set_11 0 rfl ?_
  refine gx_get C okg_10 rfl rfl inX5 (ref := "SweetWraps") 2 (by decide) bw_173 rfl rfl dX5_set_12 ?_
  refine gx_aload_n C dX5_set_15 0 rfl ?_
  refine gx_get C okg_10 rfl rfl inX5 (ref := "SweetWraps") 0 (by decide) bw_171 rfl rfl dX5_set_16 ?_
  refine gx_iload_n C dX5_set_19 1 rfl ?_
  refine gx_iload_n C dX5_set_20 2 rfl ?_
  refine gx_vcalli (As := [.int x1, .int x2]) (rest := [.ref (ad (tE X) 11 11 0)]) C (c_X2_changeSetting _ _ (by decide) hw) (ok0 (show 0 < 11 from by decide)) rfl rfl bw_221 bw_222 bw_223 bw_2 bw_224 hy_X2_changeSetting ⟨by decide, by decide⟩ rfl (Nat.le_of_ble_eq_true rfl) dX5_set_21 (fun r2 σ3 hw => ?_)
  refine gx_vcalli (As := [.int r2]) (rest := []) C (c_X0_record _ _ hw) okg_11 rfl rfl bw_235 bw_236 bw_237 bw_5 bw_238 hy_X0_record ⟨by decide, by decide⟩ rfl (Nat.le_of_ble_eq_true rfl) dX5_set_24 (fun r4 σ5 hw => ?_)
  exact gx_iret C rfl rfl dX5_set_27 hw
theorem hy_X5_set : yX5_set.cls = "SweetWraps" ∧ yX5_set.cls ≠ "java/lang/invoke/MethodHandle" ∧ yX5_set.cls ≠ "java/lang/invoke/VarHandle" ∧ (parseMethodDescriptor yX5_set.desc).map (fun d => d.parameters.length) = some 2 := by decide +kernel

theorem dX5_heap_0 : decode cX5_heap 0 = .ok (.aload_n 0, 1) := by decide +kernel
theorem dX5_heap_1 : decode cX5_heap 1 = .ok (.getfield 22, 3) := by decide +kernel
theorem dX5_heap_4 : decode cX5_heap 4 = .ok (.aload_n 0, 1) := by decide +kernel
theorem dX5_heap_5 : decode cX5_heap 5 = .ok (.getfield 10, 3) := by decide +kernel
theorem dX5_heap_8 : decode cX5_heap 8 = .ok (.invokevirtual 41, 3) := by decide +kernel
theorem dX5_heap_11 : decode cX5_heap 11 = .ok (.aload_n 0, 1) := by decide +kernel
theorem dX5_heap_12 : decode cX5_heap 12 = .ok (.getfield 22, 3) := by decide +kernel
theorem dX5_heap_15 : decode cX5_heap 15 = .ok (.aload_n 0, 1) := by decide +kernel
theorem dX5_heap_16 : decode cX5_heap 16 = .ok (.getfield 10, 3) := by decide +kernel
theorem dX5_heap_19 : decode cX5_heap 19 = .ok (.iload_n 1, 1) := by decide +kernel
theorem dX5_heap_20 : decode cX5_heap 20 = .ok (.iload_n 2, 1) := by decide +kernel
theorem dX5_heap_21 : decode cX5_heap 21 = .ok (.iload_n 3, 1) := by decide +kernel
theorem dX5_heap_22 : decode cX5_heap 22 = .ok (.invokevirtual 53, 3) := by decide +kernel
theorem dX5_heap_25 : decode cX5_heap 25 = .ok (.invokevirtual 49, 3) := by decide +kernel
theorem dX5_heap_28 : decode cX5_heap 28 = .ok (.ireturn, 1) := by decide +kernel
def wp_X5_heap (x1 : Int32) (x2 : Int32) (x3 : Int32) (σ : Sg) (Q : Int32 → Sg → Prop) : Prop := wp_X0_prepare 0 σ (fun σ1 => wp_X2_addSweets 0 x1 x2 x3 σ1 (fun r2 σ3 => wp_X0_record r2 σ3 (fun r4 σ5 => Q r4 σ5)))
set_option maxRecDepth 100000 in
set_option maxHeartbeats 4000000 in
theorem c_X5_heap (l : Launch) (E : Ev) {x1 : Int32} {x2 : Int32} {x3 : Int32} {σ : Sg} {Q : Int32 → Sg → Prop} (hw : wp_X5_heap x1 x2 x3 σ Q) : CT l E yX5_heap cX5_heap 4 (some .int) 5 145 [.ref (ad E 11 10 0), .int x1, .int x2, .int x3] σ (QI E Q) := by
  refine CT_of (by decide) (Nat.le_of_ble_eq_true rfl) (fun X h1 h2 C => ?_)
  subst h1; subst h2
  have C : Cx X cX5_heap "SweetWraps" (some .int) 5 145 4 (QI (tE X) Q) := C
  show G X σ [(0, .ref (ad (tE X) 11 10 0)), (1, .int x1), (2, .int x2), (3, .int x3)] [] 0
  unfold wp_X5_heap at hw
  refine gx_aload_n C dX5_heap_0 0 rfl ?_
  refine gx_get C okg_10 rfl rfl inX5 (ref := "SweetWraps") 2 (by decide) bw_173 rfl rfl dX5_heap_1 ?_
  refine gx_aload_n C dX5_heap_4 0 rfl ?_
  refine gx_get C okg_10 rfl rfl inX5 (ref := "SweetWraps") 0 (by decide) bw_171 rfl rfl dX5_heap_5 ?_
  refine gx_vcallv (As := [.ref (ad (tE X) 0 0 0)]) (rest := []) C (c_X0_prepare _ _ (by decide) hw) okg_11 rfl rfl bw_194 bw_195 bw_196 bw_5 bw_197 hy_X0_prepare ⟨by decide, by decide⟩ rfl (Nat.le_of_ble_eq_true rfl) dX5_heap_8 (fun σ1 hw => ?_)
  refine gx_aload_n C dX5_heap_11 0 rfl ?_
  refine gx_get C okg_10 rfl rfl inX5 (ref := "SweetWraps") 2 (by decide) bw_173 rfl rfl dX5_heap_12 ?_
  refine gx_aload_n C dX5_heap_15 0 rfl ?_
  refine gx_get C okg_10 rfl rfl inX5 (ref := "SweetWraps") 0 (by decide) bw_171 rfl rfl dX5_heap_16 ?_
  refine gx_iload_n C dX5_heap_19 1 rfl ?_
  refine gx_iload_n C dX5_heap_20 2 rfl ?_
  refine gx_iload_n C dX5_heap_21 3 rfl ?_
  refine gx_vcalli (As := [.int x1, .int x2, .int x3]) (rest := [.ref (ad (tE X) 11 11 0)]) C (c_X2_addSweets _ _ (by decide) hw) (ok0 (show 0 < 11 from by decide)) rfl rfl bw_248 bw_249 bw_250 bw_2 bw_251 hy_X2_addSweets ⟨by decide, by decide⟩ rfl (Nat.le_of_ble_eq_true rfl) dX5_heap_22 (fun r2 σ3 hw => ?_)
  refine gx_vcalli (As := [.int r2]) (rest := []) C (c_X0_record _ _ hw) okg_11 rfl rfl bw_235 bw_236 bw_237 bw_5 bw_238 hy_X0_record ⟨by decide, by decide⟩ rfl (Nat.le_of_ble_eq_true rfl) dX5_heap_25 (fun r4 σ5 hw => ?_)
  exact gx_iret C rfl rfl dX5_heap_28 hw
theorem hy_X5_heap : yX5_heap.cls = "SweetWraps" ∧ yX5_heap.cls ≠ "java/lang/invoke/MethodHandle" ∧ yX5_heap.cls ≠ "java/lang/invoke/VarHandle" ∧ (parseMethodDescriptor yX5_heap.desc).map (fun d => d.parameters.length) = some 3 := by decide +kernel

theorem dX5_foil_0 : decode cX5_foil 0 = .ok (.aload_n 0, 1) := by decide +kernel
theorem dX5_foil_1 : decode cX5_foil 1 = .ok (.getfield 22, 3) := by decide +kernel
theorem dX5_foil_4 : decode cX5_foil 4 = .ok (.aload_n 0, 1) := by decide +kernel
theorem dX5_foil_5 : decode cX5_foil 5 = .ok (.getfield 10, 3) := by decide +kernel
theorem dX5_foil_8 : decode cX5_foil 8 = .ok (.invokevirtual 41, 3) := by decide +kernel
theorem dX5_foil_11 : decode cX5_foil 11 = .ok (.aload_n 0, 1) := by decide +kernel
theorem dX5_foil_12 : decode cX5_foil 12 = .ok (.getfield 22, 3) := by decide +kernel
theorem dX5_foil_15 : decode cX5_foil 15 = .ok (.aload_n 0, 1) := by decide +kernel
theorem dX5_foil_16 : decode cX5_foil 16 = .ok (.getfield 10, 3) := by decide +kernel
theorem dX5_foil_19 : decode cX5_foil 19 = .ok (.iload_n 1, 1) := by decide +kernel
theorem dX5_foil_20 : decode cX5_foil 20 = .ok (.iload_n 2, 1) := by decide +kernel
theorem dX5_foil_21 : decode cX5_foil 21 = .ok (.invokevirtual 57, 3) := by decide +kernel
theorem dX5_foil_24 : decode cX5_foil 24 = .ok (.invokevirtual 49, 3) := by decide +kernel
theorem dX5_foil_27 : decode cX5_foil 27 = .ok (.ireturn, 1) := by decide +kernel
def wp_X5_foil (x1 : Int32) (x2 : Int32) (σ : Sg) (Q : Int32 → Sg → Prop) : Prop := wp_X0_prepare 0 σ (fun σ1 => wp_X2_addFoil 0 x1 x2 σ1 (fun r2 σ3 => wp_X0_record r2 σ3 (fun r4 σ5 => Q r4 σ5)))
set_option maxRecDepth 100000 in
set_option maxHeartbeats 4000000 in
theorem c_X5_foil (l : Launch) (E : Ev) {x1 : Int32} {x2 : Int32} {σ : Sg} {Q : Int32 → Sg → Prop} (hw : wp_X5_foil x1 x2 σ Q) : CT l E yX5_foil cX5_foil 3 (some .int) 5 145 [.ref (ad E 11 10 0), .int x1, .int x2] σ (QI E Q) := by
  refine CT_of (by decide) (Nat.le_of_ble_eq_true rfl) (fun X h1 h2 C => ?_)
  subst h1; subst h2
  have C : Cx X cX5_foil "SweetWraps" (some .int) 5 145 3 (QI (tE X) Q) := C
  show G X σ [(0, .ref (ad (tE X) 11 10 0)), (1, .int x1), (2, .int x2)] [] 0
  unfold wp_X5_foil at hw
  refine gx_aload_n C dX5_foil_0 0 rfl ?_
  refine gx_get C okg_10 rfl rfl inX5 (ref := "SweetWraps") 2 (by decide) bw_173 rfl rfl dX5_foil_1 ?_
  refine gx_aload_n C dX5_foil_4 0 rfl ?_
  refine gx_get C okg_10 rfl rfl inX5 (ref := "SweetWraps") 0 (by decide) bw_171 rfl rfl dX5_foil_5 ?_
  refine gx_vcallv (As := [.ref (ad (tE X) 0 0 0)]) (rest := []) C (c_X0_prepare _ _ (by decide) hw) okg_11 rfl rfl bw_194 bw_195 bw_196 bw_5 bw_197 hy_X0_prepare ⟨by decide, by decide⟩ rfl (Nat.le_of_ble_eq_true rfl) dX5_foil_8 (fun σ1 hw => ?_)
  refine gx_aload_n C dX5_foil_11 0 rfl ?_
  refine gx_get C okg_10 rfl rfl inX5 (ref := "SweetWraps") 2 (by decide) bw_173 rfl rfl dX5_foil_12 ?_
  refine gx_aload_n C dX5_foil_15 0 rfl ?_
  refine gx_get C okg_10 rfl rfl inX5 (ref := "SweetWraps") 0 (by decide) bw_171 rfl rfl dX5_foil_16 ?_
  refine gx_iload_n C dX5_foil_19 1 rfl ?_
  refine gx_iload_n C dX5_foil_20 2 rfl ?_
  refine gx_vcalli (As := [.int x1, .int x2]) (rest := [.ref (ad (tE X) 11 11 0)]) C (c_X2_addFoil _ _ (by decide) hw) (ok0 (show 0 < 11 from by decide)) rfl rfl bw_269 bw_270 bw_271 bw_2 bw_272 hy_X2_addFoil ⟨by decide, by decide⟩ rfl (Nat.le_of_ble_eq_true rfl) dX5_foil_21 (fun r2 σ3 hw => ?_)
  refine gx_vcalli (As := [.int r2]) (rest := []) C (c_X0_record _ _ hw) okg_11 rfl rfl bw_235 bw_236 bw_237 bw_5 bw_238 hy_X0_record ⟨by decide, by decide⟩ rfl (Nat.le_of_ble_eq_true rfl) dX5_foil_24 (fun r4 σ5 hw => ?_)
  exact gx_iret C rfl rfl dX5_foil_27 hw
theorem hy_X5_foil : yX5_foil.cls = "SweetWraps" ∧ yX5_foil.cls ≠ "java/lang/invoke/MethodHandle" ∧ yX5_foil.cls ≠ "java/lang/invoke/VarHandle" ∧ (parseMethodDescriptor yX5_foil.desc).map (fun d => d.parameters.length) = some 2 := by decide +kernel

theorem dX5_tin_0 : decode cX5_tin 0 = .ok (.aload_n 0, 1) := by decide +kernel
theorem dX5_tin_1 : decode cX5_tin 1 = .ok (.getfield 22, 3) := by decide +kernel
theorem dX5_tin_4 : decode cX5_tin 4 = .ok (.aload_n 0, 1) := by decide +kernel
theorem dX5_tin_5 : decode cX5_tin 5 = .ok (.getfield 10, 3) := by decide +kernel
theorem dX5_tin_8 : decode cX5_tin 8 = .ok (.invokevirtual 41, 3) := by decide +kernel
theorem dX5_tin_11 : decode cX5_tin 11 = .ok (.aload_n 0, 1) := by decide +kernel
theorem dX5_tin_12 : decode cX5_tin 12 = .ok (.getfield 22, 3) := by decide +kernel
theorem dX5_tin_15 : decode cX5_tin 15 = .ok (.aload_n 0, 1) := by decide +kernel
theorem dX5_tin_16 : decode cX5_tin 16 = .ok (.getfield 10, 3) := by decide +kernel
theorem dX5_tin_19 : decode cX5_tin 19 = .ok (.invokevirtual 60, 3) := by decide +kernel
theorem dX5_tin_22 : decode cX5_tin 22 = .ok (.invokevirtual 49, 3) := by decide +kernel
theorem dX5_tin_25 : decode cX5_tin 25 = .ok (.ireturn, 1) := by decide +kernel
def wp_X5_tin (σ : Sg) (Q : Int32 → Sg → Prop) : Prop := wp_X0_prepare 0 σ (fun σ1 => wp_X2_addTin 0 σ1 (fun r2 σ3 => wp_X0_record r2 σ3 (fun r4 σ5 => Q r4 σ5)))
set_option maxRecDepth 100000 in
set_option maxHeartbeats 4000000 in
theorem c_X5_tin (l : Launch) (E : Ev) {σ : Sg} {Q : Int32 → Sg → Prop} (hw : wp_X5_tin σ Q) : CT l E yX5_tin cX5_tin 1 (some .int) 5 145 [.ref (ad E 11 10 0)] σ (QI E Q) := by
  refine CT_of (by decide) (Nat.le_of_ble_eq_true rfl) (fun X h1 h2 C => ?_)
  subst h1; subst h2
  have C : Cx X cX5_tin "SweetWraps" (some .int) 5 145 1 (QI (tE X) Q) := C
  show G X σ [(0, .ref (ad (tE X) 11 10 0))] [] 0
  unfold wp_X5_tin at hw
  refine gx_aload_n C dX5_tin_0 0 rfl ?_
  refine gx_get C okg_10 rfl rfl inX5 (ref := "SweetWraps") 2 (by decide) bw_173 rfl rfl dX5_tin_1 ?_
  refine gx_aload_n C dX5_tin_4 0 rfl ?_
  refine gx_get C okg_10 rfl rfl inX5 (ref := "SweetWraps") 0 (by decide) bw_171 rfl rfl dX5_tin_5 ?_
  refine gx_vcallv (As := [.ref (ad (tE X) 0 0 0)]) (rest := []) C (c_X0_prepare _ _ (by decide) hw) okg_11 rfl rfl bw_194 bw_195 bw_196 bw_5 bw_197 hy_X0_prepare ⟨by decide, by decide⟩ rfl (Nat.le_of_ble_eq_true rfl) dX5_tin_8 (fun σ1 hw => ?_)
  refine gx_aload_n C dX5_tin_11 0 rfl ?_
  refine gx_get C okg_10 rfl rfl inX5 (ref := "SweetWraps") 2 (by decide) bw_173 rfl rfl dX5_tin_12 ?_
  refine gx_aload_n C dX5_tin_15 0 rfl ?_
  refine gx_get C okg_10 rfl rfl inX5 (ref := "SweetWraps") 0 (by decide) bw_171 rfl rfl dX5_tin_16 ?_
  refine gx_vcalli (As := []) (rest := [.ref (ad (tE X) 11 11 0)]) C (c_X2_addTin _ _ (by decide) hw) (ok0 (show 0 < 11 from by decide)) rfl rfl bw_277 bw_278 bw_279 bw_2 bw_280 hy_X2_addTin ⟨by decide, by decide⟩ rfl (Nat.le_of_ble_eq_true rfl) dX5_tin_19 (fun r2 σ3 hw => ?_)
  refine gx_vcalli (As := [.int r2]) (rest := []) C (c_X0_record _ _ hw) okg_11 rfl rfl bw_235 bw_236 bw_237 bw_5 bw_238 hy_X0_record ⟨by decide, by decide⟩ rfl (Nat.le_of_ble_eq_true rfl) dX5_tin_22 (fun r4 σ5 hw => ?_)
  exact gx_iret C rfl rfl dX5_tin_25 hw
theorem hy_X5_tin : yX5_tin.cls = "SweetWraps" ∧ yX5_tin.cls ≠ "java/lang/invoke/MethodHandle" ∧ yX5_tin.cls ≠ "java/lang/invoke/VarHandle" ∧ (parseMethodDescriptor yX5_tin.desc).map (fun d => d.parameters.length) = some 0 := by decide +kernel

theorem dX5_ship_0 : decode cX5_ship 0 = .ok (.aload_n 0, 1) := by decide +kernel
theorem dX5_ship_1 : decode cX5_ship 1 = .ok (.getfield 22, 3) := by decide +kernel
theorem dX5_ship_4 : decode cX5_ship 4 = .ok (.aload_n 0, 1) := by decide +kernel
theorem dX5_ship_5 : decode cX5_ship 5 = .ok (.getfield 10, 3) := by decide +kernel
theorem dX5_ship_8 : decode cX5_ship 8 = .ok (.invokevirtual 41, 3) := by decide +kernel
theorem dX5_ship_11 : decode cX5_ship 11 = .ok (.aload_n 0, 1) := by decide +kernel
theorem dX5_ship_12 : decode cX5_ship 12 = .ok (.getfield 22, 3) := by decide +kernel
theorem dX5_ship_15 : decode cX5_ship 15 = .ok (.aload_n 0, 1) := by decide +kernel
theorem dX5_ship_16 : decode cX5_ship 16 = .ok (.getfield 10, 3) := by decide +kernel
theorem dX5_ship_19 : decode cX5_ship 19 = .ok (.iload_n 1, 1) := by decide +kernel
theorem dX5_ship_20 : decode cX5_ship 20 = .ok (.invokevirtual 64, 3) := by decide +kernel
theorem dX5_ship_23 : decode cX5_ship 23 = .ok (.invokevirtual 49, 3) := by decide +kernel
theorem dX5_ship_26 : decode cX5_ship 26 = .ok (.ireturn, 1) := by decide +kernel
def wp_X5_ship (x1 : Int32) (σ : Sg) (Q : Int32 → Sg → Prop) : Prop := wp_X0_prepare 0 σ (fun σ1 => wp_X2_shipTin 0 x1 σ1 (fun r2 σ3 => wp_X0_record r2 σ3 (fun r4 σ5 => Q r4 σ5)))
set_option maxRecDepth 100000 in
set_option maxHeartbeats 4000000 in
theorem c_X5_ship (l : Launch) (E : Ev) {x1 : Int32} {σ : Sg} {Q : Int32 → Sg → Prop} (hw : wp_X5_ship x1 σ Q) : CT l E yX5_ship cX5_ship 2 (some .int) 5 145 [.ref (ad E 11 10 0), .int x1] σ (QI E Q) := by
  refine CT_of (by decide) (Nat.le_of_ble_eq_true rfl) (fun X h1 h2 C => ?_)
  subst h1; subst h2
  have C : Cx X cX5_ship "SweetWraps" (some .int) 5 145 2 (QI (tE X) Q) := C
  show G X σ [(0, .ref (ad (tE X) 11 10 0)), (1, .int x1)] [] 0
  unfold wp_X5_ship at hw
  refine gx_aload_n C dX5_ship_0 0 rfl ?_
  refine gx_get C okg_10 rfl rfl inX5 (ref := "SweetWraps") 2 (by decide) bw_173 rfl rfl dX5_ship_1 ?_
  refine gx_aload_n C dX5_ship_4 0 rfl ?_
  refine gx_get C okg_10 rfl rfl inX5 (ref := "SweetWraps") 0 (by decide) bw_171 rfl rfl dX5_ship_5 ?_
  refine gx_vcallv (As := [.ref (ad (tE X) 0 0 0)]) (rest := []) C (c_X0_prepare _ _ (by decide) hw) okg_11 rfl rfl bw_194 bw_195 bw_196 bw_5 bw_197 hy_X0_prepare ⟨by decide, by decide⟩ rfl (Nat.le_of_ble_eq_true rfl) dX5_ship_8 (fun σ1 hw => ?_)
  refine gx_aload_n C dX5_ship_11 0 rfl ?_
  refine gx_get C okg_10 rfl rfl inX5 (ref := "SweetWraps") 2 (by decide) bw_173 rfl rfl dX5_ship_12 ?_
  refine gx_aload_n C dX5_ship_15 0 rfl ?_
  refine gx_get C okg_10 rfl rfl inX5 (ref := "SweetWraps") 0 (by decide) bw_171 rfl rfl dX5_ship_16 ?_
  refine gx_iload_n C dX5_ship_19 1 rfl ?_
  refine gx_vcalli (As := [.int x1]) (rest := [.ref (ad (tE X) 11 11 0)]) C (c_X2_shipTin _ _ (by decide) hw) (ok0 (show 0 < 11 from by decide)) rfl rfl bw_285 bw_286 bw_287 bw_2 bw_288 hy_X2_shipTin ⟨by decide, by decide⟩ rfl (Nat.le_of_ble_eq_true rfl) dX5_ship_20 (fun r2 σ3 hw => ?_)
  refine gx_vcalli (As := [.int r2]) (rest := []) C (c_X0_record _ _ hw) okg_11 rfl rfl bw_235 bw_236 bw_237 bw_5 bw_238 hy_X0_record ⟨by decide, by decide⟩ rfl (Nat.le_of_ble_eq_true rfl) dX5_ship_23 (fun r4 σ5 hw => ?_)
  exact gx_iret C rfl rfl dX5_ship_26 hw
theorem hy_X5_ship : yX5_ship.cls = "SweetWraps" ∧ yX5_ship.cls ≠ "java/lang/invoke/MethodHandle" ∧ yX5_ship.cls ≠ "java/lang/invoke/VarHandle" ∧ (parseMethodDescriptor yX5_ship.desc).map (fun d => d.parameters.length) = some 1 := by decide +kernel

theorem dX5_apart_0 : decode cX5_apart 0 = .ok (.aload_n 0, 1) := by decide +kernel
theorem dX5_apart_1 : decode cX5_apart 1 = .ok (.getfield 22, 3) := by decide +kernel
theorem dX5_apart_4 : decode cX5_apart 4 = .ok (.aload_n 0, 1) := by decide +kernel
theorem dX5_apart_5 : decode cX5_apart 5 = .ok (.getfield 10, 3) := by decide +kernel
theorem dX5_apart_8 : decode cX5_apart 8 = .ok (.invokevirtual 41, 3) := by decide +kernel
theorem dX5_apart_11 : decode cX5_apart 11 = .ok (.aload_n 0, 1) := by decide +kernel
theorem dX5_apart_12 : decode cX5_apart 12 = .ok (.getfield 22, 3) := by decide +kernel
theorem dX5_apart_15 : decode cX5_apart 15 = .ok (.aload_n 0, 1) := by decide +kernel
theorem dX5_apart_16 : decode cX5_apart 16 = .ok (.getfield 10, 3) := by decide +kernel
theorem dX5_apart_19 : decode cX5_apart 19 = .ok (.iload_n 1, 1) := by decide +kernel
theorem dX5_apart_20 : decode cX5_apart 20 = .ok (.iload_n 2, 1) := by decide +kernel
theorem dX5_apart_21 : decode cX5_apart 21 = .ok (.invokevirtual 67, 3) := by decide +kernel
theorem dX5_apart_24 : decode cX5_apart 24 = .ok (.invokevirtual 49, 3) := by decide +kernel
theorem dX5_apart_27 : decode cX5_apart 27 = .ok (.ireturn, 1) := by decide +kernel
def wp_X5_apart (x1 : Int32) (x2 : Int32) (σ : Sg) (Q : Int32 → Sg → Prop) : Prop := wp_X0_prepare 0 σ (fun σ1 => wp_X2_changeApart 0 x1 x2 σ1 (fun r2 σ3 => wp_X0_record r2 σ3 (fun r4 σ5 => Q r4 σ5)))
set_option maxRecDepth 100000 in
set_option maxHeartbeats 4000000 in
theorem c_X5_apart (l : Launch) (E : Ev) {x1 : Int32} {x2 : Int32} {σ : Sg} {Q : Int32 → Sg → Prop} (hw : wp_X5_apart x1 x2 σ Q) : CT l E yX5_apart cX5_apart 3 (some .int) 5 145 [.ref (ad E 11 10 0), .int x1, .int x2] σ (QI E Q) := by
  refine CT_of (by decide) (Nat.le_of_ble_eq_true rfl) (fun X h1 h2 C => ?_)
  subst h1; subst h2
  have C : Cx X cX5_apart "SweetWraps" (some .int) 5 145 3 (QI (tE X) Q) := C
  show G X σ [(0, .ref (ad (tE X) 11 10 0)), (1, .int x1), (2, .int x2)] [] 0
  unfold wp_X5_apart at hw
  refine gx_aload_n C dX5_apart_0 0 rfl ?_
  refine gx_get C okg_10 rfl rfl inX5 (ref := "SweetWraps") 2 (by decide) bw_173 rfl rfl dX5_apart_1 ?_
  refine gx_aload_n C dX5_apart_4 0 rfl ?_
  refine gx_get C okg_10 rfl rfl inX5 (ref := "SweetWraps") 0 (by decide) bw_171 rfl rfl dX5_apart_5 ?_
  refine gx_vcallv (As := [.ref (ad (tE X) 0 0 0)]) (rest := []) C (c_X0_prepare _ _ (by decide) hw) okg_11 rfl rfl bw_194 bw_195 bw_196 bw_5 bw_197 hy_X0_prepare ⟨by decide, by decide⟩ rfl (Nat.le_of_ble_eq_true rfl) dX5_apart_8 (fun σ1 hw => ?_)
  refine gx_aload_n C dX5_apart_11 0 rfl ?_
  refine gx_get C okg_10 rfl rfl inX5 (ref := "SweetWraps") 2 (by decide) bw_173 rfl rfl dX5_apart_12 ?_
  refine gx_aload_n C dX5_apart_15 0 rfl ?_
  refine gx_get C okg_10 rfl rfl inX5 (ref := "SweetWraps") 0 (by decide) bw_171 rfl rfl dX5_apart_16 ?_
  refine gx_iload_n C dX5_apart_19 1 rfl ?_
  refine gx_iload_n C dX5_apart_20 2 rfl ?_
  refine gx_vcalli (As := [.int x1, .int x2]) (rest := [.ref (ad (tE X) 11 11 0)]) C (c_X2_changeApart _ _ (by decide) hw) (ok0 (show 0 < 11 from by decide)) rfl rfl bw_297 bw_298 bw_299 bw_2 bw_300 hy_X2_changeApart ⟨by decide, by decide⟩ rfl (Nat.le_of_ble_eq_true rfl) dX5_apart_21 (fun r2 σ3 hw => ?_)
  refine gx_vcalli (As := [.int r2]) (rest := []) C (c_X0_record _ _ hw) okg_11 rfl rfl bw_235 bw_236 bw_237 bw_5 bw_238 hy_X0_record ⟨by decide, by decide⟩ rfl (Nat.le_of_ble_eq_true rfl) dX5_apart_24 (fun r4 σ5 hw => ?_)
  exact gx_iret C rfl rfl dX5_apart_27 hw
theorem hy_X5_apart : yX5_apart.cls = "SweetWraps" ∧ yX5_apart.cls ≠ "java/lang/invoke/MethodHandle" ∧ yX5_apart.cls ≠ "java/lang/invoke/VarHandle" ∧ (parseMethodDescriptor yX5_apart.desc).map (fun d => d.parameters.length) = some 2 := by decide +kernel

theorem dX5_run_0 : decode cX5_run 0 = .ok (.aload_n 0, 1) := by decide +kernel
theorem dX5_run_1 : decode cX5_run 1 = .ok (.getfield 22, 3) := by decide +kernel
theorem dX5_run_4 : decode cX5_run 4 = .ok (.aload_n 0, 1) := by decide +kernel
theorem dX5_run_5 : decode cX5_run 5 = .ok (.getfield 10, 3) := by decide +kernel
theorem dX5_run_8 : decode cX5_run 8 = .ok (.invokevirtual 41, 3) := by decide +kernel
theorem dX5_run_11 : decode cX5_run 11 = .ok (.aload_n 0, 1) := by decide +kernel
theorem dX5_run_12 : decode cX5_run 12 = .ok (.getfield 22, 3) := by decide +kernel
theorem dX5_run_15 : decode cX5_run 15 = .ok (.aload_n 0, 1) := by decide +kernel
theorem dX5_run_16 : decode cX5_run 16 = .ok (.getfield 10, 3) := by decide +kernel
theorem dX5_run_19 : decode cX5_run 19 = .ok (.iload_n 1, 1) := by decide +kernel
theorem dX5_run_20 : decode cX5_run 20 = .ok (.invokevirtual 70, 3) := by decide +kernel
theorem dX5_run_23 : decode cX5_run 23 = .ok (.invokevirtual 49, 3) := by decide +kernel
theorem dX5_run_26 : decode cX5_run 26 = .ok (.ireturn, 1) := by decide +kernel
def wp_X5_run (x1 : Int32) (σ : Sg) (Q : Int32 → Sg → Prop) : Prop := wp_X0_prepare 0 σ (fun σ1 => wp_X2_runTicks 0 x1 σ1 (fun r2 σ3 => wp_X0_record r2 σ3 (fun r4 σ5 => Q r4 σ5)))
set_option maxRecDepth 100000 in
set_option maxHeartbeats 4000000 in
theorem c_X5_run (l : Launch) (E : Ev) {x1 : Int32} {σ : Sg} {Q : Int32 → Sg → Prop} (hw : wp_X5_run x1 σ Q) : CT l E yX5_run cX5_run 2 (some .int) 5 145 [.ref (ad E 11 10 0), .int x1] σ (QI E Q) := by
  refine CT_of (by decide) (Nat.le_of_ble_eq_true rfl) (fun X h1 h2 C => ?_)
  subst h1; subst h2
  have C : Cx X cX5_run "SweetWraps" (some .int) 5 145 2 (QI (tE X) Q) := C
  show G X σ [(0, .ref (ad (tE X) 11 10 0)), (1, .int x1)] [] 0
  unfold wp_X5_run at hw
  refine gx_aload_n C dX5_run_0 0 rfl ?_
  refine gx_get C okg_10 rfl rfl inX5 (ref := "SweetWraps") 2 (by decide) bw_173 rfl rfl dX5_run_1 ?_
  refine gx_aload_n C dX5_run_4 0 rfl ?_
  refine gx_get C okg_10 rfl rfl inX5 (ref := "SweetWraps") 0 (by decide) bw_171 rfl rfl dX5_run_5 ?_
  refine gx_vcallv (As := [.ref (ad (tE X) 0 0 0)]) (rest := []) C (c_X0_prepare _ _ (by decide) hw) okg_11 rfl rfl bw_194 bw_195 bw_196 bw_5 bw_197 hy_X0_prepare ⟨by decide, by decide⟩ rfl (Nat.le_of_ble_eq_true rfl) dX5_run_8 (fun σ1 hw => ?_)
  refine gx_aload_n C dX5_run_11 0 rfl ?_
  refine gx_get C okg_10 rfl rfl inX5 (ref := "SweetWraps") 2 (by decide) bw_173 rfl rfl dX5_run_12 ?_
  refine gx_aload_n C dX5_run_15 0 rfl ?_
  refine gx_get C okg_10 rfl rfl inX5 (ref := "SweetWraps") 0 (by decide) bw_171 rfl rfl dX5_run_16 ?_
  refine gx_iload_n C dX5_run_19 1 rfl ?_
  refine gx_vcalli (As := [.int x1]) (rest := [.ref (ad (tE X) 11 11 0)]) C (c_X2_runTicks _ _ (by decide) hw) (ok0 (show 0 < 11 from by decide)) rfl rfl bw_317 bw_318 bw_319 bw_2 bw_320 hy_X2_runTicks ⟨by decide, by decide⟩ rfl (Nat.le_of_ble_eq_true rfl) dX5_run_20 (fun r2 σ3 hw => ?_)
  refine gx_vcalli (As := [.int r2]) (rest := []) C (c_X0_record _ _ hw) okg_11 rfl rfl bw_235 bw_236 bw_237 bw_5 bw_238 hy_X0_record ⟨by decide, by decide⟩ rfl (Nat.le_of_ble_eq_true rfl) dX5_run_23 (fun r4 σ5 hw => ?_)
  exact gx_iret C rfl rfl dX5_run_26 hw
theorem hy_X5_run : yX5_run.cls = "SweetWraps" ∧ yX5_run.cls ≠ "java/lang/invoke/MethodHandle" ∧ yX5_run.cls ≠ "java/lang/invoke/VarHandle" ∧ (parseMethodDescriptor yX5_run.desc).map (fun d => d.parameters.length) = some 1 := by decide +kernel

theorem dX5_of_0 : decode cX5_of 0 = .ok (.aload_n 0, 1) := by decide +kernel
theorem dX5_of_1 : decode cX5_of 1 = .ok (.getfield 10, 3) := by decide +kernel
theorem dX5_of_4 : decode cX5_of 4 = .ok (.iload_n 1, 1) := by decide +kernel
theorem dX5_of_5 : decode cX5_of 5 = .ok (.iload_n 2, 1) := by decide +kernel
theorem dX5_of_6 : decode cX5_of 6 = .ok (.invokevirtual 73, 3) := by decide +kernel
theorem dX5_of_9 : decode cX5_of 9 = .ok (.ireturn, 1) := by decide +kernel
def wp_X5_of (x1 : Int32) (x2 : Int32) (σ : Sg) (Q : Int32 → Sg → Prop) : Prop := wp_X2_laneFact 0 x1 x2 σ (fun r1 σ2 => Q r1 σ2)
set_option maxRecDepth 100000 in
set_option maxHeartbeats 4000000 in
theorem c_X5_of (l : Launch) (E : Ev) {x1 : Int32} {x2 : Int32} {σ : Sg} {Q : Int32 → Sg → Prop} (hw : wp_X5_of x1 x2 σ Q) : CT l E yX5_of cX5_of 3 (some .int) 4 88 [.ref (ad E 11 10 0), .int x1, .int x2] σ (QI E Q) := by
  refine CT_of (by decide) (Nat.le_of_ble_eq_true rfl) (fun X h1 h2 C => ?_)
  subst h1; subst h2
  have C : Cx X cX5_of "SweetWraps" (some .int) 4 88 3 (QI (tE X) Q) := C
  show G X σ [(0, .ref (ad (tE X) 11 10 0)), (1, .int x1), (2, .int x2)] [] 0
  unfold wp_X5_of at hw
  refine gx_aload_n C dX5_of_0 0 rfl ?_
  refine gx_get C okg_10 rfl rfl inX5 (ref := "SweetWraps") 0 (by decide) bw_171 rfl rfl dX5_of_1 ?_
  refine gx_iload_n C dX5_of_4 1 rfl ?_
  refine gx_iload_n C dX5_of_5 2 rfl ?_
  refine gx_vcalli (As := [.int x1, .int x2]) (rest := []) C (c_X2_laneFact _ _ (by decide) hw) (ok0 (show 0 < 11 from by decide)) rfl rfl bw_373 bw_374 bw_375 bw_2 bw_376 hy_X2_laneFact ⟨by decide, by decide⟩ rfl (Nat.le_of_ble_eq_true rfl) dX5_of_6 (fun r1 σ2 hw => ?_)
  exact gx_iret C rfl rfl dX5_of_9 hw
theorem hy_X5_of : yX5_of.cls = "SweetWraps" ∧ yX5_of.cls ≠ "java/lang/invoke/MethodHandle" ∧ yX5_of.cls ≠ "java/lang/invoke/VarHandle" ∧ (parseMethodDescriptor yX5_of.desc).map (fun d => d.parameters.length) = some 2 := by decide +kernel

theorem dX5_ofHeap_0 : decode cX5_ofHeap 0 = .ok (.aload_n 0, 1) := by decide +kernel
theorem dX5_ofHeap_1 : decode cX5_ofHeap 1 = .ok (.getfield 10, 3) := by decide +kernel
theorem dX5_ofHeap_4 : decode cX5_ofHeap 4 = .ok (.iload_n 1, 1) := by decide +kernel
theorem dX5_ofHeap_5 : decode cX5_ofHeap 5 = .ok (.iload_n 2, 1) := by decide +kernel
theorem dX5_ofHeap_6 : decode cX5_ofHeap 6 = .ok (.iload_n 3, 1) := by decide +kernel
theorem dX5_ofHeap_7 : decode cX5_ofHeap 7 = .ok (.invokevirtual 76, 3) := by decide +kernel
theorem dX5_ofHeap_10 : decode cX5_ofHeap 10 = .ok (.ireturn, 1) := by decide +kernel
def wp_X5_ofHeap (x1 : Int32) (x2 : Int32) (x3 : Int32) (σ : Sg) (Q : Int32 → Sg → Prop) : Prop := wp_X2_heapFact 0 x1 x2 x3 σ (fun r1 σ2 => Q r1 σ2)
set_option maxRecDepth 100000 in
set_option maxHeartbeats 4000000 in
theorem c_X5_ofHeap (l : Launch) (E : Ev) {x1 : Int32} {x2 : Int32} {x3 : Int32} {σ : Sg} {Q : Int32 → Sg → Prop} (hw : wp_X5_ofHeap x1 x2 x3 σ Q) : CT l E yX5_ofHeap cX5_ofHeap 4 (some .int) 3 65 [.ref (ad E 11 10 0), .int x1, .int x2, .int x3] σ (QI E Q) := by
  refine CT_of (by decide) (Nat.le_of_ble_eq_true rfl) (fun X h1 h2 C => ?_)
  subst h1; subst h2
  have C : Cx X cX5_ofHeap "SweetWraps" (some .int) 3 65 4 (QI (tE X) Q) := C
  show G X σ [(0, .ref (ad (tE X) 11 10 0)), (1, .int x1), (2, .int x2), (3, .int x3)] [] 0
  unfold wp_X5_ofHeap at hw
  refine gx_aload_n C dX5_ofHeap_0 0 rfl ?_
  refine gx_get C okg_10 rfl rfl inX5 (ref := "SweetWraps") 0 (by decide) bw_171 rfl rfl dX5_ofHeap_1 ?_
  refine gx_iload_n C dX5_ofHeap_4 1 rfl ?_
  refine gx_iload_n C dX5_ofHeap_5 2 rfl ?_
  refine gx_iload_n C dX5_ofHeap_6 3 rfl ?_
  refine gx_vcalli (As := [.int x1, .int x2, .int x3]) (rest := []) C (c_X2_heapFact _ _ (by decide) hw) (ok0 (show 0 < 11 from by decide)) rfl rfl bw_386 bw_387 bw_388 bw_2 bw_389 hy_X2_heapFact ⟨by decide, by decide⟩ rfl (Nat.le_of_ble_eq_true rfl) dX5_ofHeap_7 (fun r1 σ2 hw => ?_)
  exact gx_iret C rfl rfl dX5_ofHeap_10 hw
theorem hy_X5_ofHeap : yX5_ofHeap.cls = "SweetWraps" ∧ yX5_ofHeap.cls ≠ "java/lang/invoke/MethodHandle" ∧ yX5_ofHeap.cls ≠ "java/lang/invoke/VarHandle" ∧ (parseMethodDescriptor yX5_ofHeap.desc).map (fun d => d.parameters.length) = some 3 := by decide +kernel

theorem dX5_ofTin_0 : decode cX5_ofTin 0 = .ok (.aload_n 0, 1) := by decide +kernel
theorem dX5_ofTin_1 : decode cX5_ofTin 1 = .ok (.getfield 10, 3) := by decide +kernel
theorem dX5_ofTin_4 : decode cX5_ofTin 4 = .ok (.iload_n 1, 1) := by decide +kernel
theorem dX5_ofTin_5 : decode cX5_ofTin 5 = .ok (.iload_n 2, 1) := by decide +kernel
theorem dX5_ofTin_6 : decode cX5_ofTin 6 = .ok (.invokevirtual 79, 3) := by decide +kernel
theorem dX5_ofTin_9 : decode cX5_ofTin 9 = .ok (.ireturn, 1) := by decide +kernel
def wp_X5_ofTin (x1 : Int32) (x2 : Int32) (σ : Sg) (Q : Int32 → Sg → Prop) : Prop := wp_X2_tinFact 0 x1 x2 σ (fun r1 σ2 => Q r1 σ2)
set_option maxRecDepth 100000 in
set_option maxHeartbeats 4000000 in
theorem c_X5_ofTin (l : Launch) (E : Ev) {x1 : Int32} {x2 : Int32} {σ : Sg} {Q : Int32 → Sg → Prop} (hw : wp_X5_ofTin x1 x2 σ Q) : CT l E yX5_ofTin cX5_ofTin 3 (some .int) 3 67 [.ref (ad E 11 10 0), .int x1, .int x2] σ (QI E Q) := by
  refine CT_of (by decide) (Nat.le_of_ble_eq_true rfl) (fun X h1 h2 C => ?_)
  subst h1; subst h2
  have C : Cx X cX5_ofTin "SweetWraps" (some .int) 3 67 3 (QI (tE X) Q) := C
  show G X σ [(0, .ref (ad (tE X) 11 10 0)), (1, .int x1), (2, .int x2)] [] 0
  unfold wp_X5_ofTin at hw
  refine gx_aload_n C dX5_ofTin_0 0 rfl ?_
  refine gx_get C okg_10 rfl rfl inX5 (ref := "SweetWraps") 0 (by decide) bw_171 rfl rfl dX5_ofTin_1 ?_
  refine gx_iload_n C dX5_ofTin_4 1 rfl ?_
  refine gx_iload_n C dX5_ofTin_5 2 rfl ?_
  refine gx_vcalli (As := [.int x1, .int x2]) (rest := []) C (c_X2_tinFact _ _ (by decide) hw) (ok0 (show 0 < 11 from by decide)) rfl rfl bw_395 bw_396 bw_397 bw_2 bw_398 hy_X2_tinFact ⟨by decide, by decide⟩ rfl (Nat.le_of_ble_eq_true rfl) dX5_ofTin_6 (fun r1 σ2 hw => ?_)
  exact gx_iret C rfl rfl dX5_ofTin_9 hw
theorem hy_X5_ofTin : yX5_ofTin.cls = "SweetWraps" ∧ yX5_ofTin.cls ≠ "java/lang/invoke/MethodHandle" ∧ yX5_ofTin.cls ≠ "java/lang/invoke/VarHandle" ∧ (parseMethodDescriptor yX5_ofTin.desc).map (fun d => d.parameters.length) = some 2 := by decide +kernel

theorem dX5_inTin_0 : decode cX5_inTin 0 = .ok (.aload_n 0, 1) := by decide +kernel
theorem dX5_inTin_1 : decode cX5_inTin 1 = .ok (.getfield 10, 3) := by decide +kernel
theorem dX5_inTin_4 : decode cX5_inTin 4 = .ok (.iload_n 1, 1) := by decide +kernel
theorem dX5_inTin_5 : decode cX5_inTin 5 = .ok (.iload_n 2, 1) := by decide +kernel
theorem dX5_inTin_6 : decode cX5_inTin 6 = .ok (.invokevirtual 82, 3) := by decide +kernel
theorem dX5_inTin_9 : decode cX5_inTin 9 = .ok (.ireturn, 1) := by decide +kernel
def wp_X5_inTin (x1 : Int32) (x2 : Int32) (σ : Sg) (Q : Int32 → Sg → Prop) : Prop := wp_X2_sweetsInTin 0 x1 x2 σ (fun r1 σ2 => Q r1 σ2)
set_option maxRecDepth 100000 in
set_option maxHeartbeats 4000000 in
theorem c_X5_inTin (l : Launch) (E : Ev) {x1 : Int32} {x2 : Int32} {σ : Sg} {Q : Int32 → Sg → Prop} (hw : wp_X5_inTin x1 x2 σ Q) : CT l E yX5_inTin cX5_inTin 3 (some .int) 3 64 [.ref (ad E 11 10 0), .int x1, .int x2] σ (QI E Q) := by
  refine CT_of (by decide) (Nat.le_of_ble_eq_true rfl) (fun X h1 h2 C => ?_)
  subst h1; subst h2
  have C : Cx X cX5_inTin "SweetWraps" (some .int) 3 64 3 (QI (tE X) Q) := C
  show G X σ [(0, .ref (ad (tE X) 11 10 0)), (1, .int x1), (2, .int x2)] [] 0
  unfold wp_X5_inTin at hw
  refine gx_aload_n C dX5_inTin_0 0 rfl ?_
  refine gx_get C okg_10 rfl rfl inX5 (ref := "SweetWraps") 0 (by decide) bw_171 rfl rfl dX5_inTin_1 ?_
  refine gx_iload_n C dX5_inTin_4 1 rfl ?_
  refine gx_iload_n C dX5_inTin_5 2 rfl ?_
  refine gx_vcalli (As := [.int x1, .int x2]) (rest := []) C (c_X2_sweetsInTin _ _ (by decide) hw) (ok0 (show 0 < 11 from by decide)) rfl rfl bw_407 bw_408 bw_409 bw_2 bw_410 hy_X2_sweetsInTin ⟨by decide, by decide⟩ rfl (Nat.le_of_ble_eq_true rfl) dX5_inTin_6 (fun r1 σ2 hw => ?_)
  exact gx_iret C rfl rfl dX5_inTin_9 hw
theorem hy_X5_inTin : yX5_inTin.cls = "SweetWraps" ∧ yX5_inTin.cls ≠ "java/lang/invoke/MethodHandle" ∧ yX5_inTin.cls ≠ "java/lang/invoke/VarHandle" ∧ (parseMethodDescriptor yX5_inTin.desc).map (fun d => d.parameters.length) = some 2 := by decide +kernel

theorem dX5_flavour_0 : decode cX5_flavour 0 = .ok (.aload_n 0, 1) := by decide +kernel
theorem dX5_flavour_1 : decode cX5_flavour 1 = .ok (.getfield 10, 3) := by decide +kernel
theorem dX5_flavour_4 : decode cX5_flavour 4 = .ok (.iload_n 1, 1) := by decide +kernel
theorem dX5_flavour_5 : decode cX5_flavour 5 = .ok (.iload_n 2, 1) := by decide +kernel
theorem dX5_flavour_6 : decode cX5_flavour 6 = .ok (.invokevirtual 85, 3) := by decide +kernel
theorem dX5_flavour_9 : decode cX5_flavour 9 = .ok (.ireturn, 1) := by decide +kernel
def wp_X5_flavour (x1 : Int32) (x2 : Int32) (σ : Sg) (Q : Int32 → Sg → Prop) : Prop := wp_X2_flavourFact 0 x1 x2 σ (fun r1 σ2 => Q r1 σ2)
set_option maxRecDepth 100000 in
set_option maxHeartbeats 4000000 in
theorem c_X5_flavour (l : Launch) (E : Ev) {x1 : Int32} {x2 : Int32} {σ : Sg} {Q : Int32 → Sg → Prop} (hw : wp_X5_flavour x1 x2 σ Q) : CT l E yX5_flavour cX5_flavour 3 (some .int) 3 68 [.ref (ad E 11 10 0), .int x1, .int x2] σ (QI E Q) := by
  refine CT_of (by decide) (Nat.le_of_ble_eq_true rfl) (fun X h1 h2 C => ?_)
  subst h1; subst h2
  have C : Cx X cX5_flavour "SweetWraps" (some .int) 3 68 3 (QI (tE X) Q) := C
  show G X σ [(0, .ref (ad (tE X) 11 10 0)), (1, .int x1), (2, .int x2)] [] 0
  unfold wp_X5_flavour at hw
  refine gx_aload_n C dX5_flavour_0 0 rfl ?_
  refine gx_get C okg_10 rfl rfl inX5 (ref := "SweetWraps") 0 (by decide) bw_171 rfl rfl dX5_flavour_1 ?_
  refine gx_iload_n C dX5_flavour_4 1 rfl ?_
  refine gx_iload_n C dX5_flavour_5 2 rfl ?_
  refine gx_vcalli (As := [.int x1, .int x2]) (rest := []) C (c_X2_flavourFact _ _ (by decide) hw) (ok0 (show 0 < 11 from by decide)) rfl rfl bw_415 bw_416 bw_417 bw_2 bw_418 hy_X2_flavourFact ⟨by decide, by decide⟩ rfl (Nat.le_of_ble_eq_true rfl) dX5_flavour_6 (fun r1 σ2 hw => ?_)
  exact gx_iret C rfl rfl dX5_flavour_9 hw
theorem hy_X5_flavour : yX5_flavour.cls = "SweetWraps" ∧ yX5_flavour.cls ≠ "java/lang/invoke/MethodHandle" ∧ yX5_flavour.cls ≠ "java/lang/invoke/VarHandle" ∧ (parseMethodDescriptor yX5_flavour.desc).map (fun d => d.parameters.length) = some 2 := by decide +kernel

theorem dX5_byRoom_0 : decode cX5_byRoom 0 = .ok (.aload_n 0, 1) := by decide +kernel
theorem dX5_byRoom_1 : decode cX5_byRoom 1 = .ok (.getfield 10, 3) := by decide +kernel
theorem dX5_byRoom_4 : decode cX5_byRoom 4 = .ok (.iload_n 1, 1) := by decide +kernel
theorem dX5_byRoom_5 : decode cX5_byRoom 5 = .ok (.invokevirtual 88, 3) := by decide +kernel
theorem dX5_byRoom_8 : decode cX5_byRoom 8 = .ok (.ireturn, 1) := by decide +kernel
def wp_X5_byRoom (x1 : Int32) (σ : Sg) (Q : Int32 → Sg → Prop) : Prop := wp_X2_tinOfRank 0 x1 σ (fun r1 σ2 => Q r1 σ2)
set_option maxRecDepth 100000 in
set_option maxHeartbeats 4000000 in
theorem c_X5_byRoom (l : Launch) (E : Ev) {x1 : Int32} {σ : Sg} {Q : Int32 → Sg → Prop} (hw : wp_X5_byRoom x1 σ Q) : CT l E yX5_byRoom cX5_byRoom 2 (some .int) 5 109 [.ref (ad E 11 10 0), .int x1] σ (QI E Q) := by
  refine CT_of (by decide) (Nat.le_of_ble_eq_true rfl) (fun X h1 h2 C => ?_)
  subst h1; subst h2
  have C : Cx X cX5_byRoom "SweetWraps" (some .int) 5 109 2 (QI (tE X) Q) := C
  show G X σ [(0, .ref (ad (tE X) 11 10 0)), (1, .int x1)] [] 0
  unfold wp_X5_byRoom at hw
  refine gx_aload_n C dX5_byRoom_0 0 rfl ?_
  refine gx_get C okg_10 rfl rfl inX5 (ref := "SweetWraps") 0 (by decide) bw_171 rfl rfl dX5_byRoom_1 ?_
  refine gx_iload_n C dX5_byRoom_4 1 rfl ?_
  refine gx_vcalli (As := [.int x1]) (rest := []) C (c_X2_tinOfRank _ _ (by decide) hw) (ok0 (show 0 < 11 from by decide)) rfl rfl bw_435 bw_436 bw_437 bw_2 bw_438 hy_X2_tinOfRank ⟨by decide, by decide⟩ rfl (Nat.le_of_ble_eq_true rfl) dX5_byRoom_5 (fun r1 σ2 hw => ?_)
  exact gx_iret C rfl rfl dX5_byRoom_8 hw
theorem hy_X5_byRoom : yX5_byRoom.cls = "SweetWraps" ∧ yX5_byRoom.cls ≠ "java/lang/invoke/MethodHandle" ∧ yX5_byRoom.cls ≠ "java/lang/invoke/VarHandle" ∧ (parseMethodDescriptor yX5_byRoom.desc).map (fun d => d.parameters.length) = some 1 := by decide +kernel

theorem dX5_byCount_0 : decode cX5_byCount 0 = .ok (.aload_n 0, 1) := by decide +kernel
theorem dX5_byCount_1 : decode cX5_byCount 1 = .ok (.getfield 10, 3) := by decide +kernel
theorem dX5_byCount_4 : decode cX5_byCount 4 = .ok (.iload_n 1, 1) := by decide +kernel
theorem dX5_byCount_5 : decode cX5_byCount 5 = .ok (.invokevirtual 91, 3) := by decide +kernel
theorem dX5_byCount_8 : decode cX5_byCount 8 = .ok (.ireturn, 1) := by decide +kernel
def wp_X5_byCount (x1 : Int32) (σ : Sg) (Q : Int32 → Sg → Prop) : Prop := wp_X2_flavourOfRank 0 x1 σ (fun r1 σ2 => Q r1 σ2)
set_option maxRecDepth 100000 in
set_option maxHeartbeats 4000000 in
theorem c_X5_byCount (l : Launch) (E : Ev) {x1 : Int32} {σ : Sg} {Q : Int32 → Sg → Prop} (hw : wp_X5_byCount x1 σ Q) : CT l E yX5_byCount cX5_byCount 2 (some .int) 4 92 [.ref (ad E 11 10 0), .int x1] σ (QI E Q) := by
  refine CT_of (by decide) (Nat.le_of_ble_eq_true rfl) (fun X h1 h2 C => ?_)
  subst h1; subst h2
  have C : Cx X cX5_byCount "SweetWraps" (some .int) 4 92 2 (QI (tE X) Q) := C
  show G X σ [(0, .ref (ad (tE X) 11 10 0)), (1, .int x1)] [] 0
  unfold wp_X5_byCount at hw
  refine gx_aload_n C dX5_byCount_0 0 rfl ?_
  refine gx_get C okg_10 rfl rfl inX5 (ref := "SweetWraps") 0 (by decide) bw_171 rfl rfl dX5_byCount_1 ?_
  refine gx_iload_n C dX5_byCount_4 1 rfl ?_
  refine gx_vcalli (As := [.int x1]) (rest := []) C (c_X2_flavourOfRank _ _ (by decide) hw) (ok0 (show 0 < 11 from by decide)) rfl rfl bw_447 bw_448 bw_449 bw_2 bw_450 hy_X2_flavourOfRank ⟨by decide, by decide⟩ rfl (Nat.le_of_ble_eq_true rfl) dX5_byCount_5 (fun r1 σ2 hw => ?_)
  exact gx_iret C rfl rfl dX5_byCount_8 hw
theorem hy_X5_byCount : yX5_byCount.cls = "SweetWraps" ∧ yX5_byCount.cls ≠ "java/lang/invoke/MethodHandle" ∧ yX5_byCount.cls ≠ "java/lang/invoke/VarHandle" ∧ (parseMethodDescriptor yX5_byCount.desc).map (fun d => d.parameters.length) = some 1 := by decide +kernel

theorem dX5_count_0 : decode cX5_count 0 = .ok (.iload_n 1, 1) := by decide +kernel
theorem dX5_count_1 : decode cX5_count 1 = .ok (.lookupswitch 43 #[(15, 27), (16, 35)], 27) := by decide +kernel
theorem dX5_count_28 : decode cX5_count 28 = .ok (.aload_n 0, 1) := by decide +kernel
theorem dX5_count_29 : decode cX5_count 29 = .ok (.getfield 37, 3) := by decide +kernel
theorem dX5_count_32 : decode cX5_count 32 = .ok (.getfield 94, 3) := by decide +kernel
theorem dX5_count_35 : decode cX5_count 35 = .ok (.ireturn, 1) := by decide +kernel
theorem dX5_count_36 : decode cX5_count 36 = .ok (.aload_n 0, 1) := by decide +kernel
theorem dX5_count_37 : decode cX5_count 37 = .ok (.getfield 22, 3) := by decide +kernel
theorem dX5_count_40 : decode cX5_count 40 = .ok (.getfield 98, 3) := by decide +kernel
theorem dX5_count_43 : decode cX5_count 43 = .ok (.ireturn, 1) := by decide +kernel
theorem dX5_count_44 : decode cX5_count 44 = .ok (.aload_n 0, 1) := by decide +kernel
theorem dX5_count_45 : decode cX5_count 45 = .ok (.getfield 10, 3) := by decide +kernel
theorem dX5_count_48 : decode cX5_count 48 = .ok (.iload_n 1, 1) := by decide +kernel
theorem dX5_count_49 : decode cX5_count 49 = .ok (.invokevirtual 101, 3) := by decide +kernel
theorem dX5_count_52 : decode cX5_count 52 = .ok (.ireturn, 1) := by decide +kernel
def wp_X5_count (x1 : Int32) (σ : Sg) (Q : Int32 → Sg → Prop) : Prop := ((x1 = (15 : Int32) → Q (σ 11 15 0 2) σ) ∧ (¬ x1 = (15 : Int32) → ((x1 = (16 : Int32) → Q (σ 11 11 0 2) σ) ∧ (¬ x1 = (16 : Int32) → wp_X2_number 0 x1 σ (fun r3 σ4 => Q r3 σ4)))))
set_option maxRecDepth 100000 in
set_option maxHeartbeats 4000000 in
theorem c_X5_count (l : Launch) (E : Ev) {x1 : Int32} {σ : Sg} {Q : Int32 → Sg → Prop} (hw : wp_X5_count x1 σ Q) : CT l E yX5_count cX5_count 2 (some .int) 6 132 [.ref (ad E 11 10 0), .int x1] σ (QI E Q) := by
  refine CT_of (by decide) (Nat.le_of_ble_eq_true rfl) (fun X h1 h2 C => ?_)
  subst h1; subst h2
  have C : Cx X cX5_count "SweetWraps" (some .int) 6 132 2 (QI (tE X) Q) := C
  show G X σ [(0, .ref (ad (tE X) 11 10 0)), (1, .int x1)] [] 0
  unfold wp_X5_count at hw
  refine gx_iload_n C dX5_count_0 1 rfl ?_
  by_cases c1 : x1 = (15 : Int32)
  · replace hw := hw.1 c1
    refine gx_lookup (tgt := 28) (off := 27) C dX5_count_1 (by decide) (by rw [c1]; rfl) (by decide) ?_
    refine gx_aload_n C dX5_count_28 0 rfl ?_
    refine gx_get C okg_10 rfl rfl inX5 (ref := "SweetWraps") 5 (by decide) bw_176 rfl rfl dX5_count_29 ?_
    refine gx_get C okg_15 rfl rfl inX3 (ref := "SweetWraps$Pad") 2 (by decide) bw_151 rfl rfl dX5_count_32 ?_
    exact gx_iret C rfl rfl dX5_count_35 hw
  · replace hw := hw.2 c1
    by_cases c2 : x1 = (16 : Int32)
    · replace hw := hw.1 c2
      refine gx_lookup (tgt := 36) (off := 35) C dX5_count_1 (by decide) (by rw [c2]; rfl) (by decide) ?_
      refine gx_aload_n C dX5_count_36 0 rfl ?_
      refine gx_get C okg_10 rfl rfl inX5 (ref := "SweetWraps") 2 (by decide) bw_173 rfl rfl dX5_count_37 ?_
      refine gx_get C okg_11 rfl rfl inX0 (ref := "SweetWraps$History") 2 (by decide) bw_133 rfl rfl dX5_count_40 ?_
      exact gx_iret C rfl rfl dX5_count_43 hw
    · replace hw := hw.2 c2
      refine gx_lookup (tgt := 44) (off := 43) C dX5_count_1 (by decide) ((lv_osw c1 (by decide)).trans ((lv_osw c2 (by decide)).trans (rfl))) (by decide) ?_
      refine gx_aload_n C dX5_count_44 0 rfl ?_
      refine gx_get C okg_10 rfl rfl inX5 (ref := "SweetWraps") 0 (by decide) bw_171 rfl rfl dX5_count_45 ?_
      refine gx_iload_n C dX5_count_48 1 rfl ?_
      refine gx_vcalli (As := [.int x1]) (rest := []) C (c_X2_number _ _ (by decide) hw) (ok0 (show 0 < 11 from by decide)) rfl rfl bw_463 bw_464 bw_465 bw_2 bw_466 hy_X2_number ⟨by decide, by decide⟩ rfl (Nat.le_of_ble_eq_true rfl) dX5_count_49 (fun r3 σ4 hw => ?_)
      exact gx_iret C rfl rfl dX5_count_52 hw
theorem hy_X5_count : yX5_count.cls = "SweetWraps" ∧ yX5_count.cls ≠ "java/lang/invoke/MethodHandle" ∧ yX5_count.cls ≠ "java/lang/invoke/VarHandle" ∧ (parseMethodDescriptor yX5_count.desc).map (fun d => d.parameters.length) = some 1 := by decide +kernel

theorem dX5_stands_0 : decode cX5_stands 0 = .ok (.iload_n 1, 1) := by decide +kernel
theorem dX5_stands_1 : decode cX5_stands 1 = .ok (.iconst 4, 1) := by decide +kernel
theorem dX5_stands_2 : decode cX5_stands 2 = .ok (.invokestatic 104, 3) := by decide +kernel
theorem dX5_stands_5 : decode cX5_stands 5 = .ok (.ifCond .ne 5, 3) := by decide +kernel
theorem dX5_stands_8 : decode cX5_stands 8 = .ok (.iconst (-1), 1) := by decide +kernel
theorem dX5_stands_9 : decode cX5_stands 9 = .ok (.ireturn, 1) := by decide +kernel
theorem dX5_stands_10 : decode cX5_stands 10 = .ok (.iload_n 2, 1) := by decide +kernel
theorem dX5_stands_11 : decode cX5_stands 11 = .ok (.ifCond .eq 11, 3) := by decide +kernel
theorem dX5_stands_14 : decode cX5_stands 14 = .ok (.iload_n 2, 1) := by decide +kernel
theorem dX5_stands_15 : decode cX5_stands 15 = .ok (.iconst 1, 1) := by decide +kernel
theorem dX5_stands_16 : decode cX5_stands 16 = .ok (.if_icmp .eq 6, 3) := by decide +kernel
theorem dX5_stands_19 : decode cX5_stands 19 = .ok (.bipush (-2), 2) := by decide +kernel
theorem dX5_stands_21 : decode cX5_stands 21 = .ok (.ireturn, 1) := by decide +kernel
theorem dX5_stands_22 : decode cX5_stands 22 = .ok (.aload_n 0, 1) := by decide +kernel
theorem dX5_stands_23 : decode cX5_stands 23 = .ok (.getfield 16, 3) := by decide +kernel
theorem dX5_stands_26 : decode cX5_stands 26 = .ok (.aload_n 0, 1) := by decide +kernel
theorem dX5_stands_27 : decode cX5_stands 27 = .ok (.getfield 10, 3) := by decide +kernel
theorem dX5_stands_30 : decode cX5_stands 30 = .ok (.invokevirtual 108, 3) := by decide +kernel
theorem dX5_stands_33 : decode cX5_stands 33 = .ok (.iconst 1, 1) := by decide +kernel
theorem dX5_stands_34 : decode cX5_stands 34 = .ok (.istore_n 3, 1) := by decide +kernel
theorem dX5_stands_35 : decode cX5_stands 35 = .ok (.iload_n 3, 1) := by decide +kernel
theorem dX5_stands_36 : decode cX5_stands 36 = .ok (.sipush 200, 3) := by decide +kernel
theorem dX5_stands_39 : decode cX5_stands 39 = .ok (.if_icmp .gt 48, 3) := by decide +kernel
theorem dX5_stands_42 : decode cX5_stands 42 = .ok (.aload_n 0, 1) := by decide +kernel
theorem dX5_stands_43 : decode cX5_stands 43 = .ok (.getfield 16, 3) := by decide +kernel
theorem dX5_stands_46 : decode cX5_stands 46 = .ok (.iconst 1, 1) := by decide +kernel
theorem dX5_stands_47 : decode cX5_stands 47 = .ok (.invokevirtual 111, 3) := by decide +kernel
theorem dX5_stands_50 : decode cX5_stands 50 = .ok (.pop, 1) := by decide +kernel
theorem dX5_stands_51 : decode cX5_stands 51 = .ok (.aload_n 0, 1) := by decide +kernel
theorem dX5_stands_52 : decode cX5_stands 52 = .ok (.getfield 16, 3) := by decide +kernel
theorem dX5_stands_55 : decode cX5_stands 55 = .ok (.getfield 114, 3) := by decide +kernel
theorem dX5_stands_58 : decode cX5_stands 58 = .ok (.iload_n 1, 1) := by decide +kernel
theorem dX5_stands_59 : decode cX5_stands 59 = .ok (.aaload, 1) := by decide +kernel
theorem dX5_stands_60 : decode cX5_stands 60 = .ok (.getfield 118, 3) := by decide +kernel
theorem dX5_stands_63 : decode cX5_stands 63 = .ok (.istore 4, 2) := by decide +kernel
theorem dX5_stands_65 : decode cX5_stands 65 = .ok (.iload 4, 2) := by decide +kernel
theorem dX5_stands_67 : decode cX5_stands 67 = .ok (.ifCond .eq 14, 3) := by decide +kernel
theorem dX5_stands_70 : decode cX5_stands 70 = .ok (.iload_n 2, 1) := by decide +kernel
theorem dX5_stands_71 : decode cX5_stands 71 = .ok (.ifCond .ne 7, 3) := by decide +kernel
theorem dX5_stands_74 : decode cX5_stands 74 = .ok (.iload_n 3, 1) := by decide +kernel
theorem dX5_stands_75 : decode cX5_stands 75 = .ok (.goto 5, 3) := by decide +kernel
theorem dX5_stands_78 : decode cX5_stands 78 = .ok (.iload 4, 2) := by decide +kernel
theorem dX5_stands_80 : decode cX5_stands 80 = .ok (.ireturn, 1) := by decide +kernel
theorem dX5_stands_81 : decode cX5_stands 81 = .ok (.iinc 3 1, 3) := by decide +kernel
theorem dX5_stands_84 : decode cX5_stands 84 = .ok (.goto (-49), 3) := by decide +kernel
theorem dX5_stands_87 : decode cX5_stands 87 = .ok (.bipush (-6), 2) := by decide +kernel
theorem dX5_stands_89 : decode cX5_stands 89 = .ok (.ireturn, 1) := by decide +kernel
def st_X5_stands_L35 (x1 : Int32) (x2 : Int32) (Q : Int32 → Sg → Prop) (K35 : Int32 → Sg → Prop) (v3 : Int32) (σ : Sg) : Prop := (((200 : Int32) < v3 → Q (-6 : Int32) σ) ∧ (¬ (200 : Int32) < v3 → wp_X2_work 1 (1 : Int32) σ (fun r8 σ9 => (vp_in x1 4 ∧ ∀ a11 : Nat, a11 = x1.toNatClampNeg → ∀ z12 : Int32, z12 = (σ9 1 5 a11 7) → ((z12 = 0 → ∀ z14 : Int32, z14 = v3 + (1 : Int32) → K35 z14 σ9) ∧ (¬ z12 = 0 → ((¬ x2 = 0 → Q z12 σ9) ∧ (x2 = 0 → Q v3 σ9))))))))
def wp_X5_stands_L35 (x1 : Int32) (x2 : Int32) (Q : Int32 → Sg → Prop) (v3 : Int32) (σ : Sg) : Prop := ∃ n : Nat, lpN (fun (K : Int32 × Sg → Prop) (a : Int32 × Sg) => st_X5_stands_L35 x1 x2 Q (fun v3 σ => K (v3, σ)) (a.1) (a.2)) n (v3, σ)
set_option maxRecDepth 100000 in
set_option maxHeartbeats 4000000 in
theorem gs_X5_stands_L35 {X : Tx} {Q : Int32 → Sg → Prop} (C : Cx X cX5_stands "SweetWraps" (some .int) 4 124 5 (QI (tE X) Q)) {x1 : Int32} {x2 : Int32} {K35 : Int32 → Sg → Prop} (hK35 : ∀ (v3 : Int32) (σ : Sg), K35 v3 σ → G X σ [(0, .ref (ad (tE X) 11 10 0)), (1, .int x1), (2, .int x2), (3, .int v3)] [] 35) {v3 : Int32} {σ : Sg} (hw : st_X5_stands_L35 x1 x2 Q K35 v3 σ) : G X σ [(0, .ref (ad (tE X) 11 10 0)), (1, .int x1), (2, .int x2), (3, .int v3)] [] 35 := by
  unfold st_X5_stands_L35 at hw
  refine gx_iload_n C dX5_stands_35 3 rfl ?_
  refine gx_sipush (v := (200 : Int32)) C dX5_stands_36 (by decide) ?_
  refine gx_icmp_gt (tgt := 87) C dX5_stands_39 (by decide) (fun c7 => ?_) (fun c7 => ?_)
  · replace hw := hw.1 c7
    refine gx_bipush (v := (-6 : Int32)) C dX5_stands_87 (by decide) ?_
    exact gx_iret C rfl rfl dX5_stands_89 hw
  · replace hw := hw.2 c7
    refine gx_aload_n C dX5_stands_42 0 rfl ?_
    refine gx_get C okg_10 rfl rfl inX5 (ref := "SweetWraps") 1 (by decide) bw_172 rfl rfl dX5_stands_43 ?_
    refine gx_iconst (v := (1 : Int32)) C dX5_stands_46 (by decide) ?_
    refine gx_vcalli (As := [.int (1 : Int32)]) (rest := []) C (c_X2_work _ _ (by decide) hw) (ok0 (show 1 < 11 from by decide)) rfl rfl bw_490 bw_322 bw_323 bw_2 bw_324 hy_X2_work ⟨by decide, by decide⟩ rfl (Nat.le_of_ble_eq_true rfl) dX5_stands_47 (fun r8 σ9 hw => ?_)
    refine gx_pop C dX5_stands_50 rfl ?_
    refine gx_aload_n C dX5_stands_51 0 rfl ?_
    refine gx_get C okg_10 rfl rfl inX5 (ref := "SweetWraps") 1 (by decide) bw_172 rfl rfl dX5_stands_52 ?_
    refine gx_get C (ok0 (show 1 < 11 from by decide)) rfl rfl inX2 (ref := "SweetWraps$Machine") 1 (by decide) bw_96 rfl rfl dX5_stands_55 ?_
    refine gx_iload_n C dX5_stands_58 1 rfl ?_
    have h10 := hw.1
    replace hw := hw.2
    obtain ⟨a11, e_a11⟩ : ∃ z : Nat, z = x1.toNatClampNeg := ⟨_, rfl⟩
    replace hw := hw a11 e_a11
    have ha11 : a11 < 4 := by rw [e_a11]; exact vp_lt h10
    refine gx_aald C (ok2 (show 1 < 11 from by decide)) rfl (t0 := 3) rfl h10 (v := .ref (ad (tE X) 1 5 a11)) (by rw [e_a11]; rfl) dX5_stands_59 ?_
    refine gx_get C (ok5 (show 1 < 11 from by decide) ha11) rfl rfl inX1 (ref := "SweetWraps$Lane") 7 (by decide) bw_52 rfl rfl dX5_stands_60 ?_
    obtain ⟨z12, e_z12⟩ : ∃ z : Int32, z = (σ9 1 5 a11 7) := ⟨_, rfl⟩
    replace hw := hw z12 e_z12
    refine gx_top e_z12 ?_
    refine gx_istore (lv' := [(4, .int z12), (0, .ref (ad (tE X) 11 10 0)), (1, .int x1), (2, .int x2), (3, .int v3)]) C dX5_stands_63 (by decide) rfl ?_
    refine gx_iload C dX5_stands_65 0 rfl ?_
    refine gx_if_eq (tgt := 81) C dX5_stands_67 (by decide) (fun c13 => ?_) (fun c13 => ?_)
    · replace hw := hw.1 c13
      obtain ⟨z14, e_z14⟩ : ∃ z : Int32, z = v3 + (1 : Int32) := ⟨_, rfl⟩
      replace hw := hw z14 e_z14
      refine gx_iinc (v := z14) (lv' := [(3, .int z14), (4, .int z12), (0, .ref (ad (tE X) 11 10 0)), (1, .int x1), (2, .int x2)]) C dX5_stands_81 4 rfl (by rw [e_z14]; rfl) (by decide) rfl ?_
      refine gx_goto (tgt := 35) C dX5_stands_84 (by decide) ?_
      refine gx_sub (lv' := [(0, .ref (ad (tE X) 11 10 0)), (1, .int x1), (2, .int x2), (3, .int z14)]) [2, 3, 4, 0] rfl ?_
      exact hK35 _ _ hw
    · replace hw := hw.2 c13
      refine gx_iload_n C dX5_stands_70 3 rfl ?_
      refine gx_if_ne (tgt := 78) C dX5_stands_71 (by decide) (fun c15 => ?_) (fun c15 => ?_)
      · replace hw := hw.1 c15
        refine gx_iload C dX5_stands_78 0 rfl ?_
        exact gx_iret C rfl rfl dX5_stands_80 hw
      · replace hw := hw.2 c15
        refine gx_iload_n C dX5_stands_74 4 rfl ?_
        refine gx_goto (tgt := 80) C dX5_stands_75 (by decide) ?_
        exact gx_iret C rfl rfl dX5_stands_80 hw
set_option maxRecDepth 100000 in
set_option maxHeartbeats 4000000 in
theorem g_X5_stands_L35 {X : Tx} {Q : Int32 → Sg → Prop} (C : Cx X cX5_stands "SweetWraps" (some .int) 4 124 5 (QI (tE X) Q)) {x1 : Int32} {x2 : Int32} {v3 : Int32} {σ : Sg} (hw : wp_X5_stands_L35 x1 x2 Q v3 σ) : G X σ [(0, .ref (ad (tE X) 11 10 0)), (1, .int x1), (2, .int x2), (3, .int v3)] [] 35 := by
  obtain ⟨n, hw⟩ := hw
  exact lpN_G (P := (fun (a : Int32 × Sg) => G X (a.2) [(0, .ref (ad (tE X) 11 10 0)), (1, .int x1), (2, .int x2), (3, .int (a.1))] [] 35)) (fun K a hK h => gs_X5_stands_L35 C (fun v3 σ h => hK (v3, σ) h) h) n _ hw
def wp_X5_stands_b22 (x1 : Int32) (x2 : Int32) (Q : Int32 → Sg → Prop) (σ : Sg) : Prop := wp_X2_copyFrom 1 0 σ (fun σ6 => wp_X5_stands_L35 x1 x2 Q (1 : Int32) σ6)
set_option maxRecDepth 100000 in
set_option maxHeartbeats 4000000 in
theorem g_X5_stands_b22 {X : Tx} {Q : Int32 → Sg → Prop} (C : Cx X cX5_stands "SweetWraps" (some .int) 4 124 5 (QI (tE X) Q)) {x1 : Int32} {x2 : Int32} {σ : Sg} (hw : wp_X5_stands_b22 x1 x2 Q σ) : G X σ [(0, .ref (ad (tE X) 11 10 0)), (1, .int x1), (2, .int x2)] [] 22 := by
  unfold wp_X5_stands_b22 at hw
  refine gx_aload_n C dX5_stands_22 0 rfl ?_
  refine gx_get C okg_10 rfl rfl inX5 (ref := "SweetWraps") 1 (by decide) bw_172 rfl rfl dX5_stands_23 ?_
  refine gx_aload_n C dX5_stands_26 0 rfl ?_
  refine gx_get C okg_10 rfl rfl inX5 (ref := "SweetWraps") 0 (by decide) bw_171 rfl rfl dX5_stands_27 ?_
  refine gx_vcallv (As := [.ref (ad (tE X) 0 0 0)]) (rest := []) C (c_X2_copyFrom _ _ (by decide) (by decide) hw) (ok0 (show 1 < 11 from by decide)) rfl rfl bw_489 bw_199 bw_200 bw_2 bw_201 hy_X2_copyFrom ⟨by decide, by decide⟩ rfl (Nat.le_of_ble_eq_true rfl) dX5_stands_30 (fun σ6 hw => ?_)
  refine gx_iconst (v := (1 : Int32)) C dX5_stands_33 (by decide) ?_
  refine gx_istore_n (lv' := [(3, .int (1 : Int32)), (0, .ref (ad (tE X) 11 10 0)), (1, .int x1), (2, .int x2)]) C dX5_stands_34 (by decide) rfl ?_
  refine gx_sub (lv' := [(0, .ref (ad (tE X) 11 10 0)), (1, .int x1), (2, .int x2), (3, .int (1 : Int32))]) [1, 2, 3, 0] rfl ?_
  exact g_X5_stands_L35 C hw
def wp_X5_stands (x1 : Int32) (x2 : Int32) (σ : Sg) (Q : Int32 → Sg → Prop) : Prop := wp_X5_isIndex x1 (4 : Int32) σ (fun r1 σ2 => ((¬ r1 = 0 → ((x2 = 0 → wp_X5_stands_b22 x1 x2 Q σ2) ∧ (¬ x2 = 0 → ((x2 = (1 : Int32) → wp_X5_stands_b22 x1 x2 Q σ2) ∧ (¬ x2 = (1 : Int32) → Q (-2 : Int32) σ2))))) ∧ (r1 = 0 → Q (-1 : Int32) σ2)))
set_option maxRecDepth 100000 in
set_option maxHeartbeats 4000000 in
theorem c_X5_stands (l : Launch) (E : Ev) {x1 : Int32} {x2 : Int32} {σ : Sg} {Q : Int32 → Sg → Prop} (hw : wp_X5_stands x1 x2 σ Q) : CT l E yX5_stands cX5_stands 5 (some .int) 4 124 [.ref (ad E 11 10 0), .int x1, .int x2] σ (QI E Q) := by
  refine CT_of (by decide) (Nat.le_of_ble_eq_true rfl) (fun X h1 h2 C => ?_)
  subst h1; subst h2
  have C : Cx X cX5_stands "SweetWraps" (some .int) 4 124 5 (QI (tE X) Q) := C
  show G X σ [(0, .ref (ad (tE X) 11 10 0)), (1, .int x1), (2, .int x2)] [] 0
  unfold wp_X5_stands at hw
  refine gx_iload_n C dX5_stands_0 1 rfl ?_
  refine gx_iconst (v := (4 : Int32)) C dX5_stands_1 (by decide) ?_
  refine gx_scalli (As := [.int x1, .int (4 : Int32)]) (rest := []) C (c_X5_isIndex _ _ hw) bw_488 bw_226 bw_1 bw_227 hyS_X5_isIndex ⟨by decide, by decide⟩ rfl (Nat.le_of_ble_eq_true rfl) dX5_stands_2 (fun r1 σ2 hw => ?_)
  refine gx_if_ne (tgt := 10) C dX5_stands_5 (by decide) (fun c3 => ?_) (fun c3 => ?_)
  · replace hw := hw.1 c3
    refine gx_iload_n C dX5_stands_10 2 rfl ?_
    refine gx_if_eq (tgt := 22) C dX5_stands_11 (by decide) (fun c4 => ?_) (fun c4 => ?_)
    · replace hw := hw.1 c4
      exact g_X5_stands_b22 C hw
    · replace hw := hw.2 c4
      refine gx_iload_n C dX5_stands_14 2 rfl ?_
      refine gx_iconst (v := (1 : Int32)) C dX5_stands_15 (by decide) ?_
      refine gx_icmp_eq (tgt := 22) C dX5_stands_16 (by decide) (fun c5 => ?_) (fun c5 => ?_)
      · replace hw := hw.1 c5
        exact g_X5_stands_b22 C hw
      · replace hw := hw.2 c5
        refine gx_bipush (v := (-2 : Int32)) C dX5_stands_19 (by decide) ?_
        exact gx_iret C rfl rfl dX5_stands_21 hw
  · replace hw := hw.2 c3
    refine gx_iconst (v := (-1 : Int32)) C dX5_stands_8 (by decide) ?_
    exact gx_iret C rfl rfl dX5_stands_9 hw
theorem hy_X5_stands : yX5_stands.cls = "SweetWraps" ∧ yX5_stands.cls ≠ "java/lang/invoke/MethodHandle" ∧ yX5_stands.cls ≠ "java/lang/invoke/VarHandle" ∧ (parseMethodDescriptor yX5_stands.desc).map (fun d => d.parameters.length) = some 2 := by decide +kernel

theorem dX5_bestSpeed_0 : decode cX5_bestSpeed 0 = .ok (.iload_n 1, 1) := by decide +kernel
theorem dX5_bestSpeed_1 : decode cX5_bestSpeed 1 = .ok (.iconst 1, 1) := by decide +kernel
theorem dX5_bestSpeed_2 : decode cX5_bestSpeed 2 = .ok (.bipush 50, 2) := by decide +kernel
theorem dX5_bestSpeed_4 : decode cX5_bestSpeed 4 = .ok (.invokestatic 123, 3) := by decide +kernel
theorem dX5_bestSpeed_7 : decode cX5_bestSpeed 7 = .ok (.ifCond .ne 6, 3) := by decide +kernel
theorem dX5_bestSpeed_10 : decode cX5_bestSpeed 10 = .ok (.bipush (-2), 2) := by decide +kernel
theorem dX5_bestSpeed_12 : decode cX5_bestSpeed 12 = .ok (.ireturn, 1) := by decide +kernel
theorem dX5_bestSpeed_13 : decode cX5_bestSpeed 13 = .ok (.iload_n 2, 1) := by decide +kernel
theorem dX5_bestSpeed_14 : decode cX5_bestSpeed 14 = .ok (.ifCond .eq 11, 3) := by decide +kernel
theorem dX5_bestSpeed_17 : decode cX5_bestSpeed 17 = .ok (.iload_n 2, 1) := by decide +kernel
theorem dX5_bestSpeed_18 : decode cX5_bestSpeed 18 = .ok (.iconst 1, 1) := by decide +kernel
theorem dX5_bestSpeed_19 : decode cX5_bestSpeed 19 = .ok (.if_icmp .eq 6, 3) := by decide +kernel
theorem dX5_bestSpeed_22 : decode cX5_bestSpeed 22 = .ok (.bipush (-2), 2) := by decide +kernel
theorem dX5_bestSpeed_24 : decode cX5_bestSpeed 24 = .ok (.ireturn, 1) := by decide +kernel
theorem dX5_bestSpeed_25 : decode cX5_bestSpeed 25 = .ok (.iconst 0, 1) := by decide +kernel
theorem dX5_bestSpeed_26 : decode cX5_bestSpeed 26 = .ok (.istore_n 3, 1) := by decide +kernel
theorem dX5_bestSpeed_27 : decode cX5_bestSpeed 27 = .ok (.iconst (-1), 1) := by decide +kernel
theorem dX5_bestSpeed_28 : decode cX5_bestSpeed 28 = .ok (.istore 4, 2) := by decide +kernel
theorem dX5_bestSpeed_30 : decode cX5_bestSpeed 30 = .ok (.getstatic 127, 3) := by decide +kernel
theorem dX5_bestSpeed_33 : decode cX5_bestSpeed 33 = .ok (.iconst 0, 1) := by decide +kernel
theorem dX5_bestSpeed_34 : decode cX5_bestSpeed 34 = .ok (.iaload, 1) := by decide +kernel
theorem dX5_bestSpeed_35 : decode cX5_bestSpeed 35 = .ok (.istore 5, 2) := by decide +kernel
theorem dX5_bestSpeed_37 : decode cX5_bestSpeed 37 = .ok (.iload 5, 2) := by decide +kernel
theorem dX5_bestSpeed_39 : decode cX5_bestSpeed 39 = .ok (.getstatic 131, 3) := by decide +kernel
theorem dX5_bestSpeed_42 : decode cX5_bestSpeed 42 = .ok (.iconst 0, 1) := by decide +kernel
theorem dX5_bestSpeed_43 : decode cX5_bestSpeed 43 = .ok (.iaload, 1) := by decide +kernel
theorem dX5_bestSpeed_44 : decode cX5_bestSpeed 44 = .ok (.if_icmp .gt 55, 3) := by decide +kernel
theorem dX5_bestSpeed_47 : decode cX5_bestSpeed 47 = .ok (.aload_n 0, 1) := by decide +kernel
theorem dX5_bestSpeed_48 : decode cX5_bestSpeed 48 = .ok (.getfield 16, 3) := by decide +kernel
theorem dX5_bestSpeed_51 : decode cX5_bestSpeed 51 = .ok (.aload_n 0, 1) := by decide +kernel
theorem dX5_bestSpeed_52 : decode cX5_bestSpeed 52 = .ok (.getfield 10, 3) := by decide +kernel
theorem dX5_bestSpeed_55 : decode cX5_bestSpeed 55 = .ok (.invokevirtual 108, 3) := by decide +kernel
theorem dX5_bestSpeed_58 : decode cX5_bestSpeed 58 = .ok (.aload_n 0, 1) := by decide +kernel
theorem dX5_bestSpeed_59 : decode cX5_bestSpeed 59 = .ok (.getfield 16, 3) := by decide +kernel
theorem dX5_bestSpeed_62 : decode cX5_bestSpeed 62 = .ok (.getfield 134, 3) := by decide +kernel
theorem dX5_bestSpeed_65 : decode cX5_bestSpeed 65 = .ok (.iconst 0, 1) := by decide +kernel
theorem dX5_bestSpeed_66 : decode cX5_bestSpeed 66 = .ok (.iload 5, 2) := by decide +kernel
theorem dX5_bestSpeed_68 : decode cX5_bestSpeed 68 = .ok (.iastore, 1) := by decide +kernel
theorem dX5_bestSpeed_69 : decode cX5_bestSpeed 69 = .ok (.aload_n 0, 1) := by decide +kernel
theorem dX5_bestSpeed_70 : decode cX5_bestSpeed 70 = .ok (.getfield 16, 3) := by decide +kernel
theorem dX5_bestSpeed_73 : decode cX5_bestSpeed 73 = .ok (.iload_n 1, 1) := by decide +kernel
theorem dX5_bestSpeed_74 : decode cX5_bestSpeed 74 = .ok (.invokevirtual 111, 3) := by decide +kernel
theorem dX5_bestSpeed_77 : decode cX5_bestSpeed 77 = .ok (.istore 6, 2) := by decide +kernel
theorem dX5_bestSpeed_79 : decode cX5_bestSpeed 79 = .ok (.iload 6, 2) := by decide +kernel
theorem dX5_bestSpeed_81 : decode cX5_bestSpeed 81 = .ok (.iload 4, 2) := by decide +kernel
theorem dX5_bestSpeed_83 : decode cX5_bestSpeed 83 = .ok (.if_icmp .le 10, 3) := by decide +kernel
theorem dX5_bestSpeed_86 : decode cX5_bestSpeed 86 = .ok (.iload 5, 2) := by decide +kernel
theorem dX5_bestSpeed_88 : decode cX5_bestSpeed 88 = .ok (.istore_n 3, 1) := by decide +kernel
theorem dX5_bestSpeed_89 : decode cX5_bestSpeed 89 = .ok (.iload 6, 2) := by decide +kernel
theorem dX5_bestSpeed_91 : decode cX5_bestSpeed 91 = .ok (.istore 4, 2) := by decide +kernel
theorem dX5_bestSpeed_93 : decode cX5_bestSpeed 93 = .ok (.iinc 5 1, 3) := by decide +kernel
theorem dX5_bestSpeed_96 : decode cX5_bestSpeed 96 = .ok (.goto (-59), 3) := by decide +kernel
theorem dX5_bestSpeed_99 : decode cX5_bestSpeed 99 = .ok (.iload_n 2, 1) := by decide +kernel
theorem dX5_bestSpeed_100 : decode cX5_bestSpeed 100 = .ok (.ifCond .ne 7, 3) := by decide +kernel
theorem dX5_bestSpeed_103 : decode cX5_bestSpeed 103 = .ok (.iload_n 3, 1) := by decide +kernel
theorem dX5_bestSpeed_104 : decode cX5_bestSpeed 104 = .ok (.goto 5, 3) := by decide +kernel
theorem dX5_bestSpeed_107 : decode cX5_bestSpeed 107 = .ok (.iload 4, 2) := by decide +kernel
theorem dX5_bestSpeed_109 : decode cX5_bestSpeed 109 = .ok (.ireturn, 1) := by decide +kernel
def wp_X5_bestSpeed_b93 (x1 : Int32) (x2 : Int32) (K37 : Int32 → Int32 → Int32 → Sg → Prop) (Q : Int32 → Sg → Prop) (v3 : Int32) (v4 : Int32) (v5 : Int32) (σ : Sg) : Prop := ∀ z14 : Int32, z14 = v5 + (1 : Int32) → K37 v3 v4 z14 σ
set_option maxRecDepth 100000 in
set_option maxHeartbeats 4000000 in
theorem g_X5_bestSpeed_b93 {X : Tx} {Q : Int32 → Sg → Prop} (C : Cx X cX5_bestSpeed "SweetWraps" (some .int) 4 124 7 (QI (tE X) Q)) {x1 : Int32} {x2 : Int32} {K37 : Int32 → Int32 → Int32 → Sg → Prop} (hK37 : ∀ (v3 : Int32) (v4 : Int32) (v5 : Int32) (σ : Sg), K37 v3 v4 v5 σ → G X σ [(0, .ref (ad (tE X) 11 10 0)), (1, .int x1), (2, .int x2), (3, .int v3), (4, .int v4), (5, .int v5)] [] 37) {v3 : Int32} {v4 : Int32} {v5 : Int32} {σ : Sg} (hw : wp_X5_bestSpeed_b93 x1 x2 K37 Q v3 v4 v5 σ) : G X σ [(0, .ref (ad (tE X) 11 10 0)), (1, .int x1), (2, .int x2), (3, .int v3), (4, .int v4), (5, .int v5)] [] 93 := by
  unfold wp_X5_bestSpeed_b93 at hw
  obtain ⟨z14, e_z14⟩ : ∃ z : Int32, z = v5 + (1 : Int32) := ⟨_, rfl⟩
  replace hw := hw z14 e_z14
  refine gx_iinc (v := z14) (lv' := [(5, .int z14), (0, .ref (ad (tE X) 11 10 0)), (1, .int x1), (2, .int x2), (3, .int v3), (4, .int v4)]) C dX5_bestSpeed_93 5 rfl (by rw [e_z14]; rfl) (by decide) rfl ?_
  refine gx_goto (tgt := 37) C dX5_bestSpeed_96 (by decide) ?_
  refine gx_sub (lv' := [(0, .ref (ad (tE X) 11 10 0)), (1, .int x1), (2, .int x2), (3, .int v3), (4, .int v4), (5, .int z14)]) [1, 2, 3, 4, 5, 0] rfl ?_
  exact hK37 _ _ _ _ hw
def st_X5_bestSpeed_L37 (x1 : Int32) (x2 : Int32) (Q : Int32 → Sg → Prop) (K37 : Int32 → Int32 → Int32 → Sg → Prop) (v3 : Int32) (v4 : Int32) (v5 : Int32) (σ : Sg) : Prop := (((mst (0 : Int32).toNatClampNeg) < v5 → ((¬ x2 = 0 → Q v4 σ) ∧ (x2 = 0 → Q v3 σ))) ∧ (¬ (mst (0 : Int32).toNatClampNeg) < v5 → wp_X2_copyFrom 1 0 σ (fun σ9 => ∀ σ10 : Sg, σ10 = up σ9 1 1 0 0 v5 → wp_X2_work 1 x1 σ10 (fun r11 σ12 => ((r11 ≤ v4 → wp_X5_bestSpeed_b93 x1 x2 K37 Q v3 v4 v5 σ12) ∧ (¬ r11 ≤ v4 → wp_X5_bestSpeed_b93 x1 x2 K37 Q v5 r11 v5 σ12))))))
def wp_X5_bestSpeed_L37 (x1 : Int32) (x2 : Int32) (Q : Int32 → Sg → Prop) (v3 : Int32) (v4 : Int32) (v5 : Int32) (σ : Sg) : Prop := ∃ n : Nat, lpN (fun (K : Int32 × Int32 × Int32 × Sg → Prop) (a : Int32 × Int32 × Int32 × Sg) => st_X5_bestSpeed_L37 x1 x2 Q (fun v3 v4 v5 σ => K (v3, v4, v5, σ)) (a.1) (a.2.1) (a.2.2.1) (a.2.2.2)) n (v3, v4, v5, σ)
set_option maxRecDepth 100000 in
set_option maxHeartbeats 4000000 in
theorem gs_X5_bestSpeed_L37 {X : Tx} {Q : Int32 → Sg → Prop} (C : Cx X cX5_bestSpeed "SweetWraps" (some .int) 4 124 7 (QI (tE X) Q)) {x1 : Int32} {x2 : Int32} {K37 : Int32 → Int32 → Int32 → Sg → Prop} (hK37 : ∀ (v3 : Int32) (v4 : Int32) (v5 : Int32) (σ : Sg), K37 v3 v4 v5 σ → G X σ [(0, .ref (ad (tE X) 11 10 0)), (1, .int x1), (2, .int x2), (3, .int v3), (4, .int v4), (5, .int v5)] [] 37) {v3 : Int32} {v4 : Int32} {v5 : Int32} {σ : Sg} (hw : st_X5_bestSpeed_L37 x1 x2 Q K37 v3 v4 v5 σ) : G X σ [(0, .ref (ad (tE X) 11 10 0)), (1, .int x1), (2, .int x2), (3, .int v3), (4, .int v4), (5, .int v5)] [] 37 := by
  unfold st_X5_bestSpeed_L37 at hw
  refine gx_iload C dX5_bestSpeed_37 5 rfl ?_
  refine gx_gets1 C dX5_bestSpeed_39 bw_497 ?_
  refine gx_iconst (v := (0 : Int32)) C dX5_bestSpeed_42 (by decide) ?_
  refine gx_tab1 C (by unfold vp_in; decide) dX5_bestSpeed_43 ?_
  refine gx_icmp_gt (tgt := 99) C dX5_bestSpeed_44 (by decide) (fun c7 => ?_) (fun c7 => ?_)
  · replace hw := hw.1 c7
    refine gx_iload_n C dX5_bestSpeed_99 2 rfl ?_
    refine gx_if_ne (tgt := 107) C dX5_bestSpeed_100 (by decide) (fun c8 => ?_) (fun c8 => ?_)
    · replace hw := hw.1 c8
      refine gx_iload C dX5_bestSpeed_107 4 rfl ?_
      exact gx_iret C rfl rfl dX5_bestSpeed_109 hw
    · replace hw := hw.2 c8
      refine gx_iload_n C dX5_bestSpeed_103 3 rfl ?_
      refine gx_goto (tgt := 109) C dX5_bestSpeed_104 (by decide) ?_
      exact gx_iret C rfl rfl dX5_bestSpeed_109 hw
  · replace hw := hw.2 c7
    refine gx_aload_n C dX5_bestSpeed_47 0 rfl ?_
    refine gx_get C okg_10 rfl rfl inX5 (ref := "SweetWraps") 1 (by decide) bw_172 rfl rfl dX5_bestSpeed_48 ?_
    refine gx_aload_n C dX5_bestSpeed_51 0 rfl ?_
    refine gx_get C okg_10 rfl rfl inX5 (ref := "SweetWraps") 0 (by decide) bw_171 rfl rfl dX5_bestSpeed_52 ?_
    refine gx_vcallv (As := [.ref (ad (tE X) 0 0 0)]) (rest := []) C (c_X2_copyFrom _ _ (by decide) (by decide) hw) (ok0 (show 1 < 11 from by decide)) rfl rfl bw_489 bw_199 bw_200 bw_2 bw_201 hy_X2_copyFrom ⟨by decide, by decide⟩ rfl (Nat.le_of_ble_eq_true rfl) dX5_bestSpeed_55 (fun σ9 hw => ?_)
    refine gx_aload_n C dX5_bestSpeed_58 0 rfl ?_
    refine gx_get C okg_10 rfl rfl inX5 (ref := "SweetWraps") 1 (by decide) bw_172 rfl rfl dX5_bestSpeed_59 ?_
    refine gx_get C (ok0 (show 1 < 11 from by decide)) rfl rfl inX2 (ref := "SweetWraps$Machine") 0 (by decide) bw_94 rfl rfl dX5_bestSpeed_62 ?_
    refine gx_iconst (v := (0 : Int32)) C dX5_bestSpeed_65 (by decide) ?_
    refine gx_iload C dX5_bestSpeed_66 5 rfl ?_
    refine gx_iast C (ok1 (show 1 < 11 from by decide)) (fun _ => rfl) (n := 4) (x := (0 : Int32)) (by unfold vp_in; decide) 0 (by decide) rfl dX5_bestSpeed_68 ?_
    obtain ⟨σ10, e_σ10⟩ : ∃ z : Sg, z = up σ9 1 1 0 0 v5 := ⟨_, rfl⟩
    replace hw := hw σ10 e_σ10
    refine gx_st e_σ10 ?_
    refine gx_aload_n C dX5_bestSpeed_69 0 rfl ?_
    refine gx_get C okg_10 rfl rfl inX5 (ref := "SweetWraps") 1 (by decide) bw_172 rfl rfl dX5_bestSpeed_70 ?_
    refine gx_iload_n C dX5_bestSpeed_73 1 rfl ?_
    refine gx_vcalli (As := [.int x1]) (rest := []) C (c_X2_work _ _ (by decide) hw) (ok0 (show 1 < 11 from by decide)) rfl rfl bw_490 bw_322 bw_323 bw_2 bw_324 hy_X2_work ⟨by decide, by decide⟩ rfl (Nat.le_of_ble_eq_true rfl) dX5_bestSpeed_74 (fun r11 σ12 hw => ?_)
    refine gx_istore (lv' := [(6, .int r11), (0, .ref (ad (tE X) 11 10 0)), (1, .int x1), (2, .int x2), (3, .int v3), (4, .int v4), (5, .int v5)]) C dX5_bestSpeed_77 (by decide) rfl ?_
    refine gx_iload C dX5_bestSpeed_79 0 rfl ?_
    refine gx_iload C dX5_bestSpeed_81 5 rfl ?_
    refine gx_icmp_le (tgt := 93) C dX5_bestSpeed_83 (by decide) (fun c13 => ?_) (fun c13 => ?_)
    · replace hw := hw.1 c13
      refine gx_sub (lv' := [(0, .ref (ad (tE X) 11 10 0)), (1, .int x1), (2, .int x2), (3, .int v3), (4, .int v4), (5, .int v5)]) [1, 2, 3, 4, 5, 6] rfl ?_
      exact g_X5_bestSpeed_b93 C hK37 hw
    · replace hw := hw.2 c13
      refine gx_iload C dX5_bestSpeed_86 6 rfl ?_
      refine gx_istore_n (lv' := [(3, .int v5), (6, .int r11), (0, .ref (ad (tE X) 11 10 0)), (1, .int x1), (2, .int x2), (4, .int v4), (5, .int v5)]) C dX5_bestSpeed_88 (by decide) rfl ?_
      refine gx_iload C dX5_bestSpeed_89 1 rfl ?_
      refine gx_istore (lv' := [(4, .int r11), (3, .int v5), (6, .int r11), (0, .ref (ad (tE X) 11 10 0)), (1, .int x1), (2, .int x2), (5, .int v5)]) C dX5_bestSpeed_91 (by decide) rfl ?_
      refine gx_sub (lv' := [(0, .ref (ad (tE X) 11 10 0)), (1, .int x1), (2, .int x2), (3, .int v5), (4, .int r11), (5, .int v5)]) [3, 4, 5, 1, 0, 6] rfl ?_
      exact g_X5_bestSpeed_b93 C hK37 hw
set_option maxRecDepth 100000 in
set_option maxHeartbeats 4000000 in
theorem g_X5_bestSpeed_L37 {X : Tx} {Q : Int32 → Sg → Prop} (C : Cx X cX5_bestSpeed "SweetWraps" (some .int) 4 124 7 (QI (tE X) Q)) {x1 : Int32} {x2 : Int32} {v3 : Int32} {v4 : Int32} {v5 : Int32} {σ : Sg} (hw : wp_X5_bestSpeed_L37 x1 x2 Q v3 v4 v5 σ) : G X σ [(0, .ref (ad (tE X) 11 10 0)), (1, .int x1), (2, .int x2), (3, .int v3), (4, .int v4), (5, .int v5)] [] 37 := by
  obtain ⟨n, hw⟩ := hw
  exact lpN_G (P := (fun (a : Int32 × Int32 × Int32 × Sg) => G X (a.2.2.2) [(0, .ref (ad (tE X) 11 10 0)), (1, .int x1), (2, .int x2), (3, .int (a.1)), (4, .int (a.2.1)), (5, .int (a.2.2.1))] [] 37)) (fun K a hK h => gs_X5_bestSpeed_L37 C (fun v3 v4 v5 σ h => hK (v3, v4, v5, σ) h) h) n _ hw
def wp_X5_bestSpeed_b25 (x1 : Int32) (x2 : Int32) (Q : Int32 → Sg → Prop) (σ : Sg) : Prop := ∀ z6 : Int32, z6 = (lst (0 : Int32).toNatClampNeg) → wp_X5_bestSpeed_L37 x1 x2 Q (0 : Int32) (-1 : Int32) z6 σ
set_option maxRecDepth 100000 in
set_option maxHeartbeats 4000000 in
theorem g_X5_bestSpeed_b25 {X : Tx} {Q : Int32 → Sg → Prop} (C : Cx X cX5_bestSpeed "SweetWraps" (some .int) 4 124 7 (QI (tE X) Q)) {x1 : Int32} {x2 : Int32} {σ : Sg} (hw : wp_X5_bestSpeed_b25 x1 x2 Q σ) : G X σ [(0, .ref (ad (tE X) 11 10 0)), (1, .int x1), (2, .int x2)] [] 25 := by
  unfold wp_X5_bestSpeed_b25 at hw
  refine gx_iconst (v := (0 : Int32)) C dX5_bestSpeed_25 (by decide) ?_
  refine gx_istore_n (lv' := [(3, .int (0 : Int32)), (0, .ref (ad (tE X) 11 10 0)), (1, .int x1), (2, .int x2)]) C dX5_bestSpeed_26 (by decide) rfl ?_
  refine gx_iconst (v := (-1 : Int32)) C dX5_bestSpeed_27 (by decide) ?_
  refine gx_istore (lv' := [(4, .int (-1 : Int32)), (3, .int (0 : Int32)), (0, .ref (ad (tE X) 11 10 0)), (1, .int x1), (2, .int x2)]) C dX5_bestSpeed_28 (by decide) rfl ?_
  refine gx_gets0 C dX5_bestSpeed_30 bw_496 ?_
  refine gx_iconst (v := (0 : Int32)) C dX5_bestSpeed_33 (by decide) ?_
  refine gx_tab0 C (by unfold vp_in; decide) dX5_bestSpeed_34 ?_
  obtain ⟨z6, e_z6⟩ : ∃ z : Int32, z = (lst (0 : Int32).toNatClampNeg) := ⟨_, rfl⟩
  replace hw := hw z6 e_z6
  refine gx_top e_z6 ?_
  refine gx_istore (lv' := [(5, .int z6), (4, .int (-1 : Int32)), (3, .int (0 : Int32)), (0, .ref (ad (tE X) 11 10 0)), (1, .int x1), (2, .int x2)]) C dX5_bestSpeed_35 (by decide) rfl ?_
  refine gx_sub (lv' := [(0, .ref (ad (tE X) 11 10 0)), (1, .int x1), (2, .int x2), (3, .int (0 : Int32)), (4, .int (-1 : Int32)), (5, .int z6)]) [3, 4, 5, 2, 1, 0] rfl ?_
  exact g_X5_bestSpeed_L37 C hw
def wp_X5_bestSpeed (x1 : Int32) (x2 : Int32) (σ : Sg) (Q : Int32 → Sg → Prop) : Prop := wp_X5_isBetween x1 (1 : Int32) (50 : Int32) σ (fun r1 σ2 => ((¬ r1 = 0 → ((x2 = 0 → wp_X5_bestSpeed_b25 x1 x2 Q σ2) ∧ (¬ x2 = 0 → ((x2 = (1 : Int32) → wp_X5_bestSpeed_b25 x1 x2 Q σ2) ∧ (¬ x2 = (1 : Int32) → Q (-2 : Int32) σ2))))) ∧ (r1 = 0 → Q (-2 : Int32) σ2)))
set_option maxRecDepth 100000 in
set_option maxHeartbeats 4000000 in
theorem c_X5_bestSpeed (l : Launch) (E : Ev) {x1 : Int32} {x2 : Int32} {σ : Sg} {Q : Int32 → Sg → Prop} (hw : wp_X5_bestSpeed x1 x2 σ Q) : CT l E yX5_bestSpeed cX5_bestSpeed 7 (some .int) 4 124 [.ref (ad E 11 10 0), .int x1, .int x2] σ (QI E Q) := by
  refine CT_of (by decide) (Nat.le_of_ble_eq_true rfl) (fun X h1 h2 C => ?_)
  subst h1; subst h2
  have C : Cx X cX5_bestSpeed "SweetWraps" (some .int) 4 124 7 (QI (tE X) Q) := C
  show G X σ [(0, .ref (ad (tE X) 11 10 0)), (1, .int x1), (2, .int x2)] [] 0
  unfold wp_X5_bestSpeed at hw
  refine gx_iload_n C dX5_bestSpeed_0 1 rfl ?_
  refine gx_iconst (v := (1 : Int32)) C dX5_bestSpeed_1 (by decide) ?_
  refine gx_bipush (v := (50 : Int32)) C dX5_bestSpeed_2 (by decide) ?_
  refine gx_scalli (As := [.int x1, .int (1 : Int32), .int (50 : Int32)]) (rest := []) C (c_X5_isBetween _ _ hw) bw_495 bw_233 bw_1 bw_234 hyS_X5_isBetween ⟨by decide, by decide⟩ rfl (Nat.le_of_ble_eq_true rfl) dX5_bestSpeed_4 (fun r1 σ2 hw => ?_)
  refine gx_if_ne (tgt := 13) C dX5_bestSpeed_7 (by decide) (fun c3 => ?_) (fun c3 => ?_)
  · replace hw := hw.1 c3
    refine gx_iload_n C dX5_bestSpeed_13 2 rfl ?_
    refine gx_if_eq (tgt := 25) C dX5_bestSpeed_14 (by decide) (fun c4 => ?_) (fun c4 => ?_)
    · replace hw := hw.1 c4
      exact g_X5_bestSpeed_b25 C hw
    · replace hw := hw.2 c4
      refine gx_iload_n C dX5_bestSpeed_17 2 rfl ?_
      refine gx_iconst (v := (1 : Int32)) C dX5_bestSpeed_18 (by decide) ?_
      refine gx_icmp_eq (tgt := 25) C dX5_bestSpeed_19 (by decide) (fun c5 => ?_) (fun c5 => ?_)
      · replace hw := hw.1 c5
        exact g_X5_bestSpeed_b25 C hw
      · replace hw := hw.2 c5
        refine gx_bipush (v := (-2 : Int32)) C dX5_bestSpeed_22 (by decide) ?_
        exact gx_iret C rfl rfl dX5_bestSpeed_24 hw
  · replace hw := hw.2 c3
    refine gx_bipush (v := (-2 : Int32)) C dX5_bestSpeed_10 (by decide) ?_
    exact gx_iret C rfl rfl dX5_bestSpeed_12 hw
theorem hy_X5_bestSpeed : yX5_bestSpeed.cls = "SweetWraps" ∧ yX5_bestSpeed.cls ≠ "java/lang/invoke/MethodHandle" ∧ yX5_bestSpeed.cls ≠ "java/lang/invoke/VarHandle" ∧ (parseMethodDescriptor yX5_bestSpeed.desc).map (fun d => d.parameters.length) = some 2 := by decide +kernel

theorem dX5_ifApart_0 : decode cX5_ifApart 0 = .ok (.iload_n 1, 1) := by decide +kernel
theorem dX5_ifApart_1 : decode cX5_ifApart 1 = .ok (.bipush 6, 2) := by decide +kernel
theorem dX5_ifApart_3 : decode cX5_ifApart 3 = .ok (.invokestatic 104, 3) := by decide +kernel
theorem dX5_ifApart_6 : decode cX5_ifApart 6 = .ok (.ifCond .eq 12, 3) := by decide +kernel
theorem dX5_ifApart_9 : decode cX5_ifApart 9 = .ok (.iload_n 2, 1) := by decide +kernel
theorem dX5_ifApart_10 : decode cX5_ifApart 10 = .ok (.bipush 6, 2) := by decide +kernel
theorem dX5_ifApart_12 : decode cX5_ifApart 12 = .ok (.invokestatic 104, 3) := by decide +kernel
theorem dX5_ifApart_15 : decode cX5_ifApart 15 = .ok (.ifCond .ne 5, 3) := by decide +kernel
theorem dX5_ifApart_18 : decode cX5_ifApart 18 = .ok (.iconst (-1), 1) := by decide +kernel
theorem dX5_ifApart_19 : decode cX5_ifApart 19 = .ok (.ireturn, 1) := by decide +kernel
theorem dX5_ifApart_20 : decode cX5_ifApart 20 = .ok (.iload_n 1, 1) := by decide +kernel
theorem dX5_ifApart_21 : decode cX5_ifApart 21 = .ok (.iload_n 2, 1) := by decide +kernel
theorem dX5_ifApart_22 : decode cX5_ifApart 22 = .ok (.if_icmp .eq 13, 3) := by decide +kernel
theorem dX5_ifApart_25 : decode cX5_ifApart 25 = .ok (.iload_n 3, 1) := by decide +kernel
theorem dX5_ifApart_26 : decode cX5_ifApart 26 = .ok (.iconst 1, 1) := by decide +kernel
theorem dX5_ifApart_27 : decode cX5_ifApart 27 = .ok (.bipush 50, 2) := by decide +kernel
theorem dX5_ifApart_29 : decode cX5_ifApart 29 = .ok (.invokestatic 123, 3) := by decide +kernel
theorem dX5_ifApart_32 : decode cX5_ifApart 32 = .ok (.ifCond .ne 6, 3) := by decide +kernel
theorem dX5_ifApart_35 : decode cX5_ifApart 35 = .ok (.bipush (-2), 2) := by decide +kernel
theorem dX5_ifApart_37 : decode cX5_ifApart 37 = .ok (.ireturn, 1) := by decide +kernel
theorem dX5_ifApart_38 : decode cX5_ifApart 38 = .ok (.aload_n 0, 1) := by decide +kernel
theorem dX5_ifApart_39 : decode cX5_ifApart 39 = .ok (.getfield 16, 3) := by decide +kernel
theorem dX5_ifApart_42 : decode cX5_ifApart 42 = .ok (.aload_n 0, 1) := by decide +kernel
theorem dX5_ifApart_43 : decode cX5_ifApart 43 = .ok (.getfield 10, 3) := by decide +kernel
theorem dX5_ifApart_46 : decode cX5_ifApart 46 = .ok (.invokevirtual 108, 3) := by decide +kernel
theorem dX5_ifApart_49 : decode cX5_ifApart 49 = .ok (.aload_n 0, 1) := by decide +kernel
theorem dX5_ifApart_50 : decode cX5_ifApart 50 = .ok (.getfield 16, 3) := by decide +kernel
theorem dX5_ifApart_53 : decode cX5_ifApart 53 = .ok (.iload_n 1, 1) := by decide +kernel
theorem dX5_ifApart_54 : decode cX5_ifApart 54 = .ok (.iload_n 2, 1) := by decide +kernel
theorem dX5_ifApart_55 : decode cX5_ifApart 55 = .ok (.invokevirtual 137, 3) := by decide +kernel
theorem dX5_ifApart_58 : decode cX5_ifApart 58 = .ok (.aload_n 0, 1) := by decide +kernel
theorem dX5_ifApart_59 : decode cX5_ifApart 59 = .ok (.getfield 16, 3) := by decide +kernel
theorem dX5_ifApart_62 : decode cX5_ifApart 62 = .ok (.iload_n 3, 1) := by decide +kernel
theorem dX5_ifApart_63 : decode cX5_ifApart 63 = .ok (.invokevirtual 111, 3) := by decide +kernel
theorem dX5_ifApart_66 : decode cX5_ifApart 66 = .ok (.ireturn, 1) := by decide +kernel
def wp_X5_ifApart (x1 : Int32) (x2 : Int32) (x3 : Int32) (σ : Sg) (Q : Int32 → Sg → Prop) : Prop := wp_X5_isIndex x1 (6 : Int32) σ (fun r1 σ2 => ((r1 = 0 → Q (-1 : Int32) σ2) ∧ (¬ r1 = 0 → wp_X5_isIndex x2 (6 : Int32) σ2 (fun r4 σ5 => ((¬ r4 = 0 → ((x1 = x2 → Q (-2 : Int32) σ5) ∧ (¬ x1 = x2 → wp_X5_isBetween x3 (1 : Int32) (50 : Int32) σ5 (fun r8 σ9 => ((¬ r8 = 0 → wp_X2_copyFrom 1 0 σ9 (fun σ11 => wp_X2_switchApart 1 x1 x2 σ11 (fun σ12 => wp_X2_work 1 x3 σ12 (fun r13 σ14 => Q r13 σ14)))) ∧ (r8 = 0 → Q (-2 : Int32) σ9)))))) ∧ (r4 = 0 → Q (-1 : Int32) σ5))))))
set_option maxRecDepth 100000 in
set_option maxHeartbeats 4000000 in
theorem c_X5_ifApart (l : Launch) (E : Ev) {x1 : Int32} {x2 : Int32} {x3 : Int32} {σ : Sg} {Q : Int32 → Sg → Prop} (hw : wp_X5_ifApart x1 x2 x3 σ Q) : CT l E yX5_ifApart cX5_ifApart 4 (some .int) 4 124 [.ref (ad E 11 10 0), .int x1, .int x2, .int x3] σ (QI E Q) := by
  refine CT_of (by decide) (Nat.le_of_ble_eq_true rfl) (fun X h1 h2 C => ?_)
  subst h1; subst h2
  have C : Cx X cX5_ifApart "SweetWraps" (some .int) 4 124 4 (QI (tE X) Q) := C
  show G X σ [(0, .ref (ad (tE X) 11 10 0)), (1, .int x1), (2, .int x2), (3, .int x3)] [] 0
  unfold wp_X5_ifApart at hw
  refine gx_iload_n C dX5_ifApart_0 1 rfl ?_
  refine gx_bipush (v := (6 : Int32)) C dX5_ifApart_1 (by decide) ?_
  refine gx_scalli (As := [.int x1, .int (6 : Int32)]) (rest := []) C (c_X5_isIndex _ _ hw) bw_488 bw_226 bw_1 bw_227 hyS_X5_isIndex ⟨by decide, by decide⟩ rfl (Nat.le_of_ble_eq_true rfl) dX5_ifApart_3 (fun r1 σ2 hw => ?_)
  refine gx_if_eq (tgt := 18) C dX5_ifApart_6 (by decide) (fun c3 => ?_) (fun c3 => ?_)
  · replace hw := hw.1 c3
    refine gx_iconst (v := (-1 : Int32)) C dX5_ifApart_18 (by decide) ?_
    exact gx_iret C rfl rfl dX5_ifApart_19 hw
  · replace hw := hw.2 c3
    refine gx_iload_n C dX5_ifApart_9 2 rfl ?_
    refine gx_bipush (v := (6 : Int32)) C dX5_ifApart_10 (by decide) ?_
    refine gx_scalli (As := [.int x2, .int (6 : Int32)]) (rest := []) C (c_X5_isIndex _ _ hw) bw_488 bw_226 bw_1 bw_227 hyS_X5_isIndex ⟨by decide, by decide⟩ rfl (Nat.le_of_ble_eq_true rfl) dX5_ifApart_12 (fun r4 σ5 hw => ?_)
    refine gx_if_ne (tgt := 20) C dX5_ifApart_15 (by decide) (fun c6 => ?_) (fun c6 => ?_)
    · replace hw := hw.1 c6
      refine gx_iload_n C dX5_ifApart_20 1 rfl ?_
      refine gx_iload_n C dX5_ifApart_21 2 rfl ?_
      refine gx_icmp_eq (tgt := 35) C dX5_ifApart_22 (by decide) (fun c7 => ?_) (fun c7 => ?_)
      · replace hw := hw.1 c7
        refine gx_bipush (v := (-2 : Int32)) C dX5_ifApart_35 (by decide) ?_
        exact gx_iret C rfl rfl dX5_ifApart_37 hw
      · replace hw := hw.2 c7
        refine gx_iload_n C dX5_ifApart_25 3 rfl ?_
        refine gx_iconst (v := (1 : Int32)) C dX5_ifApart_26 (by decide) ?_
        refine gx_bipush (v := (50 : Int32)) C dX5_ifApart_27 (by decide) ?_
        refine gx_scalli (As := [.int x3, .int (1 : Int32), .int (50 : Int32)]) (rest := []) C (c_X5_isBetween _ _ hw) bw_495 bw_233 bw_1 bw_234 hyS_X5_isBetween ⟨by decide, by decide⟩ rfl (Nat.le_of_ble_eq_true rfl) dX5_ifApart_29 (fun r8 σ9 hw => ?_)
        refine gx_if_ne (tgt := 38) C dX5_ifApart_32 (by decide) (fun c10 => ?_) (fun c10 => ?_)
        · replace hw := hw.1 c10
          refine gx_aload_n C dX5_ifApart_38 0 rfl ?_
          refine gx_get C okg_10 rfl rfl inX5 (ref := "SweetWraps") 1 (by decide) bw_172 rfl rfl dX5_ifApart_39 ?_
          refine gx_aload_n C dX5_ifApart_42 0 rfl ?_
          refine gx_get C okg_10 rfl rfl inX5 (ref := "SweetWraps") 0 (by decide) bw_171 rfl rfl dX5_ifApart_43 ?_
          refine gx_vcallv (As := [.ref (ad (tE X) 0 0 0)]) (rest := []) C (c_X2_copyFrom _ _ (by decide) (by decide) hw) (ok0 (show 1 < 11 from by decide)) rfl rfl bw_489 bw_199 bw_200 bw_2 bw_201 hy_X2_copyFrom ⟨by decide, by decide⟩ rfl (Nat.le_of_ble_eq_true rfl) dX5_ifApart_46 (fun σ11 hw => ?_)
          refine gx_aload_n C dX5_ifApart_49 0 rfl ?_
          refine gx_get C okg_10 rfl rfl inX5 (ref := "SweetWraps") 1 (by decide) bw_172 rfl rfl dX5_ifApart_50 ?_
          refine gx_iload_n C dX5_ifApart_53 1 rfl ?_
          refine gx_iload_n C dX5_ifApart_54 2 rfl ?_
          refine gx_vcallv (As := [.int x1, .int x2]) (rest := []) C (c_X2_switchApart _ _ (by decide) hw) (ok0 (show 1 < 11 from by decide)) rfl rfl bw_502 bw_310 bw_311 bw_2 bw_312 hy_X2_switchApart ⟨by decide, by decide⟩ rfl (Nat.le_of_ble_eq_true rfl) dX5_ifApart_55 (fun σ12 hw => ?_)
          refine gx_aload_n C dX5_ifApart_58 0 rfl ?_
          refine gx_get C okg_10 rfl rfl inX5 (ref := "SweetWraps") 1 (by decide) bw_172 rfl rfl dX5_ifApart_59 ?_
          refine gx_iload_n C dX5_ifApart_62 3 rfl ?_
          refine gx_vcalli (As := [.int x3]) (rest := []) C (c_X2_work _ _ (by decide) hw) (ok0 (show 1 < 11 from by decide)) rfl rfl bw_490 bw_322 bw_323 bw_2 bw_324 hy_X2_work ⟨by decide, by decide⟩ rfl (Nat.le_of_ble_eq_true rfl) dX5_ifApart_63 (fun r13 σ14 hw => ?_)
          exact gx_iret C rfl rfl dX5_ifApart_66 hw
        · replace hw := hw.2 c10
          refine gx_bipush (v := (-2 : Int32)) C dX5_ifApart_35 (by decide) ?_
          exact gx_iret C rfl rfl dX5_ifApart_37 hw
    · replace hw := hw.2 c6
      refine gx_iconst (v := (-1 : Int32)) C dX5_ifApart_18 (by decide) ?_
      exact gx_iret C rfl rfl dX5_ifApart_19 hw
theorem hy_X5_ifApart : yX5_ifApart.cls = "SweetWraps" ∧ yX5_ifApart.cls ≠ "java/lang/invoke/MethodHandle" ∧ yX5_ifApart.cls ≠ "java/lang/invoke/VarHandle" ∧ (parseMethodDescriptor yX5_ifApart.desc).map (fun d => d.parameters.length) = some 3 := by decide +kernel
