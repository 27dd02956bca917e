theorem dX0_prepare_0 : decode cX0_prepare 0 = .ok (.aload_n 0, 1) := by decide +kernel
theorem dX0_prepare_1 : decode cX0_prepare 1 = .ok (.getfield 18, 3) := by decide +kernel
theorem dX0_prepare_4 : decode cX0_prepare 4 = .ok (.aload_n 1, 1) := by decide +kernel
theorem dX0_prepare_5 : decode cX0_prepare 5 = .ok (.invokevirtual 22, 3) := by decide +kernel
theorem dX0_prepare_8 : decode cX0_prepare 8 = .ok (.return_, 1) := by decide +kernel
def wp_X0_prepare (m1 : Nat) (σ : Sg) (Q : Sg → Prop) : Prop := ∀ b1 : Nat, b1 = (σ 11 11 0 1).toNatClampNeg → (b1 < 11 ∧ wp_X2_copyFrom b1 m1 σ (fun σ2 => Q σ2))
set_option maxRecDepth 100000 in
set_option maxHeartbeats 4000000 in
theorem c_X0_prepare (l : Launch) (E : Ev) {m1 : Nat} (hm1 : m1 < 11) {σ : Sg} {Q : Sg → Prop} (hw : wp_X0_prepare m1 σ Q) : CT l E yX0_prepare cX0_prepare 2 none 4 124 [.ref (ad E 11 11 0), .ref (ad E m1 0 0)] σ (QV E Q) := by
  refine CT_of (by decide) (Nat.le_of_ble_eq_true rfl) (fun X h1 h2 C => ?_)
  subst h1; subst h2
  have C : Cx X cX0_prepare "SweetWraps$History" none 4 124 2 (QV (tE X) Q) := C
  show G X σ [(0, .ref (ad (tE X) 11 11 0)), (1, .ref (ad (tE X) m1 0 0))] [] 0
  unfold wp_X0_prepare at hw
  refine gx_aload_n C dX0_prepare_0 0 rfl ?_
  refine gx_get C okg_11 rfl rfl inX0 (ref := "SweetWraps$History") 1 (by decide) bw_125 rfl rfl dX0_prepare_1 ?_
  obtain ⟨b1, e_b1⟩ : ∃ z : Nat, z = (σ 11 11 0 1).toNatClampNeg := ⟨_, rfl⟩
  replace hw := hw b1 e_b1
  rw [← e_b1]
  have hb1 := hw.1
  replace hw := hw.2
  refine gx_aload_n C dX0_prepare_4 1 rfl ?_
  refine gx_vcallv (As := [.ref (ad (tE X) m1 0 0)]) (rest := []) C (c_X2_copyFrom _ _ hb1 hm1 hw) (ok0 hb1) rfl rfl bw_196 bw_197 bw_198 bw_2 bw_199 hy_X2_copyFrom ⟨by decide, by decide⟩ rfl (Nat.le_of_ble_eq_true rfl) dX0_prepare_5 (fun σ2 hw => ?_)
  exact gx_vret C dX0_prepare_8 hw
theorem hy_X0_prepare : yX0_prepare.cls = "SweetWraps$History" ∧ yX0_prepare.cls ≠ "java/lang/invoke/MethodHandle" ∧ yX0_prepare.cls ≠ "java/lang/invoke/VarHandle" ∧ (parseMethodDescriptor yX0_prepare.desc).map (fun d => d.parameters.length) = some 1 := by decide +kernel

theorem dX0_dropOldest_0 : decode cX0_dropOldest 0 = .ok (.aload_n 0, 1) := by decide +kernel
theorem dX0_dropOldest_1 : decode cX0_dropOldest 1 = .ok (.getfield 11, 3) := by decide +kernel
theorem dX0_dropOldest_4 : decode cX0_dropOldest 4 = .ok (.iconst 0, 1) := by decide +kernel
theorem dX0_dropOldest_5 : decode cX0_dropOldest 5 = .ok (.aaload, 1) := by decide +kernel
theorem dX0_dropOldest_6 : decode cX0_dropOldest 6 = .ok (.astore_n 1, 1) := by decide +kernel
theorem dX0_dropOldest_7 : decode cX0_dropOldest 7 = .ok (.iconst 0, 1) := by decide +kernel
theorem dX0_dropOldest_8 : decode cX0_dropOldest 8 = .ok (.istore_n 2, 1) := by decide +kernel
theorem dX0_dropOldest_9 : decode cX0_dropOldest 9 = .ok (.iload_n 2, 1) := by decide +kernel
theorem dX0_dropOldest_10 : decode cX0_dropOldest 10 = .ok (.iconst 1, 1) := by decide +kernel
theorem dX0_dropOldest_11 : decode cX0_dropOldest 11 = .ok (.iadd, 1) := by decide +kernel
theorem dX0_dropOldest_12 : decode cX0_dropOldest 12 = .ok (.aload_n 0, 1) := by decide +kernel
theorem dX0_dropOldest_13 : decode cX0_dropOldest 13 = .ok (.getfield 11, 3) := by decide +kernel
theorem dX0_dropOldest_16 : decode cX0_dropOldest 16 = .ok (.arraylength, 1) := by decide +kernel
theorem dX0_dropOldest_17 : decode cX0_dropOldest 17 = .ok (.if_icmp .ge 23, 3) := by decide +kernel
theorem dX0_dropOldest_20 : decode cX0_dropOldest 20 = .ok (.aload_n 0, 1) := by decide +kernel
theorem dX0_dropOldest_21 : decode cX0_dropOldest 21 = .ok (.getfield 11, 3) := by decide +kernel
theorem dX0_dropOldest_24 : decode cX0_dropOldest 24 = .ok (.iload_n 2, 1) := by decide +kernel
theorem dX0_dropOldest_25 : decode cX0_dropOldest 25 = .ok (.aload_n 0, 1) := by decide +kernel
theorem dX0_dropOldest_26 : decode cX0_dropOldest 26 = .ok (.getfield 11, 3) := by decide +kernel
theorem dX0_dropOldest_29 : decode cX0_dropOldest 29 = .ok (.iload_n 2, 1) := by decide +kernel
theorem dX0_dropOldest_30 : decode cX0_dropOldest 30 = .ok (.iconst 1, 1) := by decide +kernel
theorem dX0_dropOldest_31 : decode cX0_dropOldest 31 = .ok (.iadd, 1) := by decide +kernel
theorem dX0_dropOldest_32 : decode cX0_dropOldest 32 = .ok (.aaload, 1) := by decide +kernel
theorem dX0_dropOldest_33 : decode cX0_dropOldest 33 = .ok (.aastore, 1) := by decide +kernel
theorem dX0_dropOldest_34 : decode cX0_dropOldest 34 = .ok (.iinc 2 1, 3) := by decide +kernel
theorem dX0_dropOldest_37 : decode cX0_dropOldest 37 = .ok (.goto (-28), 3) := by decide +kernel
theorem dX0_dropOldest_40 : decode cX0_dropOldest 40 = .ok (.aload_n 0, 1) := by decide +kernel
theorem dX0_dropOldest_41 : decode cX0_dropOldest 41 = .ok (.getfield 11, 3) := by decide +kernel
theorem dX0_dropOldest_44 : decode cX0_dropOldest 44 = .ok (.iconst 5, 1) := by decide +kernel
theorem dX0_dropOldest_45 : decode cX0_dropOldest 45 = .ok (.aload_n 1, 1) := by decide +kernel
theorem dX0_dropOldest_46 : decode cX0_dropOldest 46 = .ok (.aastore, 1) := by decide +kernel
theorem dX0_dropOldest_47 : decode cX0_dropOldest 47 = .ok (.aload_n 0, 1) := by decide +kernel
theorem dX0_dropOldest_48 : decode cX0_dropOldest 48 = .ok (.iconst 5, 1) := by decide +kernel
theorem dX0_dropOldest_49 : decode cX0_dropOldest 49 = .ok (.putfield 26, 3) := by decide +kernel
theorem dX0_dropOldest_52 : decode cX0_dropOldest 52 = .ok (.return_, 1) := by decide +kernel
def st_X0_dropOldest_L9 (Q : Sg → Prop) (K9 : Nat → Int32 → Sg → Prop) (v1 : Nat) (v2 : Int32) (σ : Sg) : Prop := v1 < 11 ∧ ((((6 : Int32) ≤ (v2 + (1 : Int32)) → ∀ σ4 : Sg, σ4 = up σ 11 12 0 5 (nI v1) → ∀ σ5 : Sg, σ5 = up σ4 11 11 0 2 (5 : Int32) → Q σ5) ∧ (¬ (6 : Int32) ≤ (v2 + (1 : Int32)) → (vp_in (v2 + (1 : Int32)) 6 ∧ ∀ b7 : Nat, b7 = (σ 11 12 0 (v2 + (1 : Int32)).toNatClampNeg).toNatClampNeg → (b7 < 11 ∧ (vp_in v2 6 ∧ ∀ σ8 : Sg, σ8 = up σ 11 12 0 v2.toNatClampNeg (nI b7) → ∀ z9 : Int32, z9 = v2 + (1 : Int32) → K9 v1 z9 σ8))))))
def wp_X0_dropOldest_L9 (Q : Sg → Prop) (v1 : Nat) (v2 : Int32) (σ : Sg) : Prop := ∃ n : Nat, lpN (fun (K : Nat × Int32 × Sg → Prop) (a : Nat × Int32 × Sg) => st_X0_dropOldest_L9 Q (fun v1 v2 σ => K (v1, v2, σ)) (a.1) (a.2.1) (a.2.2)) n (v1, v2, σ)
set_option maxRecDepth 100000 in
set_option maxHeartbeats 4000000 in
theorem gs_X0_dropOldest_L9 {X : Tx} {Q : Sg → Prop} (C : Cx X cX0_dropOldest "SweetWraps$History" none 0 0 3 (QV (tE X) Q)) {K9 : Nat → Int32 → Sg → Prop} (hK9 : ∀ (v1 : Nat) (v2 : Int32) (σ : Sg), K9 v1 v2 σ → G X σ [(0, .ref (ad (tE X) 11 11 0)), (1, .ref (ad (tE X) v1 0 0)), (2, .int v2)] [] 9) {v1 : Nat} {v2 : Int32} {σ : Sg} (hw : st_X0_dropOldest_L9 Q K9 v1 v2 σ) : G X σ [(0, .ref (ad (tE X) 11 11 0)), (1, .ref (ad (tE X) v1 0 0)), (2, .int v2)] [] 9 := by
  unfold st_X0_dropOldest_L9 at hw
  have hv1 := hw.1
  replace hw := hw.2
  refine gx_iload_n C dX0_dropOldest_9 2 rfl ?_
  refine gx_iconst (v := (1 : Int32)) C dX0_dropOldest_10 (by decide) ?_
  refine gx_iadd C dX0_dropOldest_11 ?_
  refine gx_aload_n C dX0_dropOldest_12 0 rfl ?_
  refine gx_get C okg_11 rfl rfl inX0 (ref := "SweetWraps$History") 0 (by decide) bw_124 rfl rfl dX0_dropOldest_13 ?_
  refine gx_alen C okg_12 rfl (t0 := 5) rfl (v := (6 : Int32)) rfl dX0_dropOldest_16 ?_
  refine gx_icmp_ge (tgt := 40) C dX0_dropOldest_17 (by decide) (fun c3 => ?_) (fun c3 => ?_)
  · replace hw := hw.1 c3
    refine gx_aload_n C dX0_dropOldest_40 0 rfl ?_
    refine gx_get C okg_11 rfl rfl inX0 (ref := "SweetWraps$History") 0 (by decide) bw_124 rfl rfl dX0_dropOldest_41 ?_
    refine gx_iconst (v := (5 : Int32)) C dX0_dropOldest_44 (by decide) ?_
    refine gx_aload_n C dX0_dropOldest_45 1 rfl ?_
    refine gx_aastM C hv1 (x := (5 : Int32)) (by unfold vp_in; decide) 5 (by decide) dX0_dropOldest_46 ?_
    obtain ⟨σ4, e_σ4⟩ : ∃ z : Sg, z = up σ 11 12 0 5 (nI v1) := ⟨_, rfl⟩
    replace hw := hw σ4 e_σ4
    refine gx_st e_σ4 ?_
    refine gx_aload_n C dX0_dropOldest_47 0 rfl ?_
    refine gx_iconst (v := (5 : Int32)) C dX0_dropOldest_48 (by decide) ?_
    refine gx_put C okg_11 rfl rfl inX0 tyX0 tyX0_ok nmX0 (ref := "SweetWraps$History") 2 (by decide) bw_126 rfl rfl (v := .int (5 : Int32)) rfl rfl (Nat.le_of_ble_eq_true rfl) (upd (σ4 11 11 0) 2 (5 : Int32)) rfl dX0_dropOldest_49 ?_
    obtain ⟨σ5, e_σ5⟩ : ∃ z : Sg, z = up σ4 11 11 0 2 (5 : Int32) := ⟨_, rfl⟩
    replace hw := hw σ5 e_σ5
    refine gx_st e_σ5 ?_
    exact gx_vret C dX0_dropOldest_52 hw
  · replace hw := hw.2 c3
    refine gx_aload_n C dX0_dropOldest_20 0 rfl ?_
    refine gx_get C okg_11 rfl rfl inX0 (ref := "SweetWraps$History") 0 (by decide) bw_124 rfl rfl dX0_dropOldest_21 ?_
    refine gx_iload_n C dX0_dropOldest_24 2 rfl ?_
    refine gx_aload_n C dX0_dropOldest_25 0 rfl ?_
    refine gx_get C okg_11 rfl rfl inX0 (ref := "SweetWraps$History") 0 (by decide) bw_124 rfl rfl dX0_dropOldest_26 ?_
    refine gx_iload_n C dX0_dropOldest_29 2 rfl ?_
    refine gx_iconst (v := (1 : Int32)) C dX0_dropOldest_30 (by decide) ?_
    refine gx_iadd C dX0_dropOldest_31 ?_
    have h6 := hw.1
    replace hw := hw.2
    obtain ⟨b7, e_b7⟩ : ∃ z : Nat, z = (σ 11 12 0 (v2 + (1 : Int32)).toNatClampNeg).toNatClampNeg := ⟨_, rfl⟩
    replace hw := hw b7 e_b7
    have hb7 := hw.1
    replace hw := hw.2
    refine gx_aald C okg_12 rfl (t0 := 5) rfl h6 (v := .ref (ad (tE X) b7 0 0)) (by rw [e_b7]; rfl) dX0_dropOldest_32 ?_
    refine gx_aastM C hb7 hw.1 _ rfl dX0_dropOldest_33 ?_
    replace hw := hw.2
    obtain ⟨σ8, e_σ8⟩ : ∃ z : Sg, z = up σ 11 12 0 v2.toNatClampNeg (nI b7) := ⟨_, rfl⟩
    replace hw := hw σ8 e_σ8
    refine gx_st e_σ8 ?_
    obtain ⟨z9, e_z9⟩ : ∃ z : Int32, z = v2 + (1 : Int32) := ⟨_, rfl⟩
    replace hw := hw z9 e_z9
    refine gx_iinc (v := z9) (lv' := [(2, .int z9), (0, .ref (ad (tE X) 11 11 0)), (1, .ref (ad (tE X) v1 0 0))]) C dX0_dropOldest_34 2 rfl (by rw [e_z9]; rfl) (by decide) rfl ?_
    refine gx_goto (tgt := 9) C dX0_dropOldest_37 (by decide) ?_
    refine gx_sub (lv' := [(0, .ref (ad (tE X) 11 11 0)), (1, .ref (ad (tE X) v1 0 0)), (2, .int z9)]) [1, 2, 0] rfl ?_
    exact hK9 _ _ _ hw
set_option maxRecDepth 100000 in
set_option maxHeartbeats 4000000 in
theorem g_X0_dropOldest_L9 {X : Tx} {Q : Sg → Prop} (C : Cx X cX0_dropOldest "SweetWraps$History" none 0 0 3 (QV (tE X) Q)) {v1 : Nat} {v2 : Int32} {σ : Sg} (hw : wp_X0_dropOldest_L9 Q v1 v2 σ) : G X σ [(0, .ref (ad (tE X) 11 11 0)), (1, .ref (ad (tE X) v1 0 0)), (2, .int v2)] [] 9 := by
  obtain ⟨n, hw⟩ := hw
  exact lpN_G (P := (fun (a : Nat × Int32 × Sg) => G X (a.2.2) [(0, .ref (ad (tE X) 11 11 0)), (1, .ref (ad (tE X) (a.1) 0 0)), (2, .int (a.2.1))] [] 9)) (fun K a hK h => gs_X0_dropOldest_L9 C (fun v1 v2 σ h => hK (v1, v2, σ) h) h) n _ hw
def wp_X0_dropOldest (σ : Sg) (Q : Sg → Prop) : Prop := ∀ b2 : Nat, b2 = (σ 11 12 0 (0 : Int32).toNatClampNeg).toNatClampNeg → (b2 < 11 ∧ wp_X0_dropOldest_L9 Q b2 (0 : Int32) σ)
set_option maxRecDepth 100000 in
set_option maxHeartbeats 4000000 in
theorem c_X0_dropOldest (l : Launch) (E : Ev) {σ : Sg} {Q : Sg → Prop} (hw : wp_X0_dropOldest σ Q) : CT l E yX0_dropOldest cX0_dropOldest 3 none 0 0 [.ref (ad E 11 11 0)] σ (QV E Q) := by
  refine CT_of (by decide) (Nat.le_of_ble_eq_true rfl) (fun X h1 h2 C => ?_)
  subst h1; subst h2
  have C : Cx X cX0_dropOldest "SweetWraps$History" none 0 0 3 (QV (tE X) Q) := C
  show G X σ [(0, .ref (ad (tE X) 11 11 0))] [] 0
  unfold wp_X0_dropOldest at hw
  refine gx_aload_n C dX0_dropOldest_0 0 rfl ?_
  refine gx_get C okg_11 rfl rfl inX0 (ref := "SweetWraps$History") 0 (by decide) bw_124 rfl rfl dX0_dropOldest_1 ?_
  refine gx_iconst (v := (0 : Int32)) C dX0_dropOldest_4 (by decide) ?_
  have h1 : vp_in (0 : Int32) 6 := by unfold vp_in; decide
  obtain ⟨b2, e_b2⟩ : ∃ z : Nat, z = (σ 11 12 0 (0 : Int32).toNatClampNeg).toNatClampNeg := ⟨_, rfl⟩
  replace hw := hw b2 e_b2
  have hb2 := hw.1
  replace hw := hw.2
  refine gx_aald C okg_12 rfl (t0 := 5) rfl h1 (v := .ref (ad (tE X) b2 0 0)) (by rw [e_b2]; rfl) dX0_dropOldest_5 ?_
  refine gx_astore_n (lv' := [(1, .ref (ad (tE X) b2 0 0)), (0, .ref (ad (tE X) 11 11 0))]) C dX0_dropOldest_6 (by decide) rfl ?_
  refine gx_iconst (v := (0 : Int32)) C dX0_dropOldest_7 (by decide) ?_
  refine gx_istore_n (lv' := [(2, .int (0 : Int32)), (1, .ref (ad (tE X) b2 0 0)), (0, .ref (ad (tE X) 11 11 0))]) C dX0_dropOldest_8 (by decide) rfl ?_
  refine gx_sub (lv' := [(0, .ref (ad (tE X) 11 11 0)), (1, .ref (ad (tE X) b2 0 0)), (2, .int (0 : Int32))]) [2, 1, 0] rfl ?_
  exact g_X0_dropOldest_L9 C hw
theorem hy_X0_dropOldest : yX0_dropOldest.cls = "SweetWraps$History" ∧ yX0_dropOldest.cls ≠ "java/lang/invoke/MethodHandle" ∧ yX0_dropOldest.cls ≠ "java/lang/invoke/VarHandle" ∧ (parseMethodDescriptor yX0_dropOldest.desc).map (fun d => d.parameters.length) = some 0 := by decide +kernel

theorem dX0_record_0 : decode cX0_record 0 = .ok (.iload_n 1, 1) := by decide +kernel
theorem dX0_record_1 : decode cX0_record 1 = .ok (.ifCond .ge 5, 3) := by decide +kernel
theorem dX0_record_4 : decode cX0_record 4 = .ok (.iload_n 1, 1) := by decide +kernel
theorem dX0_record_5 : decode cX0_record 5 = .ok (.ireturn, 1) := by decide +kernel
theorem dX0_record_6 : decode cX0_record 6 = .ok (.aload_n 0, 1) := by decide +kernel
theorem dX0_record_7 : decode cX0_record 7 = .ok (.getfield 26, 3) := by decide +kernel
theorem dX0_record_10 : decode cX0_record 10 = .ok (.bipush 6, 2) := by decide +kernel
theorem dX0_record_12 : decode cX0_record 12 = .ok (.if_icmp .lt 7, 3) := by decide +kernel
theorem dX0_record_15 : decode cX0_record 15 = .ok (.aload_n 0, 1) := by decide +kernel
theorem dX0_record_16 : decode cX0_record 16 = .ok (.invokevirtual 30, 3) := by decide +kernel
theorem dX0_record_19 : decode cX0_record 19 = .ok (.aload_n 0, 1) := by decide +kernel
theorem dX0_record_20 : decode cX0_record 20 = .ok (.getfield 26, 3) := by decide +kernel
theorem dX0_record_23 : decode cX0_record 23 = .ok (.bipush 6, 2) := by decide +kernel
theorem dX0_record_25 : decode cX0_record 25 = .ok (.invokestatic 33, 3) := by decide +kernel
theorem dX0_record_28 : decode cX0_record 28 = .ok (.ifCond .ne 5, 3) := by decide +kernel
theorem dX0_record_31 : decode cX0_record 31 = .ok (.iload_n 1, 1) := by decide +kernel
theorem dX0_record_32 : decode cX0_record 32 = .ok (.ireturn, 1) := by decide +kernel
theorem dX0_record_33 : decode cX0_record 33 = .ok (.aload_n 0, 1) := by decide +kernel
theorem dX0_record_34 : decode cX0_record 34 = .ok (.getfield 11, 3) := by decide +kernel
theorem dX0_record_37 : decode cX0_record 37 = .ok (.aload_n 0, 1) := by decide +kernel
theorem dX0_record_38 : decode cX0_record 38 = .ok (.getfield 26, 3) := by decide +kernel
theorem dX0_record_41 : decode cX0_record 41 = .ok (.aaload, 1) := by decide +kernel
theorem dX0_record_42 : decode cX0_record 42 = .ok (.astore_n 2, 1) := by decide +kernel
theorem dX0_record_43 : decode cX0_record 43 = .ok (.aload_n 0, 1) := by decide +kernel
theorem dX0_record_44 : decode cX0_record 44 = .ok (.getfield 11, 3) := by decide +kernel
theorem dX0_record_47 : decode cX0_record 47 = .ok (.aload_n 0, 1) := by decide +kernel
theorem dX0_record_48 : decode cX0_record 48 = .ok (.getfield 26, 3) := by decide +kernel
theorem dX0_record_51 : decode cX0_record 51 = .ok (.aload_n 0, 1) := by decide +kernel
theorem dX0_record_52 : decode cX0_record 52 = .ok (.getfield 18, 3) := by decide +kernel
theorem dX0_record_55 : decode cX0_record 55 = .ok (.aastore, 1) := by decide +kernel
theorem dX0_record_56 : decode cX0_record 56 = .ok (.aload_n 0, 1) := by decide +kernel
theorem dX0_record_57 : decode cX0_record 57 = .ok (.aload_n 2, 1) := by decide +kernel
theorem dX0_record_58 : decode cX0_record 58 = .ok (.putfield 18, 3) := by decide +kernel
theorem dX0_record_61 : decode cX0_record 61 = .ok (.aload_n 0, 1) := by decide +kernel
theorem dX0_record_62 : decode cX0_record 62 = .ok (.dup, 1) := by decide +kernel
theorem dX0_record_63 : decode cX0_record 63 = .ok (.getfield 26, 3) := by decide +kernel
theorem dX0_record_66 : decode cX0_record 66 = .ok (.iconst 1, 1) := by decide +kernel
theorem dX0_record_67 : decode cX0_record 67 = .ok (.iadd, 1) := by decide +kernel
theorem dX0_record_68 : decode cX0_record 68 = .ok (.putfield 26, 3) := by decide +kernel
theorem dX0_record_71 : decode cX0_record 71 = .ok (.iload_n 1, 1) := by decide +kernel
theorem dX0_record_72 : decode cX0_record 72 = .ok (.ireturn, 1) := by decide +kernel
def wp_X0_record_b19 (x1 : Int32) (Q : Int32 → Sg → Prop) (σ : Sg) : Prop := wp_X5_isIndex (σ 11 11 0 2) (6 : Int32) σ (fun r4 σ5 => ((¬ r4 = 0 → (vp_in (σ5 11 11 0 2) 6 ∧ ∀ b8 : Nat, b8 = (σ5 11 12 0 (σ5 11 11 0 2).toNatClampNeg).toNatClampNeg → (b8 < 11 ∧ ∀ b9 : Nat, b9 = (σ5 11 11 0 1).toNatClampNeg → (b9 < 11 ∧ (vp_in (σ5 11 11 0 2) 6 ∧ ∀ σ10 : Sg, σ10 = up σ5 11 12 0 (σ5 11 11 0 2).toNatClampNeg (nI b9) → ∀ σ11 : Sg, σ11 = up σ10 11 11 0 1 (nI b8) → ∀ σ12 : Sg, σ12 = up σ11 11 11 0 2 ((σ11 11 11 0 2) + (1 : Int32)) → Q x1 σ12))))) ∧ (r4 = 0 → Q x1 σ5)))
set_option maxRecDepth 100000 in
set_option maxHeartbeats 4000000 in
theorem g_X0_record_b19 {X : Tx} {Q : Int32 → Sg → Prop} (C : Cx X cX0_record "SweetWraps$History" (some .int) 1 22 3 (QI (tE X) Q)) {x1 : Int32} {σ : Sg} (hw : wp_X0_record_b19 x1 Q σ) : G X σ [(0, .ref (ad (tE X) 11 11 0)), (1, .int x1)] [] 19 := by
  unfold wp_X0_record_b19 at hw
  refine gx_aload_n C dX0_record_19 0 rfl ?_
  refine gx_get C okg_11 rfl rfl inX0 (ref := "SweetWraps$History") 2 (by decide) bw_126 rfl rfl dX0_record_20 ?_
  refine gx_bipush (v := (6 : Int32)) C dX0_record_23 (by decide) ?_
  refine gx_ncalli (As := [.int (σ 11 11 0 2), .int (6 : Int32)]) (rest := []) (host := "SweetWraps") C (c_X5_isIndex _ _ hw) (nest_in _ (by decide +kernel)) bw_224 bw_1 bw_225 hyS_X5_isIndex ⟨by decide, by decide⟩ rfl (Nat.le_of_ble_eq_true rfl) dX0_record_25 (fun r4 σ5 hw => ?_)
  refine gx_if_ne (tgt := 33) C dX0_record_28 (by decide) (fun c6 => ?_) (fun c6 => ?_)
  · replace hw := hw.1 c6
    refine gx_aload_n C dX0_record_33 0 rfl ?_
    refine gx_get C okg_11 rfl rfl inX0 (ref := "SweetWraps$History") 0 (by decide) bw_124 rfl rfl dX0_record_34 ?_
    refine gx_aload_n C dX0_record_37 0 rfl ?_
    refine gx_get C okg_11 rfl rfl inX0 (ref := "SweetWraps$History") 2 (by decide) bw_126 rfl rfl dX0_record_38 ?_
    have h7 := hw.1
    replace hw := hw.2
    obtain ⟨b8, e_b8⟩ : ∃ z : Nat, z = (σ5 11 12 0 (σ5 11 11 0 2).toNatClampNeg).toNatClampNeg := ⟨_, rfl⟩
    replace hw := hw b8 e_b8
    have hb8 := hw.1
    replace hw := hw.2
    refine gx_aald C okg_12 rfl (t0 := 5) rfl h7 (v := .ref (ad (tE X) b8 0 0)) (by rw [e_b8]; rfl) dX0_record_41 ?_
    refine gx_astore_n (lv' := [(2, .ref (ad (tE X) b8 0 0)), (0, .ref (ad (tE X) 11 11 0)), (1, .int x1)]) C dX0_record_42 (by decide) rfl ?_
    refine gx_aload_n C dX0_record_43 1 rfl ?_
    refine gx_get C okg_11 rfl rfl inX0 (ref := "SweetWraps$History") 0 (by decide) bw_124 rfl rfl dX0_record_44 ?_
    refine gx_aload_n C dX0_record_47 1 rfl ?_
    refine gx_get C okg_11 rfl rfl inX0 (ref := "SweetWraps$History") 2 (by decide) bw_126 rfl rfl dX0_record_48 ?_
    refine gx_aload_n C dX0_record_51 1 rfl ?_
    refine gx_get C okg_11 rfl rfl inX0 (ref := "SweetWraps$History") 1 (by decide) bw_125 rfl rfl dX0_record_52 ?_
    obtain ⟨b9, e_b9⟩ : ∃ z : Nat, z = (σ5 11 11 0 1).toNatClampNeg := ⟨_, rfl⟩
    replace hw := hw b9 e_b9
    rw [← e_b9]
    have hb9 := hw.1
    replace hw := hw.2
    refine gx_aastM C hb9 hw.1 _ rfl dX0_record_55 ?_
    replace hw := hw.2
    obtain ⟨σ10, e_σ10⟩ : ∃ z : Sg, z = up σ5 11 12 0 (σ5 11 11 0 2).toNatClampNeg (nI b9) := ⟨_, rfl⟩
    replace hw := hw σ10 e_σ10
    refine gx_st e_σ10 ?_
    refine gx_aload_n C dX0_record_56 1 rfl ?_
    refine gx_aload_n C dX0_record_57 0 rfl ?_
    refine gx_put C okg_11 rfl rfl inX0 tyX0 tyX0_ok nmX0 (ref := "SweetWraps$History") 1 (by decide) bw_125 rfl rfl (v := .ref (ad (tE X) b8 0 0)) rfl rfl (Nat.le_of_ble_eq_true rfl) (upd (σ10 11 11 0) 1 (nI b8)) (ce_prep _ _ hb8) dX0_record_58 ?_
    obtain ⟨σ11, e_σ11⟩ : ∃ z : Sg, z = up σ10 11 11 0 1 (nI b8) := ⟨_, rfl⟩
    replace hw := hw σ11 e_σ11
    refine gx_st e_σ11 ?_
    refine gx_aload_n C dX0_record_61 1 rfl ?_
    refine gx_dup C dX0_record_62 rfl ?_
    refine gx_get C okg_11 rfl rfl inX0 (ref := "SweetWraps$History") 2 (by decide) bw_126 rfl rfl dX0_record_63 ?_
    refine gx_iconst (v := (1 : Int32)) C dX0_record_66 (by decide) ?_
    refine gx_iadd C dX0_record_67 ?_
    refine gx_put C okg_11 rfl rfl inX0 tyX0 tyX0_ok nmX0 (ref := "SweetWraps$History") 2 (by decide) bw_126 rfl rfl (v := .int ((σ11 11 11 0 2) + (1 : Int32))) rfl rfl (Nat.le_of_ble_eq_true rfl) (upd (σ11 11 11 0) 2 ((σ11 11 11 0 2) + (1 : Int32))) rfl dX0_record_68 ?_
    obtain ⟨σ12, e_σ12⟩ : ∃ z : Sg, z = up σ11 11 11 0 2 ((σ11 11 11 0 2) + (1 : Int32)) := ⟨_, rfl⟩
    replace hw := hw σ12 e_σ12
    refine gx_st e_σ12 ?_
    refine gx_iload_n C dX0_record_71 2 rfl ?_
    exact gx_iret C rfl rfl dX0_record_72 hw
  · replace hw := hw.2 c6
    refine gx_iload_n C dX0_record_31 1 rfl ?_
    exact gx_iret C rfl rfl dX0_record_32 hw
def wp_X0_record (x1 : Int32) (σ : Sg) (Q : Int32 → Sg → Prop) : Prop := ((0 ≤ x1 → (((σ 11 11 0 2) < (6 : Int32) → wp_X0_record_b19 x1 Q σ) ∧ (¬ (σ 11 11 0 2) < (6 : Int32) → wp_X0_dropOldest σ (fun σ3 => wp_X0_record_b19 x1 Q σ3)))) ∧ (¬ 0 ≤ x1 → Q x1 σ))
set_option maxRecDepth 100000 in
set_option maxHeartbeats 4000000 in
theorem c_X0_record (l : Launch) (E : Ev) {x1 : Int32} {σ : Sg} {Q : Int32 → Sg → Prop} (hw : wp_X0_record x1 σ Q) : CT l E yX0_record cX0_record 3 (some .int) 1 22 [.ref (ad E 11 11 0), .int x1] σ (QI E Q) := by
  refine CT_of (by decide) (Nat.le_of_ble_eq_true rfl) (fun X h1 h2 C => ?_)
  subst h1; subst h2
  have C : Cx X cX0_record "SweetWraps$History" (some .int) 1 22 3 (QI (tE X) Q) := C
  show G X σ [(0, .ref (ad (tE X) 11 11 0)), (1, .int x1)] [] 0
  unfold wp_X0_record at hw
  refine gx_iload_n C dX0_record_0 1 rfl ?_
  refine gx_if_ge (tgt := 6) C dX0_record_1 (by decide) (fun c1 => ?_) (fun c1 => ?_)
  · replace hw := hw.1 c1
    refine gx_aload_n C dX0_record_6 0 rfl ?_
    refine gx_get C okg_11 rfl rfl inX0 (ref := "SweetWraps$History") 2 (by decide) bw_126 rfl rfl dX0_record_7 ?_
    refine gx_bipush (v := (6 : Int32)) C dX0_record_10 (by decide) ?_
    refine gx_icmp_lt (tgt := 19) C dX0_record_12 (by decide) (fun c2 => ?_) (fun c2 => ?_)
    · replace hw := hw.1 c2
      exact g_X0_record_b19 C hw
    · replace hw := hw.2 c2
      refine gx_aload_n C dX0_record_15 0 rfl ?_
      refine gx_vcallv (As := []) (rest := []) C (c_X0_dropOldest _ _ hw) okg_11 rfl rfl bw_246 bw_248 bs_0 bw_5 bw_249 hy_X0_dropOldest ⟨by decide, by decide⟩ rfl (Nat.le_of_ble_eq_true rfl) dX0_record_16 (fun σ3 hw => ?_)
      exact g_X0_record_b19 C hw
  · replace hw := hw.2 c1
    refine gx_iload_n C dX0_record_4 1 rfl ?_
    exact gx_iret C rfl rfl dX0_record_5 hw
theorem hy_X0_record : yX0_record.cls = "SweetWraps$History" ∧ yX0_record.cls ≠ "java/lang/invoke/MethodHandle" ∧ yX0_record.cls ≠ "java/lang/invoke/VarHandle" ∧ (parseMethodDescriptor yX0_record.desc).map (fun d => d.parameters.length) = some 1 := by decide +kernel

theorem dX0_stepBack_0 : decode cX0_stepBack 0 = .ok (.aload_n 0, 1) := by decide +kernel
theorem dX0_stepBack_1 : decode cX0_stepBack 1 = .ok (.getfield 26, 3) := by decide +kernel
theorem dX0_stepBack_4 : decode cX0_stepBack 4 = .ok (.iconst 1, 1) := by decide +kernel
theorem dX0_stepBack_5 : decode cX0_stepBack 5 = .ok (.isub, 1) := by decide +kernel
theorem dX0_stepBack_6 : decode cX0_stepBack 6 = .ok (.bipush 6, 2) := by decide +kernel
theorem dX0_stepBack_8 : decode cX0_stepBack 8 = .ok (.invokestatic 33, 3) := by decide +kernel
theorem dX0_stepBack_11 : decode cX0_stepBack 11 = .ok (.ifCond .ne 6, 3) := by decide +kernel
theorem dX0_stepBack_14 : decode cX0_stepBack 14 = .ok (.bipush (-5), 2) := by decide +kernel
theorem dX0_stepBack_16 : decode cX0_stepBack 16 = .ok (.ireturn, 1) := by decide +kernel
theorem dX0_stepBack_17 : decode cX0_stepBack 17 = .ok (.aload_n 0, 1) := by decide +kernel
theorem dX0_stepBack_18 : decode cX0_stepBack 18 = .ok (.dup, 1) := by decide +kernel
theorem dX0_stepBack_19 : decode cX0_stepBack 19 = .ok (.getfield 26, 3) := by decide +kernel
theorem dX0_stepBack_22 : decode cX0_stepBack 22 = .ok (.iconst 1, 1) := by decide +kernel
theorem dX0_stepBack_23 : decode cX0_stepBack 23 = .ok (.isub, 1) := by decide +kernel
theorem dX0_stepBack_24 : decode cX0_stepBack 24 = .ok (.putfield 26, 3) := by decide +kernel
theorem dX0_stepBack_27 : decode cX0_stepBack 27 = .ok (.aload_n 1, 1) := by decide +kernel
theorem dX0_stepBack_28 : decode cX0_stepBack 28 = .ok (.aload_n 0, 1) := by decide +kernel
theorem dX0_stepBack_29 : decode cX0_stepBack 29 = .ok (.getfield 11, 3) := by decide +kernel
theorem dX0_stepBack_32 : decode cX0_stepBack 32 = .ok (.aload_n 0, 1) := by decide +kernel
theorem dX0_stepBack_33 : decode cX0_stepBack 33 = .ok (.getfield 26, 3) := by decide +kernel
theorem dX0_stepBack_36 : decode cX0_stepBack 36 = .ok (.aaload, 1) := by decide +kernel
theorem dX0_stepBack_37 : decode cX0_stepBack 37 = .ok (.invokevirtual 22, 3) := by decide +kernel
theorem dX0_stepBack_40 : decode cX0_stepBack 40 = .ok (.aload_n 0, 1) := by decide +kernel
theorem dX0_stepBack_41 : decode cX0_stepBack 41 = .ok (.getfield 26, 3) := by decide +kernel
theorem dX0_stepBack_44 : decode cX0_stepBack 44 = .ok (.ireturn, 1) := by decide +kernel
def wp_X0_stepBack (m1 : Nat) (σ : Sg) (Q : Int32 → Sg → Prop) : Prop := wp_X5_isIndex ((σ 11 11 0 2) - (1 : Int32)) (6 : Int32) σ (fun r1 σ2 => ((¬ r1 = 0 → ∀ σ4 : Sg, σ4 = up σ2 11 11 0 2 ((σ2 11 11 0 2) - (1 : Int32)) → (vp_in (σ4 11 11 0 2) 6 ∧ ∀ b6 : Nat, b6 = (σ4 11 12 0 (σ4 11 11 0 2).toNatClampNeg).toNatClampNeg → (b6 < 11 ∧ wp_X2_copyFrom m1 b6 σ4 (fun σ7 => Q (σ7 11 11 0 2) σ7)))) ∧ (r1 = 0 → Q (-5 : Int32) σ2)))
set_option maxRecDepth 100000 in
set_option maxHeartbeats 4000000 in
theorem c_X0_stepBack (l : Launch) (E : Ev) {m1 : Nat} (hm1 : m1 < 11) {σ : Sg} {Q : Int32 → Sg → Prop} (hw : wp_X0_stepBack m1 σ Q) : CT l E yX0_stepBack cX0_stepBack 2 (some .int) 4 124 [.ref (ad E 11 11 0), .ref (ad E m1 0 0)] σ (QI E Q) := by
  refine CT_of (by decide) (Nat.le_of_ble_eq_true rfl) (fun X h1 h2 C => ?_)
  subst h1; subst h2
  have C : Cx X cX0_stepBack "SweetWraps$History" (some .int) 4 124 2 (QI (tE X) Q) := C
  show G X σ [(0, .ref (ad (tE X) 11 11 0)), (1, .ref (ad (tE X) m1 0 0))] [] 0
  unfold wp_X0_stepBack at hw
  refine gx_aload_n C dX0_stepBack_0 0 rfl ?_
  refine gx_get C okg_11 rfl rfl inX0 (ref := "SweetWraps$History") 2 (by decide) bw_126 rfl rfl dX0_stepBack_1 ?_
  refine gx_iconst (v := (1 : Int32)) C dX0_stepBack_4 (by decide) ?_
  refine gx_isub C dX0_stepBack_5 ?_
  refine gx_bipush (v := (6 : Int32)) C dX0_stepBack_6 (by decide) ?_
  refine gx_ncalli (As := [.int ((σ 11 11 0 2) - (1 : Int32)), .int (6 : Int32)]) (rest := []) (host := "SweetWraps") C (c_X5_isIndex _ _ hw) (nest_in _ (by decide +kernel)) bw_224 bw_1 bw_225 hyS_X5_isIndex ⟨by decide, by decide⟩ rfl (Nat.le_of_ble_eq_true rfl) dX0_stepBack_8 (fun r1 σ2 hw => ?_)
  refine gx_if_ne (tgt := 17) C dX0_stepBack_11 (by decide) (fun c3 => ?_) (fun c3 => ?_)
  · replace hw := hw.1 c3
    refine gx_aload_n C dX0_stepBack_17 0 rfl ?_
    refine gx_dup C dX0_stepBack_18 rfl ?_
    refine gx_get C okg_11 rfl rfl inX0 (ref := "SweetWraps$History") 2 (by decide) bw_126 rfl rfl dX0_stepBack_19 ?_
    refine gx_iconst (v := (1 : Int32)) C dX0_stepBack_22 (by decide) ?_
    refine gx_isub C dX0_stepBack_23 ?_
    refine gx_put C okg_11 rfl rfl inX0 tyX0 tyX0_ok nmX0 (ref := "SweetWraps$History") 2 (by decide) bw_126 rfl rfl (v := .int ((σ2 11 11 0 2) - (1 : Int32))) rfl rfl (Nat.le_of_ble_eq_true rfl) (upd (σ2 11 11 0) 2 ((σ2 11 11 0 2) - (1 : Int32))) rfl dX0_stepBack_24 ?_
    obtain ⟨σ4, e_σ4⟩ : ∃ z : Sg, z = up σ2 11 11 0 2 ((σ2 11 11 0 2) - (1 : Int32)) := ⟨_, rfl⟩
    replace hw := hw σ4 e_σ4
    refine gx_st e_σ4 ?_
    refine gx_aload_n C dX0_stepBack_27 1 rfl ?_
    refine gx_aload_n C dX0_stepBack_28 0 rfl ?_
    refine gx_get C okg_11 rfl rfl inX0 (ref := "SweetWraps$History") 0 (by decide) bw_124 rfl rfl dX0_stepBack_29 ?_
    refine gx_aload_n C dX0_stepBack_32 0 rfl ?_
    refine gx_get C okg_11 rfl rfl inX0 (ref := "SweetWraps$History") 2 (by decide) bw_126 rfl rfl dX0_stepBack_33 ?_
    have h5 := hw.1
    replace hw := hw.2
    obtain ⟨b6, e_b6⟩ : ∃ z : Nat, z = (σ4 11 12 0 (σ4 11 11 0 2).toNatClampNeg).toNatClampNeg := ⟨_, rfl⟩
    replace hw := hw b6 e_b6
    have hb6 := hw.1
    replace hw := hw.2
    refine gx_aald C okg_12 rfl (t0 := 5) rfl h5 (v := .ref (ad (tE X) b6 0 0)) (by rw [e_b6]; rfl) dX0_stepBack_36 ?_
    refine gx_vcallv (As := [.ref (ad (tE X) b6 0 0)]) (rest := []) C (c_X2_copyFrom _ _ hm1 hb6 hw) (ok0 hm1) rfl rfl bw_196 bw_197 bw_198 bw_2 bw_199 hy_X2_copyFrom ⟨by decide, by decide⟩ rfl (Nat.le_of_ble_eq_true rfl) dX0_stepBack_37 (fun σ7 hw => ?_)
    refine gx_aload_n C dX0_stepBack_40 0 rfl ?_
    refine gx_get C okg_11 rfl rfl inX0 (ref := "SweetWraps$History") 2 (by decide) bw_126 rfl rfl dX0_stepBack_41 ?_
    exact gx_iret C rfl rfl dX0_stepBack_44 hw
  · replace hw := hw.2 c3
    refine gx_bipush (v := (-5 : Int32)) C dX0_stepBack_14 (by decide) ?_
    exact gx_iret C rfl rfl dX0_stepBack_16 hw
theorem hy_X0_stepBack : yX0_stepBack.cls = "SweetWraps$History" ∧ yX0_stepBack.cls ≠ "java/lang/invoke/MethodHandle" ∧ yX0_stepBack.cls ≠ "java/lang/invoke/VarHandle" ∧ (parseMethodDescriptor yX0_stepBack.desc).map (fun d => d.parameters.length) = some 1 := by decide +kernel

theorem dX5_set_0 : decode cX5_set 0 = .ok (.aload_n 0, 1) := by decide +kernel
theorem dX5_set_1 : decode cX5_set 1 = .ok (.getfield 22, 3) := by decide +kernel
theorem dX5_set_4 : decode cX5_set 4 = .ok (.aload_n 0, 1) := by decide +kernel
theorem dX5_set_5 : decode cX5_set 5 = .ok (.getfield 10, 3) := by decide +kernel
theorem dX5_set_8 : decode cX5_set 8 = .ok (.invokevirtual 41, 3) := by decide +kernel
theorem dX5_set_11 : decode cX5_set 11 = .ok (.aload_n 0, 1) := by decide +kernel
theorem dX5_set_12 : decode cX5_set 12 = .ok (.getfield 22, 3) := by decide +kernel
theorem dX5_set_15 : decode cX5_set 15 = .ok (.aload_n 0, 1) := by decide +kernel
theorem dX5_set_16 : decode cX5_set 16 = .ok (.getfield 10, 3) := by decide +kernel
theorem dX5_set_19 : decode cX5_set 19 = .ok (.iload_n 1, 1) := by decide +kernel
theorem dX5_set_20 : decode cX5_set 20 = .ok (.iload_n 2, 1) := by decide +kernel
theorem dX5_set_21 : decode cX5_set 21 = .ok (.invokevirtual 45, 3) := by decide +kernel
theorem dX5_set_24 : decode cX5_set 24 = .ok (.invokevirtual 49, 3) := by decide +kernel
theorem dX5_set_27 : decode cX5_set 27 = .ok (.ireturn, 1) := by decide +kernel
def wp_X5_set (x1 : Int32) (x2 : Int32) (σ : Sg) (Q : Int32 → Sg → Prop) : Prop := wp_X0_prepare 0 σ (fun σ1 => wp_X2_changeSetting 0 x1 x2 σ1 (fun r2 σ3 => wp_X0_record r2 σ3 (fun r4 σ5 => Q r4 σ5)))
set_option maxRecDepth 100000 in
set_option maxHeartbeats 4000000 in
theorem c_X5_set (l : Launch) (E : Ev) {x1 : Int32} {x2 : Int32} {σ : Sg} {Q : Int32 → Sg → Prop} (hw : wp_X5_set x1 x2 σ Q) : CT l E yX5_set cX5_set 3 (some .int) 5 145 [.ref (ad E 11 10 0), .int x1, .int x2] σ (QI E Q) := by
  refine CT_of (by decide) (Nat.le_of_ble_eq_true rfl) (fun X h1 h2 C => ?_)
  subst h1; subst h2
  have C : Cx X cX5_set "SweetWraps" (some .int) 5 145 3 (QI (tE X) Q) := C
  show G X σ [(0, .ref (ad (tE X) 11 10 0)), (1, .int x1), (2, .int x2)] [] 0
  unfold wp_X5_set at hw
  refine gx_aload_n C dX5_set_0 0 rfl ?_
  refine gx_get C okg_10 rfl rfl inX5 (ref := "SweetWraps") 2 (by decide) bw_161 rfl rfl dX5_set_1 ?_
  refine gx_aload_n C dX5_set_4 0 rfl ?_
  refine gx_get C okg_10 rfl rfl inX5 (ref := "SweetWraps") 0 (by decide) bw_159 rfl rfl dX5_set_5 ?_
  refine gx_vcallv (As := [.ref (ad (tE X) 0 0 0)]) (rest := []) C (c_X0_prepare _ _ (by decide) hw) okg_11 rfl rfl bw_192 bw_193 bw_194 bw_5 bw_195 hy_X0_prepare ⟨by decide, by decide⟩ rfl (Nat.le_of_ble_eq_true rfl) dX5_set_8 (fun σ1 hw => ?_)
  refine gx_aload_n C dX5_set_11 0 rfl ?_
  refine gx_get C okg_10 rfl rfl inX5 (ref := "SweetWraps") 2 (by decide) bw_161 rfl rfl dX5_set_12 ?_
  refine gx_aload_n C dX5_set_15 0 rfl ?_
  refine gx_get C okg_10 rfl rfl inX5 (ref := "SweetWraps") 0 (by decide) bw_159 rfl rfl dX5_set_16 ?_
  refine gx_iload_n C dX5_set_19 1 rfl ?_
  refine gx_iload_n C dX5_set_20 2 rfl ?_
  refine gx_vcalli (As := [.int x1, .int x2]) (rest := [.ref (ad (tE X) 11 11 0)]) C (c_X2_changeSetting _ _ (by decide) hw) (ok0 (show 0 < 11 from by decide)) rfl rfl bw_363 bw_364 bw_365 bw_2 bw_366 hy_X2_changeSetting ⟨by decide, by decide⟩ rfl (Nat.le_of_ble_eq_true rfl) dX5_set_21 (fun r2 σ3 hw => ?_)
  refine gx_vcalli (As := [.int r2]) (rest := []) C (c_X0_record _ _ hw) okg_11 rfl rfl bw_242 bw_243 bw_244 bw_5 bw_245 hy_X0_record ⟨by decide, by decide⟩ rfl (Nat.le_of_ble_eq_true rfl) dX5_set_24 (fun r4 σ5 hw => ?_)
  exact gx_iret C rfl rfl dX5_set_27 hw
theorem hy_X5_set : yX5_set.cls = "SweetWraps" ∧ yX5_set.cls ≠ "java/lang/invoke/MethodHandle" ∧ yX5_set.cls ≠ "java/lang/invoke/VarHandle" ∧ (parseMethodDescriptor yX5_set.desc).map (fun d => d.parameters.length) = some 2 := by decide +kernel

theorem dX5_heap_0 : decode cX5_heap 0 = .ok (.aload_n 0, 1) := by decide +kernel
theorem dX5_heap_1 : decode cX5_heap 1 = .ok (.getfield 22, 3) := by decide +kernel
theorem dX5_heap_4 : decode cX5_heap 4 = .ok (.aload_n 0, 1) := by decide +kernel
theorem dX5_heap_5 : decode cX5_heap 5 = .ok (.getfield 10, 3) := by decide +kernel
theorem dX5_heap_8 : decode cX5_heap 8 = .ok (.invokevirtual 41, 3) := by decide +kernel
theorem dX5_heap_11 : decode cX5_heap 11 = .ok (.aload_n 0, 1) := by decide +kernel
theorem dX5_heap_12 : decode cX5_heap 12 = .ok (.getfield 22, 3) := by decide +kernel
theorem dX5_heap_15 : decode cX5_heap 15 = .ok (.aload_n 0, 1) := by decide +kernel
theorem dX5_heap_16 : decode cX5_heap 16 = .ok (.getfield 10, 3) := by decide +kernel
theorem dX5_heap_19 : decode cX5_heap 19 = .ok (.iload_n 1, 1) := by decide +kernel
theorem dX5_heap_20 : decode cX5_heap 20 = .ok (.iload_n 2, 1) := by decide +kernel
theorem dX5_heap_21 : decode cX5_heap 21 = .ok (.iload_n 3, 1) := by decide +kernel
theorem dX5_heap_22 : decode cX5_heap 22 = .ok (.invokevirtual 53, 3) := by decide +kernel
theorem dX5_heap_25 : decode cX5_heap 25 = .ok (.invokevirtual 49, 3) := by decide +kernel
theorem dX5_heap_28 : decode cX5_heap 28 = .ok (.ireturn, 1) := by decide +kernel
def wp_X5_heap (x1 : Int32) (x2 : Int32) (x3 : Int32) (σ : Sg) (Q : Int32 → Sg → Prop) : Prop := wp_X0_prepare 0 σ (fun σ1 => wp_X2_addSweets 0 x1 x2 x3 σ1 (fun r2 σ3 => wp_X0_record r2 σ3 (fun r4 σ5 => Q r4 σ5)))
set_option maxRecDepth 100000 in
set_option maxHeartbeats 4000000 in
theorem c_X5_heap (l : Launch) (E : Ev) {x1 : Int32} {x2 : Int32} {x3 : Int32} {σ : Sg} {Q : Int32 → Sg → Prop} (hw : wp_X5_heap x1 x2 x3 σ Q) : CT l E yX5_heap cX5_heap 4 (some .int) 5 145 [.ref (ad E 11 10 0), .int x1, .int x2, .int x3] σ (QI E Q) := by
  refine CT_of (by decide) (Nat.le_of_ble_eq_true rfl) (fun X h1 h2 C => ?_)
  subst h1; subst h2
  have C : Cx X cX5_heap "SweetWraps" (some .int) 5 145 4 (QI (tE X) Q) := C
  show G X σ [(0, .ref (ad (tE X) 11 10 0)), (1, .int x1), (2, .int x2), (3, .int x3)] [] 0
  unfold wp_X5_heap at hw
  refine gx_aload_n C dX5_heap_0 0 rfl ?_
  refine gx_get C okg_10 rfl rfl inX5 (ref := "SweetWraps") 2 (by decide) bw_161 rfl rfl dX5_heap_1 ?_
  refine gx_aload_n C dX5_heap_4 0 rfl ?_
  refine gx_get C okg_10 rfl rfl inX5 (ref := "SweetWraps") 0 (by decide) bw_159 rfl rfl dX5_heap_5 ?_
  refine gx_vcallv (As := [.ref (ad (tE X) 0 0 0)]) (rest := []) C (c_X0_prepare _ _ (by decide) hw) okg_11 rfl rfl bw_192 bw_193 bw_194 bw_5 bw_195 hy_X0_prepare ⟨by decide, by decide⟩ rfl (Nat.le_of_ble_eq_true rfl) dX5_heap_8 (fun σ1 hw => ?_)
  refine gx_aload_n C dX5_heap_11 0 rfl ?_
  refine gx_get C okg_10 rfl rfl inX5 (ref := "SweetWraps") 2 (by decide) bw_161 rfl rfl dX5_heap_12 ?_
  refine gx_aload_n C dX5_heap_15 0 rfl ?_
  refine gx_get C okg_10 rfl rfl inX5 (ref := "SweetWraps") 0 (by decide) bw_159 rfl rfl dX5_heap_16 ?_
  refine gx_iload_n C dX5_heap_19 1 rfl ?_
  refine gx_iload_n C dX5_heap_20 2 rfl ?_
  refine gx_iload_n C dX5_heap_21 3 rfl ?_
  refine gx_vcalli (As := [.int x1, .int x2, .int x3]) (rest := [.ref (ad (tE X) 11 11 0)]) C (c_X2_addSweets _ _ (by decide) hw) (ok0 (show 0 < 11 from by decide)) rfl rfl bw_219 bw_220 bw_221 bw_2 bw_222 hy_X2_addSweets ⟨by decide, by decide⟩ rfl (Nat.le_of_ble_eq_true rfl) dX5_heap_22 (fun r2 σ3 hw => ?_)
  refine gx_vcalli (As := [.int r2]) (rest := []) C (c_X0_record _ _ hw) okg_11 rfl rfl bw_242 bw_243 bw_244 bw_5 bw_245 hy_X0_record ⟨by decide, by decide⟩ rfl (Nat.le_of_ble_eq_true rfl) dX5_heap_25 (fun r4 σ5 hw => ?_)
  exact gx_iret C rfl rfl dX5_heap_28 hw
theorem hy_X5_heap : yX5_heap.cls = "SweetWraps" ∧ yX5_heap.cls ≠ "java/lang/invoke/MethodHandle" ∧ yX5_heap.cls ≠ "java/lang/invoke/VarHandle" ∧ (parseMethodDescriptor yX5_heap.desc).map (fun d => d.parameters.length) = some 3 := by decide +kernel

theorem dX5_foil_0 : decode cX5_foil 0 = .ok (.aload_n 0, 1) := by decide +kernel
theorem dX5_foil_1 : decode cX5_foil 1 = .ok (.getfield 22, 3) := by decide +kernel
theorem dX5_foil_4 : decode cX5_foil 4 = .ok (.aload_n 0, 1) := by decide +kernel
theorem dX5_foil_5 : decode cX5_foil 5 = .ok (.getfield 10, 3) := by decide +kernel
theorem dX5_foil_8 : decode cX5_foil 8 = .ok (.invokevirtual 41, 3) := by decide +kernel
theorem dX5_foil_11 : decode cX5_foil 11 = .ok (.aload_n 0, 1) := by decide +kernel
theorem dX5_foil_12 : decode cX5_foil 12 = .ok (.getfield 22, 3) := by decide +kernel
theorem dX5_foil_15 : decode cX5_foil 15 = .ok (.aload_n 0, 1) := by decide +kernel
theorem dX5_foil_16 : decode cX5_foil 16 = .ok (.getfield 10, 3) := by decide +kernel
theorem dX5_foil_19 : decode cX5_foil 19 = .ok (.iload_n 1, 1) := by decide +kernel
theorem dX5_foil_20 : decode cX5_foil 20 = .ok (.iload_n 2, 1) := by decide +kernel
theorem dX5_foil_21 : decode cX5_foil 21 = .ok (.invokevirtual 57, 3) := by decide +kernel
theorem dX5_foil_24 : decode cX5_foil 24 = .ok (.invokevirtual 49, 3) := by decide +kernel
theorem dX5_foil_27 : decode cX5_foil 27 = .ok (.ireturn, 1) := by decide +kernel
def wp_X5_foil (x1 : Int32) (x2 : Int32) (σ : Sg) (Q : Int32 → Sg → Prop) : Prop := wp_X0_prepare 0 σ (fun σ1 => wp_X2_addFoil 0 x1 x2 σ1 (fun r2 σ3 => wp_X0_record r2 σ3 (fun r4 σ5 => Q r4 σ5)))
set_option maxRecDepth 100000 in
set_option maxHeartbeats 4000000 in
theorem c_X5_foil (l : Launch) (E : Ev) {x1 : Int32} {x2 : Int32} {σ : Sg} {Q : Int32 → Sg → Prop} (hw : wp_X5_foil x1 x2 σ Q) : CT l E yX5_foil cX5_foil 3 (some .int) 5 145 [.ref (ad E 11 10 0), .int x1, .int x2] σ (QI E Q) := by
  refine CT_of (by decide) (Nat.le_of_ble_eq_true rfl) (fun X h1 h2 C => ?_)
  subst h1; subst h2
  have C : Cx X cX5_foil "SweetWraps" (some .int) 5 145 3 (QI (tE X) Q) := C
  show G X σ [(0, .ref (ad (tE X) 11 10 0)), (1, .int x1), (2, .int x2)] [] 0
  unfold wp_X5_foil at hw
  refine gx_aload_n C dX5_foil_0 0 rfl ?_
  refine gx_get C okg_10 rfl rfl inX5 (ref := "SweetWraps") 2 (by decide) bw_161 rfl rfl dX5_foil_1 ?_
  refine gx_aload_n C dX5_foil_4 0 rfl ?_
  refine gx_get C okg_10 rfl rfl inX5 (ref := "SweetWraps") 0 (by decide) bw_159 rfl rfl dX5_foil_5 ?_
  refine gx_vcallv (As := [.ref (ad (tE X) 0 0 0)]) (rest := []) C (c_X0_prepare _ _ (by decide) hw) okg_11 rfl rfl bw_192 bw_193 bw_194 bw_5 bw_195 hy_X0_prepare ⟨by decide, by decide⟩ rfl (Nat.le_of_ble_eq_true rfl) dX5_foil_8 (fun σ1 hw => ?_)
  refine gx_aload_n C dX5_foil_11 0 rfl ?_
  refine gx_get C okg_10 rfl rfl inX5 (ref := "SweetWraps") 2 (by decide) bw_161 rfl rfl dX5_foil_12 ?_
  refine gx_aload_n C dX5_foil_15 0 rfl ?_
  refine gx_get C okg_10 rfl rfl inX5 (ref := "SweetWraps") 0 (by decide) bw_159 rfl rfl dX5_foil_16 ?_
  refine gx_iload_n C dX5_foil_19 1 rfl ?_
  refine gx_iload_n C dX5_foil_20 2 rfl ?_
  refine gx_vcalli (As := [.int x1, .int x2]) (rest := [.ref (ad (tE X) 11 11 0)]) C (c_X2_addFoil _ _ (by decide) hw) (ok0 (show 0 < 11 from by decide)) rfl rfl bw_258 bw_259 bw_260 bw_2 bw_261 hy_X2_addFoil ⟨by decide, by decide⟩ rfl (Nat.le_of_ble_eq_true rfl) dX5_foil_21 (fun r2 σ3 hw => ?_)
  refine gx_vcalli (As := [.int r2]) (rest := []) C (c_X0_record _ _ hw) okg_11 rfl rfl bw_242 bw_243 bw_244 bw_5 bw_245 hy_X0_record ⟨by decide, by decide⟩ rfl (Nat.le_of_ble_eq_true rfl) dX5_foil_24 (fun r4 σ5 hw => ?_)
  exact gx_iret C rfl rfl dX5_foil_27 hw
theorem hy_X5_foil : yX5_foil.cls = "SweetWraps" ∧ yX5_foil.cls ≠ "java/lang/invoke/MethodHandle" ∧ yX5_foil.cls ≠ "java/lang/invoke/VarHandle" ∧ (parseMethodDescriptor yX5_foil.desc).map (fun d => d.parameters.length) = some 2 := by decide +kernel

theorem dX5_tin_0 : decode cX5_tin 0 = .ok (.aload_n 0, 1) := by decide +kernel
theorem dX5_tin_1 : decode cX5_tin 1 = .ok (.getfield 22, 3) := by decide +kernel
theorem dX5_tin_4 : decode cX5_tin 4 = .ok (.aload_n 0, 1) := by decide +kernel
theorem dX5_tin_5 : decode cX5_tin 5 = .ok (.getfield 10, 3) := by decide +kernel
theorem dX5_tin_8 : decode cX5_tin 8 = .ok (.invokevirtual 41, 3) := by decide +kernel
theorem dX5_tin_11 : decode cX5_tin 11 = .ok (.aload_n 0, 1) := by decide +kernel
theorem dX5_tin_12 : decode cX5_tin 12 = .ok (.getfield 22, 3) := by decide +kernel
theorem dX5_tin_15 : decode cX5_tin 15 = .ok (.aload_n 0, 1) := by decide +kernel
theorem dX5_tin_16 : decode cX5_tin 16 = .ok (.getfield 10, 3) := by decide +kernel
theorem dX5_tin_19 : decode cX5_tin 19 = .ok (.invokevirtual 60, 3) := by decide +kernel
theorem dX5_tin_22 : decode cX5_tin 22 = .ok (.invokevirtual 49, 3) := by decide +kernel
theorem dX5_tin_25 : decode cX5_tin 25 = .ok (.ireturn, 1) := by decide +kernel
def wp_X5_tin (σ : Sg) (Q : Int32 → Sg → Prop) : Prop := wp_X0_prepare 0 σ (fun σ1 => wp_X2_addTin 0 σ1 (fun r2 σ3 => wp_X0_record r2 σ3 (fun r4 σ5 => Q r4 σ5)))
set_option maxRecDepth 100000 in
set_option maxHeartbeats 4000000 in
theorem c_X5_tin (l : Launch) (E : Ev) {σ : Sg} {Q : Int32 → Sg → Prop} (hw : wp_X5_tin σ Q) : CT l E yX5_tin cX5_tin 1 (some .int) 5 145 [.ref (ad E 11 10 0)] σ (QI E Q) := by
  refine CT_of (by decide) (Nat.le_of_ble_eq_true rfl) (fun X h1 h2 C => ?_)
  subst h1; subst h2
  have C : Cx X cX5_tin "SweetWraps" (some .int) 5 145 1 (QI (tE X) Q) := C
  show G X σ [(0, .ref (ad (tE X) 11 10 0))] [] 0
  unfold wp_X5_tin at hw
  refine gx_aload_n C dX5_tin_0 0 rfl ?_
  refine gx_get C okg_10 rfl rfl inX5 (ref := "SweetWraps") 2 (by decide) bw_161 rfl rfl dX5_tin_1 ?_
  refine gx_aload_n C dX5_tin_4 0 rfl ?_
  refine gx_get C okg_10 rfl rfl inX5 (ref := "SweetWraps") 0 (by decide) bw_159 rfl rfl dX5_tin_5 ?_
  refine gx_vcallv (As := [.ref (ad (tE X) 0 0 0)]) (rest := []) C (c_X0_prepare _ _ (by decide) hw) okg_11 rfl rfl bw_192 bw_193 bw_194 bw_5 bw_195 hy_X0_prepare ⟨by decide, by decide⟩ rfl (Nat.le_of_ble_eq_true rfl) dX5_tin_8 (fun σ1 hw => ?_)
  refine gx_aload_n C dX5_tin_11 0 rfl ?_
  refine gx_get C okg_10 rfl rfl inX5 (ref := "SweetWraps") 2 (by decide) bw_161 rfl rfl dX5_tin_12 ?_
  refine gx_aload_n C dX5_tin_15 0 rfl ?_
  refine gx_get C okg_10 rfl rfl inX5 (ref := "SweetWraps") 0 (by decide) bw_159 rfl rfl dX5_tin_16 ?_
  refine gx_vcalli (As := []) (rest := [.ref (ad (tE X) 11 11 0)]) C (c_X2_addTin _ _ (by decide) hw) (ok0 (show 0 < 11 from by decide)) rfl rfl bw_266 bw_267 bw_268 bw_2 bw_269 hy_X2_addTin ⟨by decide, by decide⟩ rfl (Nat.le_of_ble_eq_true rfl) dX5_tin_19 (fun r2 σ3 hw => ?_)
  refine gx_vcalli (As := [.int r2]) (rest := []) C (c_X0_record _ _ hw) okg_11 rfl rfl bw_242 bw_243 bw_244 bw_5 bw_245 hy_X0_record ⟨by decide, by decide⟩ rfl (Nat.le_of_ble_eq_true rfl) dX5_tin_22 (fun r4 σ5 hw => ?_)
  exact gx_iret C rfl rfl dX5_tin_25 hw
theorem hy_X5_tin : yX5_tin.cls = "SweetWraps" ∧ yX5_tin.cls ≠ "java/lang/invoke/MethodHandle" ∧ yX5_tin.cls ≠ "java/lang/invoke/VarHandle" ∧ (parseMethodDescriptor yX5_tin.desc).map (fun d => d.parameters.length) = some 0 := by decide +kernel

theorem dX5_ship_0 : decode cX5_ship 0 = .ok (.aload_n 0, 1) := by decide +kernel
theorem dX5_ship_1 : decode cX5_ship 1 = .ok (.getfield 22, 3) := by decide +kernel
theorem dX5_ship_4 : decode cX5_ship 4 = .ok (.aload_n 0, 1) := by decide +kernel
theorem dX5_ship_5 : decode cX5_ship 5 = .ok (.getfield 10, 3) := by decide +kernel
theorem dX5_ship_8 : decode cX5_ship 8 = .ok (.invokevirtual 41, 3) := by decide +kernel
theorem dX5_ship_11 : decode cX5_ship 11 = .ok (.aload_n 0, 1) := by decide +kernel
theorem dX5_ship_12 : decode cX5_ship 12 = .ok (.getfield 22, 3) := by decide +kernel
theorem dX5_ship_15 : decode cX5_ship 15 = .ok (.aload_n 0, 1) := by decide +kernel
theorem dX5_ship_16 : decode cX5_ship 16 = .ok (.getfield 10, 3) := by decide +kernel
theorem dX5_ship_19 : decode cX5_ship 19 = .ok (.iload_n 1, 1) := by decide +kernel
theorem dX5_ship_20 : decode cX5_ship 20 = .ok (.invokevirtual 64, 3) := by decide +kernel
theorem dX5_ship_23 : decode cX5_ship 23 = .ok (.invokevirtual 49, 3) := by decide +kernel
theorem dX5_ship_26 : decode cX5_ship 26 = .ok (.ireturn, 1) := by decide +kernel
def wp_X5_ship (x1 : Int32) (σ : Sg) (Q : Int32 → Sg → Prop) : Prop := wp_X0_prepare 0 σ (fun σ1 => wp_X2_shipTin 0 x1 σ1 (fun r2 σ3 => wp_X0_record r2 σ3 (fun r4 σ5 => Q r4 σ5)))
set_option maxRecDepth 100000 in
set_option maxHeartbeats 4000000 in
theorem c_X5_ship (l : Launch) (E : Ev) {x1 : Int32} {σ : Sg} {Q : Int32 → Sg → Prop} (hw : wp_X5_ship x1 σ Q) : CT l E yX5_ship cX5_ship 2 (some .int) 5 145 [.ref (ad E 11 10 0), .int x1] σ (QI E Q) := by
  refine CT_of (by decide) (Nat.le_of_ble_eq_true rfl) (fun X h1 h2 C => ?_)
  subst h1; subst h2
  have C : Cx X cX5_ship "SweetWraps" (some .int) 5 145 2 (QI (tE X) Q) := C
  show G X σ [(0, .ref (ad (tE X) 11 10 0)), (1, .int x1)] [] 0
  unfold wp_X5_ship at hw
  refine gx_aload_n C dX5_ship_0 0 rfl ?_
  refine gx_get C okg_10 rfl rfl inX5 (ref := "SweetWraps") 2 (by decide) bw_161 rfl rfl dX5_ship_1 ?_
  refine gx_aload_n C dX5_ship_4 0 rfl ?_
  refine gx_get C okg_10 rfl rfl inX5 (ref := "SweetWraps") 0 (by decide) bw_159 rfl rfl dX5_ship_5 ?_
  refine gx_vcallv (As := [.ref (ad (tE X) 0 0 0)]) (rest := []) C (c_X0_prepare _ _ (by decide) hw) okg_11 rfl rfl bw_192 bw_193 bw_194 bw_5 bw_195 hy_X0_prepare ⟨by decide, by decide⟩ rfl (Nat.le_of_ble_eq_true rfl) dX5_ship_8 (fun σ1 hw => ?_)
  refine gx_aload_n C dX5_ship_11 0 rfl ?_
  refine gx_get C okg_10 rfl rfl inX5 (ref := "SweetWraps") 2 (by decide) bw_161 rfl rfl dX5_ship_12 ?_
  refine gx_aload_n C dX5_ship_15 0 rfl ?_
  refine gx_get C okg_10 rfl rfl inX5 (ref := "SweetWraps") 0 (by decide) bw_159 rfl rfl dX5_ship_16 ?_
  refine gx_iload_n C dX5_ship_19 1 rfl ?_
  refine gx_vcalli (As := [.int x1]) (rest := [.ref (ad (tE X) 11 11 0)]) C (c_X2_shipTin _ _ (by decide) hw) (ok0 (show 0 < 11 from by decide)) rfl rfl bw_335 bw_336 bw_337 bw_2 bw_338 hy_X2_shipTin ⟨by decide, by decide⟩ rfl (Nat.le_of_ble_eq_true rfl) dX5_ship_20 (fun r2 σ3 hw => ?_)
  refine gx_vcalli (As := [.int r2]) (rest := []) C (c_X0_record _ _ hw) okg_11 rfl rfl bw_242 bw_243 bw_244 bw_5 bw_245 hy_X0_record ⟨by decide, by decide⟩ rfl (Nat.le_of_ble_eq_true rfl) dX5_ship_23 (fun r4 σ5 hw => ?_)
  exact gx_iret C rfl rfl dX5_ship_26 hw
theorem hy_X5_ship : yX5_ship.cls = "SweetWraps" ∧ yX5_ship.cls ≠ "java/lang/invoke/MethodHandle" ∧ yX5_ship.cls ≠ "java/lang/invoke/VarHandle" ∧ (parseMethodDescriptor yX5_ship.desc).map (fun d => d.parameters.length) = some 1 := by decide +kernel

theorem dX5_apart_0 : decode cX5_apart 0 = .ok (.aload_n 0, 1) := by decide +kernel
theorem dX5_apart_1 : decode cX5_apart 1 = .ok (.getfield 22, 3) := by decide +kernel
theorem dX5_apart_4 : decode cX5_apart 4 = .ok (.aload_n 0, 1) := by decide +kernel
theorem dX5_apart_5 : decode cX5_apart 5 = .ok (.getfield 10, 3) := by decide +kernel
theorem dX5_apart_8 : decode cX5_apart 8 = .ok (.invokevirtual 41, 3) := by decide +kernel
theorem dX5_apart_11 : decode cX5_apart 11 = .ok (.aload_n 0, 1) := by decide +kernel
theorem dX5_apart_12 : decode cX5_apart 12 = .ok (.getfield 22, 3) := by decide +kernel
theorem dX5_apart_15 : decode cX5_apart 15 = .ok (.aload_n 0, 1) := by decide +kernel
theorem dX5_apart_16 : decode cX5_apart 16 = .ok (.getfield 10, 3) := by decide +kernel
theorem dX5_apart_19 : decode cX5_apart 19 = .ok (.iload_n 1, 1) := by decide +kernel
theorem dX5_apart_20 : decode cX5_apart 20 = .ok (.iload_n 2, 1) := by decide +kernel
theorem dX5_apart_21 : decode cX5_apart 21 = .ok (.invokevirtual 67, 3) := by decide +kernel
theorem dX5_apart_24 : decode cX5_apart 24 = .ok (.invokevirtual 49, 3) := by decide +kernel
theorem dX5_apart_27 : decode cX5_apart 27 = .ok (.ireturn, 1) := by decide +kernel
def wp_X5_apart (x1 : Int32) (x2 : Int32) (σ : Sg) (Q : Int32 → Sg → Prop) : Prop := wp_X0_prepare 0 σ (fun σ1 => wp_X2_changeApart 0 x1 x2 σ1 (fun r2 σ3 => wp_X0_record r2 σ3 (fun r4 σ5 => Q r4 σ5)))
set_option maxRecDepth 100000 in
set_option maxHeartbeats 4000000 in
theorem c_X5_apart (l : Launch) (E : Ev) {x1 : Int32} {x2 : Int32} {σ : Sg} {Q : Int32 → Sg → Prop} (hw : wp_X5_apart x1 x2 σ Q) : CT l E yX5_apart cX5_apart 3 (some .int) 5 145 [.ref (ad E 11 10 0), .int x1, .int x2] σ (QI E Q) := by
  refine CT_of (by decide) (Nat.le_of_ble_eq_true rfl) (fun X h1 h2 C => ?_)
  subst h1; subst h2
  have C : Cx X cX5_apart "SweetWraps" (some .int) 5 145 3 (QI (tE X) Q) := C
  show G X σ [(0, .ref (ad (tE X) 11 10 0)), (1, .int x1), (2, .int x2)] [] 0
  unfold wp_X5_apart at hw
  refine gx_aload_n C dX5_apart_0 0 rfl ?_
  refine gx_get C okg_10 rfl rfl inX5 (ref := "SweetWraps") 2 (by decide) bw_161 rfl rfl dX5_apart_1 ?_
  refine gx_aload_n C dX5_apart_4 0 rfl ?_
  refine gx_get C okg_10 rfl rfl inX5 (ref := "SweetWraps") 0 (by decide) bw_159 rfl rfl dX5_apart_5 ?_
  refine gx_vcallv (As := [.ref (ad (tE X) 0 0 0)]) (rest := []) C (c_X0_prepare _ _ (by decide) hw) okg_11 rfl rfl bw_192 bw_193 bw_194 bw_5 bw_195 hy_X0_prepare ⟨by decide, by decide⟩ rfl (Nat.le_of_ble_eq_true rfl) dX5_apart_8 (fun σ1 hw => ?_)
  refine gx_aload_n C dX5_apart_11 0 rfl ?_
  refine gx_get C okg_10 rfl rfl inX5 (ref := "SweetWraps") 2 (by decide) bw_161 rfl rfl dX5_apart_12 ?_
  refine gx_aload_n C dX5_apart_15 0 rfl ?_
  refine gx_get C okg_10 rfl rfl inX5 (ref := "SweetWraps") 0 (by decide) bw_159 rfl rfl dX5_apart_16 ?_
  refine gx_iload_n C dX5_apart_19 1 rfl ?_
  refine gx_iload_n C dX5_apart_20 2 rfl ?_
  refine gx_vcalli (As := [.int x1, .int x2]) (rest := [.ref (ad (tE X) 11 11 0)]) C (c_X2_changeApart _ _ (by decide) hw) (ok0 (show 0 < 11 from by decide)) rfl rfl bw_343 bw_344 bw_345 bw_2 bw_346 hy_X2_changeApart ⟨by decide, by decide⟩ rfl (Nat.le_of_ble_eq_true rfl) dX5_apart_21 (fun r2 σ3 hw => ?_)
  refine gx_vcalli (As := [.int r2]) (rest := []) C (c_X0_record _ _ hw) okg_11 rfl rfl bw_242 bw_243 bw_244 bw_5 bw_245 hy_X0_record ⟨by decide, by decide⟩ rfl (Nat.le_of_ble_eq_true rfl) dX5_apart_24 (fun r4 σ5 hw => ?_)
  exact gx_iret C rfl rfl dX5_apart_27 hw
theorem hy_X5_apart : yX5_apart.cls = "SweetWraps" ∧ yX5_apart.cls ≠ "java/lang/invoke/MethodHandle" ∧ yX5_apart.cls ≠ "java/lang/invoke/VarHandle" ∧ (parseMethodDescriptor yX5_apart.desc).map (fun d => d.parameters.length) = some 2 := by decide +kernel

theorem dX5_run_0 : decode cX5_run 0 = .ok (.aload_n 0, 1) := by decide +kernel
theorem dX5_run_1 : decode cX5_run 1 = .ok (.getfield 22, 3) := by decide +kernel
theorem dX5_run_4 : decode cX5_run 4 = .ok (.aload_n 0, 1) := by decide +kernel
theorem dX5_run_5 : decode cX5_run 5 = .ok (.getfield 10, 3) := by decide +kernel
theorem dX5_run_8 : decode cX5_run 8 = .ok (.invokevirtual 41, 3) := by decide +kernel
theorem dX5_run_11 : decode cX5_run 11 = .ok (.aload_n 0, 1) := by decide +kernel
theorem dX5_run_12 : decode cX5_run 12 = .ok (.getfield 22, 3) := by decide +kernel
theorem dX5_run_15 : decode cX5_run 15 = .ok (.aload_n 0, 1) := by decide +kernel
theorem dX5_run_16 : decode cX5_run 16 = .ok (.getfield 10, 3) := by decide +kernel
theorem dX5_run_19 : decode cX5_run 19 = .ok (.iload_n 1, 1) := by decide +kernel
theorem dX5_run_20 : decode cX5_run 20 = .ok (.invokevirtual 70, 3) := by decide +kernel
theorem dX5_run_23 : decode cX5_run 23 = .ok (.invokevirtual 49, 3) := by decide +kernel
theorem dX5_run_26 : decode cX5_run 26 = .ok (.ireturn, 1) := by decide +kernel
def wp_X5_run (x1 : Int32) (σ : Sg) (Q : Int32 → Sg → Prop) : Prop := wp_X0_prepare 0 σ (fun σ1 => wp_X2_runTicks 0 x1 σ1 (fun r2 σ3 => wp_X0_record r2 σ3 (fun r4 σ5 => Q r4 σ5)))
set_option maxRecDepth 100000 in
set_option maxHeartbeats 4000000 in
theorem c_X5_run (l : Launch) (E : Ev) {x1 : Int32} {σ : Sg} {Q : Int32 → Sg → Prop} (hw : wp_X5_run x1 σ Q) : CT l E yX5_run cX5_run 2 (some .int) 5 145 [.ref (ad E 11 10 0), .int x1] σ (QI E Q) := by
  refine CT_of (by decide) (Nat.le_of_ble_eq_true rfl) (fun X h1 h2 C => ?_)
  subst h1; subst h2
  have C : Cx X cX5_run "SweetWraps" (some .int) 5 145 2 (QI (tE X) Q) := C
  show G X σ [(0, .ref (ad (tE X) 11 10 0)), (1, .int x1)] [] 0
  unfold wp_X5_run at hw
  refine gx_aload_n C dX5_run_0 0 rfl ?_
  refine gx_get C okg_10 rfl rfl inX5 (ref := "SweetWraps") 2 (by decide) bw_161 rfl rfl dX5_run_1 ?_
  refine gx_aload_n C dX5_run_4 0 rfl ?_
  refine gx_get C okg_10 rfl rfl inX5 (ref := "SweetWraps") 0 (by decide) bw_159 rfl rfl dX5_run_5 ?_
  refine gx_vcallv (As := [.ref (ad (tE X) 0 0 0)]) (rest := []) C (c_X0_prepare _ _ (by decide) hw) okg_11 rfl rfl bw_192 bw_193 bw_194 bw_5 bw_195 hy_X0_prepare ⟨by decide, by decide⟩ rfl (Nat.le_of_ble_eq_true rfl) dX5_run_8 (fun σ1 hw => ?_)
  refine gx_aload_n C dX5_run_11 0 rfl ?_
  refine gx_get C okg_10 rfl rfl inX5 (ref := "SweetWraps") 2 (by decide) bw_161 rfl rfl dX5_run_12 ?_
  refine gx_aload_n C dX5_run_15 0 rfl ?_
  refine gx_get C okg_10 rfl rfl inX5 (ref := "SweetWraps") 0 (by decide) bw_159 rfl rfl dX5_run_16 ?_
  refine gx_iload_n C dX5_run_19 1 rfl ?_
  refine gx_vcalli (As := [.int x1]) (rest := [.ref (ad (tE X) 11 11 0)]) C (c_X2_runTicks _ _ (by decide) hw) (ok0 (show 0 < 11 from by decide)) rfl rfl bw_375 bw_376 bw_377 bw_2 bw_378 hy_X2_runTicks ⟨by decide, by decide⟩ rfl (Nat.le_of_ble_eq_true rfl) dX5_run_20 (fun r2 σ3 hw => ?_)
  refine gx_vcalli (As := [.int r2]) (rest := []) C (c_X0_record _ _ hw) okg_11 rfl rfl bw_242 bw_243 bw_244 bw_5 bw_245 hy_X0_record ⟨by decide, by decide⟩ rfl (Nat.le_of_ble_eq_true rfl) dX5_run_23 (fun r4 σ5 hw => ?_)
  exact gx_iret C rfl rfl dX5_run_26 hw
theorem hy_X5_run : yX5_run.cls = "SweetWraps" ∧ yX5_run.cls ≠ "java/lang/invoke/MethodHandle" ∧ yX5_run.cls ≠ "java/lang/invoke/VarHandle" ∧ (parseMethodDescriptor yX5_run.desc).map (fun d => d.parameters.length) = some 1 := by decide +kernel

theorem dX5_of_0 : decode cX5_of 0 = .ok (.aload_n 0, 1) := by decide +kernel
theorem dX5_of_1 : decode cX5_of 1 = .ok (.getfield 10, 3) := by decide +kernel
theorem dX5_of_4 : decode cX5_of 4 = .ok (.iload_n 1, 1) := by decide +kernel
theorem dX5_of_5 : decode cX5_of 5 = .ok (.iload_n 2, 1) := by decide +kernel
theorem dX5_of_6 : decode cX5_of 6 = .ok (.invokevirtual 73, 3) := by decide +kernel
theorem dX5_of_9 : decode cX5_of 9 = .ok (.ireturn, 1) := by decide +kernel
def wp_X5_of (x1 : Int32) (x2 : Int32) (σ : Sg) (Q : Int32 → Sg → Prop) : Prop := wp_X2_laneFact 0 x1 x2 σ (fun r1 σ2 => Q r1 σ2)
set_option maxRecDepth 100000 in
set_option maxHeartbeats 4000000 in
theorem c_X5_of (l : Launch) (E : Ev) {x1 : Int32} {x2 : Int32} {σ : Sg} {Q : Int32 → Sg → Prop} (hw : wp_X5_of x1 x2 σ Q) : CT l E yX5_of cX5_of 3 (some .int) 4 88 [.ref (ad E 11 10 0), .int x1, .int x2] σ (QI E Q) := by
  refine CT_of (by decide) (Nat.le_of_ble_eq_true rfl) (fun X h1 h2 C => ?_)
  subst h1; subst h2
  have C : Cx X cX5_of "SweetWraps" (some .int) 4 88 3 (QI (tE X) Q) := C
  show G X σ [(0, .ref (ad (tE X) 11 10 0)), (1, .int x1), (2, .int x2)] [] 0
  unfold wp_X5_of at hw
  refine gx_aload_n C dX5_of_0 0 rfl ?_
  refine gx_get C okg_10 rfl rfl inX5 (ref := "SweetWraps") 0 (by decide) bw_159 rfl rfl dX5_of_1 ?_
  refine gx_iload_n C dX5_of_4 1 rfl ?_
  refine gx_iload_n C dX5_of_5 2 rfl ?_
  refine gx_vcalli (As := [.int x1, .int x2]) (rest := []) C (c_X2_laneFact _ _ (by decide) hw) (ok0 (show 0 < 11 from by decide)) rfl rfl bw_453 bw_291 bw_292 bw_2 bw_293 hy_X2_laneFact ⟨by decide, by decide⟩ rfl (Nat.le_of_ble_eq_true rfl) dX5_of_6 (fun r1 σ2 hw => ?_)
  exact gx_iret C rfl rfl dX5_of_9 hw
theorem hy_X5_of : yX5_of.cls = "SweetWraps" ∧ yX5_of.cls ≠ "java/lang/invoke/MethodHandle" ∧ yX5_of.cls ≠ "java/lang/invoke/VarHandle" ∧ (parseMethodDescriptor yX5_of.desc).map (fun d => d.parameters.length) = some 2 := by decide +kernel

theorem dX5_ofHeap_0 : decode cX5_ofHeap 0 = .ok (.aload_n 0, 1) := by decide +kernel
theorem dX5_ofHeap_1 : decode cX5_ofHeap 1 = .ok (.getfield 10, 3) := by decide +kernel
theorem dX5_ofHeap_4 : decode cX5_ofHeap 4 = .ok (.iload_n 1, 1) := by decide +kernel
theorem dX5_ofHeap_5 : decode cX5_ofHeap 5 = .ok (.iload_n 2, 1) := by decide +kernel
theorem dX5_ofHeap_6 : decode cX5_ofHeap 6 = .ok (.iload_n 3, 1) := by decide +kernel
theorem dX5_ofHeap_7 : decode cX5_ofHeap 7 = .ok (.invokevirtual 76, 3) := by decide +kernel
theorem dX5_ofHeap_10 : decode cX5_ofHeap 10 = .ok (.ireturn, 1) := by decide +kernel
def wp_X5_ofHeap (x1 : Int32) (x2 : Int32) (x3 : Int32) (σ : Sg) (Q : Int32 → Sg → Prop) : Prop := wp_X2_heapFact 0 x1 x2 x3 σ (fun r1 σ2 => Q r1 σ2)
set_option maxRecDepth 100000 in
set_option maxHeartbeats 4000000 in
theorem c_X5_ofHeap (l : Launch) (E : Ev) {x1 : Int32} {x2 : Int32} {x3 : Int32} {σ : Sg} {Q : Int32 → Sg → Prop} (hw : wp_X5_ofHeap x1 x2 x3 σ Q) : CT l E yX5_ofHeap cX5_ofHeap 4 (some .int) 3 65 [.ref (ad E 11 10 0), .int x1, .int x2, .int x3] σ (QI E Q) := by
  refine CT_of (by decide) (Nat.le_of_ble_eq_true rfl) (fun X h1 h2 C => ?_)
  subst h1; subst h2
  have C : Cx X cX5_ofHeap "SweetWraps" (some .int) 3 65 4 (QI (tE X) Q) := C
  show G X σ [(0, .ref (ad (tE X) 11 10 0)), (1, .int x1), (2, .int x2), (3, .int x3)] [] 0
  unfold wp_X5_ofHeap at hw
  refine gx_aload_n C dX5_ofHeap_0 0 rfl ?_
  refine gx_get C okg_10 rfl rfl inX5 (ref := "SweetWraps") 0 (by decide) bw_159 rfl rfl dX5_ofHeap_1 ?_
  refine gx_iload_n C dX5_ofHeap_4 1 rfl ?_
  refine gx_iload_n C dX5_ofHeap_5 2 rfl ?_
  refine gx_iload_n C dX5_ofHeap_6 3 rfl ?_
  refine gx_vcalli (As := [.int x1, .int x2, .int x3]) (rest := []) C (c_X2_heapFact _ _ (by decide) hw) (ok0 (show 0 < 11 from by decide)) rfl rfl bw_458 bw_459 bw_460 bw_2 bw_461 hy_X2_heapFact ⟨by decide, by decide⟩ rfl (Nat.le_of_ble_eq_true rfl) dX5_ofHeap_7 (fun r1 σ2 hw => ?_)
  exact gx_iret C rfl rfl dX5_ofHeap_10 hw
theorem hy_X5_ofHeap : yX5_ofHeap.cls = "SweetWraps" ∧ yX5_ofHeap.cls ≠ "java/lang/invoke/MethodHandle" ∧ yX5_ofHeap.cls ≠ "java/lang/invoke/VarHandle" ∧ (parseMethodDescriptor yX5_ofHeap.desc).map (fun d => d.parameters.length) = some 3 := by decide +kernel

theorem dX5_ofTin_0 : decode cX5_ofTin 0 = .ok (.aload_n 0, 1) := by decide +kernel
theorem dX5_ofTin_1 : decode cX5_ofTin 1 = .ok (.getfield 10, 3) := by decide +kernel
theorem dX5_ofTin_4 : decode cX5_ofTin 4 = .ok (.iload_n 1, 1) := by decide +kernel
theorem dX5_ofTin_5 : decode cX5_ofTin 5 = .ok (.iload_n 2, 1) := by decide +kernel
theorem dX5_ofTin_6 : decode cX5_ofTin 6 = .ok (.invokevirtual 79, 3) := by decide +kernel
theorem dX5_ofTin_9 : decode cX5_ofTin 9 = .ok (.ireturn, 1) := by decide +kernel
def wp_X5_ofTin (x1 : Int32) (x2 : Int32) (σ : Sg) (Q : Int32 → Sg → Prop) : Prop := wp_X2_tinFact 0 x1 x2 σ (fun r1 σ2 => Q r1 σ2)
set_option maxRecDepth 100000 in
set_option maxHeartbeats 4000000 in
theorem c_X5_ofTin (l : Launch) (E : Ev) {x1 : Int32} {x2 : Int32} {σ : Sg} {Q : Int32 → Sg → Prop} (hw : wp_X5_ofTin x1 x2 σ Q) : CT l E yX5_ofTin cX5_ofTin 3 (some .int) 3 67 [.ref (ad E 11 10 0), .int x1, .int x2] σ (QI E Q) := by
  refine CT_of (by decide) (Nat.le_of_ble_eq_true rfl) (fun X h1 h2 C => ?_)
  subst h1; subst h2
  have C : Cx X cX5_ofTin "SweetWraps" (some .int) 3 67 3 (QI (tE X) Q) := C
  show G X σ [(0, .ref (ad (tE X) 11 10 0)), (1, .int x1), (2, .int x2)] [] 0
  unfold wp_X5_ofTin at hw
  refine gx_aload_n C dX5_ofTin_0 0 rfl ?_
  refine gx_get C okg_10 rfl rfl inX5 (ref := "SweetWraps") 0 (by decide) bw_159 rfl rfl dX5_ofTin_1 ?_
  refine gx_iload_n C dX5_ofTin_4 1 rfl ?_
  refine gx_iload_n C dX5_ofTin_5 2 rfl ?_
  refine gx_vcalli (As := [.int x1, .int x2]) (rest := []) C (c_X2_tinFact _ _ (by decide) hw) (ok0 (show 0 < 11 from by decide)) rfl rfl bw_414 bw_415 bw_416 bw_2 bw_417 hy_X2_tinFact ⟨by decide, by decide⟩ rfl (Nat.le_of_ble_eq_true rfl) dX5_ofTin_6 (fun r1 σ2 hw => ?_)
  exact gx_iret C rfl rfl dX5_ofTin_9 hw
theorem hy_X5_ofTin : yX5_ofTin.cls = "SweetWraps" ∧ yX5_ofTin.cls ≠ "java/lang/invoke/MethodHandle" ∧ yX5_ofTin.cls ≠ "java/lang/invoke/VarHandle" ∧ (parseMethodDescriptor yX5_ofTin.desc).map (fun d => d.parameters.length) = some 2 := by decide +kernel

theorem dX5_inTin_0 : decode cX5_inTin 0 = .ok (.aload_n 0, 1) := by decide +kernel
theorem dX5_inTin_1 : decode cX5_inTin 1 = .ok (.getfield 10, 3) := by decide +kernel
theorem dX5_inTin_4 : decode cX5_inTin 4 = .ok (.iload_n 1, 1) := by decide +kernel
theorem dX5_inTin_5 : decode cX5_inTin 5 = .ok (.iload_n 2, 1) := by decide +kernel
theorem dX5_inTin_6 : decode cX5_inTin 6 = .ok (.invokevirtual 82, 3) := by decide +kernel
theorem dX5_inTin_9 : decode cX5_inTin 9 = .ok (.ireturn, 1) := by decide +kernel
def wp_X5_inTin (x1 : Int32) (x2 : Int32) (σ : Sg) (Q : Int32 → Sg → Prop) : Prop := wp_X2_sweetsInTin 0 x1 x2 σ (fun r1 σ2 => Q r1 σ2)
set_option maxRecDepth 100000 in
set_option maxHeartbeats 4000000 in
theorem c_X5_inTin (l : Launch) (E : Ev) {x1 : Int32} {x2 : Int32} {σ : Sg} {Q : Int32 → Sg → Prop} (hw : wp_X5_inTin x1 x2 σ Q) : CT l E yX5_inTin cX5_inTin 3 (some .int) 3 64 [.ref (ad E 11 10 0), .int x1, .int x2] σ (QI E Q) := by
  refine CT_of (by decide) (Nat.le_of_ble_eq_true rfl) (fun X h1 h2 C => ?_)
  subst h1; subst h2
  have C : Cx X cX5_inTin "SweetWraps" (some .int) 3 64 3 (QI (tE X) Q) := C
  show G X σ [(0, .ref (ad (tE X) 11 10 0)), (1, .int x1), (2, .int x2)] [] 0
  unfold wp_X5_inTin at hw
  refine gx_aload_n C dX5_inTin_0 0 rfl ?_
  refine gx_get C okg_10 rfl rfl inX5 (ref := "SweetWraps") 0 (by decide) bw_159 rfl rfl dX5_inTin_1 ?_
  refine gx_iload_n C dX5_inTin_4 1 rfl ?_
  refine gx_iload_n C dX5_inTin_5 2 rfl ?_
  refine gx_vcalli (As := [.int x1, .int x2]) (rest := []) C (c_X2_sweetsInTin _ _ (by decide) hw) (ok0 (show 0 < 11 from by decide)) rfl rfl bw_426 bw_427 bw_428 bw_2 bw_429 hy_X2_sweetsInTin ⟨by decide, by decide⟩ rfl (Nat.le_of_ble_eq_true rfl) dX5_inTin_6 (fun r1 σ2 hw => ?_)
  exact gx_iret C rfl rfl dX5_inTin_9 hw
theorem hy_X5_inTin : yX5_inTin.cls = "SweetWraps" ∧ yX5_inTin.cls ≠ "java/lang/invoke/MethodHandle" ∧ yX5_inTin.cls ≠ "java/lang/invoke/VarHandle" ∧ (parseMethodDescriptor yX5_inTin.desc).map (fun d => d.parameters.length) = some 2 := by decide +kernel

theorem dX5_flavour_0 : decode cX5_flavour 0 = .ok (.aload_n 0, 1) := by decide +kernel
theorem dX5_flavour_1 : decode cX5_flavour 1 = .ok (.getfield 10, 3) := by decide +kernel
theorem dX5_flavour_4 : decode cX5_flavour 4 = .ok (.iload_n 1, 1) := by decide +kernel
theorem dX5_flavour_5 : decode cX5_flavour 5 = .ok (.iload_n 2, 1) := by decide +kernel
theorem dX5_flavour_6 : decode cX5_flavour 6 = .ok (.invokevirtual 85, 3) := by decide +kernel
theorem dX5_flavour_9 : decode cX5_flavour 9 = .ok (.ireturn, 1) := by decide +kernel
def wp_X5_flavour (x1 : Int32) (x2 : Int32) (σ : Sg) (Q : Int32 → Sg → Prop) : Prop := wp_X2_flavourFact 0 x1 x2 σ (fun r1 σ2 => Q r1 σ2)
set_option maxRecDepth 100000 in
set_option maxHeartbeats 4000000 in
theorem c_X5_flavour (l : Launch) (E : Ev) {x1 : Int32} {x2 : Int32} {σ : Sg} {Q : Int32 → Sg → Prop} (hw : wp_X5_flavour x1 x2 σ Q) : CT l E yX5_flavour cX5_flavour 3 (some .int) 3 68 [.ref (ad E 11 10 0), .int x1, .int x2] σ (QI E Q) := by
  refine CT_of (by decide) (Nat.le_of_ble_eq_true rfl) (fun X h1 h2 C => ?_)
  subst h1; subst h2
  have C : Cx X cX5_flavour "SweetWraps" (some .int) 3 68 3 (QI (tE X) Q) := C
  show G X σ [(0, .ref (ad (tE X) 11 10 0)), (1, .int x1), (2, .int x2)] [] 0
  unfold wp_X5_flavour at hw
  refine gx_aload_n C dX5_flavour_0 0 rfl ?_
  refine gx_get C okg_10 rfl rfl inX5 (ref := "SweetWraps") 0 (by decide) bw_159 rfl rfl dX5_flavour_1 ?_
  refine gx_iload_n C dX5_flavour_4 1 rfl ?_
  refine gx_iload_n C dX5_flavour_5 2 rfl ?_
  refine gx_vcalli (As := [.int x1, .int x2]) (rest := []) C (c_X2_flavourFact _ _ (by decide) hw) (ok0 (show 0 < 11 from by decide)) rfl rfl bw_434 bw_435 bw_436 bw_2 bw_437 hy_X2_flavourFact ⟨by decide, by decide⟩ rfl (Nat.le_of_ble_eq_true rfl) dX5_flavour_6 (fun r1 σ2 hw => ?_)
  exact gx_iret C rfl rfl dX5_flavour_9 hw
theorem hy_X5_flavour : yX5_flavour.cls = "SweetWraps" ∧ yX5_flavour.cls ≠ "java/lang/invoke/MethodHandle" ∧ yX5_flavour.cls ≠ "java/lang/invoke/VarHandle" ∧ (parseMethodDescriptor yX5_flavour.desc).map (fun d => d.parameters.length) = some 2 := by decide +kernel

theorem dX5_byRoom_0 : decode cX5_byRoom 0 = .ok (.aload_n 0, 1) := by decide +kernel
theorem dX5_byRoom_1 : decode cX5_byRoom 1 = .ok (.getfield 10, 3) := by decide +kernel
theorem dX5_byRoom_4 : decode cX5_byRoom 4 = .ok (.iload_n 1, 1) := by decide +kernel
theorem dX5_byRoom_5 : decode cX5_byRoom 5 = .ok (.invokevirtual 88, 3) := by decide +kernel
theorem dX5_byRoom_8 : decode cX5_byRoom 8 = .ok (.ireturn, 1) := by decide +kernel
def wp_X5_byRoom (x1 : Int32) (σ : Sg) (Q : Int32 → Sg → Prop) : Prop := wp_X2_tinOfRank 0 x1 σ (fun r1 σ2 => Q r1 σ2)
set_option maxRecDepth 100000 in
set_option maxHeartbeats 4000000 in
theorem c_X5_byRoom (l : Launch) (E : Ev) {x1 : Int32} {σ : Sg} {Q : Int32 → Sg → Prop} (hw : wp_X5_byRoom x1 σ Q) : CT l E yX5_byRoom cX5_byRoom 2 (some .int) 5 109 [.ref (ad E 11 10 0), .int x1] σ (QI E Q) := by
  refine CT_of (by decide) (Nat.le_of_ble_eq_true rfl) (fun X h1 h2 C => ?_)
  subst h1; subst h2
  have C : Cx X cX5_byRoom "SweetWraps" (some .int) 5 109 2 (QI (tE X) Q) := C
  show G X σ [(0, .ref (ad (tE X) 11 10 0)), (1, .int x1)] [] 0
  unfold wp_X5_byRoom at hw
  refine gx_aload_n C dX5_byRoom_0 0 rfl ?_
  refine gx_get C okg_10 rfl rfl inX5 (ref := "SweetWraps") 0 (by decide) bw_159 rfl rfl dX5_byRoom_1 ?_
  refine gx_iload_n C dX5_byRoom_4 1 rfl ?_
  refine gx_vcalli (As := [.int x1]) (rest := []) C (c_X2_tinOfRank _ _ (by decide) hw) (ok0 (show 0 < 11 from by decide)) rfl rfl bw_478 bw_479 bw_480 bw_2 bw_481 hy_X2_tinOfRank ⟨by decide, by decide⟩ rfl (Nat.le_of_ble_eq_true rfl) dX5_byRoom_5 (fun r1 σ2 hw => ?_)
  exact gx_iret C rfl rfl dX5_byRoom_8 hw
theorem hy_X5_byRoom : yX5_byRoom.cls = "SweetWraps" ∧ yX5_byRoom.cls ≠ "java/lang/invoke/MethodHandle" ∧ yX5_byRoom.cls ≠ "java/lang/invoke/VarHandle" ∧ (parseMethodDescriptor yX5_byRoom.desc).map (fun d => d.parameters.length) = some 1 := by decide +kernel

theorem dX5_byCount_0 : decode cX5_byCount 0 = .ok (.aload_n 0, 1) := by decide +kernel
theorem dX5_byCount_1 : decode cX5_byCount 1 = .ok (.getfield 10, 3) := by decide +kernel
theorem dX5_byCount_4 : decode cX5_byCount 4 = .ok (.iload_n 1, 1) := by decide +kernel
theorem dX5_byCount_5 : decode cX5_byCount 5 = .ok (.invokevirtual 91, 3) := by decide +kernel
theorem dX5_byCount_8 : decode cX5_byCount 8 = .ok (.ireturn, 1) := by decide +kernel
def wp_X5_byCount (x1 : Int32) (σ : Sg) (Q : Int32 → Sg → Prop) : Prop := wp_X2_flavourOfRank 0 x1 σ (fun r1 σ2 => Q r1 σ2)
set_option maxRecDepth 100000 in
set_option maxHeartbeats 4000000 in
theorem c_X5_byCount (l : Launch) (E : Ev) {x1 : Int32} {σ : Sg} {Q : Int32 → Sg → Prop} (hw : wp_X5_byCount x1 σ Q) : CT l E yX5_byCount cX5_byCount 2 (some .int) 4 92 [.ref (ad E 11 10 0), .int x1] σ (QI E Q) := by
  refine CT_of (by decide) (Nat.le_of_ble_eq_true rfl) (fun X h1 h2 C => ?_)
  subst h1; subst h2
  have C : Cx X cX5_byCount "SweetWraps" (some .int) 4 92 2 (QI (tE X) Q) := C
  show G X σ [(0, .ref (ad (tE X) 11 10 0)), (1, .int x1)] [] 0
  unfold wp_X5_byCount at hw
  refine gx_aload_n C dX5_byCount_0 0 rfl ?_
  refine gx_get C okg_10 rfl rfl inX5 (ref := "SweetWraps") 0 (by decide) bw_159 rfl rfl dX5_byCount_1 ?_
  refine gx_iload_n C dX5_byCount_4 1 rfl ?_
  refine gx_vcalli (As := [.int x1]) (rest := []) C (c_X2_flavourOfRank _ _ (by decide) hw) (ok0 (show 0 < 11 from by decide)) rfl rfl bw_490 bw_491 bw_492 bw_2 bw_493 hy_X2_flavourOfRank ⟨by decide, by decide⟩ rfl (Nat.le_of_ble_eq_true rfl) dX5_byCount_5 (fun r1 σ2 hw => ?_)
  exact gx_iret C rfl rfl dX5_byCount_8 hw
theorem hy_X5_byCount : yX5_byCount.cls = "SweetWraps" ∧ yX5_byCount.cls ≠ "java/lang/invoke/MethodHandle" ∧ yX5_byCount.cls ≠ "java/lang/invoke/VarHandle" ∧ (parseMethodDescriptor yX5_byCount.desc).map (fun d => d.parameters.length) = some 1 := by decide +kernel

theorem dX5_count_0 : decode cX5_count 0 = .ok (.iload_n 1, 1) := by decide +kernel
theorem dX5_count_1 : decode cX5_count 1 = .ok (.lookupswitch 43 #[(15, 27), (16, 35)], 27) := by decide +kernel
theorem dX5_count_28 : decode cX5_count 28 = .ok (.aload_n 0, 1) := by decide +kernel
theorem dX5_count_29 : decode cX5_count 29 = .ok (.getfield 37, 3) := by decide +kernel
theorem dX5_count_32 : decode cX5_count 32 = .ok (.getfield 94, 3) := by decide +kernel
theorem dX5_count_35 : decode cX5_count 35 = .ok (.ireturn, 1) := by decide +kernel
theorem dX5_count_36 : decode cX5_count 36 = .ok (.aload_n 0, 1) := by decide +kernel
theorem dX5_count_37 : decode cX5_count 37 = .ok (.getfield 22, 3) := by decide +kernel
theorem dX5_count_40 : decode cX5_count 40 = .ok (.getfield 98, 3) := by decide +kernel
theorem dX5_count_43 : decode cX5_count 43 = .ok (.ireturn, 1) := by decide +kernel
theorem dX5_count_44 : decode cX5_count 44 = .ok (.aload_n 0, 1) := by decide +kernel
theorem dX5_count_45 : decode cX5_count 45 = .ok (.getfield 10, 3) := by decide +kernel
theorem dX5_count_48 : decode cX5_count 48 = .ok (.iload_n 1, 1) := by decide +kernel
theorem dX5_count_49 : decode cX5_count 49 = .ok (.invokevirtual 101, 3) := by decide +kernel
theorem dX5_count_52 : decode cX5_count 52 = .ok (.ireturn, 1) := by decide +kernel
def wp_X5_count (x1 : Int32) (σ : Sg) (Q : Int32 → Sg → Prop) : Prop := ((x1 = (15 : Int32) → Q (σ 11 15 0 2) σ) ∧ (¬ x1 = (15 : Int32) → ((x1 = (16 : Int32) → Q (σ 11 11 0 2) σ) ∧ (¬ x1 = (16 : Int32) → wp_X2_number 0 x1 σ (fun r3 σ4 => Q r3 σ4)))))
set_option maxRecDepth 100000 in
set_option maxHeartbeats 4000000 in
theorem c_X5_count (l : Launch) (E : Ev) {x1 : Int32} {σ : Sg} {Q : Int32 → Sg → Prop} (hw : wp_X5_count x1 σ Q) : CT l E yX5_count cX5_count 2 (some .int) 6 132 [.ref (ad E 11 10 0), .int x1] σ (QI E Q) := by
  refine CT_of (by decide) (Nat.le_of_ble_eq_true rfl) (fun X h1 h2 C => ?_)
  subst h1; subst h2
  have C : Cx X cX5_count "SweetWraps" (some .int) 6 132 2 (QI (tE X) Q) := C
  show G X σ [(0, .ref (ad (tE X) 11 10 0)), (1, .int x1)] [] 0
  unfold wp_X5_count at hw
  refine gx_iload_n C dX5_count_0 1 rfl ?_
  by_cases c1 : x1 = (15 : Int32)
  · replace hw := hw.1 c1
    refine gx_lookup (tgt := 28) (off := 27) C dX5_count_1 (by decide) (by rw [c1]; rfl) (by decide) ?_
    refine gx_aload_n C dX5_count_28 0 rfl ?_
    refine gx_get C okg_10 rfl rfl inX5 (ref := "SweetWraps") 5 (by decide) bw_164 rfl rfl dX5_count_29 ?_
    refine gx_get C okg_15 rfl rfl inX3 (ref := "SweetWraps$Pad") 2 (by decide) bw_143 rfl rfl dX5_count_32 ?_
    exact gx_iret C rfl rfl dX5_count_35 hw
  · replace hw := hw.2 c1
    by_cases c2 : x1 = (16 : Int32)
    · replace hw := hw.1 c2
      refine gx_lookup (tgt := 36) (off := 35) C dX5_count_1 (by decide) (by rw [c2]; rfl) (by decide) ?_
      refine gx_aload_n C dX5_count_36 0 rfl ?_
      refine gx_get C okg_10 rfl rfl inX5 (ref := "SweetWraps") 2 (by decide) bw_161 rfl rfl dX5_count_37 ?_
      refine gx_get C okg_11 rfl rfl inX0 (ref := "SweetWraps$History") 2 (by decide) bw_127 rfl rfl dX5_count_40 ?_
      exact gx_iret C rfl rfl dX5_count_43 hw
    · replace hw := hw.2 c2
      refine gx_lookup (tgt := 44) (off := 43) C dX5_count_1 (by decide) ((lv_osw c1 (by decide)).trans ((lv_osw c2 (by decide)).trans (rfl))) (by decide) ?_
      refine gx_aload_n C dX5_count_44 0 rfl ?_
      refine gx_get C okg_10 rfl rfl inX5 (ref := "SweetWraps") 0 (by decide) bw_159 rfl rfl dX5_count_45 ?_
      refine gx_iload_n C dX5_count_48 1 rfl ?_
      refine gx_vcalli (As := [.int x1]) (rest := []) C (c_X2_number _ _ (by decide) hw) (ok0 (show 0 < 11 from by decide)) rfl rfl bw_274 bw_275 bw_276 bw_2 bw_277 hy_X2_number ⟨by decide, by decide⟩ rfl (Nat.le_of_ble_eq_true rfl) dX5_count_49 (fun r3 σ4 hw => ?_)
      exact gx_iret C rfl rfl dX5_count_52 hw
theorem hy_X5_count : yX5_count.cls = "SweetWraps" ∧ yX5_count.cls ≠ "java/lang/invoke/MethodHandle" ∧ yX5_count.cls ≠ "java/lang/invoke/VarHandle" ∧ (parseMethodDescriptor yX5_count.desc).map (fun d => d.parameters.length) = some 1 := by decide +kernel

theorem dX5_stands_0 : decode cX5_stands 0 = .ok (.iload_n 1, 1) := by decide +kernel
theorem dX5_stands_1 : decode cX5_stands 1 = .ok (.iconst 4, 1) := by decide +kernel
theorem dX5_stands_2 : decode cX5_stands 2 = .ok (.invokestatic 104, 3) := by decide +kernel
theorem dX5_stands_5 : decode cX5_stands 5 = .ok (.ifCond .ne 5, 3) := by decide +kernel
theorem dX5_stands_8 : decode cX5_stands 8 = .ok (.iconst (-1), 1) := by decide +kernel
theorem dX5_stands_9 : decode cX5_stands 9 = .ok (.ireturn, 1) := by decide +kernel
theorem dX5_stands_10 : decode cX5_stands 10 = .ok (.iload_n 2, 1) := by decide +kernel
theorem dX5_stands_11 : decode cX5_stands 11 = .ok (.ifCond .eq 11, 3) := by decide +kernel
theorem dX5_stands_14 : decode cX5_stands 14 = .ok (.iload_n 2, 1) := by decide +kernel
theorem dX5_stands_15 : decode cX5_stands 15 = .ok (.iconst 1, 1) := by decide +kernel
theorem dX5_stands_16 : decode cX5_stands 16 = .ok (.if_icmp .eq 6, 3) := by decide +kernel
theorem dX5_stands_19 : decode cX5_stands 19 = .ok (.bipush (-2), 2) := by decide +kernel
theorem dX5_stands_21 : decode cX5_stands 21 = .ok (.ireturn, 1) := by decide +kernel
theorem dX5_stands_22 : decode cX5_stands 22 = .ok (.aload_n 0, 1) := by decide +kernel
theorem dX5_stands_23 : decode cX5_stands 23 = .ok (.getfield 16, 3) := by decide +kernel
theorem dX5_stands_26 : decode cX5_stands 26 = .ok (.aload_n 0, 1) := by decide +kernel
theorem dX5_stands_27 : decode cX5_stands 27 = .ok (.getfield 10, 3) := by decide +kernel
theorem dX5_stands_30 : decode cX5_stands 30 = .ok (.invokevirtual 108, 3) := by decide +kernel
theorem dX5_stands_33 : decode cX5_stands 33 = .ok (.iconst 1, 1) := by decide +kernel
theorem dX5_stands_34 : decode cX5_stands 34 = .ok (.istore_n 3, 1) := by decide +kernel
theorem dX5_stands_35 : decode cX5_stands 35 = .ok (.iload_n 3, 1) := by decide +kernel
theorem dX5_stands_36 : decode cX5_stands 36 = .ok (.sipush 200, 3) := by decide +kernel
theorem dX5_stands_39 : decode cX5_stands 39 = .ok (.if_icmp .gt 48, 3) := by decide +kernel
theorem dX5_stands_42 : decode cX5_stands 42 = .ok (.aload_n 0, 1) := by decide +kernel
theorem dX5_stands_43 : decode cX5_stands 43 = .ok (.getfield 16, 3) := by decide +kernel
theorem dX5_stands_46 : decode cX5_stands 46 = .ok (.iconst 1, 1) := by decide +kernel
theorem dX5_stands_47 : decode cX5_stands 47 = .ok (.invokevirtual 111, 3) := by decide +kernel
theorem dX5_stands_50 : decode cX5_stands 50 = .ok (.pop, 1) := by decide +kernel
theorem dX5_stands_51 : decode cX5_stands 51 = .ok (.aload_n 0, 1) := by decide +kernel
theorem dX5_stands_52 : decode cX5_stands 52 = .ok (.getfield 16, 3) := by decide +kernel
theorem dX5_stands_55 : decode cX5_stands 55 = .ok (.getfield 114, 3) := by decide +kernel
theorem dX5_stands_58 : decode cX5_stands 58 = .ok (.iload_n 1, 1) := by decide +kernel
theorem dX5_stands_59 : decode cX5_stands 59 = .ok (.aaload, 1) := by decide +kernel
theorem dX5_stands_60 : decode cX5_stands 60 = .ok (.getfield 118, 3) := by decide +kernel
theorem dX5_stands_63 : decode cX5_stands 63 = .ok (.istore 4, 2) := by decide +kernel
theorem dX5_stands_65 : decode cX5_stands 65 = .ok (.iload 4, 2) := by decide +kernel
theorem dX5_stands_67 : decode cX5_stands 67 = .ok (.ifCond .eq 14, 3) := by decide +kernel
theorem dX5_stands_70 : decode cX5_stands 70 = .ok (.iload_n 2, 1) := by decide +kernel
theorem dX5_stands_71 : decode cX5_stands 71 = .ok (.ifCond .ne 7, 3) := by decide +kernel
theorem dX5_stands_74 : decode cX5_stands 74 = .ok (.iload_n 3, 1) := by decide +kernel
theorem dX5_stands_75 : decode cX5_stands 75 = .ok (.goto 5, 3) := by decide +kernel
theorem dX5_stands_78 : decode cX5_stands 78 = .ok (.iload 4, 2) := by decide +kernel
theorem dX5_stands_80 : decode cX5_stands 80 = .ok (.ireturn, 1) := by decide +kernel
theorem dX5_stands_81 : decode cX5_stands 81 = .ok (.iinc 3 1, 3) := by decide +kernel
theorem dX5_stands_84 : decode cX5_stands 84 = .ok (.goto (-49), 3) := by decide +kernel
theorem dX5_stands_87 : decode cX5_stands 87 = .ok (.bipush (-6), 2) := by decide +kernel
theorem dX5_stands_89 : decode cX5_stands 89 = .ok (.ireturn, 1) := by decide +kernel
def st_X5_stands_L35 (x1 : Int32) (x2 : Int32) (Q : Int32 → Sg → Prop) (K35 : Int32 → Sg → Prop) (v3 : Int32) (σ : Sg) : Prop := (((200 : Int32) < v3 → Q (-6 : Int32) σ) ∧ (¬ (200 : Int32) < v3 → wp_X2_work 1 (1 : Int32) σ (fun r8 σ9 => (vp_in x1 4 ∧ ∀ a11 : Nat, a11 = x1.toNatClampNeg → ∀ z12 : Int32, z12 = (σ9 1 5 a11 7) → ((z12 = 0 → ∀ z14 : Int32, z14 = v3 + (1 : Int32) → K35 z14 σ9) ∧ (¬ z12 = 0 → ((¬ x2 = 0 → Q z12 σ9) ∧ (x2 = 0 → Q v3 σ9))))))))
def wp_X5_stands_L35 (x1 : Int32) (x2 : Int32) (Q : Int32 → Sg → Prop) (v3 : Int32) (σ : Sg) : Prop := ∃ n : Nat, lpN (fun (K : Int32 × Sg → Prop) (a : Int32 × Sg) => st_X5_stands_L35 x1 x2 Q (fun v3 σ => K (v3, σ)) (a.1) (a.2)) n (v3, σ)
set_option maxRecDepth 100000 in
set_option maxHeartbeats 4000000 in
theorem gs_X5_stands_L35 {X : Tx} {Q : Int32 → Sg → Prop} (C : Cx X cX5_stands "SweetWraps" (some .int) 4 124 5 (QI (tE X) Q)) {x1 : Int32} {x2 : Int32} {K35 : Int32 → Sg → Prop} (hK35 : ∀ (v3 : Int32) (σ : Sg), K35 v3 σ → G X σ [(0, .ref (ad (tE X) 11 10 0)), (1, .int x1), (2, .int x2), (3, .int v3)] [] 35) {v3 : Int32} {σ : Sg} (hw : st_X5_stands_L35 x1 x2 Q K35 v3 σ) : G X σ [(0, .ref (ad (tE X) 11 10 0)), (1, .int x1), (2, .int x2), (3, .int v3)] [] 35 := by
  unfold st_X5_stands_L35 at hw
  refine gx_iload_n C dX5_stands_35 3 rfl ?_
  refine gx_sipush (v := (200 : Int32)) C dX5_stands_36 (by decide) ?_
  refine gx_icmp_gt (tgt := 87) C dX5_stands_39 (by decide) (fun c7 => ?_) (fun c7 => ?_)
  · replace hw := hw.1 c7
    refine gx_bipush (v := (-6 : Int32)) C dX5_stands_87 (by decide) ?_
    exact gx_iret C rfl rfl dX5_stands_89 hw
  · replace hw := hw.2 c7
    refine gx_aload_n C dX5_stands_42 0 rfl ?_
    refine gx_get C okg_10 rfl rfl inX5 (ref := "SweetWraps") 1 (by decide) bw_160 rfl rfl dX5_stands_43 ?_
    refine gx_iconst (v := (1 : Int32)) C dX5_stands_46 (by decide) ?_
    refine gx_vcalli (As := [.int (1 : Int32)]) (rest := []) C (c_X2_work _ _ (by decide) hw) (ok0 (show 1 < 11 from by decide)) rfl rfl bw_511 bw_380 bw_381 bw_2 bw_382 hy_X2_work ⟨by decide, by decide⟩ rfl (Nat.le_of_ble_eq_true rfl) dX5_stands_47 (fun r8 σ9 hw => ?_)
    refine gx_pop C dX5_stands_50 rfl ?_
    refine gx_aload_n C dX5_stands_51 0 rfl ?_
    refine gx_get C okg_10 rfl rfl inX5 (ref := "SweetWraps") 1 (by decide) bw_160 rfl rfl dX5_stands_52 ?_
    refine gx_get C (ok0 (show 1 < 11 from by decide)) rfl rfl inX2 (ref := "SweetWraps$Machine") 1 (by decide) bw_91 rfl rfl dX5_stands_55 ?_
    refine gx_iload_n C dX5_stands_58 1 rfl ?_
    have h10 := hw.1
    replace hw := hw.2
    obtain ⟨a11, e_a11⟩ : ∃ z : Nat, z = x1.toNatClampNeg := ⟨_, rfl⟩
    replace hw := hw a11 e_a11
    have ha11 : a11 < 4 := by rw [e_a11]; exact vp_lt h10
    refine gx_aald C (ok2 (show 1 < 11 from by decide)) rfl (t0 := 3) rfl h10 (v := .ref (ad (tE X) 1 5 a11)) (by rw [e_a11]; rfl) dX5_stands_59 ?_
    refine gx_get C (ok5 (show 1 < 11 from by decide) ha11) rfl rfl inX1 (ref := "SweetWraps$Lane") 7 (by decide) bw_47 rfl rfl dX5_stands_60 ?_
    obtain ⟨z12, e_z12⟩ : ∃ z : Int32, z = (σ9 1 5 a11 7) := ⟨_, rfl⟩
    replace hw := hw z12 e_z12
    refine gx_top e_z12 ?_
    refine gx_istore (lv' := [(4, .int z12), (0, .ref (ad (tE X) 11 10 0)), (1, .int x1), (2, .int x2), (3, .int v3)]) C dX5_stands_63 (by decide) rfl ?_
    refine gx_iload C dX5_stands_65 0 rfl ?_
    refine gx_if_eq (tgt := 81) C dX5_stands_67 (by decide) (fun c13 => ?_) (fun c13 => ?_)
    · replace hw := hw.1 c13
      obtain ⟨z14, e_z14⟩ : ∃ z : Int32, z = v3 + (1 : Int32) := ⟨_, rfl⟩
      replace hw := hw z14 e_z14
      refine gx_iinc (v := z14) (lv' := [(3, .int z14), (4, .int z12), (0, .ref (ad (tE X) 11 10 0)), (1, .int x1), (2, .int x2)]) C dX5_stands_81 4 rfl (by rw [e_z14]; rfl) (by decide) rfl ?_
      refine gx_goto (tgt := 35) C dX5_stands_84 (by decide) ?_
      refine gx_sub (lv' := [(0, .ref (ad (tE X) 11 10 0)), (1, .int x1), (2, .int x2), (3, .int z14)]) [2, 3, 4, 0] rfl ?_
      exact hK35 _ _ hw
    · replace hw := hw.2 c13
      refine gx_iload_n C dX5_stands_70 3 rfl ?_
      refine gx_if_ne (tgt := 78) C dX5_stands_71 (by decide) (fun c15 => ?_) (fun c15 => ?_)
      · replace hw := hw.1 c15
        refine gx_iload C dX5_stands_78 0 rfl ?_
        exact gx_iret C rfl rfl dX5_stands_80 hw
      · replace hw := hw.2 c15
        refine gx_iload_n C dX5_stands_74 4 rfl ?_
        refine gx_goto (tgt := 80) C dX5_stands_75 (by decide) ?_
        exact gx_iret C rfl rfl dX5_stands_80 hw
set_option maxRecDepth 100000 in
set_option maxHeartbeats 4000000 in
theorem g_X5_stands_L35 {X : Tx} {Q : Int32 → Sg → Prop} (C : Cx X cX5_stands "SweetWraps" (some .int) 4 124 5 (QI (tE X) Q)) {x1 : Int32} {x2 : Int32} {v3 : Int32} {σ : Sg} (hw : wp_X5_stands_L35 x1 x2 Q v3 σ) : G X σ [(0, .ref (ad (tE X) 11 10 0)), (1, .int x1), (2, .int x2), (3, .int v3)] [] 35 := by
  obtain ⟨n, hw⟩ := hw
  exact lpN_G (P := (fun (a : Int32 × Sg) => G X (a.2) [(0, .ref (ad (tE X) 11 10 0)), (1, .int x1), (2, .int x2), (3, .int (a.1))] [] 35)) (fun K a hK h => gs_X5_stands_L35 C (fun v3 σ h => hK (v3, σ) h) h) n _ hw
def wp_X5_stands_b22 (x1 : Int32) (x2 : Int32) (Q : Int32 → Sg → Prop) (σ : Sg) : Prop := wp_X2_copyFrom 1 0 σ (fun σ6 => wp_X5_stands_L35 x1 x2 Q (1 : Int32) σ6)
set_option maxRecDepth 100000 in
set_option maxHeartbeats 4000000 in
theorem g_X5_stands_b22 {X : Tx} {Q : Int32 → Sg → Prop} (C : Cx X cX5_stands "SweetWraps" (some .int) 4 124 5 (QI (tE X) Q)) {x1 : Int32} {x2 : Int32} {σ : Sg} (hw : wp_X5_stands_b22 x1 x2 Q σ) : G X σ [(0, .ref (ad (tE X) 11 10 0)), (1, .int x1), (2, .int x2)] [] 22 := by
  unfold wp_X5_stands_b22 at hw
  refine gx_aload_n C dX5_stands_22 0 rfl ?_
  refine gx_get C okg_10 rfl rfl inX5 (ref := "SweetWraps") 1 (by decide) bw_160 rfl rfl dX5_stands_23 ?_
  refine gx_aload_n C dX5_stands_26 0 rfl ?_
  refine gx_get C okg_10 rfl rfl inX5 (ref := "SweetWraps") 0 (by decide) bw_159 rfl rfl dX5_stands_27 ?_
  refine gx_vcallv (As := [.ref (ad (tE X) 0 0 0)]) (rest := []) C (c_X2_copyFrom _ _ (by decide) (by decide) hw) (ok0 (show 1 < 11 from by decide)) rfl rfl bw_510 bw_197 bw_198 bw_2 bw_199 hy_X2_copyFrom ⟨by decide, by decide⟩ rfl (Nat.le_of_ble_eq_true rfl) dX5_stands_30 (fun σ6 hw => ?_)
  refine gx_iconst (v := (1 : Int32)) C dX5_stands_33 (by decide) ?_
  refine gx_istore_n (lv' := [(3, .int (1 : Int32)), (0, .ref (ad (tE X) 11 10 0)), (1, .int x1), (2, .int x2)]) C dX5_stands_34 (by decide) rfl ?_
  refine gx_sub (lv' := [(0, .ref (ad (tE X) 11 10 0)), (1, .int x1), (2, .int x2), (3, .int (1 : Int32))]) [1, 2, 3, 0] rfl ?_
  exact g_X5_stands_L35 C hw
def wp_X5_stands (x1 : Int32) (x2 : Int32) (σ : Sg) (Q : Int32 → Sg → Prop) : Prop := wp_X5_isIndex x1 (4 : Int32) σ (fun r1 σ2 => ((¬ r1 = 0 → ((x2 = 0 → wp_X5_stands_b22 x1 x2 Q σ2) ∧ (¬ x2 = 0 → ((x2 = (1 : Int32) → wp_X5_stands_b22 x1 x2 Q σ2) ∧ (¬ x2 = (1 : Int32) → Q (-2 : Int32) σ2))))) ∧ (r1 = 0 → Q (-1 : Int32) σ2)))
set_option maxRecDepth 100000 in
set_option maxHeartbeats 4000000 in
theorem c_X5_stands (l : Launch) (E : Ev) {x1 : Int32} {x2 : Int32} {σ : Sg} {Q : Int32 → Sg → Prop} (hw : wp_X5_stands x1 x2 σ Q) : CT l E yX5_stands cX5_stands 5 (some .int) 4 124 [.ref (ad E 11 10 0), .int x1, .int x2] σ (QI E Q) := by
  refine CT_of (by decide) (Nat.le_of_ble_eq_true rfl) (fun X h1 h2 C => ?_)
  subst h1; subst h2
  have C : Cx X cX5_stands "SweetWraps" (some .int) 4 124 5 (QI (tE X) Q) := C
  show G X σ [(0, .ref (ad (tE X) 11 10 0)), (1, .int x1), (2, .int x2)] [] 0
  unfold wp_X5_stands at hw
  refine gx_iload_n C dX5_stands_0 1 rfl ?_
  refine gx_iconst (v := (4 : Int32)) C dX5_stands_1 (by decide) ?_
  refine gx_scalli (As := [.int x1, .int (4 : Int32)]) (rest := []) C (c_X5_isIndex _ _ hw) bw_509 bw_224 bw_1 bw_225 hyS_X5_isIndex ⟨by decide, by decide⟩ rfl (Nat.le_of_ble_eq_true rfl) dX5_stands_2 (fun r1 σ2 hw => ?_)
  refine gx_if_ne (tgt := 10) C dX5_stands_5 (by decide) (fun c3 => ?_) (fun c3 => ?_)
  · replace hw := hw.1 c3
    refine gx_iload_n C dX5_stands_10 2 rfl ?_
    refine gx_if_eq (tgt := 22) C dX5_stands_11 (by decide) (fun c4 => ?_) (fun c4 => ?_)
    · replace hw := hw.1 c4
      exact g_X5_stands_b22 C hw
    · replace hw := hw.2 c4
      refine gx_iload_n C dX5_stands_14 2 rfl ?_
      refine gx_iconst (v := (1 : Int32)) C dX5_stands_15 (by decide) ?_
      refine gx_icmp_eq (tgt := 22) C dX5_stands_16 (by decide) (fun c5 => ?_) (fun c5 => ?_)
      · replace hw := hw.1 c5
        exact g_X5_stands_b22 C hw
      · replace hw := hw.2 c5
        refine gx_bipush (v := (-2 : Int32)) C dX5_stands_19 (by decide) ?_
        exact gx_iret C rfl rfl dX5_stands_21 hw
  · replace hw := hw.2 c3
    refine gx_iconst (v := (-1 : Int32)) C dX5_stands_8 (by decide) ?_
    exact gx_iret C rfl rfl dX5_stands_9 hw
theorem hy_X5_stands : yX5_stands.cls = "SweetWraps" ∧ yX5_stands.cls ≠ "java/lang/invoke/MethodHandle" ∧ yX5_stands.cls ≠ "java/lang/invoke/VarHandle" ∧ (parseMethodDescriptor yX5_stands.desc).map (fun d => d.parameters.length) = some 2 := by decide +kernel

theorem dX5_bestSpeed_0 : decode cX5_bestSpeed 0 = .ok (.iload_n 1, 1) := by decide +kernel
theorem dX5_bestSpeed_1 : decode cX5_bestSpeed 1 = .ok (.iconst 1, 1) := by decide +kernel
theorem dX5_bestSpeed_2 : decode cX5_bestSpeed 2 = .ok (.bipush 50, 2) := by decide +kernel
theorem dX5_bestSpeed_4 : decode cX5_bestSpeed 4 = .ok (.invokestatic 123, 3) := by decide +kernel
theorem dX5_bestSpeed_7 : decode cX5_bestSpeed 7 = .ok (.ifCond .ne 6, 3) := by decide +kernel
theorem dX5_bestSpeed_10 : decode cX5_bestSpeed 10 = .ok (.bipush (-2), 2) := by decide +kernel
theorem dX5_bestSpeed_12 : decode cX5_bestSpeed 12 = .ok (.ireturn, 1) := by decide +kernel
theorem dX5_bestSpeed_13 : decode cX5_bestSpeed 13 = .ok (.iload_n 2, 1) := by decide +kernel
theorem dX5_bestSpeed_14 : decode cX5_bestSpeed 14 = .ok (.ifCond .eq 11, 3) := by decide +kernel
theorem dX5_bestSpeed_17 : decode cX5_bestSpeed 17 = .ok (.iload_n 2, 1) := by decide +kernel
theorem dX5_bestSpeed_18 : decode cX5_bestSpeed 18 = .ok (.iconst 1, 1) := by decide +kernel
theorem dX5_bestSpeed_19 : decode cX5_bestSpeed 19 = .ok (.if_icmp .eq 6, 3) := by decide +kernel
theorem dX5_bestSpeed_22 : decode cX5_bestSpeed 22 = .ok (.bipush (-2), 2) := by decide +kernel
theorem dX5_bestSpeed_24 : decode cX5_bestSpeed 24 = .ok (.ireturn, 1) := by decide +kernel
theorem dX5_bestSpeed_25 : decode cX5_bestSpeed 25 = .ok (.iconst 0, 1) := by decide +kernel
theorem dX5_bestSpeed_26 : decode cX5_bestSpeed 26 = .ok (.istore_n 3, 1) := by decide +kernel
theorem dX5_bestSpeed_27 : decode cX5_bestSpeed 27 = .ok (.iconst (-1), 1) := by decide +kernel
theorem dX5_bestSpeed_28 : decode cX5_bestSpeed 28 = .ok (.istore 4, 2) := by decide +kernel
theorem dX5_bestSpeed_30 : decode cX5_bestSpeed 30 = .ok (.getstatic 127, 3) := by decide +kernel
theorem dX5_bestSpeed_33 : decode cX5_bestSpeed 33 = .ok (.iconst 0, 1) := by decide +kernel
theorem dX5_bestSpeed_34 : decode cX5_bestSpeed 34 = .ok (.iaload, 1) := by decide +kernel
theorem dX5_bestSpeed_35 : decode cX5_bestSpeed 35 = .ok (.istore 5, 2) := by decide +kernel
theorem dX5_bestSpeed_37 : decode cX5_bestSpeed 37 = .ok (.iload 5, 2) := by decide +kernel
theorem dX5_bestSpeed_39 : decode cX5_bestSpeed 39 = .ok (.getstatic 131, 3) := by decide +kernel
theorem dX5_bestSpeed_42 : decode cX5_bestSpeed 42 = .ok (.iconst 0, 1) := by decide +kernel
theorem dX5_bestSpeed_43 : decode cX5_bestSpeed 43 = .ok (.iaload, 1) := by decide +kernel
theorem dX5_bestSpeed_44 : decode cX5_bestSpeed 44 = .ok (.if_icmp .gt 55, 3) := by decide +kernel
theorem dX5_bestSpeed_47 : decode cX5_bestSpeed 47 = .ok (.aload_n 0, 1) := by decide +kernel
theorem dX5_bestSpeed_48 : decode cX5_bestSpeed 48 = .ok (.getfield 16, 3) := by decide +kernel
theorem dX5_bestSpeed_51 : decode cX5_bestSpeed 51 = .ok (.aload_n 0, 1) := by decide +kernel
theorem dX5_bestSpeed_52 : decode cX5_bestSpeed 52 = .ok (.getfield 10, 3) := by decide +kernel
theorem dX5_bestSpeed_55 : decode cX5_bestSpeed 55 = .ok (.invokevirtual 108, 3) := by decide +kernel
theorem dX5_bestSpeed_58 : decode cX5_bestSpeed 58 = .ok (.aload_n 0, 1) := by decide +kernel
theorem dX5_bestSpeed_59 : decode cX5_bestSpeed 59 = .ok (.getfield 16, 3) := by decide +kernel
theorem dX5_bestSpeed_62 : decode cX5_bestSpeed 62 = .ok (.getfield 134, 3) := by decide +kernel
theorem dX5_bestSpeed_65 : decode cX5_bestSpeed 65 = .ok (.iconst 0, 1) := by decide +kernel
theorem dX5_bestSpeed_66 : decode cX5_bestSpeed 66 = .ok (.iload 5, 2) := by decide +kernel
theorem dX5_bestSpeed_68 : decode cX5_bestSpeed 68 = .ok (.iastore, 1) := by decide +kernel
theorem dX5_bestSpeed_69 : decode cX5_bestSpeed 69 = .ok (.aload_n 0, 1) := by decide +kernel
theorem dX5_bestSpeed_70 : decode cX5_bestSpeed 70 = .ok (.getfield 16, 3) := by decide +kernel
theorem dX5_bestSpeed_73 : decode cX5_bestSpeed 73 = .ok (.iload_n 1, 1) := by decide +kernel
theorem dX5_bestSpeed_74 : decode cX5_bestSpeed 74 = .ok (.invokevirtual 111, 3) := by decide +kernel
theorem dX5_bestSpeed_77 : decode cX5_bestSpeed 77 = .ok (.istore 6, 2) := by decide +kernel
theorem dX5_bestSpeed_79 : decode cX5_bestSpeed 79 = .ok (.iload 6, 2) := by decide +kernel
theorem dX5_bestSpeed_81 : decode cX5_bestSpeed 81 = .ok (.iload 4, 2) := by decide +kernel
theorem dX5_bestSpeed_83 : decode cX5_bestSpeed 83 = .ok (.if_icmp .le 10, 3) := by decide +kernel
theorem dX5_bestSpeed_86 : decode cX5_bestSpeed 86 = .ok (.iload 5, 2) := by decide +kernel
theorem dX5_bestSpeed_88 : decode cX5_bestSpeed 88 = .ok (.istore_n 3, 1) := by decide +kernel
theorem dX5_bestSpeed_89 : decode cX5_bestSpeed 89 = .ok (.iload 6, 2) := by decide +kernel
theorem dX5_bestSpeed_91 : decode cX5_bestSpeed 91 = .ok (.istore 4, 2) := by decide +kernel
theorem dX5_bestSpeed_93 : decode cX5_bestSpeed 93 = .ok (.iinc 5 1, 3) := by decide +kernel
theorem dX5_bestSpeed_96 : decode cX5_bestSpeed 96 = .ok (.goto (-59), 3) := by decide +kernel
theorem dX5_bestSpeed_99 : decode cX5_bestSpeed 99 = .ok (.iload_n 2, 1) := by decide +kernel
theorem dX5_bestSpeed_100 : decode cX5_bestSpeed 100 = .ok (.ifCond .ne 7, 3) := by decide +kernel
theorem dX5_bestSpeed_103 : decode cX5_bestSpeed 103 = .ok (.iload_n 3, 1) := by decide +kernel
theorem dX5_bestSpeed_104 : decode cX5_bestSpeed 104 = .ok (.goto 5, 3) := by decide +kernel
theorem dX5_bestSpeed_107 : decode cX5_bestSpeed 107 = .ok (.iload 4, 2) := by decide +kernel
theorem dX5_bestSpeed_109 : decode cX5_bestSpeed 109 = .ok (.ireturn, 1) := by decide +kernel
def wp_X5_bestSpeed_b93 (x1 : Int32) (x2 : Int32) (K37 : Int32 → Int32 → Int32 → Sg → Prop) (Q : Int32 → Sg → Prop) (v3 : Int32) (v4 : Int32) (v5 : Int32) (σ : Sg) : Prop := ∀ z14 : Int32, z14 = v5 + (1 : Int32) → K37 v3 v4 z14 σ
set_option maxRecDepth 100000 in
set_option maxHeartbeats 4000000 in
theorem g_X5_bestSpeed_b93 {X : Tx} {Q : Int32 → Sg → Prop} (C : Cx X cX5_bestSpeed "SweetWraps" (some .int) 4 124 7 (QI (tE X) Q)) {x1 : Int32} {x2 : Int32} {K37 : Int32 → Int32 → Int32 → Sg → Prop} (hK37 : ∀ (v3 : Int32) (v4 : Int32) (v5 : Int32) (σ : Sg), K37 v3 v4 v5 σ → G X σ [(0, .ref (ad (tE X) 11 10 0)), (1, .int x1), (2, .int x2), (3, .int v3), (4, .int v4), (5, .int v5)] [] 37) {v3 : Int32} {v4 : Int32} {v5 : Int32} {σ : Sg} (hw : wp_X5_bestSpeed_b93 x1 x2 K37 Q v3 v4 v5 σ) : G X σ [(0, .ref (ad (tE X) 11 10 0)), (1, .int x1), (2, .int x2), (3, .int v3), (4, .int v4), (5, .int v5)] [] 93 := by
  unfold wp_X5_bestSpeed_b93 at hw
  obtain ⟨z14, e_z14⟩ : ∃ z : Int32, z = v5 + (1 : Int32) := ⟨_, rfl⟩
  replace hw := hw z14 e_z14
  refine gx_iinc (v := z14) (lv' := [(5, .int z14), (0, .ref (ad (tE X) 11 10 0)), (1, .int x1), (2, .int x2), (3, .int v3), (4, .int v4)]) C dX5_bestSpeed_93 5 rfl (by rw [e_z14]; rfl) (by decide) rfl ?_
  refine gx_goto (tgt := 37) C dX5_bestSpeed_96 (by decide) ?_
  refine gx_sub (lv' := [(0, .ref (ad (tE X) 11 10 0)), (1, .int x1), (2, .int x2), (3, .int v3), (4, .int v4), (5, .int z14)]) [1, 2, 3, 4, 5, 0] rfl ?_
  exact hK37 _ _ _ _ hw
def st_X5_bestSpeed_L37 (x1 : Int32) (x2 : Int32) (Q : Int32 → Sg → Prop) (K37 : Int32 → Int32 → Int32 → Sg → Prop) (v3 : Int32) (v4 : Int32) (v5 : Int32) (σ : Sg) : Prop := (((mst (0 : Int32).toNatClampNeg) < v5 → ((¬ x2 = 0 → Q v4 σ) ∧ (x2 = 0 → Q v3 σ))) ∧ (¬ (mst (0 : Int32).toNatClampNeg) < v5 → wp_X2_copyFrom 1 0 σ (fun σ9 => ∀ σ10 : Sg, σ10 = up σ9 1 1 0 0 v5 → wp_X2_work 1 x1 σ10 (fun r11 σ12 => ((r11 ≤ v4 → wp_X5_bestSpeed_b93 x1 x2 K37 Q v3 v4 v5 σ12) ∧ (¬ r11 ≤ v4 → wp_X5_bestSpeed_b93 x1 x2 K37 Q v5 r11 v5 σ12))))))
def wp_X5_bestSpeed_L37 (x1 : Int32) (x2 : Int32) (Q : Int32 → Sg → Prop) (v3 : Int32) (v4 : Int32) (v5 : Int32) (σ : Sg) : Prop := ∃ n : Nat, lpN (fun (K : Int32 × Int32 × Int32 × Sg → Prop) (a : Int32 × Int32 × Int32 × Sg) => st_X5_bestSpeed_L37 x1 x2 Q (fun v3 v4 v5 σ => K (v3, v4, v5, σ)) (a.1) (a.2.1) (a.2.2.1) (a.2.2.2)) n (v3, v4, v5, σ)
set_option maxRecDepth 100000 in
set_option maxHeartbeats 4000000 in
theorem gs_X5_bestSpeed_L37 {X : Tx} {Q : Int32 → Sg → Prop} (C : Cx X cX5_bestSpeed "SweetWraps" (some .int) 4 124 7 (QI (tE X) Q)) {x1 : Int32} {x2 : Int32} {K37 : Int32 → Int32 → Int32 → Sg → Prop} (hK37 : ∀ (v3 : Int32) (v4 : Int32) (v5 : Int32) (σ : Sg), K37 v3 v4 v5 σ → G X σ [(0, .ref (ad (tE X) 11 10 0)), (1, .int x1), (2, .int x2), (3, .int v3), (4, .int v4), (5, .int v5)] [] 37) {v3 : Int32} {v4 : Int32} {v5 : Int32} {σ : Sg} (hw : st_X5_bestSpeed_L37 x1 x2 Q K37 v3 v4 v5 σ) : G X σ [(0, .ref (ad (tE X) 11 10 0)), (1, .int x1), (2, .int x2), (3, .int v3), (4, .int v4), (5, .int v5)] [] 37 := by
  unfold st_X5_bestSpeed_L37 at hw
  refine gx_iload C dX5_bestSpeed_37 5 rfl ?_
  refine gx_gets1 C dX5_bestSpeed_39 bw_518 ?_
  refine gx_iconst (v := (0 : Int32)) C dX5_bestSpeed_42 (by decide) ?_
  refine gx_tab1 C (by unfold vp_in; decide) dX5_bestSpeed_43 ?_
  refine gx_icmp_gt (tgt := 99) C dX5_bestSpeed_44 (by decide) (fun c7 => ?_) (fun c7 => ?_)
  · replace hw := hw.1 c7
    refine gx_iload_n C dX5_bestSpeed_99 2 rfl ?_
    refine gx_if_ne (tgt := 107) C dX5_bestSpeed_100 (by decide) (fun c8 => ?_) (fun c8 => ?_)
    · replace hw := hw.1 c8
      refine gx_iload C dX5_bestSpeed_107 4 rfl ?_
      exact gx_iret C rfl rfl dX5_bestSpeed_109 hw
    · replace hw := hw.2 c8
      refine gx_iload_n C dX5_bestSpeed_103 3 rfl ?_
      refine gx_goto (tgt := 109) C dX5_bestSpeed_104 (by decide) ?_
      exact gx_iret C rfl rfl dX5_bestSpeed_109 hw
  · replace hw := hw.2 c7
    refine gx_aload_n C dX5_bestSpeed_47 0 rfl ?_
    refine gx_get C okg_10 rfl rfl inX5 (ref := "SweetWraps") 1 (by decide) bw_160 rfl rfl dX5_bestSpeed_48 ?_
    refine gx_aload_n C dX5_bestSpeed_51 0 rfl ?_
    refine gx_get C okg_10 rfl rfl inX5 (ref := "SweetWraps") 0 (by decide) bw_159 rfl rfl dX5_bestSpeed_52 ?_
    refine gx_vcallv (As := [.ref (ad (tE X) 0 0 0)]) (rest := []) C (c_X2_copyFrom _ _ (by decide) (by decide) hw) (ok0 (show 1 < 11 from by decide)) rfl rfl bw_510 bw_197 bw_198 bw_2 bw_199 hy_X2_copyFrom ⟨by decide, by decide⟩ rfl (Nat.le_of_ble_eq_true rfl) dX5_bestSpeed_55 (fun σ9 hw => ?_)
    refine gx_aload_n C dX5_bestSpeed_58 0 rfl ?_
    refine gx_get C okg_10 rfl rfl inX5 (ref := "SweetWraps") 1 (by decide) bw_160 rfl rfl dX5_bestSpeed_59 ?_
    refine gx_get C (ok0 (show 1 < 11 from by decide)) rfl rfl inX2 (ref := "SweetWraps$Machine") 0 (by decide) bw_89 rfl rfl dX5_bestSpeed_62 ?_
    refine gx_iconst (v := (0 : Int32)) C dX5_bestSpeed_65 (by decide) ?_
    refine gx_iload C dX5_bestSpeed_66 5 rfl ?_
    refine gx_iast C (ok1 (show 1 < 11 from by decide)) (fun _ => rfl) (n := 4) (x := (0 : Int32)) (by unfold vp_in; decide) 0 (by decide) rfl dX5_bestSpeed_68 ?_
    obtain ⟨σ10, e_σ10⟩ : ∃ z : Sg, z = up σ9 1 1 0 0 v5 := ⟨_, rfl⟩
    replace hw := hw σ10 e_σ10
    refine gx_st e_σ10 ?_
    refine gx_aload_n C dX5_bestSpeed_69 0 rfl ?_
    refine gx_get C okg_10 rfl rfl inX5 (ref := "SweetWraps") 1 (by decide) bw_160 rfl rfl dX5_bestSpeed_70 ?_
    refine gx_iload_n C dX5_bestSpeed_73 1 rfl ?_
    refine gx_vcalli (As := [.int x1]) (rest := []) C (c_X2_work _ _ (by decide) hw) (ok0 (show 1 < 11 from by decide)) rfl rfl bw_511 bw_380 bw_381 bw_2 bw_382 hy_X2_work ⟨by decide, by decide⟩ rfl (Nat.le_of_ble_eq_true rfl) dX5_bestSpeed_74 (fun r11 σ12 hw => ?_)
    refine gx_istore (lv' := [(6, .int r11), (0, .ref (ad (tE X) 11 10 0)), (1, .int x1), (2, .int x2), (3, .int v3), (4, .int v4), (5, .int v5)]) C dX5_bestSpeed_77 (by decide) rfl ?_
    refine gx_iload C dX5_bestSpeed_79 0 rfl ?_
    refine gx_iload C dX5_bestSpeed_81 5 rfl ?_
    refine gx_icmp_le (tgt := 93) C dX5_bestSpeed_83 (by decide) (fun c13 => ?_) (fun c13 => ?_)
    · replace hw := hw.1 c13
      refine gx_sub (lv' := [(0, .ref (ad (tE X) 11 10 0)), (1, .int x1), (2, .int x2), (3, .int v3), (4, .int v4), (5, .int v5)]) [1, 2, 3, 4, 5, 6] rfl ?_
      exact g_X5_bestSpeed_b93 C hK37 hw
    · replace hw := hw.2 c13
      refine gx_iload C dX5_bestSpeed_86 6 rfl ?_
      refine gx_istore_n (lv' := [(3, .int v5), (6, .int r11), (0, .ref (ad (tE X) 11 10 0)), (1, .int x1), (2, .int x2), (4, .int v4), (5, .int v5)]) C dX5_bestSpeed_88 (by decide) rfl ?_
      refine gx_iload C dX5_bestSpeed_89 1 rfl ?_
      refine gx_istore (lv' := [(4, .int r11), (3, .int v5), (6, .int r11), (0, .ref (ad (tE X) 11 10 0)), (1, .int x1), (2, .int x2), (5, .int v5)]) C dX5_bestSpeed_91 (by decide) rfl ?_
      refine gx_sub (lv' := [(0, .ref (ad (tE X) 11 10 0)), (1, .int x1), (2, .int x2), (3, .int v5), (4, .int r11), (5, .int v5)]) [3, 4, 5, 1, 0, 6] rfl ?_
      exact g_X5_bestSpeed_b93 C hK37 hw
set_option maxRecDepth 100000 in
set_option maxHeartbeats 4000000 in
theorem g_X5_bestSpeed_L37 {X : Tx} {Q : Int32 → Sg → Prop} (C : Cx X cX5_bestSpeed "SweetWraps" (some .int) 4 124 7 (QI (tE X) Q)) {x1 : Int32} {x2 : Int32} {v3 : Int32} {v4 : Int32} {v5 : Int32} {σ : Sg} (hw : wp_X5_bestSpeed_L37 x1 x2 Q v3 v4 v5 σ) : G X σ [(0, .ref (ad (tE X) 11 10 0)), (1, .int x1), (2, .int x2), (3, .int v3), (4, .int v4), (5, .int v5)] [] 37 := by
  obtain ⟨n, hw⟩ := hw
  exact lpN_G (P := (fun (a : Int32 × Int32 × Int32 × Sg) => G X (a.2.2.2) [(0, .ref (ad (tE X) 11 10 0)), (1, .int x1), (2, .int x2), (3, .int (a.1)), (4, .int (a.2.1)), (5, .int (a.2.2.1))] [] 37)) (fun K a hK h => gs_X5_bestSpeed_L37 C (fun v3 v4 v5 σ h => hK (v3, v4, v5, σ) h) h) n _ hw
def wp_X5_bestSpeed_b25 (x1 : Int32) (x2 : Int32) (Q : Int32 → Sg → Prop) (σ : Sg) : Prop := ∀ z6 : Int32, z6 = (lst (0 : Int32).toNatClampNeg) → wp_X5_bestSpeed_L37 x1 x2 Q (0 : Int32) (-1 : Int32) z6 σ
set_option maxRecDepth 100000 in
set_option maxHeartbeats 4000000 in
theorem g_X5_bestSpeed_b25 {X : Tx} {Q : Int32 → Sg → Prop} (C : Cx X cX5_bestSpeed "SweetWraps" (some .int) 4 124 7 (QI (tE X) Q)) {x1 : Int32} {x2 : Int32} {σ : Sg} (hw : wp_X5_bestSpeed_b25 x1 x2 Q σ) : G X σ [(0, .ref (ad (tE X) 11 10 0)), (1, .int x1), (2, .int x2)] [] 25 := by
  unfold wp_X5_bestSpeed_b25 at hw
  refine gx_iconst (v := (0 : Int32)) C dX5_bestSpeed_25 (by decide) ?_
  refine gx_istore_n (lv' := [(3, .int (0 : Int32)), (0, .ref (ad (tE X) 11 10 0)), (1, .int x1), (2, .int x2)]) C dX5_bestSpeed_26 (by decide) rfl ?_
  refine gx_iconst (v := (-1 : Int32)) C dX5_bestSpeed_27 (by decide) ?_
  refine gx_istore (lv' := [(4, .int (-1 : Int32)), (3, .int (0 : Int32)), (0, .ref (ad (tE X) 11 10 0)), (1, .int x1), (2, .int x2)]) C dX5_bestSpeed_28 (by decide) rfl ?_
  refine gx_gets0 C dX5_bestSpeed_30 bw_517 ?_
  refine gx_iconst (v := (0 : Int32)) C dX5_bestSpeed_33 (by decide) ?_
  refine gx_tab0 C (by unfold vp_in; decide) dX5_bestSpeed_34 ?_
  obtain ⟨z6, e_z6⟩ : ∃ z : Int32, z = (lst (0 : Int32).toNatClampNeg) := ⟨_, rfl⟩
  replace hw := hw z6 e_z6
  refine gx_top e_z6 ?_
  refine gx_istore (lv' := [(5, .int z6), (4, .int (-1 : Int32)), (3, .int (0 : Int32)), (0, .ref (ad (tE X) 11 10 0)), (1, .int x1), (2, .int x2)]) C dX5_bestSpeed_35 (by decide) rfl ?_
  refine gx_sub (lv' := [(0, .ref (ad (tE X) 11 10 0)), (1, .int x1), (2, .int x2), (3, .int (0 : Int32)), (4, .int (-1 : Int32)), (5, .int z6)]) [3, 4, 5, 2, 1, 0] rfl ?_
  exact g_X5_bestSpeed_L37 C hw
def wp_X5_bestSpeed (x1 : Int32) (x2 : Int32) (σ : Sg) (Q : Int32 → Sg → Prop) : Prop := wp_X5_isBetween x1 (1 : Int32) (50 : Int32) σ (fun r1 σ2 => ((¬ r1 = 0 → ((x2 = 0 → wp_X5_bestSpeed_b25 x1 x2 Q σ2) ∧ (¬ x2 = 0 → ((x2 = (1 : Int32) → wp_X5_bestSpeed_b25 x1 x2 Q σ2) ∧ (¬ x2 = (1 : Int32) → Q (-2 : Int32) σ2))))) ∧ (r1 = 0 → Q (-2 : Int32) σ2)))
set_option maxRecDepth 100000 in
set_option maxHeartbeats 4000000 in
theorem c_X5_bestSpeed (l : Launch) (E : Ev) {x1 : Int32} {x2 : Int32} {σ : Sg} {Q : Int32 → Sg → Prop} (hw : wp_X5_bestSpeed x1 x2 σ Q) : CT l E yX5_bestSpeed cX5_bestSpeed 7 (some .int) 4 124 [.ref (ad E 11 10 0), .int x1, .int x2] σ (QI E Q) := by
  refine CT_of (by decide) (Nat.le_of_ble_eq_true rfl) (fun X h1 h2 C => ?_)
  subst h1; subst h2
  have C : Cx X cX5_bestSpeed "SweetWraps" (some .int) 4 124 7 (QI (tE X) Q) := C
  show G X σ [(0, .ref (ad (tE X) 11 10 0)), (1, .int x1), (2, .int x2)] [] 0
  unfold wp_X5_bestSpeed at hw
  refine gx_iload_n C dX5_bestSpeed_0 1 rfl ?_
  refine gx_iconst (v := (1 : Int32)) C dX5_bestSpeed_1 (by decide) ?_
  refine gx_bipush (v := (50 : Int32)) C dX5_bestSpeed_2 (by decide) ?_
  refine gx_scalli (As := [.int x1, .int (1 : Int32), .int (50 : Int32)]) (rest := []) C (c_X5_isBetween _ _ hw) bw_516 bw_227 bw_1 bw_228 hyS_X5_isBetween ⟨by decide, by decide⟩ rfl (Nat.le_of_ble_eq_true rfl) dX5_bestSpeed_4 (fun r1 σ2 hw => ?_)
  refine gx_if_ne (tgt := 13) C dX5_bestSpeed_7 (by decide) (fun c3 => ?_) (fun c3 => ?_)
  · replace hw := hw.1 c3
    refine gx_iload_n C dX5_bestSpeed_13 2 rfl ?_
    refine gx_if_eq (tgt := 25) C dX5_bestSpeed_14 (by decide) (fun c4 => ?_) (fun c4 => ?_)
    · replace hw := hw.1 c4
      exact g_X5_bestSpeed_b25 C hw
    · replace hw := hw.2 c4
      refine gx_iload_n C dX5_bestSpeed_17 2 rfl ?_
      refine gx_iconst (v := (1 : Int32)) C dX5_bestSpeed_18 (by decide) ?_
      refine gx_icmp_eq (tgt := 25) C dX5_bestSpeed_19 (by decide) (fun c5 => ?_) (fun c5 => ?_)
      · replace hw := hw.1 c5
        exact g_X5_bestSpeed_b25 C hw
      · replace hw := hw.2 c5
        refine gx_bipush (v := (-2 : Int32)) C dX5_bestSpeed_22 (by decide) ?_
        exact gx_iret C rfl rfl dX5_bestSpeed_24 hw
  · replace hw := hw.2 c3
    refine gx_bipush (v := (-2 : Int32)) C dX5_bestSpeed_10 (by decide) ?_
    exact gx_iret C rfl rfl dX5_bestSpeed_12 hw
theorem hy_X5_bestSpeed : yX5_bestSpeed.cls = "SweetWraps" ∧ yX5_bestSpeed.cls ≠ "java/lang/invoke/MethodHandle" ∧ yX5_bestSpeed.cls ≠ "java/lang/invoke/VarHandle" ∧ (parseMethodDescriptor yX5_bestSpeed.desc).map (fun d => d.parameters.length) = some 2 := by decide +kernel

theorem dX5_ifApart_0 : decode cX5_ifApart 0 = .ok (.iload_n 1, 1) := by decide +kernel
theorem dX5_ifApart_1 : decode cX5_ifApart 1 = .ok (.bipush 6, 2) := by decide +kernel
theorem dX5_ifApart_3 : decode cX5_ifApart 3 = .ok (.invokestatic 104, 3) := by decide +kernel
theorem dX5_ifApart_6 : decode cX5_ifApart 6 = .ok (.ifCond .eq 12, 3) := by decide +kernel
theorem dX5_ifApart_9 : decode cX5_ifApart 9 = .ok (.iload_n 2, 1) := by decide +kernel
theorem dX5_ifApart_10 : decode cX5_ifApart 10 = .ok (.bipush 6, 2) := by decide +kernel
theorem dX5_ifApart_12 : decode cX5_ifApart 12 = .ok (.invokestatic 104, 3) := by decide +kernel
theorem dX5_ifApart_15 : decode cX5_ifApart 15 = .ok (.ifCond .ne 5, 3) := by decide +kernel
theorem dX5_ifApart_18 : decode cX5_ifApart 18 = .ok (.iconst (-1), 1) := by decide +kernel
theorem dX5_ifApart_19 : decode cX5_ifApart 19 = .ok (.ireturn, 1) := by decide +kernel
theorem dX5_ifApart_20 : decode cX5_ifApart 20 = .ok (.iload_n 1, 1) := by decide +kernel
theorem dX5_ifApart_21 : decode cX5_ifApart 21 = .ok (.iload_n 2, 1) := by decide +kernel
theorem dX5_ifApart_22 : decode cX5_ifApart 22 = .ok (.if_icmp .eq 13, 3) := by decide +kernel
theorem dX5_ifApart_25 : decode cX5_ifApart 25 = .ok (.iload_n 3, 1) := by decide +kernel
theorem dX5_ifApart_26 : decode cX5_ifApart 26 = .ok (.iconst 1, 1) := by decide +kernel
theorem dX5_ifApart_27 : decode cX5_ifApart 27 = .ok (.bipush 50, 2) := by decide +kernel
theorem dX5_ifApart_29 : decode cX5_ifApart 29 = .ok (.invokestatic 123, 3) := by decide +kernel
theorem dX5_ifApart_32 : decode cX5_ifApart 32 = .ok (.ifCond .ne 6, 3) := by decide +kernel
theorem dX5_ifApart_35 : decode cX5_ifApart 35 = .ok (.bipush (-2), 2) := by decide +kernel
theorem dX5_ifApart_37 : decode cX5_ifApart 37 = .ok (.ireturn, 1) := by decide +kernel
theorem dX5_ifApart_38 : decode cX5_ifApart 38 = .ok (.aload_n 0, 1) := by decide +kernel
theorem dX5_ifApart_39 : decode cX5_ifApart 39 = .ok (.getfield 16, 3) := by decide +kernel
theorem dX5_ifApart_42 : decode cX5_ifApart 42 = .ok (.aload_n 0, 1) := by decide +kernel
theorem dX5_ifApart_43 : decode cX5_ifApart 43 = .ok (.getfield 10, 3) := by decide +kernel
theorem dX5_ifApart_46 : decode cX5_ifApart 46 = .ok (.invokevirtual 108, 3) := by decide +kernel
theorem dX5_ifApart_49 : decode cX5_ifApart 49 = .ok (.aload_n 0, 1) := by decide +kernel
theorem dX5_ifApart_50 : decode cX5_ifApart 50 = .ok (.getfield 16, 3) := by decide +kernel
theorem dX5_ifApart_53 : decode cX5_ifApart 53 = .ok (.iload_n 1, 1) := by decide +kernel
theorem dX5_ifApart_54 : decode cX5_ifApart 54 = .ok (.iload_n 2, 1) := by decide +kernel
theorem dX5_ifApart_55 : decode cX5_ifApart 55 = .ok (.invokevirtual 137, 3) := by decide +kernel
theorem dX5_ifApart_58 : decode cX5_ifApart 58 = .ok (.aload_n 0, 1) := by decide +kernel
theorem dX5_ifApart_59 : decode cX5_ifApart 59 = .ok (.getfield 16, 3) := by decide +kernel
theorem dX5_ifApart_62 : decode cX5_ifApart 62 = .ok (.iload_n 3, 1) := by decide +kernel
theorem dX5_ifApart_63 : decode cX5_ifApart 63 = .ok (.invokevirtual 111, 3) := by decide +kernel
theorem dX5_ifApart_66 : decode cX5_ifApart 66 = .ok (.ireturn, 1) := by decide +kernel
def wp_X5_ifApart (x1 : Int32) (x2 : Int32) (x3 : Int32) (σ : Sg) (Q : Int32 → Sg → Prop) : Prop := wp_X5_isIndex x1 (6 : Int32) σ (fun r1 σ2 => ((r1 = 0 → Q (-1 : Int32) σ2) ∧ (¬ r1 = 0 → wp_X5_isIndex x2 (6 : Int32) σ2 (fun r4 σ5 => ((¬ r4 = 0 → ((x1 = x2 → Q (-2 : Int32) σ5) ∧ (¬ x1 = x2 → wp_X5_isBetween x3 (1 : Int32) (50 : Int32) σ5 (fun r8 σ9 => ((¬ r8 = 0 → wp_X2_copyFrom 1 0 σ9 (fun σ11 => wp_X2_switchApart 1 x1 x2 σ11 (fun σ12 => wp_X2_work 1 x3 σ12 (fun r13 σ14 => Q r13 σ14)))) ∧ (r8 = 0 → Q (-2 : Int32) σ9)))))) ∧ (r4 = 0 → Q (-1 : Int32) σ5))))))
set_option maxRecDepth 100000 in
set_option maxHeartbeats 4000000 in
theorem c_X5_ifApart (l : Launch) (E : Ev) {x1 : Int32} {x2 : Int32} {x3 : Int32} {σ : Sg} {Q : Int32 → Sg → Prop} (hw : wp_X5_ifApart x1 x2 x3 σ Q) : CT l E yX5_ifApart cX5_ifApart 4 (some .int) 4 124 [.ref (ad E 11 10 0), .int x1, .int x2, .int x3] σ (QI E Q) := by
  refine CT_of (by decide) (Nat.le_of_ble_eq_true rfl) (fun X h1 h2 C => ?_)
  subst h1; subst h2
  have C : Cx X cX5_ifApart "SweetWraps" (some .int) 4 124 4 (QI (tE X) Q) := C
  show G X σ [(0, .ref (ad (tE X) 11 10 0)), (1, .int x1), (2, .int x2), (3, .int x3)] [] 0
  unfold wp_X5_ifApart at hw
  refine gx_iload_n C dX5_ifApart_0 1 rfl ?_
  refine gx_bipush (v := (6 : Int32)) C dX5_ifApart_1 (by decide) ?_
  refine gx_scalli (As := [.int x1, .int (6 : Int32)]) (rest := []) C (c_X5_isIndex _ _ hw) bw_509 bw_224 bw_1 bw_225 hyS_X5_isIndex ⟨by decide, by decide⟩ rfl (Nat.le_of_ble_eq_true rfl) dX5_ifApart_3 (fun r1 σ2 hw => ?_)
  refine gx_if_eq (tgt := 18) C dX5_ifApart_6 (by decide) (fun c3 => ?_) (fun c3 => ?_)
  · replace hw := hw.1 c3
    refine gx_iconst (v := (-1 : Int32)) C dX5_ifApart_18 (by decide) ?_
    exact gx_iret C rfl rfl dX5_ifApart_19 hw
  · replace hw := hw.2 c3
    refine gx_iload_n C dX5_ifApart_9 2 rfl ?_
    refine gx_bipush (v := (6 : Int32)) C dX5_ifApart_10 (by decide) ?_
    refine gx_scalli (As := [.int x2, .int (6 : Int32)]) (rest := []) C (c_X5_isIndex _ _ hw) bw_509 bw_224 bw_1 bw_225 hyS_X5_isIndex ⟨by decide, by decide⟩ rfl (Nat.le_of_ble_eq_true rfl) dX5_ifApart_12 (fun r4 σ5 hw => ?_)
    refine gx_if_ne (tgt := 20) C dX5_ifApart_15 (by decide) (fun c6 => ?_) (fun c6 => ?_)
    · replace hw := hw.1 c6
      refine gx_iload_n C dX5_ifApart_20 1 rfl ?_
      refine gx_iload_n C dX5_ifApart_21 2 rfl ?_
      refine gx_icmp_eq (tgt := 35) C dX5_ifApart_22 (by decide) (fun c7 => ?_) (fun c7 => ?_)
      · replace hw := hw.1 c7
        refine gx_bipush (v := (-2 : Int32)) C dX5_ifApart_35 (by decide) ?_
        exact gx_iret C rfl rfl dX5_ifApart_37 hw
      · replace hw := hw.2 c7
        refine gx_iload_n C dX5_ifApart_25 3 rfl ?_
        refine gx_iconst (v := (1 : Int32)) C dX5_ifApart_26 (by decide) ?_
        refine gx_bipush (v := (50 : Int32)) C dX5_ifApart_27 (by decide) ?_
        refine gx_scalli (As := [.int x3, .int (1 : Int32), .int (50 : Int32)]) (rest := []) C (c_X5_isBetween _ _ hw) bw_516 bw_227 bw_1 bw_228 hyS_X5_isBetween ⟨by decide, by decide⟩ rfl (Nat.le_of_ble_eq_true rfl) dX5_ifApart_29 (fun r8 σ9 hw => ?_)
        refine gx_if_ne (tgt := 38) C dX5_ifApart_32 (by decide) (fun c10 => ?_) (fun c10 => ?_)
        · replace hw := hw.1 c10
          refine gx_aload_n C dX5_ifApart_38 0 rfl ?_
          refine gx_get C okg_10 rfl rfl inX5 (ref := "SweetWraps") 1 (by decide) bw_160 rfl rfl dX5_ifApart_39 ?_
          refine gx_aload_n C dX5_ifApart_42 0 rfl ?_
          refine gx_get C okg_10 rfl rfl inX5 (ref := "SweetWraps") 0 (by decide) bw_159 rfl rfl dX5_ifApart_43 ?_
          refine gx_vcallv (As := [.ref (ad (tE X) 0 0 0)]) (rest := []) C (c_X2_copyFrom _ _ (by decide) (by decide) hw) (ok0 (show 1 < 11 from by decide)) rfl rfl bw_510 bw_197 bw_198 bw_2 bw_199 hy_X2_copyFrom ⟨by decide, by decide⟩ rfl (Nat.le_of_ble_eq_true rfl) dX5_ifApart_46 (fun σ11 hw => ?_)
          refine gx_aload_n C dX5_ifApart_49 0 rfl ?_
          refine gx_get C okg_10 rfl rfl inX5 (ref := "SweetWraps") 1 (by decide) bw_160 rfl rfl dX5_ifApart_50 ?_
          refine gx_iload_n C dX5_ifApart_53 1 rfl ?_
          refine gx_iload_n C dX5_ifApart_54 2 rfl ?_
          refine gx_vcallv (As := [.int x1, .int x2]) (rest := []) C (c_X2_switchApart _ _ (by decide) hw) (ok0 (show 1 < 11 from by decide)) rfl rfl bw_523 bw_356 bw_357 bw_2 bw_358 hy_X2_switchApart ⟨by decide, by decide⟩ rfl (Nat.le_of_ble_eq_true rfl) dX5_ifApart_55 (fun σ12 hw => ?_)
          refine gx_aload_n C dX5_ifApart_58 0 rfl ?_
          refine gx_get C okg_10 rfl rfl inX5 (ref := "SweetWraps") 1 (by decide) bw_160 rfl rfl dX5_ifApart_59 ?_
          refine gx_iload_n C dX5_ifApart_62 3 rfl ?_
          refine gx_vcalli (As := [.int x3]) (rest := []) C (c_X2_work _ _ (by decide) hw) (ok0 (show 1 < 11 from by decide)) rfl rfl bw_511 bw_380 bw_381 bw_2 bw_382 hy_X2_work ⟨by decide, by decide⟩ rfl (Nat.le_of_ble_eq_true rfl) dX5_ifApart_63 (fun r13 σ14 hw => ?_)
          exact gx_iret C rfl rfl dX5_ifApart_66 hw
        · replace hw := hw.2 c10
          refine gx_bipush (v := (-2 : Int32)) C dX5_ifApart_35 (by decide) ?_
          exact gx_iret C rfl rfl dX5_ifApart_37 hw
    · replace hw := hw.2 c6
      refine gx_iconst (v := (-1 : Int32)) C dX5_ifApart_18 (by decide) ?_
      exact gx_iret C rfl rfl dX5_ifApart_19 hw
theorem hy_X5_ifApart : yX5_ifApart.cls = "SweetWraps" ∧ yX5_ifApart.cls ≠ "java/lang/invoke/MethodHandle" ∧ yX5_ifApart.cls ≠ "java/lang/invoke/VarHandle" ∧ (parseMethodDescriptor yX5_ifApart.desc).map (fun d => d.parameters.length) = some 3 := by decide +kernel

theorem dX5_tinsFor_0 : decode cX5_tinsFor 0 = .ok (.aload_n 0, 1) := by decide +kernel
theorem dX5_tinsFor_1 : decode cX5_tinsFor 1 = .ok (.getfield 10, 3) := by decide +kernel
theorem dX5_tinsFor_4 : decode cX5_tinsFor 4 = .ok (.invokevirtual 141, 3) := by decide +kernel
theorem dX5_tinsFor_7 : decode cX5_tinsFor 7 = .ok (.ireturn, 1) := by decide +kernel
def wp_X5_tinsFor (σ : Sg) (Q : Int32 → Sg → Prop) : Prop := wp_X2_tinsForHoppers 0 σ (fun r1 σ2 => Q r1 σ2)
set_option maxRecDepth 100000 in
set_option maxHeartbeats 4000000 in
theorem c_X5_tinsFor (l : Launch) (E : Ev) {σ : Sg} {Q : Int32 → Sg → Prop} (hw : wp_X5_tinsFor σ Q) : CT l E yX5_tinsFor cX5_tinsFor 1 (some .int) 3 69 [.ref (ad E 11 10 0)] σ (QI E Q) := by
  refine CT_of (by decide) (Nat.le_of_ble_eq_true rfl) (fun X h1 h2 C => ?_)
  subst h1; subst h2
  have C : Cx X cX5_tinsFor "SweetWraps" (some .int) 3 69 1 (QI (tE X) Q) := C
  show G X σ [(0, .ref (ad (tE X) 11 10 0))] [] 0
  unfold wp_X5_tinsFor at hw
  refine gx_aload_n C dX5_tinsFor_0 0 rfl ?_
  refine gx_get C okg_10 rfl rfl inX5 (ref := "SweetWraps") 0 (by decide) bw_159 rfl rfl dX5_tinsFor_1 ?_
  refine gx_vcalli (As := []) (rest := []) C (c_X2_tinsForHoppers _ _ (by decide) hw) (ok0 (show 0 < 11 from by decide)) rfl rfl bw_467 bw_468 bw_469 bw_2 bw_470 hy_X2_tinsForHoppers ⟨by decide, by decide⟩ rfl (Nat.le_of_ble_eq_true rfl) dX5_tinsFor_4 (fun r1 σ2 hw => ?_)
  exact gx_iret C rfl rfl dX5_tinsFor_7 hw
theorem hy_X5_tinsFor : yX5_tinsFor.cls = "SweetWraps" ∧ yX5_tinsFor.cls ≠ "java/lang/invoke/MethodHandle" ∧ yX5_tinsFor.cls ≠ "java/lang/invoke/VarHandle" ∧ (parseMethodDescriptor yX5_tinsFor.desc).map (fun d => d.parameters.length) = some 0 := by decide +kernel

theorem dX5_undo_0 : decode cX5_undo 0 = .ok (.aload_n 0, 1) := by decide +kernel
theorem dX5_undo_1 : decode cX5_undo 1 = .ok (.getfield 22, 3) := by decide +kernel
theorem dX5_undo_4 : decode cX5_undo 4 = .ok (.aload_n 0, 1) := by decide +kernel
theorem dX5_undo_5 : decode cX5_undo 5 = .ok (.getfield 10, 3) := by decide +kernel
theorem dX5_undo_8 : decode cX5_undo 8 = .ok (.invokevirtual 174, 3) := by decide +kernel
theorem dX5_undo_11 : decode cX5_undo 11 = .ok (.ireturn, 1) := by decide +kernel
def wp_X5_undo (σ : Sg) (Q : Int32 → Sg → Prop) : Prop := wp_X0_stepBack 0 σ (fun r1 σ2 => Q r1 σ2)
set_option maxRecDepth 100000 in
set_option maxHeartbeats 4000000 in
theorem c_X5_undo (l : Launch) (E : Ev) {σ : Sg} {Q : Int32 → Sg → Prop} (hw : wp_X5_undo σ Q) : CT l E yX5_undo cX5_undo 1 (some .int) 5 145 [.ref (ad E 11 10 0)] σ (QI E Q) := by
  refine CT_of (by decide) (Nat.le_of_ble_eq_true rfl) (fun X h1 h2 C => ?_)
  subst h1; subst h2
  have C : Cx X cX5_undo "SweetWraps" (some .int) 5 145 1 (QI (tE X) Q) := C
  show G X σ [(0, .ref (ad (tE X) 11 10 0))] [] 0
  unfold wp_X5_undo at hw
  refine gx_aload_n C dX5_undo_0 0 rfl ?_
  refine gx_get C okg_10 rfl rfl inX5 (ref := "SweetWraps") 2 (by decide) bw_161 rfl rfl dX5_undo_1 ?_
  refine gx_aload_n C dX5_undo_4 0 rfl ?_
  refine gx_get C okg_10 rfl rfl inX5 (ref := "SweetWraps") 0 (by decide) bw_159 rfl rfl dX5_undo_5 ?_
  refine gx_vcalli (As := [.ref (ad (tE X) 0 0 0)]) (rest := []) C (c_X0_stepBack _ _ (by decide) hw) okg_11 rfl rfl bw_528 bw_529 bw_530 bw_5 bw_531 hy_X0_stepBack ⟨by decide, by decide⟩ rfl (Nat.le_of_ble_eq_true rfl) dX5_undo_8 (fun r1 σ2 hw => ?_)
  exact gx_iret C rfl rfl dX5_undo_11 hw
theorem hy_X5_undo : yX5_undo.cls = "SweetWraps" ∧ yX5_undo.cls ≠ "java/lang/invoke/MethodHandle" ∧ yX5_undo.cls ≠ "java/lang/invoke/VarHandle" ∧ (parseMethodDescriptor yX5_undo.desc).map (fun d => d.parameters.length) = some 0 := by decide +kernel
