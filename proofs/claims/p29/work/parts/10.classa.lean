theorem dX1_copyFrom_0 : decode cX1_copyFrom 0 = .ok (.aload_n 1, 1) := by decide +kernel
theorem dX1_copyFrom_1 : decode cX1_copyFrom 1 = .ok (.getfield 9, 3) := by decide +kernel
theorem dX1_copyFrom_4 : decode cX1_copyFrom 4 = .ok (.aload_n 0, 1) := by decide +kernel
theorem dX1_copyFrom_5 : decode cX1_copyFrom 5 = .ok (.getfield 9, 3) := by decide +kernel
theorem dX1_copyFrom_8 : decode cX1_copyFrom 8 = .ok (.invokestatic 18, 3) := by decide +kernel
theorem dX1_copyFrom_11 : decode cX1_copyFrom 11 = .ok (.aload_n 1, 1) := by decide +kernel
theorem dX1_copyFrom_12 : decode cX1_copyFrom 12 = .ok (.getfield 15, 3) := by decide +kernel
theorem dX1_copyFrom_15 : decode cX1_copyFrom 15 = .ok (.aload_n 0, 1) := by decide +kernel
theorem dX1_copyFrom_16 : decode cX1_copyFrom 16 = .ok (.getfield 15, 3) := by decide +kernel
theorem dX1_copyFrom_19 : decode cX1_copyFrom 19 = .ok (.invokestatic 18, 3) := by decide +kernel
theorem dX1_copyFrom_22 : decode cX1_copyFrom 22 = .ok (.aload_n 0, 1) := by decide +kernel
theorem dX1_copyFrom_23 : decode cX1_copyFrom 23 = .ok (.aload_n 1, 1) := by decide +kernel
theorem dX1_copyFrom_24 : decode cX1_copyFrom 24 = .ok (.getfield 22, 3) := by decide +kernel
theorem dX1_copyFrom_27 : decode cX1_copyFrom 27 = .ok (.putfield 22, 3) := by decide +kernel
theorem dX1_copyFrom_30 : decode cX1_copyFrom 30 = .ok (.aload_n 0, 1) := by decide +kernel
theorem dX1_copyFrom_31 : decode cX1_copyFrom 31 = .ok (.aload_n 1, 1) := by decide +kernel
theorem dX1_copyFrom_32 : decode cX1_copyFrom 32 = .ok (.getfield 26, 3) := by decide +kernel
theorem dX1_copyFrom_35 : decode cX1_copyFrom 35 = .ok (.putfield 26, 3) := by decide +kernel
theorem dX1_copyFrom_38 : decode cX1_copyFrom 38 = .ok (.aload_n 0, 1) := by decide +kernel
theorem dX1_copyFrom_39 : decode cX1_copyFrom 39 = .ok (.aload_n 1, 1) := by decide +kernel
theorem dX1_copyFrom_40 : decode cX1_copyFrom 40 = .ok (.getfield 29, 3) := by decide +kernel
theorem dX1_copyFrom_43 : decode cX1_copyFrom 43 = .ok (.putfield 29, 3) := by decide +kernel
theorem dX1_copyFrom_46 : decode cX1_copyFrom 46 = .ok (.aload_n 0, 1) := by decide +kernel
theorem dX1_copyFrom_47 : decode cX1_copyFrom 47 = .ok (.aload_n 1, 1) := by decide +kernel
theorem dX1_copyFrom_48 : decode cX1_copyFrom 48 = .ok (.getfield 32, 3) := by decide +kernel
theorem dX1_copyFrom_51 : decode cX1_copyFrom 51 = .ok (.putfield 32, 3) := by decide +kernel
theorem dX1_copyFrom_54 : decode cX1_copyFrom 54 = .ok (.aload_n 0, 1) := by decide +kernel
theorem dX1_copyFrom_55 : decode cX1_copyFrom 55 = .ok (.aload_n 1, 1) := by decide +kernel
theorem dX1_copyFrom_56 : decode cX1_copyFrom 56 = .ok (.getfield 35, 3) := by decide +kernel
theorem dX1_copyFrom_59 : decode cX1_copyFrom 59 = .ok (.putfield 35, 3) := by decide +kernel
theorem dX1_copyFrom_62 : decode cX1_copyFrom 62 = .ok (.return_, 1) := by decide +kernel
def wp_X1_copyFrom (m : Nat) (i : Nat) (m1 : Nat) (i1 : Nat) (σ : Sg) (Q : Sg → Prop) : Prop := ∀ σ1 : Sg, σ1 = ua σ m 6 i (va_cpy (σ m1 6 i1) (σ m 6 i) 0 0 6) → ∀ σ2 : Sg, σ2 = ua σ1 m 7 i (va_cpy (σ1 m1 7 i1) (σ1 m 7 i) 0 0 6) → ∀ σ3 : Sg, σ3 = up σ2 m 5 i 2 (σ2 m1 5 i1 2) → ∀ σ4 : Sg, σ4 = up σ3 m 5 i 3 (σ3 m1 5 i1 3) → ∀ σ5 : Sg, σ5 = up σ4 m 5 i 4 (σ4 m1 5 i1 4) → ∀ σ6 : Sg, σ6 = up σ5 m 5 i 5 (σ5 m1 5 i1 5) → ∀ σ7 : Sg, σ7 = up σ6 m 5 i 6 (σ6 m1 5 i1 6) → Q σ7
set_option maxRecDepth 100000 in
set_option maxHeartbeats 4000000 in
theorem c_X1_copyFrom (l : Launch) (E : Ev) {m : Nat} {i : Nat} {m1 : Nat} {i1 : Nat} (hm : m < 11) (hi : i < 4) (hm1 : m1 < 11) (hi1 : i1 < 4) {σ : Sg} {Q : Sg → Prop} (hw : wp_X1_copyFrom m i m1 i1 σ Q) : CT l E yX1_copyFrom cX1_copyFrom 2 none 2 81 [.ref (ad E m 5 i), .ref (ad E m1 5 i1)] σ (QV E Q) := by
  refine CT_of (by decide) (Nat.le_of_ble_eq_true rfl) (fun X h1 h2 C => ?_)
  subst h1; subst h2
  have C : Cx X cX1_copyFrom "SweetWraps$Lane" none 2 81 2 (QV (tE X) Q) := C
  show G X σ [(0, .ref (ad (tE X) m 5 i)), (1, .ref (ad (tE X) m1 5 i1))] [] 0
  unfold wp_X1_copyFrom at hw
  refine gx_aload_n C dX1_copyFrom_0 1 rfl ?_
  refine gx_get C (ok5 hm1 hi1) rfl rfl inX1 (ref := "SweetWraps$Lane") 0 (by decide) bw_32 rfl rfl dX1_copyFrom_1 ?_
  refine gx_aload_n C dX1_copyFrom_4 0 rfl ?_
  refine gx_get C (ok5 hm hi) rfl rfl inX1 (ref := "SweetWraps$Lane") 0 (by decide) bw_32 rfl rfl dX1_copyFrom_5 ?_
  refine gx_ncallv (As := [.ref (ad (tE X) m1 6 i1), .ref (ad (tE X) m 6 i)]) (rest := []) (host := "SweetWraps") C (c_X5_copyNumbers _ _ (ok6 hm1 hi1) (ok6 hm hi) (n := 6) (by decide) (fun _ _ _ => rfl)) (nest_in _ (by decide +kernel)) bw_201 bw_1 bw_202 hyS_X5_copyNumbers ⟨by decide, by decide⟩ rfl (Nat.le_of_ble_eq_true rfl) dX1_copyFrom_8 (fun σ9 h9 => ?_)
  subst h9
  obtain ⟨σ1, e_σ1⟩ : ∃ z : Sg, z = ua σ m 6 i (va_cpy (σ m1 6 i1) (σ m 6 i) 0 0 6) := ⟨_, rfl⟩
  replace hw := hw σ1 e_σ1
  refine gx_sg e_σ1 ?_
  refine gx_aload_n C dX1_copyFrom_11 1 rfl ?_
  refine gx_get C (ok5 hm1 hi1) rfl rfl inX1 (ref := "SweetWraps$Lane") 1 (by decide) bw_34 rfl rfl dX1_copyFrom_12 ?_
  refine gx_aload_n C dX1_copyFrom_15 0 rfl ?_
  refine gx_get C (ok5 hm hi) rfl rfl inX1 (ref := "SweetWraps$Lane") 1 (by decide) bw_34 rfl rfl dX1_copyFrom_16 ?_
  refine gx_ncallv (As := [.ref (ad (tE X) m1 7 i1), .ref (ad (tE X) m 7 i)]) (rest := []) (host := "SweetWraps") C (c_X5_copyNumbers _ _ (ok7 hm1 hi1) (ok7 hm hi) (n := 6) (by decide) (fun _ _ _ => rfl)) (nest_in _ (by decide +kernel)) bw_201 bw_1 bw_202 hyS_X5_copyNumbers ⟨by decide, by decide⟩ rfl (Nat.le_of_ble_eq_true rfl) dX1_copyFrom_19 (fun σ9 h9 => ?_)
  subst h9
  obtain ⟨σ2, e_σ2⟩ : ∃ z : Sg, z = ua σ1 m 7 i (va_cpy (σ1 m1 7 i1) (σ1 m 7 i) 0 0 6) := ⟨_, rfl⟩
  replace hw := hw σ2 e_σ2
  refine gx_sg e_σ2 ?_
  refine gx_aload_n C dX1_copyFrom_22 0 rfl ?_
  refine gx_aload_n C dX1_copyFrom_23 1 rfl ?_
  refine gx_get C (ok5 hm1 hi1) rfl rfl inX1 (ref := "SweetWraps$Lane") 2 (by decide) bw_36 rfl rfl dX1_copyFrom_24 ?_
  refine gx_put C (ok5 hm hi) rfl rfl inX1 tyX1 tyX1_ok nmX1 (ref := "SweetWraps$Lane") 2 (by decide) bw_36 rfl rfl (v := .int (σ2 m1 5 i1 2)) rfl rfl (Nat.le_of_ble_eq_true rfl) (upd (σ2 m 5 i) 2 (σ2 m1 5 i1 2)) rfl dX1_copyFrom_27 ?_
  obtain ⟨σ3, e_σ3⟩ : ∃ z : Sg, z = up σ2 m 5 i 2 (σ2 m1 5 i1 2) := ⟨_, rfl⟩
  replace hw := hw σ3 e_σ3
  refine gx_st e_σ3 ?_
  refine gx_aload_n C dX1_copyFrom_30 0 rfl ?_
  refine gx_aload_n C dX1_copyFrom_31 1 rfl ?_
  refine gx_get C (ok5 hm1 hi1) rfl rfl inX1 (ref := "SweetWraps$Lane") 3 (by decide) bw_38 rfl rfl dX1_copyFrom_32 ?_
  refine gx_put C (ok5 hm hi) rfl rfl inX1 tyX1 tyX1_ok nmX1 (ref := "SweetWraps$Lane") 3 (by decide) bw_38 rfl rfl (v := .int (σ3 m1 5 i1 3)) rfl rfl (Nat.le_of_ble_eq_true rfl) (upd (σ3 m 5 i) 3 (σ3 m1 5 i1 3)) rfl dX1_copyFrom_35 ?_
  obtain ⟨σ4, e_σ4⟩ : ∃ z : Sg, z = up σ3 m 5 i 3 (σ3 m1 5 i1 3) := ⟨_, rfl⟩
  replace hw := hw σ4 e_σ4
  refine gx_st e_σ4 ?_
  refine gx_aload_n C dX1_copyFrom_38 0 rfl ?_
  refine gx_aload_n C dX1_copyFrom_39 1 rfl ?_
  refine gx_get C (ok5 hm1 hi1) rfl rfl inX1 (ref := "SweetWraps$Lane") 4 (by decide) bw_40 rfl rfl dX1_copyFrom_40 ?_
  refine gx_put C (ok5 hm hi) rfl rfl inX1 tyX1 tyX1_ok nmX1 (ref := "SweetWraps$Lane") 4 (by decide) bw_40 rfl rfl (v := .int (σ4 m1 5 i1 4)) rfl rfl (Nat.le_of_ble_eq_true rfl) (upd (σ4 m 5 i) 4 (σ4 m1 5 i1 4)) rfl dX1_copyFrom_43 ?_
  obtain ⟨σ5, e_σ5⟩ : ∃ z : Sg, z = up σ4 m 5 i 4 (σ4 m1 5 i1 4) := ⟨_, rfl⟩
  replace hw := hw σ5 e_σ5
  refine gx_st e_σ5 ?_
  refine gx_aload_n C dX1_copyFrom_46 0 rfl ?_
  refine gx_aload_n C dX1_copyFrom_47 1 rfl ?_
  refine gx_get C (ok5 hm1 hi1) rfl rfl inX1 (ref := "SweetWraps$Lane") 5 (by decide) bw_42 rfl rfl dX1_copyFrom_48 ?_
  refine gx_put C (ok5 hm hi) rfl rfl inX1 tyX1 tyX1_ok nmX1 (ref := "SweetWraps$Lane") 5 (by decide) bw_42 rfl rfl (v := .int (σ5 m1 5 i1 5)) rfl rfl (Nat.le_of_ble_eq_true rfl) (upd (σ5 m 5 i) 5 (σ5 m1 5 i1 5)) rfl dX1_copyFrom_51 ?_
  obtain ⟨σ6, e_σ6⟩ : ∃ z : Sg, z = up σ5 m 5 i 5 (σ5 m1 5 i1 5) := ⟨_, rfl⟩
  replace hw := hw σ6 e_σ6
  refine gx_st e_σ6 ?_
  refine gx_aload_n C dX1_copyFrom_54 0 rfl ?_
  refine gx_aload_n C dX1_copyFrom_55 1 rfl ?_
  refine gx_get C (ok5 hm1 hi1) rfl rfl inX1 (ref := "SweetWraps$Lane") 6 (by decide) bw_44 rfl rfl dX1_copyFrom_56 ?_
  refine gx_put C (ok5 hm hi) rfl rfl inX1 tyX1 tyX1_ok nmX1 (ref := "SweetWraps$Lane") 6 (by decide) bw_44 rfl rfl (v := .int (σ6 m1 5 i1 6)) rfl rfl (Nat.le_of_ble_eq_true rfl) (upd (σ6 m 5 i) 6 (σ6 m1 5 i1 6)) rfl dX1_copyFrom_59 ?_
  obtain ⟨σ7, e_σ7⟩ : ∃ z : Sg, z = up σ6 m 5 i 6 (σ6 m1 5 i1 6) := ⟨_, rfl⟩
  replace hw := hw σ7 e_σ7
  refine gx_st e_σ7 ?_
  exact gx_vret C dX1_copyFrom_62 hw
theorem hy_X1_copyFrom : yX1_copyFrom.cls = "SweetWraps$Lane" ∧ yX1_copyFrom.cls ≠ "java/lang/invoke/MethodHandle" ∧ yX1_copyFrom.cls ≠ "java/lang/invoke/VarHandle" ∧ (parseMethodDescriptor yX1_copyFrom.desc).map (fun d => d.parameters.length) = some 1 := by decide +kernel

theorem dX4_copyFrom_0 : decode cX4_copyFrom 0 = .ok (.aload_n 1, 1) := by decide +kernel
theorem dX4_copyFrom_1 : decode cX4_copyFrom 1 = .ok (.getfield 9, 3) := by decide +kernel
theorem dX4_copyFrom_4 : decode cX4_copyFrom 4 = .ok (.aload_n 0, 1) := by decide +kernel
theorem dX4_copyFrom_5 : decode cX4_copyFrom 5 = .ok (.getfield 9, 3) := by decide +kernel
theorem dX4_copyFrom_8 : decode cX4_copyFrom 8 = .ok (.invokestatic 15, 3) := by decide +kernel
theorem dX4_copyFrom_11 : decode cX4_copyFrom 11 = .ok (.aload_n 0, 1) := by decide +kernel
theorem dX4_copyFrom_12 : decode cX4_copyFrom 12 = .ok (.aload_n 1, 1) := by decide +kernel
theorem dX4_copyFrom_13 : decode cX4_copyFrom 13 = .ok (.getfield 19, 3) := by decide +kernel
theorem dX4_copyFrom_16 : decode cX4_copyFrom 16 = .ok (.putfield 19, 3) := by decide +kernel
theorem dX4_copyFrom_19 : decode cX4_copyFrom 19 = .ok (.aload_n 0, 1) := by decide +kernel
theorem dX4_copyFrom_20 : decode cX4_copyFrom 20 = .ok (.aload_n 1, 1) := by decide +kernel
theorem dX4_copyFrom_21 : decode cX4_copyFrom 21 = .ok (.getfield 23, 3) := by decide +kernel
theorem dX4_copyFrom_24 : decode cX4_copyFrom 24 = .ok (.putfield 23, 3) := by decide +kernel
theorem dX4_copyFrom_27 : decode cX4_copyFrom 27 = .ok (.aload_n 0, 1) := by decide +kernel
theorem dX4_copyFrom_28 : decode cX4_copyFrom 28 = .ok (.aload_n 1, 1) := by decide +kernel
theorem dX4_copyFrom_29 : decode cX4_copyFrom 29 = .ok (.getfield 26, 3) := by decide +kernel
theorem dX4_copyFrom_32 : decode cX4_copyFrom 32 = .ok (.putfield 26, 3) := by decide +kernel
theorem dX4_copyFrom_35 : decode cX4_copyFrom 35 = .ok (.return_, 1) := by decide +kernel
def wp_X4_copyFrom (m : Nat) (i : Nat) (m1 : Nat) (i1 : Nat) (σ : Sg) (Q : Sg → Prop) : Prop := ∀ σ1 : Sg, σ1 = ua σ m 9 i (va_cpy (σ m1 9 i1) (σ m 9 i) 0 0 6) → ∀ σ2 : Sg, σ2 = up σ1 m 8 i 1 (σ1 m1 8 i1 1) → ∀ σ3 : Sg, σ3 = up σ2 m 8 i 2 (σ2 m1 8 i1 2) → (((σ3 m1 8 i1 3) = 0 ∨ (σ3 m1 8 i1 3) = 1) ∧ ∀ σ5 : Sg, σ5 = up σ3 m 8 i 3 (σ3 m1 8 i1 3) → Q σ5)
set_option maxRecDepth 100000 in
set_option maxHeartbeats 4000000 in
theorem c_X4_copyFrom (l : Launch) (E : Ev) {m : Nat} {i : Nat} {m1 : Nat} {i1 : Nat} (hm : m < 11) (hi : i < 16) (hm1 : m1 < 11) (hi1 : i1 < 16) {σ : Sg} {Q : Sg → Prop} (hw : wp_X4_copyFrom m i m1 i1 σ Q) : CT l E yX4_copyFrom cX4_copyFrom 2 none 2 81 [.ref (ad E m 8 i), .ref (ad E m1 8 i1)] σ (QV E Q) := by
  refine CT_of (by decide) (Nat.le_of_ble_eq_true rfl) (fun X h1 h2 C => ?_)
  subst h1; subst h2
  have C : Cx X cX4_copyFrom "SweetWraps$Tin" none 2 81 2 (QV (tE X) Q) := C
  show G X σ [(0, .ref (ad (tE X) m 8 i)), (1, .ref (ad (tE X) m1 8 i1))] [] 0
  unfold wp_X4_copyFrom at hw
  refine gx_aload_n C dX4_copyFrom_0 1 rfl ?_
  refine gx_get C (ok8 hm1 hi1) rfl rfl inX4 (ref := "SweetWraps$Tin") 0 (by decide) bw_71 rfl rfl dX4_copyFrom_1 ?_
  refine gx_aload_n C dX4_copyFrom_4 0 rfl ?_
  refine gx_get C (ok8 hm hi) rfl rfl inX4 (ref := "SweetWraps$Tin") 0 (by decide) bw_71 rfl rfl dX4_copyFrom_5 ?_
  refine gx_ncallv (As := [.ref (ad (tE X) m1 9 i1), .ref (ad (tE X) m 9 i)]) (rest := []) (host := "SweetWraps") C (c_X5_copyNumbers _ _ (ok9 hm1 hi1) (ok9 hm hi) (n := 6) (by decide) (fun _ _ _ => rfl)) (nest_in _ (by decide +kernel)) bw_201 bw_1 bw_202 hyS_X5_copyNumbers ⟨by decide, by decide⟩ rfl (Nat.le_of_ble_eq_true rfl) dX4_copyFrom_8 (fun σ9 h9 => ?_)
  subst h9
  obtain ⟨σ1, e_σ1⟩ : ∃ z : Sg, z = ua σ m 9 i (va_cpy (σ m1 9 i1) (σ m 9 i) 0 0 6) := ⟨_, rfl⟩
  replace hw := hw σ1 e_σ1
  refine gx_sg e_σ1 ?_
  refine gx_aload_n C dX4_copyFrom_11 0 rfl ?_
  refine gx_aload_n C dX4_copyFrom_12 1 rfl ?_
  refine gx_get C (ok8 hm1 hi1) rfl rfl inX4 (ref := "SweetWraps$Tin") 1 (by decide) bw_73 rfl rfl dX4_copyFrom_13 ?_
  refine gx_put C (ok8 hm hi) rfl rfl inX4 tyX4 tyX4_ok nmX4 (ref := "SweetWraps$Tin") 1 (by decide) bw_73 rfl rfl (v := .int (σ1 m1 8 i1 1)) rfl rfl (Nat.le_of_ble_eq_true rfl) (upd (σ1 m 8 i) 1 (σ1 m1 8 i1 1)) rfl dX4_copyFrom_16 ?_
  obtain ⟨σ2, e_σ2⟩ : ∃ z : Sg, z = up σ1 m 8 i 1 (σ1 m1 8 i1 1) := ⟨_, rfl⟩
  replace hw := hw σ2 e_σ2
  refine gx_st e_σ2 ?_
  refine gx_aload_n C dX4_copyFrom_19 0 rfl ?_
  refine gx_aload_n C dX4_copyFrom_20 1 rfl ?_
  refine gx_get C (ok8 hm1 hi1) rfl rfl inX4 (ref := "SweetWraps$Tin") 2 (by decide) bw_75 rfl rfl dX4_copyFrom_21 ?_
  refine gx_put C (ok8 hm hi) rfl rfl inX4 tyX4 tyX4_ok nmX4 (ref := "SweetWraps$Tin") 2 (by decide) bw_75 rfl rfl (v := .int (σ2 m1 8 i1 2)) rfl rfl (Nat.le_of_ble_eq_true rfl) (upd (σ2 m 8 i) 2 (σ2 m1 8 i1 2)) rfl dX4_copyFrom_24 ?_
  obtain ⟨σ3, e_σ3⟩ : ∃ z : Sg, z = up σ2 m 8 i 2 (σ2 m1 8 i1 2) := ⟨_, rfl⟩
  replace hw := hw σ3 e_σ3
  refine gx_st e_σ3 ?_
  refine gx_aload_n C dX4_copyFrom_27 0 rfl ?_
  refine gx_aload_n C dX4_copyFrom_28 1 rfl ?_
  refine gx_get C (ok8 hm1 hi1) rfl rfl inX4 (ref := "SweetWraps$Tin") 3 (by decide) bw_77 rfl rfl dX4_copyFrom_29 ?_
  have hb4 := hw.1
  replace hw := hw.2
  refine gx_put C (ok8 hm hi) rfl rfl inX4 tyX4 tyX4_ok nmX4 (ref := "SweetWraps$Tin") 3 (by decide) bw_77 rfl rfl (v := .int (σ3 m1 8 i1 3)) (nb_bool hb4) (fb_bool hb4) (Nat.le_of_ble_eq_true rfl) (upd (σ3 m 8 i) 3 (σ3 m1 8 i1 3)) rfl dX4_copyFrom_32 ?_
  obtain ⟨σ5, e_σ5⟩ : ∃ z : Sg, z = up σ3 m 8 i 3 (σ3 m1 8 i1 3) := ⟨_, rfl⟩
  replace hw := hw σ5 e_σ5
  refine gx_st e_σ5 ?_
  exact gx_vret C dX4_copyFrom_35 hw
theorem hy_X4_copyFrom : yX4_copyFrom.cls = "SweetWraps$Tin" ∧ yX4_copyFrom.cls ≠ "java/lang/invoke/MethodHandle" ∧ yX4_copyFrom.cls ≠ "java/lang/invoke/VarHandle" ∧ (parseMethodDescriptor yX4_copyFrom.desc).map (fun d => d.parameters.length) = some 1 := by decide +kernel

theorem dX2_copyFrom_0 : decode cX2_copyFrom 0 = .ok (.aload_n 1, 1) := by decide +kernel
theorem dX2_copyFrom_1 : decode cX2_copyFrom 1 = .ok (.getfield 9, 3) := by decide +kernel
theorem dX2_copyFrom_4 : decode cX2_copyFrom 4 = .ok (.aload_n 0, 1) := by decide +kernel
theorem dX2_copyFrom_5 : decode cX2_copyFrom 5 = .ok (.getfield 9, 3) := by decide +kernel
theorem dX2_copyFrom_8 : decode cX2_copyFrom 8 = .ok (.invokestatic 32, 3) := by decide +kernel
theorem dX2_copyFrom_11 : decode cX2_copyFrom 11 = .ok (.aload_n 1, 1) := by decide +kernel
theorem dX2_copyFrom_12 : decode cX2_copyFrom 12 = .ok (.getfield 27, 3) := by decide +kernel
theorem dX2_copyFrom_15 : decode cX2_copyFrom 15 = .ok (.aload_n 0, 1) := by decide +kernel
theorem dX2_copyFrom_16 : decode cX2_copyFrom 16 = .ok (.getfield 27, 3) := by decide +kernel
theorem dX2_copyFrom_19 : decode cX2_copyFrom 19 = .ok (.invokestatic 32, 3) := by decide +kernel
theorem dX2_copyFrom_22 : decode cX2_copyFrom 22 = .ok (.iconst 0, 1) := by decide +kernel
theorem dX2_copyFrom_23 : decode cX2_copyFrom 23 = .ok (.istore_n 2, 1) := by decide +kernel
theorem dX2_copyFrom_24 : decode cX2_copyFrom 24 = .ok (.iload_n 2, 1) := by decide +kernel
theorem dX2_copyFrom_25 : decode cX2_copyFrom 25 = .ok (.iconst 4, 1) := by decide +kernel
theorem dX2_copyFrom_26 : decode cX2_copyFrom 26 = .ok (.if_icmp .ge 24, 3) := by decide +kernel
theorem dX2_copyFrom_29 : decode cX2_copyFrom 29 = .ok (.aload_n 0, 1) := by decide +kernel
theorem dX2_copyFrom_30 : decode cX2_copyFrom 30 = .ok (.getfield 17, 3) := by decide +kernel
theorem dX2_copyFrom_33 : decode cX2_copyFrom 33 = .ok (.iload_n 2, 1) := by decide +kernel
theorem dX2_copyFrom_34 : decode cX2_copyFrom 34 = .ok (.aaload, 1) := by decide +kernel
theorem dX2_copyFrom_35 : decode cX2_copyFrom 35 = .ok (.aload_n 1, 1) := by decide +kernel
theorem dX2_copyFrom_36 : decode cX2_copyFrom 36 = .ok (.getfield 17, 3) := by decide +kernel
theorem dX2_copyFrom_39 : decode cX2_copyFrom 39 = .ok (.iload_n 2, 1) := by decide +kernel
theorem dX2_copyFrom_40 : decode cX2_copyFrom 40 = .ok (.aaload, 1) := by decide +kernel
theorem dX2_copyFrom_41 : decode cX2_copyFrom 41 = .ok (.invokevirtual 36, 3) := by decide +kernel
theorem dX2_copyFrom_44 : decode cX2_copyFrom 44 = .ok (.iinc 2 1, 3) := by decide +kernel
theorem dX2_copyFrom_47 : decode cX2_copyFrom 47 = .ok (.goto (-23), 3) := by decide +kernel
theorem dX2_copyFrom_50 : decode cX2_copyFrom 50 = .ok (.iconst 0, 1) := by decide +kernel
theorem dX2_copyFrom_51 : decode cX2_copyFrom 51 = .ok (.istore_n 2, 1) := by decide +kernel
theorem dX2_copyFrom_52 : decode cX2_copyFrom 52 = .ok (.iload_n 2, 1) := by decide +kernel
theorem dX2_copyFrom_53 : decode cX2_copyFrom 53 = .ok (.bipush 16, 2) := by decide +kernel
theorem dX2_copyFrom_55 : decode cX2_copyFrom 55 = .ok (.if_icmp .ge 24, 3) := by decide +kernel
theorem dX2_copyFrom_58 : decode cX2_copyFrom 58 = .ok (.aload_n 0, 1) := by decide +kernel
theorem dX2_copyFrom_59 : decode cX2_copyFrom 59 = .ok (.getfield 23, 3) := by decide +kernel
theorem dX2_copyFrom_62 : decode cX2_copyFrom 62 = .ok (.iload_n 2, 1) := by decide +kernel
theorem dX2_copyFrom_63 : decode cX2_copyFrom 63 = .ok (.aaload, 1) := by decide +kernel
theorem dX2_copyFrom_64 : decode cX2_copyFrom 64 = .ok (.aload_n 1, 1) := by decide +kernel
theorem dX2_copyFrom_65 : decode cX2_copyFrom 65 = .ok (.getfield 23, 3) := by decide +kernel
theorem dX2_copyFrom_68 : decode cX2_copyFrom 68 = .ok (.iload_n 2, 1) := by decide +kernel
theorem dX2_copyFrom_69 : decode cX2_copyFrom 69 = .ok (.aaload, 1) := by decide +kernel
theorem dX2_copyFrom_70 : decode cX2_copyFrom 70 = .ok (.invokevirtual 40, 3) := by decide +kernel
theorem dX2_copyFrom_73 : decode cX2_copyFrom 73 = .ok (.iinc 2 1, 3) := by decide +kernel
theorem dX2_copyFrom_76 : decode cX2_copyFrom 76 = .ok (.goto (-24), 3) := by decide +kernel
theorem dX2_copyFrom_79 : decode cX2_copyFrom 79 = .ok (.aload_n 0, 1) := by decide +kernel
theorem dX2_copyFrom_80 : decode cX2_copyFrom 80 = .ok (.aload_n 1, 1) := by decide +kernel
theorem dX2_copyFrom_81 : decode cX2_copyFrom 81 = .ok (.getfield 43, 3) := by decide +kernel
theorem dX2_copyFrom_84 : decode cX2_copyFrom 84 = .ok (.putfield 43, 3) := by decide +kernel
theorem dX2_copyFrom_87 : decode cX2_copyFrom 87 = .ok (.aload_n 0, 1) := by decide +kernel
theorem dX2_copyFrom_88 : decode cX2_copyFrom 88 = .ok (.aload_n 1, 1) := by decide +kernel
theorem dX2_copyFrom_89 : decode cX2_copyFrom 89 = .ok (.getfield 47, 3) := by decide +kernel
theorem dX2_copyFrom_92 : decode cX2_copyFrom 92 = .ok (.putfield 47, 3) := by decide +kernel
theorem dX2_copyFrom_95 : decode cX2_copyFrom 95 = .ok (.aload_n 0, 1) := by decide +kernel
theorem dX2_copyFrom_96 : decode cX2_copyFrom 96 = .ok (.aload_n 1, 1) := by decide +kernel
theorem dX2_copyFrom_97 : decode cX2_copyFrom 97 = .ok (.getfield 50, 3) := by decide +kernel
theorem dX2_copyFrom_100 : decode cX2_copyFrom 100 = .ok (.putfield 50, 3) := by decide +kernel
theorem dX2_copyFrom_103 : decode cX2_copyFrom 103 = .ok (.aload_n 0, 1) := by decide +kernel
theorem dX2_copyFrom_104 : decode cX2_copyFrom 104 = .ok (.aload_n 1, 1) := by decide +kernel
theorem dX2_copyFrom_105 : decode cX2_copyFrom 105 = .ok (.getfield 53, 3) := by decide +kernel
theorem dX2_copyFrom_108 : decode cX2_copyFrom 108 = .ok (.putfield 53, 3) := by decide +kernel
theorem dX2_copyFrom_111 : decode cX2_copyFrom 111 = .ok (.return_, 1) := by decide +kernel
def st_X2_copyFrom_L52 (m : Nat) (m1 : Nat) (Q : Sg → Prop) (K52 : Int32 → Sg → Prop) (v2 : Int32) (σ : Sg) : Prop := (((16 : Int32) ≤ v2 → ∀ σ11 : Sg, σ11 = up σ m 0 0 4 (σ m1 0 0 4) → ∀ σ12 : Sg, σ12 = up σ11 m 0 0 5 (σ11 m1 0 0 5) → ∀ σ13 : Sg, σ13 = up σ12 m 0 0 6 (σ12 m1 0 0 6) → ∀ σ14 : Sg, σ14 = up σ13 m 0 0 7 (σ13 m1 0 0 7) → Q σ14) ∧ (¬ (16 : Int32) ≤ v2 → (vp_in v2 16 ∧ ∀ a16 : Nat, a16 = v2.toNatClampNeg → (vp_in v2 16 ∧ ∀ a18 : Nat, a18 = v2.toNatClampNeg → wp_X4_copyFrom m a16 m1 a18 σ (fun σ19 => ∀ z20 : Int32, z20 = v2 + (1 : Int32) → K52 z20 σ19)))))
def wp_X2_copyFrom_L52 (m : Nat) (m1 : Nat) (Q : Sg → Prop) (v2 : Int32) (σ : Sg) : Prop := ∃ n : Nat, lpN (fun (K : Int32 × Sg → Prop) (a : Int32 × Sg) => st_X2_copyFrom_L52 m m1 Q (fun v2 σ => K (v2, σ)) (a.1) (a.2)) n (v2, σ)
set_option maxRecDepth 100000 in
set_option maxHeartbeats 4000000 in
theorem gs_X2_copyFrom_L52 {X : Tx} {Q : Sg → Prop} (C : Cx X cX2_copyFrom "SweetWraps$Machine" none 3 102 3 (QV (tE X) Q)) {m : Nat} {m1 : Nat} (hm : m < 11) (hm1 : m1 < 11) {K52 : Int32 → Sg → Prop} (hK52 : ∀ (v2 : Int32) (σ : Sg), K52 v2 σ → G X σ [(0, .ref (ad (tE X) m 0 0)), (1, .ref (ad (tE X) m1 0 0)), (2, .int v2)] [] 52) {v2 : Int32} {σ : Sg} (hw : st_X2_copyFrom_L52 m m1 Q K52 v2 σ) : G X σ [(0, .ref (ad (tE X) m 0 0)), (1, .ref (ad (tE X) m1 0 0)), (2, .int v2)] [] 52 := by
  unfold st_X2_copyFrom_L52 at hw
  refine gx_iload_n C dX2_copyFrom_52 2 rfl ?_
  refine gx_bipush (v := (16 : Int32)) C dX2_copyFrom_53 (by decide) ?_
  refine gx_icmp_ge (tgt := 79) C dX2_copyFrom_55 (by decide) (fun c10 => ?_) (fun c10 => ?_)
  · replace hw := hw.1 c10
    refine gx_aload_n C dX2_copyFrom_79 0 rfl ?_
    refine gx_aload_n C dX2_copyFrom_80 1 rfl ?_
    refine gx_get C (ok0 hm1) rfl rfl inX2 (ref := "SweetWraps$Machine") 4 (by decide) bw_94 rfl rfl dX2_copyFrom_81 ?_
    refine gx_put C (ok0 hm) rfl rfl inX2 tyX2 tyX2_ok nmX2 (ref := "SweetWraps$Machine") 4 (by decide) bw_94 rfl rfl (v := .int (σ m1 0 0 4)) rfl rfl (Nat.le_of_ble_eq_true rfl) (upd (σ m 0 0) 4 (σ m1 0 0 4)) rfl dX2_copyFrom_84 ?_
    obtain ⟨σ11, e_σ11⟩ : ∃ z : Sg, z = up σ m 0 0 4 (σ m1 0 0 4) := ⟨_, rfl⟩
    replace hw := hw σ11 e_σ11
    refine gx_st e_σ11 ?_
    refine gx_aload_n C dX2_copyFrom_87 0 rfl ?_
    refine gx_aload_n C dX2_copyFrom_88 1 rfl ?_
    refine gx_get C (ok0 hm1) rfl rfl inX2 (ref := "SweetWraps$Machine") 5 (by decide) bw_95 rfl rfl dX2_copyFrom_89 ?_
    refine gx_put C (ok0 hm) rfl rfl inX2 tyX2 tyX2_ok nmX2 (ref := "SweetWraps$Machine") 5 (by decide) bw_95 rfl rfl (v := .int (σ11 m1 0 0 5)) rfl rfl (Nat.le_of_ble_eq_true rfl) (upd (σ11 m 0 0) 5 (σ11 m1 0 0 5)) rfl dX2_copyFrom_92 ?_
    obtain ⟨σ12, e_σ12⟩ : ∃ z : Sg, z = up σ11 m 0 0 5 (σ11 m1 0 0 5) := ⟨_, rfl⟩
    replace hw := hw σ12 e_σ12
    refine gx_st e_σ12 ?_
    refine gx_aload_n C dX2_copyFrom_95 0 rfl ?_
    refine gx_aload_n C dX2_copyFrom_96 1 rfl ?_
    refine gx_get C (ok0 hm1) rfl rfl inX2 (ref := "SweetWraps$Machine") 6 (by decide) bw_96 rfl rfl dX2_copyFrom_97 ?_
    refine gx_put C (ok0 hm) rfl rfl inX2 tyX2 tyX2_ok nmX2 (ref := "SweetWraps$Machine") 6 (by decide) bw_96 rfl rfl (v := .int (σ12 m1 0 0 6)) rfl rfl (Nat.le_of_ble_eq_true rfl) (upd (σ12 m 0 0) 6 (σ12 m1 0 0 6)) rfl dX2_copyFrom_100 ?_
    obtain ⟨σ13, e_σ13⟩ : ∃ z : Sg, z = up σ12 m 0 0 6 (σ12 m1 0 0 6) := ⟨_, rfl⟩
    replace hw := hw σ13 e_σ13
    refine gx_st e_σ13 ?_
    refine gx_aload_n C dX2_copyFrom_103 0 rfl ?_
    refine gx_aload_n C dX2_copyFrom_104 1 rfl ?_
    refine gx_get C (ok0 hm1) rfl rfl inX2 (ref := "SweetWraps$Machine") 7 (by decide) bw_97 rfl rfl dX2_copyFrom_105 ?_
    refine gx_put C (ok0 hm) rfl rfl inX2 tyX2 tyX2_ok nmX2 (ref := "SweetWraps$Machine") 7 (by decide) bw_97 rfl rfl (v := .int (σ13 m1 0 0 7)) rfl rfl (Nat.le_of_ble_eq_true rfl) (upd (σ13 m 0 0) 7 (σ13 m1 0 0 7)) rfl dX2_copyFrom_108 ?_
    obtain ⟨σ14, e_σ14⟩ : ∃ z : Sg, z = up σ13 m 0 0 7 (σ13 m1 0 0 7) := ⟨_, rfl⟩
    replace hw := hw σ14 e_σ14
    refine gx_st e_σ14 ?_
    exact gx_vret C dX2_copyFrom_111 hw
  · replace hw := hw.2 c10
    refine gx_aload_n C dX2_copyFrom_58 0 rfl ?_
    refine gx_get C (ok0 hm) rfl rfl inX2 (ref := "SweetWraps$Machine") 2 (by decide) bw_92 rfl rfl dX2_copyFrom_59 ?_
    refine gx_iload_n C dX2_copyFrom_62 2 rfl ?_
    have h15 := hw.1
    replace hw := hw.2
    obtain ⟨a16, e_a16⟩ : ∃ z : Nat, z = v2.toNatClampNeg := ⟨_, rfl⟩
    replace hw := hw a16 e_a16
    have ha16 : a16 < 16 := by rw [e_a16]; exact vp_lt h15
    refine gx_aald C (ok3 hm) rfl (t0 := 4) rfl h15 (v := .ref (ad (tE X) m 8 a16)) (by rw [e_a16]; rfl) dX2_copyFrom_63 ?_
    refine gx_aload_n C dX2_copyFrom_64 1 rfl ?_
    refine gx_get C (ok0 hm1) rfl rfl inX2 (ref := "SweetWraps$Machine") 2 (by decide) bw_92 rfl rfl dX2_copyFrom_65 ?_
    refine gx_iload_n C dX2_copyFrom_68 2 rfl ?_
    have h17 := hw.1
    replace hw := hw.2
    obtain ⟨a18, e_a18⟩ : ∃ z : Nat, z = v2.toNatClampNeg := ⟨_, rfl⟩
    replace hw := hw a18 e_a18
    have ha18 : a18 < 16 := by rw [e_a18]; exact vp_lt h17
    refine gx_aald C (ok3 hm1) rfl (t0 := 4) rfl h17 (v := .ref (ad (tE X) m1 8 a18)) (by rw [e_a18]; rfl) dX2_copyFrom_69 ?_
    refine gx_vcallv (As := [.ref (ad (tE X) m1 8 a18)]) (rest := []) C (c_X4_copyFrom _ _ hm ha16 hm1 ha18 hw) (ok8 hm ha16) rfl rfl bw_214 bw_215 bw_216 bw_4 bw_217 hy_X4_copyFrom ⟨by decide, by decide⟩ rfl (Nat.le_of_ble_eq_true rfl) dX2_copyFrom_70 (fun σ19 hw => ?_)
    obtain ⟨z20, e_z20⟩ : ∃ z : Int32, z = v2 + (1 : Int32) := ⟨_, rfl⟩
    replace hw := hw z20 e_z20
    refine gx_iinc (v := z20) (lv' := [(2, .int z20), (0, .ref (ad (tE X) m 0 0)), (1, .ref (ad (tE X) m1 0 0))]) C dX2_copyFrom_73 2 rfl (by rw [e_z20]; rfl) (by decide) rfl ?_
    refine gx_goto (tgt := 52) C dX2_copyFrom_76 (by decide) ?_
    refine gx_sub (lv' := [(0, .ref (ad (tE X) m 0 0)), (1, .ref (ad (tE X) m1 0 0)), (2, .int z20)]) [1, 2, 0] rfl ?_
    exact hK52 _ _ hw
set_option maxRecDepth 100000 in
set_option maxHeartbeats 4000000 in
theorem g_X2_copyFrom_L52 {X : Tx} {Q : Sg → Prop} (C : Cx X cX2_copyFrom "SweetWraps$Machine" none 3 102 3 (QV (tE X) Q)) {m : Nat} {m1 : Nat} (hm : m < 11) (hm1 : m1 < 11) {v2 : Int32} {σ : Sg} (hw : wp_X2_copyFrom_L52 m m1 Q v2 σ) : G X σ [(0, .ref (ad (tE X) m 0 0)), (1, .ref (ad (tE X) m1 0 0)), (2, .int v2)] [] 52 := by
  obtain ⟨n, hw⟩ := hw
  exact lpN_G (P := (fun (a : Int32 × Sg) => G X (a.2) [(0, .ref (ad (tE X) m 0 0)), (1, .ref (ad (tE X) m1 0 0)), (2, .int (a.1))] [] 52)) (fun K a hK h => gs_X2_copyFrom_L52 C hm hm1 (fun v2 σ h => hK (v2, σ) h) h) n _ hw
def st_X2_copyFrom_L24 (m : Nat) (m1 : Nat) (Q : Sg → Prop) (K24 : Int32 → Sg → Prop) (v2 : Int32) (σ : Sg) : Prop := (((4 : Int32) ≤ v2 → wp_X2_copyFrom_L52 m m1 Q (0 : Int32) σ) ∧ (¬ (4 : Int32) ≤ v2 → (vp_in v2 4 ∧ ∀ a5 : Nat, a5 = v2.toNatClampNeg → (vp_in v2 4 ∧ ∀ a7 : Nat, a7 = v2.toNatClampNeg → wp_X1_copyFrom m a5 m1 a7 σ (fun σ8 => ∀ z9 : Int32, z9 = v2 + (1 : Int32) → K24 z9 σ8)))))
def wp_X2_copyFrom_L24 (m : Nat) (m1 : Nat) (Q : Sg → Prop) (v2 : Int32) (σ : Sg) : Prop := ∃ n : Nat, lpN (fun (K : Int32 × Sg → Prop) (a : Int32 × Sg) => st_X2_copyFrom_L24 m m1 Q (fun v2 σ => K (v2, σ)) (a.1) (a.2)) n (v2, σ)
set_option maxRecDepth 100000 in
set_option maxHeartbeats 4000000 in
theorem gs_X2_copyFrom_L24 {X : Tx} {Q : Sg → Prop} (C : Cx X cX2_copyFrom "SweetWraps$Machine" none 3 102 3 (QV (tE X) Q)) {m : Nat} {m1 : Nat} (hm : m < 11) (hm1 : m1 < 11) {K24 : Int32 → Sg → Prop} (hK24 : ∀ (v2 : Int32) (σ : Sg), K24 v2 σ → G X σ [(0, .ref (ad (tE X) m 0 0)), (1, .ref (ad (tE X) m1 0 0)), (2, .int v2)] [] 24) {v2 : Int32} {σ : Sg} (hw : st_X2_copyFrom_L24 m m1 Q K24 v2 σ) : G X σ [(0, .ref (ad (tE X) m 0 0)), (1, .ref (ad (tE X) m1 0 0)), (2, .int v2)] [] 24 := by
  unfold st_X2_copyFrom_L24 at hw
  refine gx_iload_n C dX2_copyFrom_24 2 rfl ?_
  refine gx_iconst (v := (4 : Int32)) C dX2_copyFrom_25 (by decide) ?_
  refine gx_icmp_ge (tgt := 50) C dX2_copyFrom_26 (by decide) (fun c3 => ?_) (fun c3 => ?_)
  · replace hw := hw.1 c3
    refine gx_iconst (v := (0 : Int32)) C dX2_copyFrom_50 (by decide) ?_
    refine gx_istore_n (lv' := [(2, .int (0 : Int32)), (0, .ref (ad (tE X) m 0 0)), (1, .ref (ad (tE X) m1 0 0))]) C dX2_copyFrom_51 (by decide) rfl ?_
    refine gx_sub (lv' := [(0, .ref (ad (tE X) m 0 0)), (1, .ref (ad (tE X) m1 0 0)), (2, .int (0 : Int32))]) [1, 2, 0] rfl ?_
    exact g_X2_copyFrom_L52 C hm hm1 hw
  · replace hw := hw.2 c3
    refine gx_aload_n C dX2_copyFrom_29 0 rfl ?_
    refine gx_get C (ok0 hm) rfl rfl inX2 (ref := "SweetWraps$Machine") 1 (by decide) bw_90 rfl rfl dX2_copyFrom_30 ?_
    refine gx_iload_n C dX2_copyFrom_33 2 rfl ?_
    have h4 := hw.1
    replace hw := hw.2
    obtain ⟨a5, e_a5⟩ : ∃ z : Nat, z = v2.toNatClampNeg := ⟨_, rfl⟩
    replace hw := hw a5 e_a5
    have ha5 : a5 < 4 := by rw [e_a5]; exact vp_lt h4
    refine gx_aald C (ok2 hm) rfl (t0 := 3) rfl h4 (v := .ref (ad (tE X) m 5 a5)) (by rw [e_a5]; rfl) dX2_copyFrom_34 ?_
    refine gx_aload_n C dX2_copyFrom_35 1 rfl ?_
    refine gx_get C (ok0 hm1) rfl rfl inX2 (ref := "SweetWraps$Machine") 1 (by decide) bw_90 rfl rfl dX2_copyFrom_36 ?_
    refine gx_iload_n C dX2_copyFrom_39 2 rfl ?_
    have h6 := hw.1
    replace hw := hw.2
    obtain ⟨a7, e_a7⟩ : ∃ z : Nat, z = v2.toNatClampNeg := ⟨_, rfl⟩
    replace hw := hw a7 e_a7
    have ha7 : a7 < 4 := by rw [e_a7]; exact vp_lt h6
    refine gx_aald C (ok2 hm1) rfl (t0 := 3) rfl h6 (v := .ref (ad (tE X) m1 5 a7)) (by rw [e_a7]; rfl) dX2_copyFrom_40 ?_
    refine gx_vcallv (As := [.ref (ad (tE X) m1 5 a7)]) (rest := []) C (c_X1_copyFrom _ _ hm ha5 hm1 ha7 hw) (ok5 hm ha5) rfl rfl bw_209 bw_210 bw_211 bw_3 bw_212 hy_X1_copyFrom ⟨by decide, by decide⟩ rfl (Nat.le_of_ble_eq_true rfl) dX2_copyFrom_41 (fun σ8 hw => ?_)
    obtain ⟨z9, e_z9⟩ : ∃ z : Int32, z = v2 + (1 : Int32) := ⟨_, rfl⟩
    replace hw := hw z9 e_z9
    refine gx_iinc (v := z9) (lv' := [(2, .int z9), (0, .ref (ad (tE X) m 0 0)), (1, .ref (ad (tE X) m1 0 0))]) C dX2_copyFrom_44 2 rfl (by rw [e_z9]; rfl) (by decide) rfl ?_
    refine gx_goto (tgt := 24) C dX2_copyFrom_47 (by decide) ?_
    refine gx_sub (lv' := [(0, .ref (ad (tE X) m 0 0)), (1, .ref (ad (tE X) m1 0 0)), (2, .int z9)]) [1, 2, 0] rfl ?_
    exact hK24 _ _ hw
set_option maxRecDepth 100000 in
set_option maxHeartbeats 4000000 in
theorem g_X2_copyFrom_L24 {X : Tx} {Q : Sg → Prop} (C : Cx X cX2_copyFrom "SweetWraps$Machine" none 3 102 3 (QV (tE X) Q)) {m : Nat} {m1 : Nat} (hm : m < 11) (hm1 : m1 < 11) {v2 : Int32} {σ : Sg} (hw : wp_X2_copyFrom_L24 m m1 Q v2 σ) : G X σ [(0, .ref (ad (tE X) m 0 0)), (1, .ref (ad (tE X) m1 0 0)), (2, .int v2)] [] 24 := by
  obtain ⟨n, hw⟩ := hw
  exact lpN_G (P := (fun (a : Int32 × Sg) => G X (a.2) [(0, .ref (ad (tE X) m 0 0)), (1, .ref (ad (tE X) m1 0 0)), (2, .int (a.1))] [] 24)) (fun K a hK h => gs_X2_copyFrom_L24 C hm hm1 (fun v2 σ h => hK (v2, σ) h) h) n _ hw
def wp_X2_copyFrom (m : Nat) (m1 : Nat) (σ : Sg) (Q : Sg → Prop) : Prop := ∀ σ1 : Sg, σ1 = ua σ m 1 0 (va_cpy (σ m1 1 0) (σ m 1 0) 0 0 4) → ∀ σ2 : Sg, σ2 = ua σ1 m 4 0 (va_cpy (σ1 m1 4 0) (σ1 m 4 0) 0 0 6) → wp_X2_copyFrom_L24 m m1 Q (0 : Int32) σ2
set_option maxRecDepth 100000 in
set_option maxHeartbeats 4000000 in
theorem c_X2_copyFrom (l : Launch) (E : Ev) {m : Nat} {m1 : Nat} (hm : m < 11) (hm1 : m1 < 11) {σ : Sg} {Q : Sg → Prop} (hw : wp_X2_copyFrom m m1 σ Q) : CT l E yX2_copyFrom cX2_copyFrom 3 none 3 102 [.ref (ad E m 0 0), .ref (ad E m1 0 0)] σ (QV E Q) := by
  refine CT_of (by decide) (Nat.le_of_ble_eq_true rfl) (fun X h1 h2 C => ?_)
  subst h1; subst h2
  have C : Cx X cX2_copyFrom "SweetWraps$Machine" none 3 102 3 (QV (tE X) Q) := C
  show G X σ [(0, .ref (ad (tE X) m 0 0)), (1, .ref (ad (tE X) m1 0 0))] [] 0
  unfold wp_X2_copyFrom at hw
  refine gx_aload_n C dX2_copyFrom_0 1 rfl ?_
  refine gx_get C (ok0 hm1) rfl rfl inX2 (ref := "SweetWraps$Machine") 0 (by decide) bw_88 rfl rfl dX2_copyFrom_1 ?_
  refine gx_aload_n C dX2_copyFrom_4 0 rfl ?_
  refine gx_get C (ok0 hm) rfl rfl inX2 (ref := "SweetWraps$Machine") 0 (by decide) bw_88 rfl rfl dX2_copyFrom_5 ?_
  refine gx_ncallv (As := [.ref (ad (tE X) m1 1 0), .ref (ad (tE X) m 1 0)]) (rest := []) (host := "SweetWraps") C (c_X5_copyNumbers _ _ (ok1 hm1) (ok1 hm) (n := 4) (by decide) (fun _ _ _ => rfl)) (nest_in _ (by decide +kernel)) bw_201 bw_1 bw_202 hyS_X5_copyNumbers ⟨by decide, by decide⟩ rfl (Nat.le_of_ble_eq_true rfl) dX2_copyFrom_8 (fun σ9 h9 => ?_)
  subst h9
  obtain ⟨σ1, e_σ1⟩ : ∃ z : Sg, z = ua σ m 1 0 (va_cpy (σ m1 1 0) (σ m 1 0) 0 0 4) := ⟨_, rfl⟩
  replace hw := hw σ1 e_σ1
  refine gx_sg e_σ1 ?_
  refine gx_aload_n C dX2_copyFrom_11 1 rfl ?_
  refine gx_get C (ok0 hm1) rfl rfl inX2 (ref := "SweetWraps$Machine") 3 (by decide) bw_93 rfl rfl dX2_copyFrom_12 ?_
  refine gx_aload_n C dX2_copyFrom_15 0 rfl ?_
  refine gx_get C (ok0 hm) rfl rfl inX2 (ref := "SweetWraps$Machine") 3 (by decide) bw_93 rfl rfl dX2_copyFrom_16 ?_
  refine gx_ncallv (As := [.ref (ad (tE X) m1 4 0), .ref (ad (tE X) m 4 0)]) (rest := []) (host := "SweetWraps") C (c_X5_copyNumbers _ _ (ok4 hm1) (ok4 hm) (n := 6) (by decide) (fun _ _ _ => rfl)) (nest_in _ (by decide +kernel)) bw_201 bw_1 bw_202 hyS_X5_copyNumbers ⟨by decide, by decide⟩ rfl (Nat.le_of_ble_eq_true rfl) dX2_copyFrom_19 (fun σ9 h9 => ?_)
  subst h9
  obtain ⟨σ2, e_σ2⟩ : ∃ z : Sg, z = ua σ1 m 4 0 (va_cpy (σ1 m1 4 0) (σ1 m 4 0) 0 0 6) := ⟨_, rfl⟩
  replace hw := hw σ2 e_σ2
  refine gx_sg e_σ2 ?_
  refine gx_iconst (v := (0 : Int32)) C dX2_copyFrom_22 (by decide) ?_
  refine gx_istore_n (lv' := [(2, .int (0 : Int32)), (0, .ref (ad (tE X) m 0 0)), (1, .ref (ad (tE X) m1 0 0))]) C dX2_copyFrom_23 (by decide) rfl ?_
  refine gx_sub (lv' := [(0, .ref (ad (tE X) m 0 0)), (1, .ref (ad (tE X) m1 0 0)), (2, .int (0 : Int32))]) [1, 2, 0] rfl ?_
  exact g_X2_copyFrom_L24 C hm hm1 hw
theorem hy_X2_copyFrom : yX2_copyFrom.cls = "SweetWraps$Machine" ∧ yX2_copyFrom.cls ≠ "java/lang/invoke/MethodHandle" ∧ yX2_copyFrom.cls ≠ "java/lang/invoke/VarHandle" ∧ (parseMethodDescriptor yX2_copyFrom.desc).map (fun d => d.parameters.length) = some 1 := by decide +kernel

theorem dX5_isIndex_0 : decode cX5_isIndex 0 = .ok (.iload_n 0, 1) := by decide +kernel
theorem dX5_isIndex_1 : decode cX5_isIndex 1 = .ok (.ifCond .lt 12, 3) := by decide +kernel
theorem dX5_isIndex_4 : decode cX5_isIndex 4 = .ok (.iload_n 0, 1) := by decide +kernel
theorem dX5_isIndex_5 : decode cX5_isIndex 5 = .ok (.iload_n 1, 1) := by decide +kernel
theorem dX5_isIndex_6 : decode cX5_isIndex 6 = .ok (.if_icmp .ge 7, 3) := by decide +kernel
theorem dX5_isIndex_9 : decode cX5_isIndex 9 = .ok (.iconst 1, 1) := by decide +kernel
theorem dX5_isIndex_10 : decode cX5_isIndex 10 = .ok (.goto 4, 3) := by decide +kernel
theorem dX5_isIndex_13 : decode cX5_isIndex 13 = .ok (.iconst 0, 1) := by decide +kernel
theorem dX5_isIndex_14 : decode cX5_isIndex 14 = .ok (.ireturn, 1) := by decide +kernel
def wp_X5_isIndex (x0 : Int32) (x1 : Int32) (σ : Sg) (Q : Int32 → Sg → Prop) : Prop := ((x0 < 0 → Q (0 : Int32) σ) ∧ (¬ x0 < 0 → ((x1 ≤ x0 → Q (0 : Int32) σ) ∧ (¬ x1 ≤ x0 → Q (1 : Int32) σ))))
set_option maxRecDepth 100000 in
set_option maxHeartbeats 4000000 in
theorem c_X5_isIndex (l : Launch) (E : Ev) {x0 : Int32} {x1 : Int32} {σ : Sg} {Q : Int32 → Sg → Prop} (hw : wp_X5_isIndex x0 x1 σ Q) : CT l E yX5_isIndex cX5_isIndex 2 (some .boolean) 0 0 [.int x0, .int x1] σ (QI E Q) := by
  refine CT_of (by decide) (Nat.le_of_ble_eq_true rfl) (fun X h1 h2 C => ?_)
  subst h1; subst h2
  have C : Cx X cX5_isIndex "SweetWraps" (some .boolean) 0 0 2 (QI (tE X) Q) := C
  show G X σ [(0, .int x0), (1, .int x1)] [] 0
  unfold wp_X5_isIndex at hw
  refine gx_iload_n C dX5_isIndex_0 0 rfl ?_
  refine gx_if_lt (tgt := 13) C dX5_isIndex_1 (by decide) (fun c1 => ?_) (fun c1 => ?_)
  · replace hw := hw.1 c1
    refine gx_iconst (v := (0 : Int32)) C dX5_isIndex_13 (by decide) ?_
    exact gx_iret C rfl rfl dX5_isIndex_14 hw
  · replace hw := hw.2 c1
    refine gx_iload_n C dX5_isIndex_4 0 rfl ?_
    refine gx_iload_n C dX5_isIndex_5 1 rfl ?_
    refine gx_icmp_ge (tgt := 13) C dX5_isIndex_6 (by decide) (fun c2 => ?_) (fun c2 => ?_)
    · replace hw := hw.1 c2
      refine gx_iconst (v := (0 : Int32)) C dX5_isIndex_13 (by decide) ?_
      exact gx_iret C rfl rfl dX5_isIndex_14 hw
    · replace hw := hw.2 c2
      refine gx_iconst (v := (1 : Int32)) C dX5_isIndex_9 (by decide) ?_
      refine gx_goto (tgt := 14) C dX5_isIndex_10 (by decide) ?_
      exact gx_iret C rfl rfl dX5_isIndex_14 hw
theorem hyS_X5_isIndex : yX5_isIndex.cls ≠ "java/lang/invoke/MethodHandle" ∧ yX5_isIndex.cls ≠ "java/lang/invoke/VarHandle" ∧ (parseMethodDescriptor yX5_isIndex.desc).map (fun d => d.parameters.length) = some 2 := by decide +kernel

theorem dX1_isHeap_0 : decode cX1_isHeap 0 = .ok (.iload_n 1, 1) := by decide +kernel
theorem dX1_isHeap_1 : decode cX1_isHeap 1 = .ok (.aload_n 0, 1) := by decide +kernel
theorem dX1_isHeap_2 : decode cX1_isHeap 2 = .ok (.getfield 22, 3) := by decide +kernel
theorem dX1_isHeap_5 : decode cX1_isHeap 5 = .ok (.invokestatic 38, 3) := by decide +kernel
theorem dX1_isHeap_8 : decode cX1_isHeap 8 = .ok (.ifCond .eq 13, 3) := by decide +kernel
theorem dX1_isHeap_11 : decode cX1_isHeap 11 = .ok (.iload_n 1, 1) := by decide +kernel
theorem dX1_isHeap_12 : decode cX1_isHeap 12 = .ok (.bipush 6, 2) := by decide +kernel
theorem dX1_isHeap_14 : decode cX1_isHeap 14 = .ok (.if_icmp .ge 7, 3) := by decide +kernel
theorem dX1_isHeap_17 : decode cX1_isHeap 17 = .ok (.iconst 1, 1) := by decide +kernel
theorem dX1_isHeap_18 : decode cX1_isHeap 18 = .ok (.goto 4, 3) := by decide +kernel
theorem dX1_isHeap_21 : decode cX1_isHeap 21 = .ok (.iconst 0, 1) := by decide +kernel
theorem dX1_isHeap_22 : decode cX1_isHeap 22 = .ok (.ireturn, 1) := by decide +kernel
def wp_X1_isHeap (m : Nat) (i : Nat) (x1 : Int32) (σ : Sg) (Q : Int32 → Sg → Prop) : Prop := wp_X5_isIndex x1 (σ m 5 i 2) σ (fun r1 σ2 => ((r1 = 0 → Q (0 : Int32) σ2) ∧ (¬ r1 = 0 → (((6 : Int32) ≤ x1 → Q (0 : Int32) σ2) ∧ (¬ (6 : Int32) ≤ x1 → Q (1 : Int32) σ2)))))
set_option maxRecDepth 100000 in
set_option maxHeartbeats 4000000 in
theorem c_X1_isHeap (l : Launch) (E : Ev) {m : Nat} {i : Nat} {x1 : Int32} (hm : m < 11) (hi : i < 4) {σ : Sg} {Q : Int32 → Sg → Prop} (hw : wp_X1_isHeap m i x1 σ Q) : CT l E yX1_isHeap cX1_isHeap 2 (some .boolean) 1 21 [.ref (ad E m 5 i), .int x1] σ (QI E Q) := by
  refine CT_of (by decide) (Nat.le_of_ble_eq_true rfl) (fun X h1 h2 C => ?_)
  subst h1; subst h2
  have C : Cx X cX1_isHeap "SweetWraps$Lane" (some .boolean) 1 21 2 (QI (tE X) Q) := C
  show G X σ [(0, .ref (ad (tE X) m 5 i)), (1, .int x1)] [] 0
  unfold wp_X1_isHeap at hw
  refine gx_iload_n C dX1_isHeap_0 1 rfl ?_
  refine gx_aload_n C dX1_isHeap_1 0 rfl ?_
  refine gx_get C (ok5 hm hi) rfl rfl inX1 (ref := "SweetWraps$Lane") 2 (by decide) bw_36 rfl rfl dX1_isHeap_2 ?_
  refine gx_ncalli (As := [.int x1, .int (σ m 5 i 2)]) (rest := []) (host := "SweetWraps") C (c_X5_isIndex _ _ hw) (nest_in _ (by decide +kernel)) bw_224 bw_1 bw_225 hyS_X5_isIndex ⟨by decide, by decide⟩ rfl (Nat.le_of_ble_eq_true rfl) dX1_isHeap_5 (fun r1 σ2 hw => ?_)
  refine gx_if_eq (tgt := 21) C dX1_isHeap_8 (by decide) (fun c3 => ?_) (fun c3 => ?_)
  · replace hw := hw.1 c3
    refine gx_iconst (v := (0 : Int32)) C dX1_isHeap_21 (by decide) ?_
    exact gx_iret C rfl rfl dX1_isHeap_22 hw
  · replace hw := hw.2 c3
    refine gx_iload_n C dX1_isHeap_11 1 rfl ?_
    refine gx_bipush (v := (6 : Int32)) C dX1_isHeap_12 (by decide) ?_
    refine gx_icmp_ge (tgt := 21) C dX1_isHeap_14 (by decide) (fun c4 => ?_) (fun c4 => ?_)
    · replace hw := hw.1 c4
      refine gx_iconst (v := (0 : Int32)) C dX1_isHeap_21 (by decide) ?_
      exact gx_iret C rfl rfl dX1_isHeap_22 hw
    · replace hw := hw.2 c4
      refine gx_iconst (v := (1 : Int32)) C dX1_isHeap_17 (by decide) ?_
      refine gx_goto (tgt := 22) C dX1_isHeap_18 (by decide) ?_
      exact gx_iret C rfl rfl dX1_isHeap_22 hw
theorem hy_X1_isHeap : yX1_isHeap.cls = "SweetWraps$Lane" ∧ yX1_isHeap.cls ≠ "java/lang/invoke/MethodHandle" ∧ yX1_isHeap.cls ≠ "java/lang/invoke/VarHandle" ∧ (parseMethodDescriptor yX1_isHeap.desc).map (fun d => d.parameters.length) = some 1 := by decide +kernel

theorem dX1_nextFlavour_0 : decode cX1_nextFlavour 0 = .ok (.aload_n 0, 1) := by decide +kernel
theorem dX1_nextFlavour_1 : decode cX1_nextFlavour 1 = .ok (.getfield 22, 3) := by decide +kernel
theorem dX1_nextFlavour_4 : decode cX1_nextFlavour 4 = .ok (.ifCond .le 12, 3) := by decide +kernel
theorem dX1_nextFlavour_7 : decode cX1_nextFlavour 7 = .ok (.aload_n 0, 1) := by decide +kernel
theorem dX1_nextFlavour_8 : decode cX1_nextFlavour 8 = .ok (.getfield 9, 3) := by decide +kernel
theorem dX1_nextFlavour_11 : decode cX1_nextFlavour 11 = .ok (.iconst 0, 1) := by decide +kernel
theorem dX1_nextFlavour_12 : decode cX1_nextFlavour 12 = .ok (.iaload, 1) := by decide +kernel
theorem dX1_nextFlavour_13 : decode cX1_nextFlavour 13 = .ok (.goto 5, 3) := by decide +kernel
theorem dX1_nextFlavour_16 : decode cX1_nextFlavour 16 = .ok (.bipush (-6), 2) := by decide +kernel
theorem dX1_nextFlavour_18 : decode cX1_nextFlavour 18 = .ok (.ireturn, 1) := by decide +kernel
def wp_X1_nextFlavour (m : Nat) (i : Nat) (σ : Sg) (Q : Int32 → Sg → Prop) : Prop := (((σ m 5 i 2) ≤ 0 → Q (-6 : Int32) σ) ∧ (¬ (σ m 5 i 2) ≤ 0 → Q (σ m 6 i 0) σ))
set_option maxRecDepth 100000 in
set_option maxHeartbeats 4000000 in
theorem c_X1_nextFlavour (l : Launch) (E : Ev) {m : Nat} {i : Nat} (hm : m < 11) (hi : i < 4) {σ : Sg} {Q : Int32 → Sg → Prop} (hw : wp_X1_nextFlavour m i σ Q) : CT l E yX1_nextFlavour cX1_nextFlavour 1 (some .int) 0 0 [.ref (ad E m 5 i)] σ (QI E Q) := by
  refine CT_of (by decide) (Nat.le_of_ble_eq_true rfl) (fun X h1 h2 C => ?_)
  subst h1; subst h2
  have C : Cx X cX1_nextFlavour "SweetWraps$Lane" (some .int) 0 0 1 (QI (tE X) Q) := C
  show G X σ [(0, .ref (ad (tE X) m 5 i))] [] 0
  unfold wp_X1_nextFlavour at hw
  refine gx_aload_n C dX1_nextFlavour_0 0 rfl ?_
  refine gx_get C (ok5 hm hi) rfl rfl inX1 (ref := "SweetWraps$Lane") 2 (by decide) bw_36 rfl rfl dX1_nextFlavour_1 ?_
  refine gx_if_le (tgt := 16) C dX1_nextFlavour_4 (by decide) (fun c1 => ?_) (fun c1 => ?_)
  · replace hw := hw.1 c1
    refine gx_bipush (v := (-6 : Int32)) C dX1_nextFlavour_16 (by decide) ?_
    exact gx_iret C rfl rfl dX1_nextFlavour_18 hw
  · replace hw := hw.2 c1
    refine gx_aload_n C dX1_nextFlavour_7 0 rfl ?_
    refine gx_get C (ok5 hm hi) rfl rfl inX1 (ref := "SweetWraps$Lane") 0 (by decide) bw_32 rfl rfl dX1_nextFlavour_8 ?_
    refine gx_iconst (v := (0 : Int32)) C dX1_nextFlavour_11 (by decide) ?_
    refine gx_iald C (ok6 hm hi) rfl (n := 6) (x := (0 : Int32)) (by unfold vp_in; decide) 0 (by decide) dX1_nextFlavour_12 ?_
    refine gx_goto (tgt := 18) C dX1_nextFlavour_13 (by decide) ?_
    exact gx_iret C rfl rfl dX1_nextFlavour_18 hw
theorem hy_X1_nextFlavour : yX1_nextFlavour.cls = "SweetWraps$Lane" ∧ yX1_nextFlavour.cls ≠ "java/lang/invoke/MethodHandle" ∧ yX1_nextFlavour.cls ≠ "java/lang/invoke/VarHandle" ∧ (parseMethodDescriptor yX1_nextFlavour.desc).map (fun d => d.parameters.length) = some 0 := by decide +kernel

theorem dX1_sweetsInHopper_0 : decode cX1_sweetsInHopper 0 = .ok (.iconst 0, 1) := by decide +kernel
theorem dX1_sweetsInHopper_1 : decode cX1_sweetsInHopper 1 = .ok (.istore_n 1, 1) := by decide +kernel
theorem dX1_sweetsInHopper_2 : decode cX1_sweetsInHopper 2 = .ok (.iconst 0, 1) := by decide +kernel
theorem dX1_sweetsInHopper_3 : decode cX1_sweetsInHopper 3 = .ok (.istore_n 2, 1) := by decide +kernel
theorem dX1_sweetsInHopper_4 : decode cX1_sweetsInHopper 4 = .ok (.iload_n 2, 1) := by decide +kernel
theorem dX1_sweetsInHopper_5 : decode cX1_sweetsInHopper 5 = .ok (.aload_n 0, 1) := by decide +kernel
theorem dX1_sweetsInHopper_6 : decode cX1_sweetsInHopper 6 = .ok (.getfield 22, 3) := by decide +kernel
theorem dX1_sweetsInHopper_9 : decode cX1_sweetsInHopper 9 = .ok (.if_icmp .ge 24, 3) := by decide +kernel
theorem dX1_sweetsInHopper_12 : decode cX1_sweetsInHopper 12 = .ok (.iload_n 2, 1) := by decide +kernel
theorem dX1_sweetsInHopper_13 : decode cX1_sweetsInHopper 13 = .ok (.bipush 6, 2) := by decide +kernel
theorem dX1_sweetsInHopper_15 : decode cX1_sweetsInHopper 15 = .ok (.if_icmp .ge 18, 3) := by decide +kernel
theorem dX1_sweetsInHopper_18 : decode cX1_sweetsInHopper 18 = .ok (.iload_n 1, 1) := by decide +kernel
theorem dX1_sweetsInHopper_19 : decode cX1_sweetsInHopper 19 = .ok (.aload_n 0, 1) := by decide +kernel
theorem dX1_sweetsInHopper_20 : decode cX1_sweetsInHopper 20 = .ok (.getfield 15, 3) := by decide +kernel
theorem dX1_sweetsInHopper_23 : decode cX1_sweetsInHopper 23 = .ok (.iload_n 2, 1) := by decide +kernel
theorem dX1_sweetsInHopper_24 : decode cX1_sweetsInHopper 24 = .ok (.iaload, 1) := by decide +kernel
theorem dX1_sweetsInHopper_25 : decode cX1_sweetsInHopper 25 = .ok (.iadd, 1) := by decide +kernel
theorem dX1_sweetsInHopper_26 : decode cX1_sweetsInHopper 26 = .ok (.istore_n 1, 1) := by decide +kernel
theorem dX1_sweetsInHopper_27 : decode cX1_sweetsInHopper 27 = .ok (.iinc 2 1, 3) := by decide +kernel
theorem dX1_sweetsInHopper_30 : decode cX1_sweetsInHopper 30 = .ok (.goto (-26), 3) := by decide +kernel
theorem dX1_sweetsInHopper_33 : decode cX1_sweetsInHopper 33 = .ok (.iload_n 1, 1) := by decide +kernel
theorem dX1_sweetsInHopper_34 : decode cX1_sweetsInHopper 34 = .ok (.ireturn, 1) := by decide +kernel
def st_X1_sweetsInHopper_L4 (m : Nat) (i : Nat) (Q : Int32 → Sg → Prop) (K4 : Int32 → Int32 → Sg → Prop) (v1 : Int32) (v2 : Int32) (σ : Sg) : Prop := (((σ m 5 i 2) ≤ v2 → Q v1 σ) ∧ (¬ (σ m 5 i 2) ≤ v2 → (((6 : Int32) ≤ v2 → Q v1 σ) ∧ (¬ (6 : Int32) ≤ v2 → (vp_in v2 6 ∧ ∀ z3 : Int32, z3 = (v1 + (σ m 7 i v2.toNatClampNeg)) → ∀ z4 : Int32, z4 = v2 + (1 : Int32) → K4 z3 z4 σ)))))
def wp_X1_sweetsInHopper_L4 (m : Nat) (i : Nat) (Q : Int32 → Sg → Prop) (v1 : Int32) (v2 : Int32) (σ : Sg) : Prop := ∃ n : Nat, lpN (fun (K : Int32 × Int32 × Sg → Prop) (a : Int32 × Int32 × Sg) => st_X1_sweetsInHopper_L4 m i Q (fun v1 v2 σ => K (v1, v2, σ)) (a.1) (a.2.1) (a.2.2)) n (v1, v2, σ)
set_option maxRecDepth 100000 in
set_option maxHeartbeats 4000000 in
theorem gs_X1_sweetsInHopper_L4 {X : Tx} {Q : Int32 → Sg → Prop} (C : Cx X cX1_sweetsInHopper "SweetWraps$Lane" (some .int) 0 0 3 (QI (tE X) Q)) {m : Nat} {i : Nat} (hm : m < 11) (hi : i < 4) {K4 : Int32 → Int32 → Sg → Prop} (hK4 : ∀ (v1 : Int32) (v2 : Int32) (σ : Sg), K4 v1 v2 σ → G X σ [(0, .ref (ad (tE X) m 5 i)), (1, .int v1), (2, .int v2)] [] 4) {v1 : Int32} {v2 : Int32} {σ : Sg} (hw : st_X1_sweetsInHopper_L4 m i Q K4 v1 v2 σ) : G X σ [(0, .ref (ad (tE X) m 5 i)), (1, .int v1), (2, .int v2)] [] 4 := by
  unfold st_X1_sweetsInHopper_L4 at hw
  refine gx_iload_n C dX1_sweetsInHopper_4 2 rfl ?_
  refine gx_aload_n C dX1_sweetsInHopper_5 0 rfl ?_
  refine gx_get C (ok5 hm hi) rfl rfl inX1 (ref := "SweetWraps$Lane") 2 (by decide) bw_36 rfl rfl dX1_sweetsInHopper_6 ?_
  refine gx_icmp_ge (tgt := 33) C dX1_sweetsInHopper_9 (by decide) (fun c1 => ?_) (fun c1 => ?_)
  · replace hw := hw.1 c1
    refine gx_iload_n C dX1_sweetsInHopper_33 1 rfl ?_
    exact gx_iret C rfl rfl dX1_sweetsInHopper_34 hw
  · replace hw := hw.2 c1
    refine gx_iload_n C dX1_sweetsInHopper_12 2 rfl ?_
    refine gx_bipush (v := (6 : Int32)) C dX1_sweetsInHopper_13 (by decide) ?_
    refine gx_icmp_ge (tgt := 33) C dX1_sweetsInHopper_15 (by decide) (fun c2 => ?_) (fun c2 => ?_)
    · replace hw := hw.1 c2
      refine gx_iload_n C dX1_sweetsInHopper_33 1 rfl ?_
      exact gx_iret C rfl rfl dX1_sweetsInHopper_34 hw
    · replace hw := hw.2 c2
      refine gx_iload_n C dX1_sweetsInHopper_18 1 rfl ?_
      refine gx_aload_n C dX1_sweetsInHopper_19 0 rfl ?_
      refine gx_get C (ok5 hm hi) rfl rfl inX1 (ref := "SweetWraps$Lane") 1 (by decide) bw_34 rfl rfl dX1_sweetsInHopper_20 ?_
      refine gx_iload_n C dX1_sweetsInHopper_23 2 rfl ?_
      refine gx_iald C (ok7 hm hi) rfl hw.1 _ rfl dX1_sweetsInHopper_24 ?_
      replace hw := hw.2
      refine gx_iadd C dX1_sweetsInHopper_25 ?_
      obtain ⟨z3, e_z3⟩ : ∃ z : Int32, z = (v1 + (σ m 7 i v2.toNatClampNeg)) := ⟨_, rfl⟩
      replace hw := hw z3 e_z3
      refine gx_top e_z3 ?_
      refine gx_istore_n (lv' := [(1, .int z3), (0, .ref (ad (tE X) m 5 i)), (2, .int v2)]) C dX1_sweetsInHopper_26 (by decide) rfl ?_
      obtain ⟨z4, e_z4⟩ : ∃ z : Int32, z = v2 + (1 : Int32) := ⟨_, rfl⟩
      replace hw := hw z4 e_z4
      refine gx_iinc (v := z4) (lv' := [(2, .int z4), (1, .int z3), (0, .ref (ad (tE X) m 5 i))]) C dX1_sweetsInHopper_27 2 rfl (by rw [e_z4]; rfl) (by decide) rfl ?_
      refine gx_goto (tgt := 4) C dX1_sweetsInHopper_30 (by decide) ?_
      refine gx_sub (lv' := [(0, .ref (ad (tE X) m 5 i)), (1, .int z3), (2, .int z4)]) [2, 1, 0] rfl ?_
      exact hK4 _ _ _ hw
set_option maxRecDepth 100000 in
set_option maxHeartbeats 4000000 in
theorem g_X1_sweetsInHopper_L4 {X : Tx} {Q : Int32 → Sg → Prop} (C : Cx X cX1_sweetsInHopper "SweetWraps$Lane" (some .int) 0 0 3 (QI (tE X) Q)) {m : Nat} {i : Nat} (hm : m < 11) (hi : i < 4) {v1 : Int32} {v2 : Int32} {σ : Sg} (hw : wp_X1_sweetsInHopper_L4 m i Q v1 v2 σ) : G X σ [(0, .ref (ad (tE X) m 5 i)), (1, .int v1), (2, .int v2)] [] 4 := by
  obtain ⟨n, hw⟩ := hw
  exact lpN_G (P := (fun (a : Int32 × Int32 × Sg) => G X (a.2.2) [(0, .ref (ad (tE X) m 5 i)), (1, .int (a.1)), (2, .int (a.2.1))] [] 4)) (fun K a hK h => gs_X1_sweetsInHopper_L4 C hm hi (fun v1 v2 σ h => hK (v1, v2, σ) h) h) n _ hw
def wp_X1_sweetsInHopper (m : Nat) (i : Nat) (σ : Sg) (Q : Int32 → Sg → Prop) : Prop := wp_X1_sweetsInHopper_L4 m i Q (0 : Int32) (0 : Int32) σ
set_option maxRecDepth 100000 in
set_option maxHeartbeats 4000000 in
theorem c_X1_sweetsInHopper (l : Launch) (E : Ev) {m : Nat} {i : Nat} (hm : m < 11) (hi : i < 4) {σ : Sg} {Q : Int32 → Sg → Prop} (hw : wp_X1_sweetsInHopper m i σ Q) : CT l E yX1_sweetsInHopper cX1_sweetsInHopper 3 (some .int) 0 0 [.ref (ad E m 5 i)] σ (QI E Q) := by
  refine CT_of (by decide) (Nat.le_of_ble_eq_true rfl) (fun X h1 h2 C => ?_)
  subst h1; subst h2
  have C : Cx X cX1_sweetsInHopper "SweetWraps$Lane" (some .int) 0 0 3 (QI (tE X) Q) := C
  show G X σ [(0, .ref (ad (tE X) m 5 i))] [] 0
  unfold wp_X1_sweetsInHopper at hw
  refine gx_iconst (v := (0 : Int32)) C dX1_sweetsInHopper_0 (by decide) ?_
  refine gx_istore_n (lv' := [(1, .int (0 : Int32)), (0, .ref (ad (tE X) m 5 i))]) C dX1_sweetsInHopper_1 (by decide) rfl ?_
  refine gx_iconst (v := (0 : Int32)) C dX1_sweetsInHopper_2 (by decide) ?_
  refine gx_istore_n (lv' := [(2, .int (0 : Int32)), (1, .int (0 : Int32)), (0, .ref (ad (tE X) m 5 i))]) C dX1_sweetsInHopper_3 (by decide) rfl ?_
  refine gx_sub (lv' := [(0, .ref (ad (tE X) m 5 i)), (1, .int (0 : Int32)), (2, .int (0 : Int32))]) [2, 1, 0] rfl ?_
  exact g_X1_sweetsInHopper_L4 C hm hi hw
theorem hy_X1_sweetsInHopper : yX1_sweetsInHopper.cls = "SweetWraps$Lane" ∧ yX1_sweetsInHopper.cls ≠ "java/lang/invoke/MethodHandle" ∧ yX1_sweetsInHopper.cls ≠ "java/lang/invoke/VarHandle" ∧ (parseMethodDescriptor yX1_sweetsInHopper.desc).map (fun d => d.parameters.length) = some 0 := by decide +kernel

theorem dX1_sweetsOf_0 : decode cX1_sweetsOf 0 = .ok (.iconst 0, 1) := by decide +kernel
theorem dX1_sweetsOf_1 : decode cX1_sweetsOf 1 = .ok (.istore_n 2, 1) := by decide +kernel
theorem dX1_sweetsOf_2 : decode cX1_sweetsOf 2 = .ok (.iconst 0, 1) := by decide +kernel
theorem dX1_sweetsOf_3 : decode cX1_sweetsOf 3 = .ok (.istore_n 3, 1) := by decide +kernel
theorem dX1_sweetsOf_4 : decode cX1_sweetsOf 4 = .ok (.iload_n 3, 1) := by decide +kernel
theorem dX1_sweetsOf_5 : decode cX1_sweetsOf 5 = .ok (.aload_n 0, 1) := by decide +kernel
theorem dX1_sweetsOf_6 : decode cX1_sweetsOf 6 = .ok (.getfield 22, 3) := by decide +kernel
theorem dX1_sweetsOf_9 : decode cX1_sweetsOf 9 = .ok (.if_icmp .ge 34, 3) := by decide +kernel
theorem dX1_sweetsOf_12 : decode cX1_sweetsOf 12 = .ok (.iload_n 3, 1) := by decide +kernel
theorem dX1_sweetsOf_13 : decode cX1_sweetsOf 13 = .ok (.bipush 6, 2) := by decide +kernel
theorem dX1_sweetsOf_15 : decode cX1_sweetsOf 15 = .ok (.if_icmp .ge 28, 3) := by decide +kernel
theorem dX1_sweetsOf_18 : decode cX1_sweetsOf 18 = .ok (.aload_n 0, 1) := by decide +kernel
theorem dX1_sweetsOf_19 : decode cX1_sweetsOf 19 = .ok (.getfield 9, 3) := by decide +kernel
theorem dX1_sweetsOf_22 : decode cX1_sweetsOf 22 = .ok (.iload_n 3, 1) := by decide +kernel
theorem dX1_sweetsOf_23 : decode cX1_sweetsOf 23 = .ok (.iaload, 1) := by decide +kernel
theorem dX1_sweetsOf_24 : decode cX1_sweetsOf 24 = .ok (.iload_n 1, 1) := by decide +kernel
theorem dX1_sweetsOf_25 : decode cX1_sweetsOf 25 = .ok (.if_icmp .ne 12, 3) := by decide +kernel
theorem dX1_sweetsOf_28 : decode cX1_sweetsOf 28 = .ok (.iload_n 2, 1) := by decide +kernel
theorem dX1_sweetsOf_29 : decode cX1_sweetsOf 29 = .ok (.aload_n 0, 1) := by decide +kernel
theorem dX1_sweetsOf_30 : decode cX1_sweetsOf 30 = .ok (.getfield 15, 3) := by decide +kernel
theorem dX1_sweetsOf_33 : decode cX1_sweetsOf 33 = .ok (.iload_n 3, 1) := by decide +kernel
theorem dX1_sweetsOf_34 : decode cX1_sweetsOf 34 = .ok (.iaload, 1) := by decide +kernel
theorem dX1_sweetsOf_35 : decode cX1_sweetsOf 35 = .ok (.iadd, 1) := by decide +kernel
theorem dX1_sweetsOf_36 : decode cX1_sweetsOf 36 = .ok (.istore_n 2, 1) := by decide +kernel
theorem dX1_sweetsOf_37 : decode cX1_sweetsOf 37 = .ok (.iinc 3 1, 3) := by decide +kernel
theorem dX1_sweetsOf_40 : decode cX1_sweetsOf 40 = .ok (.goto (-36), 3) := by decide +kernel
theorem dX1_sweetsOf_43 : decode cX1_sweetsOf 43 = .ok (.iload_n 2, 1) := by decide +kernel
theorem dX1_sweetsOf_44 : decode cX1_sweetsOf 44 = .ok (.ireturn, 1) := by decide +kernel
def wp_X1_sweetsOf_b37 (m : Nat) (i : Nat) (x1 : Int32) (K4 : Int32 → Int32 → Sg → Prop) (Q : Int32 → Sg → Prop) (v2 : Int32) (v3 : Int32) (σ : Sg) : Prop := ∀ z5 : Int32, z5 = v3 + (1 : Int32) → K4 v2 z5 σ
set_option maxRecDepth 100000 in
set_option maxHeartbeats 4000000 in
theorem g_X1_sweetsOf_b37 {X : Tx} {Q : Int32 → Sg → Prop} (C : Cx X cX1_sweetsOf "SweetWraps$Lane" (some .int) 0 0 4 (QI (tE X) Q)) {m : Nat} {i : Nat} {x1 : Int32} (hm : m < 11) (hi : i < 4) {K4 : Int32 → Int32 → Sg → Prop} (hK4 : ∀ (v2 : Int32) (v3 : Int32) (σ : Sg), K4 v2 v3 σ → G X σ [(0, .ref (ad (tE X) m 5 i)), (1, .int x1), (2, .int v2), (3, .int v3)] [] 4) {v2 : Int32} {v3 : Int32} {σ : Sg} (hw : wp_X1_sweetsOf_b37 m i x1 K4 Q v2 v3 σ) : G X σ [(0, .ref (ad (tE X) m 5 i)), (1, .int x1), (2, .int v2), (3, .int v3)] [] 37 := by
  unfold wp_X1_sweetsOf_b37 at hw
  obtain ⟨z5, e_z5⟩ : ∃ z : Int32, z = v3 + (1 : Int32) := ⟨_, rfl⟩
  replace hw := hw z5 e_z5
  refine gx_iinc (v := z5) (lv' := [(3, .int z5), (0, .ref (ad (tE X) m 5 i)), (1, .int x1), (2, .int v2)]) C dX1_sweetsOf_37 3 rfl (by rw [e_z5]; rfl) (by decide) rfl ?_
  refine gx_goto (tgt := 4) C dX1_sweetsOf_40 (by decide) ?_
  refine gx_sub (lv' := [(0, .ref (ad (tE X) m 5 i)), (1, .int x1), (2, .int v2), (3, .int z5)]) [1, 2, 3, 0] rfl ?_
  exact hK4 _ _ _ hw
def st_X1_sweetsOf_L4 (m : Nat) (i : Nat) (x1 : Int32) (Q : Int32 → Sg → Prop) (K4 : Int32 → Int32 → Sg → Prop) (v2 : Int32) (v3 : Int32) (σ : Sg) : Prop := (((σ m 5 i 2) ≤ v3 → Q v2 σ) ∧ (¬ (σ m 5 i 2) ≤ v3 → (((6 : Int32) ≤ v3 → Q v2 σ) ∧ (¬ (6 : Int32) ≤ v3 → (vp_in v3 6 ∧ ((¬ (σ m 6 i v3.toNatClampNeg) = x1 → wp_X1_sweetsOf_b37 m i x1 K4 Q v2 v3 σ) ∧ ((σ m 6 i v3.toNatClampNeg) = x1 → (vp_in v3 6 ∧ ∀ z4 : Int32, z4 = (v2 + (σ m 7 i v3.toNatClampNeg)) → wp_X1_sweetsOf_b37 m i x1 K4 Q z4 v3 σ))))))))
def wp_X1_sweetsOf_L4 (m : Nat) (i : Nat) (x1 : Int32) (Q : Int32 → Sg → Prop) (v2 : Int32) (v3 : Int32) (σ : Sg) : Prop := ∃ n : Nat, lpN (fun (K : Int32 × Int32 × Sg → Prop) (a : Int32 × Int32 × Sg) => st_X1_sweetsOf_L4 m i x1 Q (fun v2 v3 σ => K (v2, v3, σ)) (a.1) (a.2.1) (a.2.2)) n (v2, v3, σ)
set_option maxRecDepth 100000 in
set_option maxHeartbeats 4000000 in
theorem gs_X1_sweetsOf_L4 {X : Tx} {Q : Int32 → Sg → Prop} (C : Cx X cX1_sweetsOf "SweetWraps$Lane" (some .int) 0 0 4 (QI (tE X) Q)) {m : Nat} {i : Nat} {x1 : Int32} (hm : m < 11) (hi : i < 4) {K4 : Int32 → Int32 → Sg → Prop} (hK4 : ∀ (v2 : Int32) (v3 : Int32) (σ : Sg), K4 v2 v3 σ → G X σ [(0, .ref (ad (tE X) m 5 i)), (1, .int x1), (2, .int v2), (3, .int v3)] [] 4) {v2 : Int32} {v3 : Int32} {σ : Sg} (hw : st_X1_sweetsOf_L4 m i x1 Q K4 v2 v3 σ) : G X σ [(0, .ref (ad (tE X) m 5 i)), (1, .int x1), (2, .int v2), (3, .int v3)] [] 4 := by
  unfold st_X1_sweetsOf_L4 at hw
  refine gx_iload_n C dX1_sweetsOf_4 3 rfl ?_
  refine gx_aload_n C dX1_sweetsOf_5 0 rfl ?_
  refine gx_get C (ok5 hm hi) rfl rfl inX1 (ref := "SweetWraps$Lane") 2 (by decide) bw_36 rfl rfl dX1_sweetsOf_6 ?_
  refine gx_icmp_ge (tgt := 43) C dX1_sweetsOf_9 (by decide) (fun c1 => ?_) (fun c1 => ?_)
  · replace hw := hw.1 c1
    refine gx_iload_n C dX1_sweetsOf_43 2 rfl ?_
    exact gx_iret C rfl rfl dX1_sweetsOf_44 hw
  · replace hw := hw.2 c1
    refine gx_iload_n C dX1_sweetsOf_12 3 rfl ?_
    refine gx_bipush (v := (6 : Int32)) C dX1_sweetsOf_13 (by decide) ?_
    refine gx_icmp_ge (tgt := 43) C dX1_sweetsOf_15 (by decide) (fun c2 => ?_) (fun c2 => ?_)
    · replace hw := hw.1 c2
      refine gx_iload_n C dX1_sweetsOf_43 2 rfl ?_
      exact gx_iret C rfl rfl dX1_sweetsOf_44 hw
    · replace hw := hw.2 c2
      refine gx_aload_n C dX1_sweetsOf_18 0 rfl ?_
      refine gx_get C (ok5 hm hi) rfl rfl inX1 (ref := "SweetWraps$Lane") 0 (by decide) bw_32 rfl rfl dX1_sweetsOf_19 ?_
      refine gx_iload_n C dX1_sweetsOf_22 3 rfl ?_
      refine gx_iald C (ok6 hm hi) rfl hw.1 _ rfl dX1_sweetsOf_23 ?_
      replace hw := hw.2
      refine gx_iload_n C dX1_sweetsOf_24 1 rfl ?_
      refine gx_icmp_ne (tgt := 37) C dX1_sweetsOf_25 (by decide) (fun c3 => ?_) (fun c3 => ?_)
      · replace hw := hw.1 c3
        exact g_X1_sweetsOf_b37 C hm hi hK4 hw
      · replace hw := hw.2 c3
        refine gx_iload_n C dX1_sweetsOf_28 2 rfl ?_
        refine gx_aload_n C dX1_sweetsOf_29 0 rfl ?_
        refine gx_get C (ok5 hm hi) rfl rfl inX1 (ref := "SweetWraps$Lane") 1 (by decide) bw_34 rfl rfl dX1_sweetsOf_30 ?_
        refine gx_iload_n C dX1_sweetsOf_33 3 rfl ?_
        refine gx_iald C (ok7 hm hi) rfl hw.1 _ rfl dX1_sweetsOf_34 ?_
        replace hw := hw.2
        refine gx_iadd C dX1_sweetsOf_35 ?_
        obtain ⟨z4, e_z4⟩ : ∃ z : Int32, z = (v2 + (σ m 7 i v3.toNatClampNeg)) := ⟨_, rfl⟩
        replace hw := hw z4 e_z4
        refine gx_top e_z4 ?_
        refine gx_istore_n (lv' := [(2, .int z4), (0, .ref (ad (tE X) m 5 i)), (1, .int x1), (3, .int v3)]) C dX1_sweetsOf_36 (by decide) rfl ?_
        refine gx_sub (lv' := [(0, .ref (ad (tE X) m 5 i)), (1, .int x1), (2, .int z4), (3, .int v3)]) [1, 2, 0, 3] rfl ?_
        exact g_X1_sweetsOf_b37 C hm hi hK4 hw
set_option maxRecDepth 100000 in
set_option maxHeartbeats 4000000 in
theorem g_X1_sweetsOf_L4 {X : Tx} {Q : Int32 → Sg → Prop} (C : Cx X cX1_sweetsOf "SweetWraps$Lane" (some .int) 0 0 4 (QI (tE X) Q)) {m : Nat} {i : Nat} {x1 : Int32} (hm : m < 11) (hi : i < 4) {v2 : Int32} {v3 : Int32} {σ : Sg} (hw : wp_X1_sweetsOf_L4 m i x1 Q v2 v3 σ) : G X σ [(0, .ref (ad (tE X) m 5 i)), (1, .int x1), (2, .int v2), (3, .int v3)] [] 4 := by
  obtain ⟨n, hw⟩ := hw
  exact lpN_G (P := (fun (a : Int32 × Int32 × Sg) => G X (a.2.2) [(0, .ref (ad (tE X) m 5 i)), (1, .int x1), (2, .int (a.1)), (3, .int (a.2.1))] [] 4)) (fun K a hK h => gs_X1_sweetsOf_L4 C hm hi (fun v2 v3 σ h => hK (v2, v3, σ) h) h) n _ hw
def wp_X1_sweetsOf (m : Nat) (i : Nat) (x1 : Int32) (σ : Sg) (Q : Int32 → Sg → Prop) : Prop := wp_X1_sweetsOf_L4 m i x1 Q (0 : Int32) (0 : Int32) σ
set_option maxRecDepth 100000 in
set_option maxHeartbeats 4000000 in
theorem c_X1_sweetsOf (l : Launch) (E : Ev) {m : Nat} {i : Nat} {x1 : Int32} (hm : m < 11) (hi : i < 4) {σ : Sg} {Q : Int32 → Sg → Prop} (hw : wp_X1_sweetsOf m i x1 σ Q) : CT l E yX1_sweetsOf cX1_sweetsOf 4 (some .int) 0 0 [.ref (ad E m 5 i), .int x1] σ (QI E Q) := by
  refine CT_of (by decide) (Nat.le_of_ble_eq_true rfl) (fun X h1 h2 C => ?_)
  subst h1; subst h2
  have C : Cx X cX1_sweetsOf "SweetWraps$Lane" (some .int) 0 0 4 (QI (tE X) Q) := C
  show G X σ [(0, .ref (ad (tE X) m 5 i)), (1, .int x1)] [] 0
  unfold wp_X1_sweetsOf at hw
  refine gx_iconst (v := (0 : Int32)) C dX1_sweetsOf_0 (by decide) ?_
  refine gx_istore_n (lv' := [(2, .int (0 : Int32)), (0, .ref (ad (tE X) m 5 i)), (1, .int x1)]) C dX1_sweetsOf_1 (by decide) rfl ?_
  refine gx_iconst (v := (0 : Int32)) C dX1_sweetsOf_2 (by decide) ?_
  refine gx_istore_n (lv' := [(3, .int (0 : Int32)), (2, .int (0 : Int32)), (0, .ref (ad (tE X) m 5 i)), (1, .int x1)]) C dX1_sweetsOf_3 (by decide) rfl ?_
  refine gx_sub (lv' := [(0, .ref (ad (tE X) m 5 i)), (1, .int x1), (2, .int (0 : Int32)), (3, .int (0 : Int32))]) [2, 3, 1, 0] rfl ?_
  exact g_X1_sweetsOf_L4 C hm hi hw
theorem hy_X1_sweetsOf : yX1_sweetsOf.cls = "SweetWraps$Lane" ∧ yX1_sweetsOf.cls ≠ "java/lang/invoke/MethodHandle" ∧ yX1_sweetsOf.cls ≠ "java/lang/invoke/VarHandle" ∧ (parseMethodDescriptor yX1_sweetsOf.desc).map (fun d => d.parameters.length) = some 1 := by decide +kernel

theorem dX1_addSweets_0 : decode cX1_addSweets 0 = .ok (.aload_n 0, 1) := by decide +kernel
theorem dX1_addSweets_1 : decode cX1_addSweets 1 = .ok (.aload_n 0, 1) := by decide +kernel
theorem dX1_addSweets_2 : decode cX1_addSweets 2 = .ok (.getfield 22, 3) := by decide +kernel
theorem dX1_addSweets_5 : decode cX1_addSweets 5 = .ok (.iconst 1, 1) := by decide +kernel
theorem dX1_addSweets_6 : decode cX1_addSweets 6 = .ok (.isub, 1) := by decide +kernel
theorem dX1_addSweets_7 : decode cX1_addSweets 7 = .ok (.invokevirtual 42, 3) := by decide +kernel
theorem dX1_addSweets_10 : decode cX1_addSweets 10 = .ok (.ifCond .eq 22, 3) := by decide +kernel
theorem dX1_addSweets_13 : decode cX1_addSweets 13 = .ok (.aload_n 0, 1) := by decide +kernel
theorem dX1_addSweets_14 : decode cX1_addSweets 14 = .ok (.getfield 9, 3) := by decide +kernel
theorem dX1_addSweets_17 : decode cX1_addSweets 17 = .ok (.aload_n 0, 1) := by decide +kernel
theorem dX1_addSweets_18 : decode cX1_addSweets 18 = .ok (.getfield 22, 3) := by decide +kernel
theorem dX1_addSweets_21 : decode cX1_addSweets 21 = .ok (.iconst 1, 1) := by decide +kernel
theorem dX1_addSweets_22 : decode cX1_addSweets 22 = .ok (.isub, 1) := by decide +kernel
theorem dX1_addSweets_23 : decode cX1_addSweets 23 = .ok (.iaload, 1) := by decide +kernel
theorem dX1_addSweets_24 : decode cX1_addSweets 24 = .ok (.iload_n 1, 1) := by decide +kernel
theorem dX1_addSweets_25 : decode cX1_addSweets 25 = .ok (.if_icmp .ne 7, 3) := by decide +kernel
theorem dX1_addSweets_28 : decode cX1_addSweets 28 = .ok (.iconst 1, 1) := by decide +kernel
theorem dX1_addSweets_29 : decode cX1_addSweets 29 = .ok (.goto 4, 3) := by decide +kernel
theorem dX1_addSweets_32 : decode cX1_addSweets 32 = .ok (.iconst 0, 1) := by decide +kernel
theorem dX1_addSweets_33 : decode cX1_addSweets 33 = .ok (.istore_n 3, 1) := by decide +kernel
theorem dX1_addSweets_34 : decode cX1_addSweets 34 = .ok (.iload_n 3, 1) := by decide +kernel
theorem dX1_addSweets_35 : decode cX1_addSweets 35 = .ok (.ifCond .eq 12, 3) := by decide +kernel
theorem dX1_addSweets_38 : decode cX1_addSweets 38 = .ok (.aload_n 0, 1) := by decide +kernel
theorem dX1_addSweets_39 : decode cX1_addSweets 39 = .ok (.getfield 22, 3) := by decide +kernel
theorem dX1_addSweets_42 : decode cX1_addSweets 42 = .ok (.iconst 1, 1) := by decide +kernel
theorem dX1_addSweets_43 : decode cX1_addSweets 43 = .ok (.isub, 1) := by decide +kernel
theorem dX1_addSweets_44 : decode cX1_addSweets 44 = .ok (.goto 7, 3) := by decide +kernel
theorem dX1_addSweets_47 : decode cX1_addSweets 47 = .ok (.aload_n 0, 1) := by decide +kernel
theorem dX1_addSweets_48 : decode cX1_addSweets 48 = .ok (.getfield 22, 3) := by decide +kernel
theorem dX1_addSweets_51 : decode cX1_addSweets 51 = .ok (.istore 4, 2) := by decide +kernel
theorem dX1_addSweets_53 : decode cX1_addSweets 53 = .ok (.iload 4, 2) := by decide +kernel
theorem dX1_addSweets_55 : decode cX1_addSweets 55 = .ok (.bipush 6, 2) := by decide +kernel
theorem dX1_addSweets_57 : decode cX1_addSweets 57 = .ok (.invokestatic 38, 3) := by decide +kernel
theorem dX1_addSweets_60 : decode cX1_addSweets 60 = .ok (.ifCond .ne 6, 3) := by decide +kernel
theorem dX1_addSweets_63 : decode cX1_addSweets 63 = .ok (.bipush (-4), 2) := by decide +kernel
theorem dX1_addSweets_65 : decode cX1_addSweets 65 = .ok (.ireturn, 1) := by decide +kernel
theorem dX1_addSweets_66 : decode cX1_addSweets 66 = .ok (.aload_n 0, 1) := by decide +kernel
theorem dX1_addSweets_67 : decode cX1_addSweets 67 = .ok (.invokevirtual 46, 3) := by decide +kernel
theorem dX1_addSweets_70 : decode cX1_addSweets 70 = .ok (.iload_n 2, 1) := by decide +kernel
theorem dX1_addSweets_71 : decode cX1_addSweets 71 = .ok (.iadd, 1) := by decide +kernel
theorem dX1_addSweets_72 : decode cX1_addSweets 72 = .ok (.sipush 999, 3) := by decide +kernel
theorem dX1_addSweets_75 : decode cX1_addSweets 75 = .ok (.if_icmp .le 6, 3) := by decide +kernel
theorem dX1_addSweets_78 : decode cX1_addSweets 78 = .ok (.bipush (-4), 2) := by decide +kernel
theorem dX1_addSweets_80 : decode cX1_addSweets 80 = .ok (.ireturn, 1) := by decide +kernel
theorem dX1_addSweets_81 : decode cX1_addSweets 81 = .ok (.aload_n 0, 1) := by decide +kernel
theorem dX1_addSweets_82 : decode cX1_addSweets 82 = .ok (.getfield 9, 3) := by decide +kernel
theorem dX1_addSweets_85 : decode cX1_addSweets 85 = .ok (.iload 4, 2) := by decide +kernel
theorem dX1_addSweets_87 : decode cX1_addSweets 87 = .ok (.iload_n 1, 1) := by decide +kernel
theorem dX1_addSweets_88 : decode cX1_addSweets 88 = .ok (.iastore, 1) := by decide +kernel
theorem dX1_addSweets_89 : decode cX1_addSweets 89 = .ok (.aload_n 0, 1) := by decide +kernel
theorem dX1_addSweets_90 : decode cX1_addSweets 90 = .ok (.getfield 15, 3) := by decide +kernel
theorem dX1_addSweets_93 : decode cX1_addSweets 93 = .ok (.iload 4, 2) := by decide +kernel
theorem dX1_addSweets_95 : decode cX1_addSweets 95 = .ok (.iload_n 3, 1) := by decide +kernel
theorem dX1_addSweets_96 : decode cX1_addSweets 96 = .ok (.ifCond .eq 15, 3) := by decide +kernel
theorem dX1_addSweets_99 : decode cX1_addSweets 99 = .ok (.aload_n 0, 1) := by decide +kernel
theorem dX1_addSweets_100 : decode cX1_addSweets 100 = .ok (.getfield 15, 3) := by decide +kernel
theorem dX1_addSweets_103 : decode cX1_addSweets 103 = .ok (.iload 4, 2) := by decide +kernel
theorem dX1_addSweets_105 : decode cX1_addSweets 105 = .ok (.iaload, 1) := by decide +kernel
theorem dX1_addSweets_106 : decode cX1_addSweets 106 = .ok (.iload_n 2, 1) := by decide +kernel
theorem dX1_addSweets_107 : decode cX1_addSweets 107 = .ok (.iadd, 1) := by decide +kernel
theorem dX1_addSweets_108 : decode cX1_addSweets 108 = .ok (.goto 4, 3) := by decide +kernel
theorem dX1_addSweets_111 : decode cX1_addSweets 111 = .ok (.iload_n 2, 1) := by decide +kernel
theorem dX1_addSweets_112 : decode cX1_addSweets 112 = .ok (.iastore, 1) := by decide +kernel
theorem dX1_addSweets_113 : decode cX1_addSweets 113 = .ok (.aload_n 0, 1) := by decide +kernel
theorem dX1_addSweets_114 : decode cX1_addSweets 114 = .ok (.iload 4, 2) := by decide +kernel
theorem dX1_addSweets_116 : decode cX1_addSweets 116 = .ok (.iconst 1, 1) := by decide +kernel
theorem dX1_addSweets_117 : decode cX1_addSweets 117 = .ok (.iadd, 1) := by decide +kernel
theorem dX1_addSweets_118 : decode cX1_addSweets 118 = .ok (.putfield 22, 3) := by decide +kernel
theorem dX1_addSweets_121 : decode cX1_addSweets 121 = .ok (.aload_n 0, 1) := by decide +kernel
theorem dX1_addSweets_122 : decode cX1_addSweets 122 = .ok (.invokevirtual 46, 3) := by decide +kernel
theorem dX1_addSweets_125 : decode cX1_addSweets 125 = .ok (.ireturn, 1) := by decide +kernel
def wp_X1_addSweets_b112 (m : Nat) (i : Nat) (x1 : Int32) (x2 : Int32) (Q : Int32 → Sg → Prop) (v4 : Int32) (s0 : Int32) (s1 : Int32) (σ : Sg) : Prop := (vp_in s1 6 ∧ ∀ σ14 : Sg, σ14 = up σ m 7 i s1.toNatClampNeg s0 → ∀ σ15 : Sg, σ15 = up σ14 m 5 i 2 (v4 + (1 : Int32)) → wp_X1_sweetsInHopper m i σ15 (fun r16 σ17 => Q r16 σ17))
set_option maxRecDepth 100000 in
set_option maxHeartbeats 4000000 in
theorem g_X1_addSweets_b112 {X : Tx} {Q : Int32 → Sg → Prop} (C : Cx X cX1_addSweets "SweetWraps$Lane" (some .int) 2 42 5 (QI (tE X) Q)) {m : Nat} {i : Nat} {x1 : Int32} {x2 : Int32} (hm : m < 11) (hi : i < 4) {v4 : Int32} {s0 : Int32} {s1 : Int32} {σ : Sg} (hw : wp_X1_addSweets_b112 m i x1 x2 Q v4 s0 s1 σ) : G X σ [(0, .ref (ad (tE X) m 5 i)), (4, .int v4)] [.int s0, .int s1, .ref (ad (tE X) m 7 i)] 112 := by
  unfold wp_X1_addSweets_b112 at hw
  refine gx_iast C (ok7 hm hi) (fun _ => rfl) hw.1 _ rfl rfl dX1_addSweets_112 ?_
  replace hw := hw.2
  obtain ⟨σ14, e_σ14⟩ : ∃ z : Sg, z = up σ m 7 i s1.toNatClampNeg s0 := ⟨_, rfl⟩
  replace hw := hw σ14 e_σ14
  refine gx_st e_σ14 ?_
  refine gx_aload_n C dX1_addSweets_113 0 rfl ?_
  refine gx_iload C dX1_addSweets_114 1 rfl ?_
  refine gx_iconst (v := (1 : Int32)) C dX1_addSweets_116 (by decide) ?_
  refine gx_iadd C dX1_addSweets_117 ?_
  refine gx_put C (ok5 hm hi) rfl rfl inX1 tyX1 tyX1_ok nmX1 (ref := "SweetWraps$Lane") 2 (by decide) bw_36 rfl rfl (v := .int (v4 + (1 : Int32))) rfl rfl (Nat.le_of_ble_eq_true rfl) (upd (σ14 m 5 i) 2 (v4 + (1 : Int32))) rfl dX1_addSweets_118 ?_
  obtain ⟨σ15, e_σ15⟩ : ∃ z : Sg, z = up σ14 m 5 i 2 (v4 + (1 : Int32)) := ⟨_, rfl⟩
  replace hw := hw σ15 e_σ15
  refine gx_st e_σ15 ?_
  refine gx_aload_n C dX1_addSweets_121 0 rfl ?_
  refine gx_vcalli (As := []) (rest := []) C (c_X1_sweetsInHopper _ _ hm hi hw) (ok5 hm hi) rfl rfl bw_238 bw_239 bw_240 bw_3 bw_241 hy_X1_sweetsInHopper ⟨by decide, by decide⟩ rfl (Nat.le_of_ble_eq_true rfl) dX1_addSweets_122 (fun r16 σ17 hw => ?_)
  exact gx_iret C rfl rfl dX1_addSweets_125 hw
def wp_X1_addSweets_b51 (m : Nat) (i : Nat) (x1 : Int32) (x2 : Int32) (Q : Int32 → Sg → Prop) (v3 : Int32) (s0 : Int32) (σ : Sg) : Prop := wp_X5_isIndex s0 (6 : Int32) σ (fun r6 σ7 => ((¬ r6 = 0 → wp_X1_sweetsInHopper m i σ7 (fun r9 σ10 => (((r9 + x2) ≤ (999 : Int32) → (vp_in s0 6 ∧ ∀ σ12 : Sg, σ12 = up σ10 m 6 i s0.toNatClampNeg x1 → ((v3 = 0 → wp_X1_addSweets_b112 m i x1 x2 Q s0 x2 s0 σ12) ∧ (¬ v3 = 0 → (vp_in s0 6 ∧ wp_X1_addSweets_b112 m i x1 x2 Q s0 ((σ12 m 7 i s0.toNatClampNeg) + x2) s0 σ12))))) ∧ (¬ (r9 + x2) ≤ (999 : Int32) → Q (-4 : Int32) σ10)))) ∧ (r6 = 0 → Q (-4 : Int32) σ7)))
set_option maxRecDepth 100000 in
set_option maxHeartbeats 4000000 in
theorem g_X1_addSweets_b51 {X : Tx} {Q : Int32 → Sg → Prop} (C : Cx X cX1_addSweets "SweetWraps$Lane" (some .int) 2 42 5 (QI (tE X) Q)) {m : Nat} {i : Nat} {x1 : Int32} {x2 : Int32} (hm : m < 11) (hi : i < 4) {v3 : Int32} {s0 : Int32} {σ : Sg} (hw : wp_X1_addSweets_b51 m i x1 x2 Q v3 s0 σ) : G X σ [(0, .ref (ad (tE X) m 5 i)), (1, .int x1), (2, .int x2), (3, .int v3)] [.int s0] 51 := by
  unfold wp_X1_addSweets_b51 at hw
  refine gx_istore (lv' := [(4, .int s0), (0, .ref (ad (tE X) m 5 i)), (1, .int x1), (2, .int x2), (3, .int v3)]) C dX1_addSweets_51 (by decide) rfl ?_
  refine gx_iload C dX1_addSweets_53 0 rfl ?_
  refine gx_bipush (v := (6 : Int32)) C dX1_addSweets_55 (by decide) ?_
  refine gx_ncalli (As := [.int s0, .int (6 : Int32)]) (rest := []) (host := "SweetWraps") C (c_X5_isIndex _ _ hw) (nest_in _ (by decide +kernel)) bw_224 bw_1 bw_225 hyS_X5_isIndex ⟨by decide, by decide⟩ rfl (Nat.le_of_ble_eq_true rfl) dX1_addSweets_57 (fun r6 σ7 hw => ?_)
  refine gx_if_ne (tgt := 66) C dX1_addSweets_60 (by decide) (fun c8 => ?_) (fun c8 => ?_)
  · replace hw := hw.1 c8
    refine gx_aload_n C dX1_addSweets_66 1 rfl ?_
    refine gx_vcalli (As := []) (rest := []) C (c_X1_sweetsInHopper _ _ hm hi hw) (ok5 hm hi) rfl rfl bw_238 bw_239 bw_240 bw_3 bw_241 hy_X1_sweetsInHopper ⟨by decide, by decide⟩ rfl (Nat.le_of_ble_eq_true rfl) dX1_addSweets_67 (fun r9 σ10 hw => ?_)
    refine gx_iload_n C dX1_addSweets_70 3 rfl ?_
    refine gx_iadd C dX1_addSweets_71 ?_
    refine gx_sipush (v := (999 : Int32)) C dX1_addSweets_72 (by decide) ?_
    refine gx_icmp_le (tgt := 81) C dX1_addSweets_75 (by decide) (fun c11 => ?_) (fun c11 => ?_)
    · replace hw := hw.1 c11
      refine gx_aload_n C dX1_addSweets_81 1 rfl ?_
      refine gx_get C (ok5 hm hi) rfl rfl inX1 (ref := "SweetWraps$Lane") 0 (by decide) bw_32 rfl rfl dX1_addSweets_82 ?_
      refine gx_iload C dX1_addSweets_85 0 rfl ?_
      refine gx_iload_n C dX1_addSweets_87 2 rfl ?_
      refine gx_iast C (ok6 hm hi) (fun _ => rfl) hw.1 _ rfl rfl dX1_addSweets_88 ?_
      replace hw := hw.2
      obtain ⟨σ12, e_σ12⟩ : ∃ z : Sg, z = up σ10 m 6 i s0.toNatClampNeg x1 := ⟨_, rfl⟩
      replace hw := hw σ12 e_σ12
      refine gx_st e_σ12 ?_
      refine gx_aload_n C dX1_addSweets_89 1 rfl ?_
      refine gx_get C (ok5 hm hi) rfl rfl inX1 (ref := "SweetWraps$Lane") 1 (by decide) bw_34 rfl rfl dX1_addSweets_90 ?_
      refine gx_iload C dX1_addSweets_93 0 rfl ?_
      refine gx_iload_n C dX1_addSweets_95 4 rfl ?_
      refine gx_if_eq (tgt := 111) C dX1_addSweets_96 (by decide) (fun c13 => ?_) (fun c13 => ?_)
      · replace hw := hw.1 c13
        refine gx_iload_n C dX1_addSweets_111 3 rfl ?_
        refine gx_sub (lv' := [(0, .ref (ad (tE X) m 5 i)), (4, .int s0)]) [1, 0] rfl ?_
        exact g_X1_addSweets_b112 C hm hi hw
      · replace hw := hw.2 c13
        refine gx_aload_n C dX1_addSweets_99 1 rfl ?_
        refine gx_get C (ok5 hm hi) rfl rfl inX1 (ref := "SweetWraps$Lane") 1 (by decide) bw_34 rfl rfl dX1_addSweets_100 ?_
        refine gx_iload C dX1_addSweets_103 0 rfl ?_
        refine gx_iald C (ok7 hm hi) rfl hw.1 _ rfl dX1_addSweets_105 ?_
        replace hw := hw.2
        refine gx_iload_n C dX1_addSweets_106 3 rfl ?_
        refine gx_iadd C dX1_addSweets_107 ?_
        refine gx_goto (tgt := 112) C dX1_addSweets_108 (by decide) ?_
        refine gx_sub (lv' := [(0, .ref (ad (tE X) m 5 i)), (4, .int s0)]) [1, 0] rfl ?_
        exact g_X1_addSweets_b112 C hm hi hw
    · replace hw := hw.2 c11
      refine gx_bipush (v := (-4 : Int32)) C dX1_addSweets_78 (by decide) ?_
      exact gx_iret C rfl rfl dX1_addSweets_80 hw
  · replace hw := hw.2 c8
    refine gx_bipush (v := (-4 : Int32)) C dX1_addSweets_63 (by decide) ?_
    exact gx_iret C rfl rfl dX1_addSweets_65 hw
def wp_X1_addSweets_b33 (m : Nat) (i : Nat) (x1 : Int32) (x2 : Int32) (Q : Int32 → Sg → Prop) (s0 : Int32) (σ : Sg) : Prop := ((s0 = 0 → wp_X1_addSweets_b51 m i x1 x2 Q s0 (σ m 5 i 2) σ) ∧ (¬ s0 = 0 → wp_X1_addSweets_b51 m i x1 x2 Q s0 ((σ m 5 i 2) - (1 : Int32)) σ))
set_option maxRecDepth 100000 in
set_option maxHeartbeats 4000000 in
theorem g_X1_addSweets_b33 {X : Tx} {Q : Int32 → Sg → Prop} (C : Cx X cX1_addSweets "SweetWraps$Lane" (some .int) 2 42 5 (QI (tE X) Q)) {m : Nat} {i : Nat} {x1 : Int32} {x2 : Int32} (hm : m < 11) (hi : i < 4) {s0 : Int32} {σ : Sg} (hw : wp_X1_addSweets_b33 m i x1 x2 Q s0 σ) : G X σ [(0, .ref (ad (tE X) m 5 i)), (1, .int x1), (2, .int x2)] [.int s0] 33 := by
  unfold wp_X1_addSweets_b33 at hw
  refine gx_istore_n (lv' := [(3, .int s0), (0, .ref (ad (tE X) m 5 i)), (1, .int x1), (2, .int x2)]) C dX1_addSweets_33 (by decide) rfl ?_
  refine gx_iload_n C dX1_addSweets_34 0 rfl ?_
  refine gx_if_eq (tgt := 47) C dX1_addSweets_35 (by decide) (fun c5 => ?_) (fun c5 => ?_)
  · replace hw := hw.1 c5
    refine gx_aload_n C dX1_addSweets_47 1 rfl ?_
    refine gx_get C (ok5 hm hi) rfl rfl inX1 (ref := "SweetWraps$Lane") 2 (by decide) bw_36 rfl rfl dX1_addSweets_48 ?_
    refine gx_sub (lv' := [(0, .ref (ad (tE X) m 5 i)), (1, .int x1), (2, .int x2), (3, .int s0)]) [1, 2, 3, 0] rfl ?_
    exact g_X1_addSweets_b51 C hm hi hw
  · replace hw := hw.2 c5
    refine gx_aload_n C dX1_addSweets_38 1 rfl ?_
    refine gx_get C (ok5 hm hi) rfl rfl inX1 (ref := "SweetWraps$Lane") 2 (by decide) bw_36 rfl rfl dX1_addSweets_39 ?_
    refine gx_iconst (v := (1 : Int32)) C dX1_addSweets_42 (by decide) ?_
    refine gx_isub C dX1_addSweets_43 ?_
    refine gx_goto (tgt := 51) C dX1_addSweets_44 (by decide) ?_
    refine gx_sub (lv' := [(0, .ref (ad (tE X) m 5 i)), (1, .int x1), (2, .int x2), (3, .int s0)]) [1, 2, 3, 0] rfl ?_
    exact g_X1_addSweets_b51 C hm hi hw
def wp_X1_addSweets_b32 (m : Nat) (i : Nat) (x1 : Int32) (x2 : Int32) (Q : Int32 → Sg → Prop) (σ : Sg) : Prop := wp_X1_addSweets_b33 m i x1 x2 Q (0 : Int32) σ
set_option maxRecDepth 100000 in
set_option maxHeartbeats 4000000 in
theorem g_X1_addSweets_b32 {X : Tx} {Q : Int32 → Sg → Prop} (C : Cx X cX1_addSweets "SweetWraps$Lane" (some .int) 2 42 5 (QI (tE X) Q)) {m : Nat} {i : Nat} {x1 : Int32} {x2 : Int32} (hm : m < 11) (hi : i < 4) {σ : Sg} (hw : wp_X1_addSweets_b32 m i x1 x2 Q σ) : G X σ [(0, .ref (ad (tE X) m 5 i)), (1, .int x1), (2, .int x2)] [] 32 := by
  unfold wp_X1_addSweets_b32 at hw
  refine gx_iconst (v := (0 : Int32)) C dX1_addSweets_32 (by decide) ?_
  exact g_X1_addSweets_b33 C hm hi hw
def wp_X1_addSweets (m : Nat) (i : Nat) (x1 : Int32) (x2 : Int32) (σ : Sg) (Q : Int32 → Sg → Prop) : Prop := wp_X1_isHeap m i ((σ m 5 i 2) - (1 : Int32)) σ (fun r1 σ2 => ((r1 = 0 → wp_X1_addSweets_b32 m i x1 x2 Q σ2) ∧ (¬ r1 = 0 → (vp_in ((σ2 m 5 i 2) - (1 : Int32)) 6 ∧ ((¬ (σ2 m 6 i ((σ2 m 5 i 2) - (1 : Int32)).toNatClampNeg) = x1 → wp_X1_addSweets_b32 m i x1 x2 Q σ2) ∧ ((σ2 m 6 i ((σ2 m 5 i 2) - (1 : Int32)).toNatClampNeg) = x1 → wp_X1_addSweets_b33 m i x1 x2 Q (1 : Int32) σ2))))))
set_option maxRecDepth 100000 in
set_option maxHeartbeats 4000000 in
theorem c_X1_addSweets (l : Launch) (E : Ev) {m : Nat} {i : Nat} {x1 : Int32} {x2 : Int32} (hm : m < 11) (hi : i < 4) {σ : Sg} {Q : Int32 → Sg → Prop} (hw : wp_X1_addSweets m i x1 x2 σ Q) : CT l E yX1_addSweets cX1_addSweets 5 (some .int) 2 42 [.ref (ad E m 5 i), .int x1, .int x2] σ (QI E Q) := by
  refine CT_of (by decide) (Nat.le_of_ble_eq_true rfl) (fun X h1 h2 C => ?_)
  subst h1; subst h2
  have C : Cx X cX1_addSweets "SweetWraps$Lane" (some .int) 2 42 5 (QI (tE X) Q) := C
  show G X σ [(0, .ref (ad (tE X) m 5 i)), (1, .int x1), (2, .int x2)] [] 0
  unfold wp_X1_addSweets at hw
  refine gx_aload_n C dX1_addSweets_0 0 rfl ?_
  refine gx_aload_n C dX1_addSweets_1 0 rfl ?_
  refine gx_get C (ok5 hm hi) rfl rfl inX1 (ref := "SweetWraps$Lane") 2 (by decide) bw_36 rfl rfl dX1_addSweets_2 ?_
  refine gx_iconst (v := (1 : Int32)) C dX1_addSweets_5 (by decide) ?_
  refine gx_isub C dX1_addSweets_6 ?_
  refine gx_vcalli (As := [.int ((σ m 5 i 2) - (1 : Int32))]) (rest := []) C (c_X1_isHeap _ _ hm hi hw) (ok5 hm hi) rfl rfl bw_233 bw_234 bw_235 bw_3 bw_236 hy_X1_isHeap ⟨by decide, by decide⟩ rfl (Nat.le_of_ble_eq_true rfl) dX1_addSweets_7 (fun r1 σ2 hw => ?_)
  refine gx_if_eq (tgt := 32) C dX1_addSweets_10 (by decide) (fun c3 => ?_) (fun c3 => ?_)
  · replace hw := hw.1 c3
    exact g_X1_addSweets_b32 C hm hi hw
  · replace hw := hw.2 c3
    refine gx_aload_n C dX1_addSweets_13 0 rfl ?_
    refine gx_get C (ok5 hm hi) rfl rfl inX1 (ref := "SweetWraps$Lane") 0 (by decide) bw_32 rfl rfl dX1_addSweets_14 ?_
    refine gx_aload_n C dX1_addSweets_17 0 rfl ?_
    refine gx_get C (ok5 hm hi) rfl rfl inX1 (ref := "SweetWraps$Lane") 2 (by decide) bw_36 rfl rfl dX1_addSweets_18 ?_
    refine gx_iconst (v := (1 : Int32)) C dX1_addSweets_21 (by decide) ?_
    refine gx_isub C dX1_addSweets_22 ?_
    refine gx_iald C (ok6 hm hi) rfl hw.1 _ rfl dX1_addSweets_23 ?_
    replace hw := hw.2
    refine gx_iload_n C dX1_addSweets_24 1 rfl ?_
    refine gx_icmp_ne (tgt := 32) C dX1_addSweets_25 (by decide) (fun c4 => ?_) (fun c4 => ?_)
    · replace hw := hw.1 c4
      exact g_X1_addSweets_b32 C hm hi hw
    · replace hw := hw.2 c4
      refine gx_iconst (v := (1 : Int32)) C dX1_addSweets_28 (by decide) ?_
      refine gx_goto (tgt := 33) C dX1_addSweets_29 (by decide) ?_
      exact g_X1_addSweets_b33 C hm hi hw
theorem hy_X1_addSweets : yX1_addSweets.cls = "SweetWraps$Lane" ∧ yX1_addSweets.cls ≠ "java/lang/invoke/MethodHandle" ∧ yX1_addSweets.cls ≠ "java/lang/invoke/VarHandle" ∧ (parseMethodDescriptor yX1_addSweets.desc).map (fun d => d.parameters.length) = some 2 := by decide +kernel

theorem dX1_pullTears_0 : decode cX1_pullTears 0 = .ok (.aload_n 0, 1) := by decide +kernel
theorem dX1_pullTears_1 : decode cX1_pullTears 1 = .ok (.dup, 1) := by decide +kernel
theorem dX1_pullTears_2 : decode cX1_pullTears 2 = .ok (.getfield 26, 3) := by decide +kernel
theorem dX1_pullTears_5 : decode cX1_pullTears 5 = .ok (.iload_n 1, 1) := by decide +kernel
theorem dX1_pullTears_6 : decode cX1_pullTears 6 = .ok (.isub, 1) := by decide +kernel
theorem dX1_pullTears_7 : decode cX1_pullTears 7 = .ok (.putfield 26, 3) := by decide +kernel
theorem dX1_pullTears_10 : decode cX1_pullTears 10 = .ok (.aload_n 0, 1) := by decide +kernel
theorem dX1_pullTears_11 : decode cX1_pullTears 11 = .ok (.dup, 1) := by decide +kernel
theorem dX1_pullTears_12 : decode cX1_pullTears 12 = .ok (.getfield 29, 3) := by decide +kernel
theorem dX1_pullTears_15 : decode cX1_pullTears 15 = .ok (.iconst 1, 1) := by decide +kernel
theorem dX1_pullTears_16 : decode cX1_pullTears 16 = .ok (.iadd, 1) := by decide +kernel
theorem dX1_pullTears_17 : decode cX1_pullTears 17 = .ok (.putfield 29, 3) := by decide +kernel
theorem dX1_pullTears_20 : decode cX1_pullTears 20 = .ok (.iload_n 2, 1) := by decide +kernel
theorem dX1_pullTears_21 : decode cX1_pullTears 21 = .ok (.iconst 1, 1) := by decide +kernel
theorem dX1_pullTears_22 : decode cX1_pullTears 22 = .ok (.if_icmp .lt 12, 3) := by decide +kernel
theorem dX1_pullTears_25 : decode cX1_pullTears 25 = .ok (.aload_n 0, 1) := by decide +kernel
theorem dX1_pullTears_26 : decode cX1_pullTears 26 = .ok (.getfield 29, 3) := by decide +kernel
theorem dX1_pullTears_29 : decode cX1_pullTears 29 = .ok (.iload_n 2, 1) := by decide +kernel
theorem dX1_pullTears_30 : decode cX1_pullTears 30 = .ok (.irem, 1) := by decide +kernel
theorem dX1_pullTears_31 : decode cX1_pullTears 31 = .ok (.ifCond .eq 5, 3) := by decide +kernel
theorem dX1_pullTears_34 : decode cX1_pullTears 34 = .ok (.iconst 0, 1) := by decide +kernel
theorem dX1_pullTears_35 : decode cX1_pullTears 35 = .ok (.ireturn, 1) := by decide +kernel
theorem dX1_pullTears_36 : decode cX1_pullTears 36 = .ok (.aload_n 0, 1) := by decide +kernel
theorem dX1_pullTears_37 : decode cX1_pullTears 37 = .ok (.dup, 1) := by decide +kernel
theorem dX1_pullTears_38 : decode cX1_pullTears 38 = .ok (.getfield 32, 3) := by decide +kernel
theorem dX1_pullTears_41 : decode cX1_pullTears 41 = .ok (.iconst 1, 1) := by decide +kernel
theorem dX1_pullTears_42 : decode cX1_pullTears 42 = .ok (.iadd, 1) := by decide +kernel
theorem dX1_pullTears_43 : decode cX1_pullTears 43 = .ok (.putfield 32, 3) := by decide +kernel
theorem dX1_pullTears_46 : decode cX1_pullTears 46 = .ok (.iconst 1, 1) := by decide +kernel
theorem dX1_pullTears_47 : decode cX1_pullTears 47 = .ok (.ireturn, 1) := by decide +kernel
def wp_X1_pullTears (m : Nat) (i : Nat) (x1 : Int32) (x2 : Int32) (σ : Sg) (Q : Int32 → Sg → Prop) : Prop := ∀ σ1 : Sg, σ1 = up σ m 5 i 3 ((σ m 5 i 3) - x1) → ∀ σ2 : Sg, σ2 = up σ1 m 5 i 4 ((σ1 m 5 i 4) + (1 : Int32)) → ((x2 < (1 : Int32) → Q (0 : Int32) σ2) ∧ (¬ x2 < (1 : Int32) → (¬ x2 = 0 ∧ ((((σ2 m 5 i 4) - (σ2 m 5 i 4) / x2 * x2) = 0 → ∀ σ5 : Sg, σ5 = up σ2 m 5 i 5 ((σ2 m 5 i 5) + (1 : Int32)) → Q (1 : Int32) σ5) ∧ (¬ ((σ2 m 5 i 4) - (σ2 m 5 i 4) / x2 * x2) = 0 → Q (0 : Int32) σ2)))))
set_option maxRecDepth 100000 in
set_option maxHeartbeats 4000000 in
theorem c_X1_pullTears (l : Launch) (E : Ev) {m : Nat} {i : Nat} {x1 : Int32} {x2 : Int32} (hm : m < 11) (hi : i < 4) {σ : Sg} {Q : Int32 → Sg → Prop} (hw : wp_X1_pullTears m i x1 x2 σ Q) : CT l E yX1_pullTears cX1_pullTears 3 (some .boolean) 0 0 [.ref (ad E m 5 i), .int x1, .int x2] σ (QI E Q) := by
  refine CT_of (by decide) (Nat.le_of_ble_eq_true rfl) (fun X h1 h2 C => ?_)
  subst h1; subst h2
  have C : Cx X cX1_pullTears "SweetWraps$Lane" (some .boolean) 0 0 3 (QI (tE X) Q) := C
  show G X σ [(0, .ref (ad (tE X) m 5 i)), (1, .int x1), (2, .int x2)] [] 0
  unfold wp_X1_pullTears at hw
  refine gx_aload_n C dX1_pullTears_0 0 rfl ?_
  refine gx_dup C dX1_pullTears_1 rfl ?_
  refine gx_get C (ok5 hm hi) rfl rfl inX1 (ref := "SweetWraps$Lane") 3 (by decide) bw_38 rfl rfl dX1_pullTears_2 ?_
  refine gx_iload_n C dX1_pullTears_5 1 rfl ?_
  refine gx_isub C dX1_pullTears_6 ?_
  refine gx_put C (ok5 hm hi) rfl rfl inX1 tyX1 tyX1_ok nmX1 (ref := "SweetWraps$Lane") 3 (by decide) bw_38 rfl rfl (v := .int ((σ m 5 i 3) - x1)) rfl rfl (Nat.le_of_ble_eq_true rfl) (upd (σ m 5 i) 3 ((σ m 5 i 3) - x1)) rfl dX1_pullTears_7 ?_
  obtain ⟨σ1, e_σ1⟩ : ∃ z : Sg, z = up σ m 5 i 3 ((σ m 5 i 3) - x1) := ⟨_, rfl⟩
  replace hw := hw σ1 e_σ1
  refine gx_st e_σ1 ?_
  refine gx_aload_n C dX1_pullTears_10 0 rfl ?_
  refine gx_dup C dX1_pullTears_11 rfl ?_
  refine gx_get C (ok5 hm hi) rfl rfl inX1 (ref := "SweetWraps$Lane") 4 (by decide) bw_40 rfl rfl dX1_pullTears_12 ?_
  refine gx_iconst (v := (1 : Int32)) C dX1_pullTears_15 (by decide) ?_
  refine gx_iadd C dX1_pullTears_16 ?_
  refine gx_put C (ok5 hm hi) rfl rfl inX1 tyX1 tyX1_ok nmX1 (ref := "SweetWraps$Lane") 4 (by decide) bw_40 rfl rfl (v := .int ((σ1 m 5 i 4) + (1 : Int32))) rfl rfl (Nat.le_of_ble_eq_true rfl) (upd (σ1 m 5 i) 4 ((σ1 m 5 i 4) + (1 : Int32))) rfl dX1_pullTears_17 ?_
  obtain ⟨σ2, e_σ2⟩ : ∃ z : Sg, z = up σ1 m 5 i 4 ((σ1 m 5 i 4) + (1 : Int32)) := ⟨_, rfl⟩
  replace hw := hw σ2 e_σ2
  refine gx_st e_σ2 ?_
  refine gx_iload_n C dX1_pullTears_20 2 rfl ?_
  refine gx_iconst (v := (1 : Int32)) C dX1_pullTears_21 (by decide) ?_
  refine gx_icmp_lt (tgt := 34) C dX1_pullTears_22 (by decide) (fun c3 => ?_) (fun c3 => ?_)
  · replace hw := hw.1 c3
    refine gx_iconst (v := (0 : Int32)) C dX1_pullTears_34 (by decide) ?_
    exact gx_iret C rfl rfl dX1_pullTears_35 hw
  · replace hw := hw.2 c3
    refine gx_aload_n C dX1_pullTears_25 0 rfl ?_
    refine gx_get C (ok5 hm hi) rfl rfl inX1 (ref := "SweetWraps$Lane") 4 (by decide) bw_40 rfl rfl dX1_pullTears_26 ?_
    refine gx_iload_n C dX1_pullTears_29 2 rfl ?_
    refine gx_irem C dX1_pullTears_30 hw.1 ?_
    replace hw := hw.2
    refine gx_if_eq (tgt := 36) C dX1_pullTears_31 (by decide) (fun c4 => ?_) (fun c4 => ?_)
    · replace hw := hw.1 c4
      refine gx_aload_n C dX1_pullTears_36 0 rfl ?_
      refine gx_dup C dX1_pullTears_37 rfl ?_
      refine gx_get C (ok5 hm hi) rfl rfl inX1 (ref := "SweetWraps$Lane") 5 (by decide) bw_42 rfl rfl dX1_pullTears_38 ?_
      refine gx_iconst (v := (1 : Int32)) C dX1_pullTears_41 (by decide) ?_
      refine gx_iadd C dX1_pullTears_42 ?_
      refine gx_put C (ok5 hm hi) rfl rfl inX1 tyX1 tyX1_ok nmX1 (ref := "SweetWraps$Lane") 5 (by decide) bw_42 rfl rfl (v := .int ((σ2 m 5 i 5) + (1 : Int32))) rfl rfl (Nat.le_of_ble_eq_true rfl) (upd (σ2 m 5 i) 5 ((σ2 m 5 i 5) + (1 : Int32))) rfl dX1_pullTears_43 ?_
      obtain ⟨σ5, e_σ5⟩ : ∃ z : Sg, z = up σ2 m 5 i 5 ((σ2 m 5 i 5) + (1 : Int32)) := ⟨_, rfl⟩
      replace hw := hw σ5 e_σ5
      refine gx_st e_σ5 ?_
      refine gx_iconst (v := (1 : Int32)) C dX1_pullTears_46 (by decide) ?_
      exact gx_iret C rfl rfl dX1_pullTears_47 hw
    · replace hw := hw.2 c4
      refine gx_iconst (v := (0 : Int32)) C dX1_pullTears_34 (by decide) ?_
      exact gx_iret C rfl rfl dX1_pullTears_35 hw
theorem hy_X1_pullTears : yX1_pullTears.cls = "SweetWraps$Lane" ∧ yX1_pullTears.cls ≠ "java/lang/invoke/MethodHandle" ∧ yX1_pullTears.cls ≠ "java/lang/invoke/VarHandle" ∧ (parseMethodDescriptor yX1_pullTears.desc).map (fun d => d.parameters.length) = some 2 := by decide +kernel

theorem dX1_wrapNext_0 : decode cX1_wrapNext 0 = .ok (.aload_n 0, 1) := by decide +kernel
theorem dX1_wrapNext_1 : decode cX1_wrapNext 1 = .ok (.dup, 1) := by decide +kernel
theorem dX1_wrapNext_2 : decode cX1_wrapNext 2 = .ok (.getfield 35, 3) := by decide +kernel
theorem dX1_wrapNext_5 : decode cX1_wrapNext 5 = .ok (.iconst 1, 1) := by decide +kernel
theorem dX1_wrapNext_6 : decode cX1_wrapNext 6 = .ok (.iadd, 1) := by decide +kernel
theorem dX1_wrapNext_7 : decode cX1_wrapNext 7 = .ok (.putfield 35, 3) := by decide +kernel
theorem dX1_wrapNext_10 : decode cX1_wrapNext 10 = .ok (.aload_n 0, 1) := by decide +kernel
theorem dX1_wrapNext_11 : decode cX1_wrapNext 11 = .ok (.getfield 15, 3) := by decide +kernel
theorem dX1_wrapNext_14 : decode cX1_wrapNext 14 = .ok (.iconst 0, 1) := by decide +kernel
theorem dX1_wrapNext_15 : decode cX1_wrapNext 15 = .ok (.dup2, 1) := by decide +kernel
theorem dX1_wrapNext_16 : decode cX1_wrapNext 16 = .ok (.iaload, 1) := by decide +kernel
theorem dX1_wrapNext_17 : decode cX1_wrapNext 17 = .ok (.iconst 1, 1) := by decide +kernel
theorem dX1_wrapNext_18 : decode cX1_wrapNext 18 = .ok (.isub, 1) := by decide +kernel
theorem dX1_wrapNext_19 : decode cX1_wrapNext 19 = .ok (.iastore, 1) := by decide +kernel
theorem dX1_wrapNext_20 : decode cX1_wrapNext 20 = .ok (.aload_n 0, 1) := by decide +kernel
theorem dX1_wrapNext_21 : decode cX1_wrapNext 21 = .ok (.getfield 15, 3) := by decide +kernel
theorem dX1_wrapNext_24 : decode cX1_wrapNext 24 = .ok (.iconst 0, 1) := by decide +kernel
theorem dX1_wrapNext_25 : decode cX1_wrapNext 25 = .ok (.iaload, 1) := by decide +kernel
theorem dX1_wrapNext_26 : decode cX1_wrapNext 26 = .ok (.ifCond .le 4, 3) := by decide +kernel
theorem dX1_wrapNext_29 : decode cX1_wrapNext 29 = .ok (.return_, 1) := by decide +kernel
theorem dX1_wrapNext_30 : decode cX1_wrapNext 30 = .ok (.aload_n 0, 1) := by decide +kernel
theorem dX1_wrapNext_31 : decode cX1_wrapNext 31 = .ok (.dup, 1) := by decide +kernel
theorem dX1_wrapNext_32 : decode cX1_wrapNext 32 = .ok (.getfield 22, 3) := by decide +kernel
theorem dX1_wrapNext_35 : decode cX1_wrapNext 35 = .ok (.iconst 1, 1) := by decide +kernel
theorem dX1_wrapNext_36 : decode cX1_wrapNext 36 = .ok (.isub, 1) := by decide +kernel
theorem dX1_wrapNext_37 : decode cX1_wrapNext 37 = .ok (.putfield 22, 3) := by decide +kernel
theorem dX1_wrapNext_40 : decode cX1_wrapNext 40 = .ok (.iconst 0, 1) := by decide +kernel
theorem dX1_wrapNext_41 : decode cX1_wrapNext 41 = .ok (.istore_n 1, 1) := by decide +kernel
theorem dX1_wrapNext_42 : decode cX1_wrapNext 42 = .ok (.iload_n 1, 1) := by decide +kernel
theorem dX1_wrapNext_43 : decode cX1_wrapNext 43 = .ok (.aload_n 0, 1) := by decide +kernel
theorem dX1_wrapNext_44 : decode cX1_wrapNext 44 = .ok (.getfield 22, 3) := by decide +kernel
theorem dX1_wrapNext_47 : decode cX1_wrapNext 47 = .ok (.if_icmp .ge 45, 3) := by decide +kernel
theorem dX1_wrapNext_50 : decode cX1_wrapNext 50 = .ok (.iload_n 1, 1) := by decide +kernel
theorem dX1_wrapNext_51 : decode cX1_wrapNext 51 = .ok (.iconst 1, 1) := by decide +kernel
theorem dX1_wrapNext_52 : decode cX1_wrapNext 52 = .ok (.iadd, 1) := by decide +kernel
theorem dX1_wrapNext_53 : decode cX1_wrapNext 53 = .ok (.bipush 6, 2) := by decide +kernel
theorem dX1_wrapNext_55 : decode cX1_wrapNext 55 = .ok (.if_icmp .ge 37, 3) := by decide +kernel
theorem dX1_wrapNext_58 : decode cX1_wrapNext 58 = .ok (.aload_n 0, 1) := by decide +kernel
theorem dX1_wrapNext_59 : decode cX1_wrapNext 59 = .ok (.getfield 9, 3) := by decide +kernel
theorem dX1_wrapNext_62 : decode cX1_wrapNext 62 = .ok (.iload_n 1, 1) := by decide +kernel
theorem dX1_wrapNext_63 : decode cX1_wrapNext 63 = .ok (.aload_n 0, 1) := by decide +kernel
theorem dX1_wrapNext_64 : decode cX1_wrapNext 64 = .ok (.getfield 9, 3) := by decide +kernel
theorem dX1_wrapNext_67 : decode cX1_wrapNext 67 = .ok (.iload_n 1, 1) := by decide +kernel
theorem dX1_wrapNext_68 : decode cX1_wrapNext 68 = .ok (.iconst 1, 1) := by decide +kernel
theorem dX1_wrapNext_69 : decode cX1_wrapNext 69 = .ok (.iadd, 1) := by decide +kernel
theorem dX1_wrapNext_70 : decode cX1_wrapNext 70 = .ok (.iaload, 1) := by decide +kernel
theorem dX1_wrapNext_71 : decode cX1_wrapNext 71 = .ok (.iastore, 1) := by decide +kernel
theorem dX1_wrapNext_72 : decode cX1_wrapNext 72 = .ok (.aload_n 0, 1) := by decide +kernel
theorem dX1_wrapNext_73 : decode cX1_wrapNext 73 = .ok (.getfield 15, 3) := by decide +kernel
theorem dX1_wrapNext_76 : decode cX1_wrapNext 76 = .ok (.iload_n 1, 1) := by decide +kernel
theorem dX1_wrapNext_77 : decode cX1_wrapNext 77 = .ok (.aload_n 0, 1) := by decide +kernel
theorem dX1_wrapNext_78 : decode cX1_wrapNext 78 = .ok (.getfield 15, 3) := by decide +kernel
theorem dX1_wrapNext_81 : decode cX1_wrapNext 81 = .ok (.iload_n 1, 1) := by decide +kernel
theorem dX1_wrapNext_82 : decode cX1_wrapNext 82 = .ok (.iconst 1, 1) := by decide +kernel
theorem dX1_wrapNext_83 : decode cX1_wrapNext 83 = .ok (.iadd, 1) := by decide +kernel
theorem dX1_wrapNext_84 : decode cX1_wrapNext 84 = .ok (.iaload, 1) := by decide +kernel
theorem dX1_wrapNext_85 : decode cX1_wrapNext 85 = .ok (.iastore, 1) := by decide +kernel
theorem dX1_wrapNext_86 : decode cX1_wrapNext 86 = .ok (.iinc 1 1, 3) := by decide +kernel
theorem dX1_wrapNext_89 : decode cX1_wrapNext 89 = .ok (.goto (-47), 3) := by decide +kernel
theorem dX1_wrapNext_92 : decode cX1_wrapNext 92 = .ok (.return_, 1) := by decide +kernel
def st_X1_wrapNext_L42 (m : Nat) (i : Nat) (Q : Sg → Prop) (K42 : Int32 → Sg → Prop) (v1 : Int32) (σ : Sg) : Prop := (((σ m 5 i 2) ≤ v1 → Q σ) ∧ (¬ (σ m 5 i 2) ≤ v1 → (((6 : Int32) ≤ (v1 + (1 : Int32)) → Q σ) ∧ (¬ (6 : Int32) ≤ (v1 + (1 : Int32)) → (vp_in (v1 + (1 : Int32)) 6 ∧ (vp_in v1 6 ∧ ∀ σ7 : Sg, σ7 = up σ m 6 i v1.toNatClampNeg (σ m 6 i (v1 + (1 : Int32)).toNatClampNeg) → (vp_in (v1 + (1 : Int32)) 6 ∧ (vp_in v1 6 ∧ ∀ σ8 : Sg, σ8 = up σ7 m 7 i v1.toNatClampNeg (σ7 m 7 i (v1 + (1 : Int32)).toNatClampNeg) → ∀ z9 : Int32, z9 = v1 + (1 : Int32) → K42 z9 σ8))))))))
def wp_X1_wrapNext_L42 (m : Nat) (i : Nat) (Q : Sg → Prop) (v1 : Int32) (σ : Sg) : Prop := ∃ n : Nat, lpN (fun (K : Int32 × Sg → Prop) (a : Int32 × Sg) => st_X1_wrapNext_L42 m i Q (fun v1 σ => K (v1, σ)) (a.1) (a.2)) n (v1, σ)
set_option maxRecDepth 100000 in
set_option maxHeartbeats 4000000 in
theorem gs_X1_wrapNext_L42 {X : Tx} {Q : Sg → Prop} (C : Cx X cX1_wrapNext "SweetWraps$Lane" none 0 0 2 (QV (tE X) Q)) {m : Nat} {i : Nat} (hm : m < 11) (hi : i < 4) {K42 : Int32 → Sg → Prop} (hK42 : ∀ (v1 : Int32) (σ : Sg), K42 v1 σ → G X σ [(0, .ref (ad (tE X) m 5 i)), (1, .int v1)] [] 42) {v1 : Int32} {σ : Sg} (hw : st_X1_wrapNext_L42 m i Q K42 v1 σ) : G X σ [(0, .ref (ad (tE X) m 5 i)), (1, .int v1)] [] 42 := by
  unfold st_X1_wrapNext_L42 at hw
  refine gx_iload_n C dX1_wrapNext_42 1 rfl ?_
  refine gx_aload_n C dX1_wrapNext_43 0 rfl ?_
  refine gx_get C (ok5 hm hi) rfl rfl inX1 (ref := "SweetWraps$Lane") 2 (by decide) bw_36 rfl rfl dX1_wrapNext_44 ?_
  refine gx_icmp_ge (tgt := 92) C dX1_wrapNext_47 (by decide) (fun c5 => ?_) (fun c5 => ?_)
  · replace hw := hw.1 c5
    exact gx_vret C dX1_wrapNext_92 hw
  · replace hw := hw.2 c5
    refine gx_iload_n C dX1_wrapNext_50 1 rfl ?_
    refine gx_iconst (v := (1 : Int32)) C dX1_wrapNext_51 (by decide) ?_
    refine gx_iadd C dX1_wrapNext_52 ?_
    refine gx_bipush (v := (6 : Int32)) C dX1_wrapNext_53 (by decide) ?_
    refine gx_icmp_ge (tgt := 92) C dX1_wrapNext_55 (by decide) (fun c6 => ?_) (fun c6 => ?_)
    · replace hw := hw.1 c6
      exact gx_vret C dX1_wrapNext_92 hw
    · replace hw := hw.2 c6
      refine gx_aload_n C dX1_wrapNext_58 0 rfl ?_
      refine gx_get C (ok5 hm hi) rfl rfl inX1 (ref := "SweetWraps$Lane") 0 (by decide) bw_32 rfl rfl dX1_wrapNext_59 ?_
      refine gx_iload_n C dX1_wrapNext_62 1 rfl ?_
      refine gx_aload_n C dX1_wrapNext_63 0 rfl ?_
      refine gx_get C (ok5 hm hi) rfl rfl inX1 (ref := "SweetWraps$Lane") 0 (by decide) bw_32 rfl rfl dX1_wrapNext_64 ?_
      refine gx_iload_n C dX1_wrapNext_67 1 rfl ?_
      refine gx_iconst (v := (1 : Int32)) C dX1_wrapNext_68 (by decide) ?_
      refine gx_iadd C dX1_wrapNext_69 ?_
      refine gx_iald C (ok6 hm hi) rfl hw.1 _ rfl dX1_wrapNext_70 ?_
      replace hw := hw.2
      refine gx_iast C (ok6 hm hi) (fun _ => rfl) hw.1 _ rfl rfl dX1_wrapNext_71 ?_
      replace hw := hw.2
      obtain ⟨σ7, e_σ7⟩ : ∃ z : Sg, z = up σ m 6 i v1.toNatClampNeg (σ m 6 i (v1 + (1 : Int32)).toNatClampNeg) := ⟨_, rfl⟩
      replace hw := hw σ7 e_σ7
      refine gx_st e_σ7 ?_
      refine gx_aload_n C dX1_wrapNext_72 0 rfl ?_
      refine gx_get C (ok5 hm hi) rfl rfl inX1 (ref := "SweetWraps$Lane") 1 (by decide) bw_34 rfl rfl dX1_wrapNext_73 ?_
      refine gx_iload_n C dX1_wrapNext_76 1 rfl ?_
      refine gx_aload_n C dX1_wrapNext_77 0 rfl ?_
      refine gx_get C (ok5 hm hi) rfl rfl inX1 (ref := "SweetWraps$Lane") 1 (by decide) bw_34 rfl rfl dX1_wrapNext_78 ?_
      refine gx_iload_n C dX1_wrapNext_81 1 rfl ?_
      refine gx_iconst (v := (1 : Int32)) C dX1_wrapNext_82 (by decide) ?_
      refine gx_iadd C dX1_wrapNext_83 ?_
      refine gx_iald C (ok7 hm hi) rfl hw.1 _ rfl dX1_wrapNext_84 ?_
      replace hw := hw.2
      refine gx_iast C (ok7 hm hi) (fun _ => rfl) hw.1 _ rfl rfl dX1_wrapNext_85 ?_
      replace hw := hw.2
      obtain ⟨σ8, e_σ8⟩ : ∃ z : Sg, z = up σ7 m 7 i v1.toNatClampNeg (σ7 m 7 i (v1 + (1 : Int32)).toNatClampNeg) := ⟨_, rfl⟩
      replace hw := hw σ8 e_σ8
      refine gx_st e_σ8 ?_
      obtain ⟨z9, e_z9⟩ : ∃ z : Int32, z = v1 + (1 : Int32) := ⟨_, rfl⟩
      replace hw := hw z9 e_z9
      refine gx_iinc (v := z9) (lv' := [(1, .int z9), (0, .ref (ad (tE X) m 5 i))]) C dX1_wrapNext_86 1 rfl (by rw [e_z9]; rfl) (by decide) rfl ?_
      refine gx_goto (tgt := 42) C dX1_wrapNext_89 (by decide) ?_
      refine gx_sub (lv' := [(0, .ref (ad (tE X) m 5 i)), (1, .int z9)]) [1, 0] rfl ?_
      exact hK42 _ _ hw
set_option maxRecDepth 100000 in
set_option maxHeartbeats 4000000 in
theorem g_X1_wrapNext_L42 {X : Tx} {Q : Sg → Prop} (C : Cx X cX1_wrapNext "SweetWraps$Lane" none 0 0 2 (QV (tE X) Q)) {m : Nat} {i : Nat} (hm : m < 11) (hi : i < 4) {v1 : Int32} {σ : Sg} (hw : wp_X1_wrapNext_L42 m i Q v1 σ) : G X σ [(0, .ref (ad (tE X) m 5 i)), (1, .int v1)] [] 42 := by
  obtain ⟨n, hw⟩ := hw
  exact lpN_G (P := (fun (a : Int32 × Sg) => G X (a.2) [(0, .ref (ad (tE X) m 5 i)), (1, .int (a.1))] [] 42)) (fun K a hK h => gs_X1_wrapNext_L42 C hm hi (fun v1 σ h => hK (v1, σ) h) h) n _ hw
def wp_X1_wrapNext (m : Nat) (i : Nat) (σ : Sg) (Q : Sg → Prop) : Prop := ∀ σ1 : Sg, σ1 = up σ m 5 i 6 ((σ m 5 i 6) + (1 : Int32)) → ∀ σ2 : Sg, σ2 = up σ1 m 7 i 0 ((σ1 m 7 i 0) - (1 : Int32)) → (((σ2 m 7 i 0) ≤ 0 → ∀ σ4 : Sg, σ4 = up σ2 m 5 i 2 ((σ2 m 5 i 2) - (1 : Int32)) → wp_X1_wrapNext_L42 m i Q (0 : Int32) σ4) ∧ (¬ (σ2 m 7 i 0) ≤ 0 → Q σ2))
set_option maxRecDepth 100000 in
set_option maxHeartbeats 4000000 in
theorem c_X1_wrapNext (l : Launch) (E : Ev) {m : Nat} {i : Nat} (hm : m < 11) (hi : i < 4) {σ : Sg} {Q : Sg → Prop} (hw : wp_X1_wrapNext m i σ Q) : CT l E yX1_wrapNext cX1_wrapNext 2 none 0 0 [.ref (ad E m 5 i)] σ (QV E Q) := by
  refine CT_of (by decide) (Nat.le_of_ble_eq_true rfl) (fun X h1 h2 C => ?_)
  subst h1; subst h2
  have C : Cx X cX1_wrapNext "SweetWraps$Lane" none 0 0 2 (QV (tE X) Q) := C
  show G X σ [(0, .ref (ad (tE X) m 5 i))] [] 0
  unfold wp_X1_wrapNext at hw
  refine gx_aload_n C dX1_wrapNext_0 0 rfl ?_
  refine gx_dup C dX1_wrapNext_1 rfl ?_
  refine gx_get C (ok5 hm hi) rfl rfl inX1 (ref := "SweetWraps$Lane") 6 (by decide) bw_44 rfl rfl dX1_wrapNext_2 ?_
  refine gx_iconst (v := (1 : Int32)) C dX1_wrapNext_5 (by decide) ?_
  refine gx_iadd C dX1_wrapNext_6 ?_
  refine gx_put C (ok5 hm hi) rfl rfl inX1 tyX1 tyX1_ok nmX1 (ref := "SweetWraps$Lane") 6 (by decide) bw_44 rfl rfl (v := .int ((σ m 5 i 6) + (1 : Int32))) rfl rfl (Nat.le_of_ble_eq_true rfl) (upd (σ m 5 i) 6 ((σ m 5 i 6) + (1 : Int32))) rfl dX1_wrapNext_7 ?_
  obtain ⟨σ1, e_σ1⟩ : ∃ z : Sg, z = up σ m 5 i 6 ((σ m 5 i 6) + (1 : Int32)) := ⟨_, rfl⟩
  replace hw := hw σ1 e_σ1
  refine gx_st e_σ1 ?_
  refine gx_aload_n C dX1_wrapNext_10 0 rfl ?_
  refine gx_get C (ok5 hm hi) rfl rfl inX1 (ref := "SweetWraps$Lane") 1 (by decide) bw_34 rfl rfl dX1_wrapNext_11 ?_
  refine gx_iconst (v := (0 : Int32)) C dX1_wrapNext_14 (by decide) ?_
  refine gx_dup2 C dX1_wrapNext_15 rfl rfl ?_
  refine gx_iald C (ok7 hm hi) rfl (n := 6) (x := (0 : Int32)) (by unfold vp_in; decide) 0 (by decide) dX1_wrapNext_16 ?_
  refine gx_iconst (v := (1 : Int32)) C dX1_wrapNext_17 (by decide) ?_
  refine gx_isub C dX1_wrapNext_18 ?_
  refine gx_iast C (ok7 hm hi) (fun _ => rfl) (n := 6) (x := (0 : Int32)) (by unfold vp_in; decide) 0 (by decide) rfl dX1_wrapNext_19 ?_
  obtain ⟨σ2, e_σ2⟩ : ∃ z : Sg, z = up σ1 m 7 i 0 ((σ1 m 7 i 0) - (1 : Int32)) := ⟨_, rfl⟩
  replace hw := hw σ2 e_σ2
  refine gx_st e_σ2 ?_
  refine gx_aload_n C dX1_wrapNext_20 0 rfl ?_
  refine gx_get C (ok5 hm hi) rfl rfl inX1 (ref := "SweetWraps$Lane") 1 (by decide) bw_34 rfl rfl dX1_wrapNext_21 ?_
  refine gx_iconst (v := (0 : Int32)) C dX1_wrapNext_24 (by decide) ?_
  refine gx_iald C (ok7 hm hi) rfl (n := 6) (x := (0 : Int32)) (by unfold vp_in; decide) 0 (by decide) dX1_wrapNext_25 ?_
  refine gx_if_le (tgt := 30) C dX1_wrapNext_26 (by decide) (fun c3 => ?_) (fun c3 => ?_)
  · replace hw := hw.1 c3
    refine gx_aload_n C dX1_wrapNext_30 0 rfl ?_
    refine gx_dup C dX1_wrapNext_31 rfl ?_
    refine gx_get C (ok5 hm hi) rfl rfl inX1 (ref := "SweetWraps$Lane") 2 (by decide) bw_36 rfl rfl dX1_wrapNext_32 ?_
    refine gx_iconst (v := (1 : Int32)) C dX1_wrapNext_35 (by decide) ?_
    refine gx_isub C dX1_wrapNext_36 ?_
    refine gx_put C (ok5 hm hi) rfl rfl inX1 tyX1 tyX1_ok nmX1 (ref := "SweetWraps$Lane") 2 (by decide) bw_36 rfl rfl (v := .int ((σ2 m 5 i 2) - (1 : Int32))) rfl rfl (Nat.le_of_ble_eq_true rfl) (upd (σ2 m 5 i) 2 ((σ2 m 5 i 2) - (1 : Int32))) rfl dX1_wrapNext_37 ?_
    obtain ⟨σ4, e_σ4⟩ : ∃ z : Sg, z = up σ2 m 5 i 2 ((σ2 m 5 i 2) - (1 : Int32)) := ⟨_, rfl⟩
    replace hw := hw σ4 e_σ4
    refine gx_st e_σ4 ?_
    refine gx_iconst (v := (0 : Int32)) C dX1_wrapNext_40 (by decide) ?_
    refine gx_istore_n (lv' := [(1, .int (0 : Int32)), (0, .ref (ad (tE X) m 5 i))]) C dX1_wrapNext_41 (by decide) rfl ?_
    refine gx_sub (lv' := [(0, .ref (ad (tE X) m 5 i)), (1, .int (0 : Int32))]) [1, 0] rfl ?_
    exact g_X1_wrapNext_L42 C hm hi hw
  · replace hw := hw.2 c3
    exact gx_vret C dX1_wrapNext_29 hw
theorem hy_X1_wrapNext : yX1_wrapNext.cls = "SweetWraps$Lane" ∧ yX1_wrapNext.cls ≠ "java/lang/invoke/MethodHandle" ∧ yX1_wrapNext.cls ≠ "java/lang/invoke/VarHandle" ∧ (parseMethodDescriptor yX1_wrapNext.desc).map (fun d => d.parameters.length) = some 0 := by decide +kernel

theorem dX5_isBetween_0 : decode cX5_isBetween 0 = .ok (.iload_n 0, 1) := by decide +kernel
theorem dX5_isBetween_1 : decode cX5_isBetween 1 = .ok (.iload_n 1, 1) := by decide +kernel
theorem dX5_isBetween_2 : decode cX5_isBetween 2 = .ok (.if_icmp .lt 12, 3) := by decide +kernel
theorem dX5_isBetween_5 : decode cX5_isBetween 5 = .ok (.iload_n 0, 1) := by decide +kernel
theorem dX5_isBetween_6 : decode cX5_isBetween 6 = .ok (.iload_n 2, 1) := by decide +kernel
theorem dX5_isBetween_7 : decode cX5_isBetween 7 = .ok (.if_icmp .gt 7, 3) := by decide +kernel
theorem dX5_isBetween_10 : decode cX5_isBetween 10 = .ok (.iconst 1, 1) := by decide +kernel
theorem dX5_isBetween_11 : decode cX5_isBetween 11 = .ok (.goto 4, 3) := by decide +kernel
theorem dX5_isBetween_14 : decode cX5_isBetween 14 = .ok (.iconst 0, 1) := by decide +kernel
theorem dX5_isBetween_15 : decode cX5_isBetween 15 = .ok (.ireturn, 1) := by decide +kernel
def wp_X5_isBetween (x0 : Int32) (x1 : Int32) (x2 : Int32) (σ : Sg) (Q : Int32 → Sg → Prop) : Prop := ((x0 < x1 → Q (0 : Int32) σ) ∧ (¬ x0 < x1 → ((x2 < x0 → Q (0 : Int32) σ) ∧ (¬ x2 < x0 → Q (1 : Int32) σ))))
set_option maxRecDepth 100000 in
set_option maxHeartbeats 4000000 in
theorem c_X5_isBetween (l : Launch) (E : Ev) {x0 : Int32} {x1 : Int32} {x2 : Int32} {σ : Sg} {Q : Int32 → Sg → Prop} (hw : wp_X5_isBetween x0 x1 x2 σ Q) : CT l E yX5_isBetween cX5_isBetween 3 (some .boolean) 0 0 [.int x0, .int x1, .int x2] σ (QI E Q) := by
  refine CT_of (by decide) (Nat.le_of_ble_eq_true rfl) (fun X h1 h2 C => ?_)
  subst h1; subst h2
  have C : Cx X cX5_isBetween "SweetWraps" (some .boolean) 0 0 3 (QI (tE X) Q) := C
  show G X σ [(0, .int x0), (1, .int x1), (2, .int x2)] [] 0
  unfold wp_X5_isBetween at hw
  refine gx_iload_n C dX5_isBetween_0 0 rfl ?_
  refine gx_iload_n C dX5_isBetween_1 1 rfl ?_
  refine gx_icmp_lt (tgt := 14) C dX5_isBetween_2 (by decide) (fun c1 => ?_) (fun c1 => ?_)
  · replace hw := hw.1 c1
    refine gx_iconst (v := (0 : Int32)) C dX5_isBetween_14 (by decide) ?_
    exact gx_iret C rfl rfl dX5_isBetween_15 hw
  · replace hw := hw.2 c1
    refine gx_iload_n C dX5_isBetween_5 0 rfl ?_
    refine gx_iload_n C dX5_isBetween_6 2 rfl ?_
    refine gx_icmp_gt (tgt := 14) C dX5_isBetween_7 (by decide) (fun c2 => ?_) (fun c2 => ?_)
    · replace hw := hw.1 c2
      refine gx_iconst (v := (0 : Int32)) C dX5_isBetween_14 (by decide) ?_
      exact gx_iret C rfl rfl dX5_isBetween_15 hw
    · replace hw := hw.2 c2
      refine gx_iconst (v := (1 : Int32)) C dX5_isBetween_10 (by decide) ?_
      refine gx_goto (tgt := 15) C dX5_isBetween_11 (by decide) ?_
      exact gx_iret C rfl rfl dX5_isBetween_15 hw
theorem hyS_X5_isBetween : yX5_isBetween.cls ≠ "java/lang/invoke/MethodHandle" ∧ yX5_isBetween.cls ≠ "java/lang/invoke/VarHandle" ∧ (parseMethodDescriptor yX5_isBetween.desc).map (fun d => d.parameters.length) = some 3 := by decide +kernel

theorem dX2_changeSetting_0 : decode cX2_changeSetting 0 = .ok (.iload_n 1, 1) := by decide +kernel
theorem dX2_changeSetting_1 : decode cX2_changeSetting 1 = .ok (.aload_n 0, 1) := by decide +kernel
theorem dX2_changeSetting_2 : decode cX2_changeSetting 2 = .ok (.getfield 9, 3) := by decide +kernel
theorem dX2_changeSetting_5 : decode cX2_changeSetting 5 = .ok (.arraylength, 1) := by decide +kernel
theorem dX2_changeSetting_6 : decode cX2_changeSetting 6 = .ok (.invokestatic 56, 3) := by decide +kernel
theorem dX2_changeSetting_9 : decode cX2_changeSetting 9 = .ok (.ifCond .ne 6, 3) := by decide +kernel
theorem dX2_changeSetting_12 : decode cX2_changeSetting 12 = .ok (.bipush (-2), 2) := by decide +kernel
theorem dX2_changeSetting_14 : decode cX2_changeSetting 14 = .ok (.ireturn, 1) := by decide +kernel
theorem dX2_changeSetting_15 : decode cX2_changeSetting 15 = .ok (.iload_n 2, 1) := by decide +kernel
theorem dX2_changeSetting_16 : decode cX2_changeSetting 16 = .ok (.getstatic 60, 3) := by decide +kernel
theorem dX2_changeSetting_19 : decode cX2_changeSetting 19 = .ok (.iload_n 1, 1) := by decide +kernel
theorem dX2_changeSetting_20 : decode cX2_changeSetting 20 = .ok (.iaload, 1) := by decide +kernel
theorem dX2_changeSetting_21 : decode cX2_changeSetting 21 = .ok (.getstatic 63, 3) := by decide +kernel
theorem dX2_changeSetting_24 : decode cX2_changeSetting 24 = .ok (.iload_n 1, 1) := by decide +kernel
theorem dX2_changeSetting_25 : decode cX2_changeSetting 25 = .ok (.iaload, 1) := by decide +kernel
theorem dX2_changeSetting_26 : decode cX2_changeSetting 26 = .ok (.invokestatic 66, 3) := by decide +kernel
theorem dX2_changeSetting_29 : decode cX2_changeSetting 29 = .ok (.ifCond .ne 6, 3) := by decide +kernel
theorem dX2_changeSetting_32 : decode cX2_changeSetting 32 = .ok (.bipush (-2), 2) := by decide +kernel
theorem dX2_changeSetting_34 : decode cX2_changeSetting 34 = .ok (.ireturn, 1) := by decide +kernel
theorem dX2_changeSetting_35 : decode cX2_changeSetting 35 = .ok (.aload_n 0, 1) := by decide +kernel
theorem dX2_changeSetting_36 : decode cX2_changeSetting 36 = .ok (.getfield 9, 3) := by decide +kernel
theorem dX2_changeSetting_39 : decode cX2_changeSetting 39 = .ok (.iload_n 1, 1) := by decide +kernel
theorem dX2_changeSetting_40 : decode cX2_changeSetting 40 = .ok (.iaload, 1) := by decide +kernel
theorem dX2_changeSetting_41 : decode cX2_changeSetting 41 = .ok (.istore_n 3, 1) := by decide +kernel
theorem dX2_changeSetting_42 : decode cX2_changeSetting 42 = .ok (.aload_n 0, 1) := by decide +kernel
theorem dX2_changeSetting_43 : decode cX2_changeSetting 43 = .ok (.getfield 9, 3) := by decide +kernel
theorem dX2_changeSetting_46 : decode cX2_changeSetting 46 = .ok (.iload_n 1, 1) := by decide +kernel
theorem dX2_changeSetting_47 : decode cX2_changeSetting 47 = .ok (.iload_n 2, 1) := by decide +kernel
theorem dX2_changeSetting_48 : decode cX2_changeSetting 48 = .ok (.iastore, 1) := by decide +kernel
theorem dX2_changeSetting_49 : decode cX2_changeSetting 49 = .ok (.iload_n 3, 1) := by decide +kernel
theorem dX2_changeSetting_50 : decode cX2_changeSetting 50 = .ok (.ireturn, 1) := by decide +kernel
def wp_X2_changeSetting (m : Nat) (x1 : Int32) (x2 : Int32) (σ : Sg) (Q : Int32 → Sg → Prop) : Prop := wp_X5_isIndex x1 (4 : Int32) σ (fun r1 σ2 => ((¬ r1 = 0 → (vp_in x1 4 ∧ (vp_in x1 4 ∧ wp_X5_isBetween x2 (lst x1.toNatClampNeg) (mst x1.toNatClampNeg) σ2 (fun r4 σ5 => ((¬ r4 = 0 → (vp_in x1 4 ∧ ∀ z7 : Int32, z7 = (σ5 m 1 0 x1.toNatClampNeg) → (vp_in x1 4 ∧ ∀ σ8 : Sg, σ8 = up σ5 m 1 0 x1.toNatClampNeg x2 → Q z7 σ8))) ∧ (r4 = 0 → Q (-2 : Int32) σ5)))))) ∧ (r1 = 0 → Q (-2 : Int32) σ2)))
set_option maxRecDepth 100000 in
set_option maxHeartbeats 4000000 in
theorem c_X2_changeSetting (l : Launch) (E : Ev) {m : Nat} {x1 : Int32} {x2 : Int32} (hm : m < 11) {σ : Sg} {Q : Int32 → Sg → Prop} (hw : wp_X2_changeSetting m x1 x2 σ Q) : CT l E yX2_changeSetting cX2_changeSetting 4 (some .int) 1 22 [.ref (ad E m 0 0), .int x1, .int x2] σ (QI E Q) := by
  refine CT_of (by decide) (Nat.le_of_ble_eq_true rfl) (fun X h1 h2 C => ?_)
  subst h1; subst h2
  have C : Cx X cX2_changeSetting "SweetWraps$Machine" (some .int) 1 22 4 (QI (tE X) Q) := C
  show G X σ [(0, .ref (ad (tE X) m 0 0)), (1, .int x1), (2, .int x2)] [] 0
  unfold wp_X2_changeSetting at hw
  refine gx_iload_n C dX2_changeSetting_0 1 rfl ?_
  refine gx_aload_n C dX2_changeSetting_1 0 rfl ?_
  refine gx_get C (ok0 hm) rfl rfl inX2 (ref := "SweetWraps$Machine") 0 (by decide) bw_88 rfl rfl dX2_changeSetting_2 ?_
  refine gx_alen C (ok1 hm) rfl (t0 := 0) rfl (v := (4 : Int32)) rfl dX2_changeSetting_5 ?_
  refine gx_ncalli (As := [.int x1, .int (4 : Int32)]) (rest := []) (host := "SweetWraps") C (c_X5_isIndex _ _ hw) (nest_in _ (by decide +kernel)) bw_224 bw_1 bw_225 hyS_X5_isIndex ⟨by decide, by decide⟩ rfl (Nat.le_of_ble_eq_true rfl) dX2_changeSetting_6 (fun r1 σ2 hw => ?_)
  refine gx_if_ne (tgt := 15) C dX2_changeSetting_9 (by decide) (fun c3 => ?_) (fun c3 => ?_)
  · replace hw := hw.1 c3
    refine gx_iload_n C dX2_changeSetting_15 2 rfl ?_
    refine gx_getsN0 C dX2_changeSetting_16 (nest_in _ (by decide +kernel)) ?_
    refine gx_iload_n C dX2_changeSetting_19 1 rfl ?_
    refine gx_tab0 C hw.1 dX2_changeSetting_20 ?_
    replace hw := hw.2
    refine gx_getsN1 C dX2_changeSetting_21 (nest_in _ (by decide +kernel)) ?_
    refine gx_iload_n C dX2_changeSetting_24 1 rfl ?_
    refine gx_tab1 C hw.1 dX2_changeSetting_25 ?_
    replace hw := hw.2
    refine gx_ncalli (As := [.int x2, .int (lst x1.toNatClampNeg), .int (mst x1.toNatClampNeg)]) (rest := []) (host := "SweetWraps") C (c_X5_isBetween _ _ hw) (nest_in _ (by decide +kernel)) bw_227 bw_1 bw_228 hyS_X5_isBetween ⟨by decide, by decide⟩ rfl (Nat.le_of_ble_eq_true rfl) dX2_changeSetting_26 (fun r4 σ5 hw => ?_)
    refine gx_if_ne (tgt := 35) C dX2_changeSetting_29 (by decide) (fun c6 => ?_) (fun c6 => ?_)
    · replace hw := hw.1 c6
      refine gx_aload_n C dX2_changeSetting_35 0 rfl ?_
      refine gx_get C (ok0 hm) rfl rfl inX2 (ref := "SweetWraps$Machine") 0 (by decide) bw_88 rfl rfl dX2_changeSetting_36 ?_
      refine gx_iload_n C dX2_changeSetting_39 1 rfl ?_
      refine gx_iald C (ok1 hm) rfl hw.1 _ rfl dX2_changeSetting_40 ?_
      replace hw := hw.2
      obtain ⟨z7, e_z7⟩ : ∃ z : Int32, z = (σ5 m 1 0 x1.toNatClampNeg) := ⟨_, rfl⟩
      replace hw := hw z7 e_z7
      refine gx_top e_z7 ?_
      refine gx_istore_n (lv' := [(3, .int z7), (0, .ref (ad (tE X) m 0 0)), (1, .int x1), (2, .int x2)]) C dX2_changeSetting_41 (by decide) rfl ?_
      refine gx_aload_n C dX2_changeSetting_42 1 rfl ?_
      refine gx_get C (ok0 hm) rfl rfl inX2 (ref := "SweetWraps$Machine") 0 (by decide) bw_88 rfl rfl dX2_changeSetting_43 ?_
      refine gx_iload_n C dX2_changeSetting_46 2 rfl ?_
      refine gx_iload_n C dX2_changeSetting_47 3 rfl ?_
      refine gx_iast C (ok1 hm) (fun _ => rfl) hw.1 _ rfl rfl dX2_changeSetting_48 ?_
      replace hw := hw.2
      obtain ⟨σ8, e_σ8⟩ : ∃ z : Sg, z = up σ5 m 1 0 x1.toNatClampNeg x2 := ⟨_, rfl⟩
      replace hw := hw σ8 e_σ8
      refine gx_st e_σ8 ?_
      refine gx_iload_n C dX2_changeSetting_49 0 rfl ?_
      exact gx_iret C rfl rfl dX2_changeSetting_50 hw
    · replace hw := hw.2 c6
      refine gx_bipush (v := (-2 : Int32)) C dX2_changeSetting_32 (by decide) ?_
      exact gx_iret C rfl rfl dX2_changeSetting_34 hw
  · replace hw := hw.2 c3
    refine gx_bipush (v := (-2 : Int32)) C dX2_changeSetting_12 (by decide) ?_
    exact gx_iret C rfl rfl dX2_changeSetting_14 hw
theorem hy_X2_changeSetting : yX2_changeSetting.cls = "SweetWraps$Machine" ∧ yX2_changeSetting.cls ≠ "java/lang/invoke/MethodHandle" ∧ yX2_changeSetting.cls ≠ "java/lang/invoke/VarHandle" ∧ (parseMethodDescriptor yX2_changeSetting.desc).map (fun d => d.parameters.length) = some 2 := by decide +kernel

theorem dX2_addSweets_0 : decode cX2_addSweets 0 = .ok (.iload_n 1, 1) := by decide +kernel
theorem dX2_addSweets_1 : decode cX2_addSweets 1 = .ok (.iconst 4, 1) := by decide +kernel
theorem dX2_addSweets_2 : decode cX2_addSweets 2 = .ok (.invokestatic 56, 3) := by decide +kernel
theorem dX2_addSweets_5 : decode cX2_addSweets 5 = .ok (.ifCond .eq 12, 3) := by decide +kernel
theorem dX2_addSweets_8 : decode cX2_addSweets 8 = .ok (.iload_n 2, 1) := by decide +kernel
theorem dX2_addSweets_9 : decode cX2_addSweets 9 = .ok (.bipush 6, 2) := by decide +kernel
theorem dX2_addSweets_11 : decode cX2_addSweets 11 = .ok (.invokestatic 56, 3) := by decide +kernel
theorem dX2_addSweets_14 : decode cX2_addSweets 14 = .ok (.ifCond .ne 5, 3) := by decide +kernel
theorem dX2_addSweets_17 : decode cX2_addSweets 17 = .ok (.iconst (-1), 1) := by decide +kernel
theorem dX2_addSweets_18 : decode cX2_addSweets 18 = .ok (.ireturn, 1) := by decide +kernel
theorem dX2_addSweets_19 : decode cX2_addSweets 19 = .ok (.iload_n 3, 1) := by decide +kernel
theorem dX2_addSweets_20 : decode cX2_addSweets 20 = .ok (.iconst 1, 1) := by decide +kernel
theorem dX2_addSweets_21 : decode cX2_addSweets 21 = .ok (.sipush 200, 3) := by decide +kernel
theorem dX2_addSweets_24 : decode cX2_addSweets 24 = .ok (.invokestatic 66, 3) := by decide +kernel
theorem dX2_addSweets_27 : decode cX2_addSweets 27 = .ok (.ifCond .ne 6, 3) := by decide +kernel
theorem dX2_addSweets_30 : decode cX2_addSweets 30 = .ok (.bipush (-2), 2) := by decide +kernel
theorem dX2_addSweets_32 : decode cX2_addSweets 32 = .ok (.ireturn, 1) := by decide +kernel
theorem dX2_addSweets_33 : decode cX2_addSweets 33 = .ok (.aload_n 0, 1) := by decide +kernel
theorem dX2_addSweets_34 : decode cX2_addSweets 34 = .ok (.getfield 17, 3) := by decide +kernel
theorem dX2_addSweets_37 : decode cX2_addSweets 37 = .ok (.iload_n 1, 1) := by decide +kernel
theorem dX2_addSweets_38 : decode cX2_addSweets 38 = .ok (.aaload, 1) := by decide +kernel
theorem dX2_addSweets_39 : decode cX2_addSweets 39 = .ok (.iload_n 2, 1) := by decide +kernel
theorem dX2_addSweets_40 : decode cX2_addSweets 40 = .ok (.iload_n 3, 1) := by decide +kernel
theorem dX2_addSweets_41 : decode cX2_addSweets 41 = .ok (.invokevirtual 70, 3) := by decide +kernel
theorem dX2_addSweets_44 : decode cX2_addSweets 44 = .ok (.ireturn, 1) := by decide +kernel
def wp_X2_addSweets (m : Nat) (x1 : Int32) (x2 : Int32) (x3 : Int32) (σ : Sg) (Q : Int32 → Sg → Prop) : Prop := wp_X5_isIndex x1 (4 : Int32) σ (fun r1 σ2 => ((r1 = 0 → Q (-1 : Int32) σ2) ∧ (¬ r1 = 0 → wp_X5_isIndex x2 (6 : Int32) σ2 (fun r4 σ5 => ((¬ r4 = 0 → wp_X5_isBetween x3 (1 : Int32) (200 : Int32) σ5 (fun r7 σ8 => ((¬ r7 = 0 → (vp_in x1 4 ∧ ∀ a11 : Nat, a11 = x1.toNatClampNeg → wp_X1_addSweets m a11 x2 x3 σ8 (fun r12 σ13 => Q r12 σ13))) ∧ (r7 = 0 → Q (-2 : Int32) σ8)))) ∧ (r4 = 0 → Q (-1 : Int32) σ5))))))
set_option maxRecDepth 100000 in
set_option maxHeartbeats 4000000 in
theorem c_X2_addSweets (l : Launch) (E : Ev) {m : Nat} {x1 : Int32} {x2 : Int32} {x3 : Int32} (hm : m < 11) {σ : Sg} {Q : Int32 → Sg → Prop} (hw : wp_X2_addSweets m x1 x2 x3 σ Q) : CT l E yX2_addSweets cX2_addSweets 4 (some .int) 3 66 [.ref (ad E m 0 0), .int x1, .int x2, .int x3] σ (QI E Q) := by
  refine CT_of (by decide) (Nat.le_of_ble_eq_true rfl) (fun X h1 h2 C => ?_)
  subst h1; subst h2
  have C : Cx X cX2_addSweets "SweetWraps$Machine" (some .int) 3 66 4 (QI (tE X) Q) := C
  show G X σ [(0, .ref (ad (tE X) m 0 0)), (1, .int x1), (2, .int x2), (3, .int x3)] [] 0
  unfold wp_X2_addSweets at hw
  refine gx_iload_n C dX2_addSweets_0 1 rfl ?_
  refine gx_iconst (v := (4 : Int32)) C dX2_addSweets_1 (by decide) ?_
  refine gx_ncalli (As := [.int x1, .int (4 : Int32)]) (rest := []) (host := "SweetWraps") C (c_X5_isIndex _ _ hw) (nest_in _ (by decide +kernel)) bw_224 bw_1 bw_225 hyS_X5_isIndex ⟨by decide, by decide⟩ rfl (Nat.le_of_ble_eq_true rfl) dX2_addSweets_2 (fun r1 σ2 hw => ?_)
  refine gx_if_eq (tgt := 17) C dX2_addSweets_5 (by decide) (fun c3 => ?_) (fun c3 => ?_)
  · replace hw := hw.1 c3
    refine gx_iconst (v := (-1 : Int32)) C dX2_addSweets_17 (by decide) ?_
    exact gx_iret C rfl rfl dX2_addSweets_18 hw
  · replace hw := hw.2 c3
    refine gx_iload_n C dX2_addSweets_8 2 rfl ?_
    refine gx_bipush (v := (6 : Int32)) C dX2_addSweets_9 (by decide) ?_
    refine gx_ncalli (As := [.int x2, .int (6 : Int32)]) (rest := []) (host := "SweetWraps") C (c_X5_isIndex _ _ hw) (nest_in _ (by decide +kernel)) bw_224 bw_1 bw_225 hyS_X5_isIndex ⟨by decide, by decide⟩ rfl (Nat.le_of_ble_eq_true rfl) dX2_addSweets_11 (fun r4 σ5 hw => ?_)
    refine gx_if_ne (tgt := 19) C dX2_addSweets_14 (by decide) (fun c6 => ?_) (fun c6 => ?_)
    · replace hw := hw.1 c6
      refine gx_iload_n C dX2_addSweets_19 3 rfl ?_
      refine gx_iconst (v := (1 : Int32)) C dX2_addSweets_20 (by decide) ?_
      refine gx_sipush (v := (200 : Int32)) C dX2_addSweets_21 (by decide) ?_
      refine gx_ncalli (As := [.int x3, .int (1 : Int32), .int (200 : Int32)]) (rest := []) (host := "SweetWraps") C (c_X5_isBetween _ _ hw) (nest_in _ (by decide +kernel)) bw_227 bw_1 bw_228 hyS_X5_isBetween ⟨by decide, by decide⟩ rfl (Nat.le_of_ble_eq_true rfl) dX2_addSweets_24 (fun r7 σ8 hw => ?_)
      refine gx_if_ne (tgt := 33) C dX2_addSweets_27 (by decide) (fun c9 => ?_) (fun c9 => ?_)
      · replace hw := hw.1 c9
        refine gx_aload_n C dX2_addSweets_33 0 rfl ?_
        refine gx_get C (ok0 hm) rfl rfl inX2 (ref := "SweetWraps$Machine") 1 (by decide) bw_90 rfl rfl dX2_addSweets_34 ?_
        refine gx_iload_n C dX2_addSweets_37 1 rfl ?_
        have h10 := hw.1
        replace hw := hw.2
        obtain ⟨a11, e_a11⟩ : ∃ z : Nat, z = x1.toNatClampNeg := ⟨_, rfl⟩
        replace hw := hw a11 e_a11
        have ha11 : a11 < 4 := by rw [e_a11]; exact vp_lt h10
        refine gx_aald C (ok2 hm) rfl (t0 := 3) rfl h10 (v := .ref (ad (tE X) m 5 a11)) (by rw [e_a11]; rfl) dX2_addSweets_38 ?_
        refine gx_iload_n C dX2_addSweets_39 2 rfl ?_
        refine gx_iload_n C dX2_addSweets_40 3 rfl ?_
        refine gx_vcalli (As := [.int x2, .int x3]) (rest := []) C (c_X1_addSweets _ _ hm ha11 hw) (ok5 hm ha11) rfl rfl bw_229 bw_230 bw_231 bw_3 bw_232 hy_X1_addSweets ⟨by decide, by decide⟩ rfl (Nat.le_of_ble_eq_true rfl) dX2_addSweets_41 (fun r12 σ13 hw => ?_)
        exact gx_iret C rfl rfl dX2_addSweets_44 hw
      · replace hw := hw.2 c9
        refine gx_bipush (v := (-2 : Int32)) C dX2_addSweets_30 (by decide) ?_
        exact gx_iret C rfl rfl dX2_addSweets_32 hw
    · replace hw := hw.2 c6
      refine gx_iconst (v := (-1 : Int32)) C dX2_addSweets_17 (by decide) ?_
      exact gx_iret C rfl rfl dX2_addSweets_18 hw
theorem hy_X2_addSweets : yX2_addSweets.cls = "SweetWraps$Machine" ∧ yX2_addSweets.cls ≠ "java/lang/invoke/MethodHandle" ∧ yX2_addSweets.cls ≠ "java/lang/invoke/VarHandle" ∧ (parseMethodDescriptor yX2_addSweets.desc).map (fun d => d.parameters.length) = some 3 := by decide +kernel

theorem dX2_addFoil_0 : decode cX2_addFoil 0 = .ok (.iload_n 1, 1) := by decide +kernel
theorem dX2_addFoil_1 : decode cX2_addFoil 1 = .ok (.iconst 4, 1) := by decide +kernel
theorem dX2_addFoil_2 : decode cX2_addFoil 2 = .ok (.invokestatic 56, 3) := by decide +kernel
theorem dX2_addFoil_5 : decode cX2_addFoil 5 = .ok (.ifCond .ne 5, 3) := by decide +kernel
theorem dX2_addFoil_8 : decode cX2_addFoil 8 = .ok (.iconst (-1), 1) := by decide +kernel
theorem dX2_addFoil_9 : decode cX2_addFoil 9 = .ok (.ireturn, 1) := by decide +kernel
theorem dX2_addFoil_10 : decode cX2_addFoil 10 = .ok (.iload_n 2, 1) := by decide +kernel
theorem dX2_addFoil_11 : decode cX2_addFoil 11 = .ok (.iconst 1, 1) := by decide +kernel
theorem dX2_addFoil_12 : decode cX2_addFoil 12 = .ok (.sipush 999, 3) := by decide +kernel
theorem dX2_addFoil_15 : decode cX2_addFoil 15 = .ok (.invokestatic 66, 3) := by decide +kernel
theorem dX2_addFoil_18 : decode cX2_addFoil 18 = .ok (.ifCond .ne 6, 3) := by decide +kernel
theorem dX2_addFoil_21 : decode cX2_addFoil 21 = .ok (.bipush (-2), 2) := by decide +kernel
theorem dX2_addFoil_23 : decode cX2_addFoil 23 = .ok (.ireturn, 1) := by decide +kernel
theorem dX2_addFoil_24 : decode cX2_addFoil 24 = .ok (.aload_n 0, 1) := by decide +kernel
theorem dX2_addFoil_25 : decode cX2_addFoil 25 = .ok (.getfield 17, 3) := by decide +kernel
theorem dX2_addFoil_28 : decode cX2_addFoil 28 = .ok (.iload_n 1, 1) := by decide +kernel
theorem dX2_addFoil_29 : decode cX2_addFoil 29 = .ok (.aaload, 1) := by decide +kernel
theorem dX2_addFoil_30 : decode cX2_addFoil 30 = .ok (.getfield 74, 3) := by decide +kernel
theorem dX2_addFoil_33 : decode cX2_addFoil 33 = .ok (.iload_n 2, 1) := by decide +kernel
theorem dX2_addFoil_34 : decode cX2_addFoil 34 = .ok (.iadd, 1) := by decide +kernel
theorem dX2_addFoil_35 : decode cX2_addFoil 35 = .ok (.sipush 9999, 3) := by decide +kernel
theorem dX2_addFoil_38 : decode cX2_addFoil 38 = .ok (.if_icmp .le 6, 3) := by decide +kernel
theorem dX2_addFoil_41 : decode cX2_addFoil 41 = .ok (.bipush (-4), 2) := by decide +kernel
theorem dX2_addFoil_43 : decode cX2_addFoil 43 = .ok (.ireturn, 1) := by decide +kernel
theorem dX2_addFoil_44 : decode cX2_addFoil 44 = .ok (.aload_n 0, 1) := by decide +kernel
theorem dX2_addFoil_45 : decode cX2_addFoil 45 = .ok (.getfield 17, 3) := by decide +kernel
theorem dX2_addFoil_48 : decode cX2_addFoil 48 = .ok (.iload_n 1, 1) := by decide +kernel
theorem dX2_addFoil_49 : decode cX2_addFoil 49 = .ok (.aaload, 1) := by decide +kernel
theorem dX2_addFoil_50 : decode cX2_addFoil 50 = .ok (.dup, 1) := by decide +kernel
theorem dX2_addFoil_51 : decode cX2_addFoil 51 = .ok (.getfield 74, 3) := by decide +kernel
theorem dX2_addFoil_54 : decode cX2_addFoil 54 = .ok (.iload_n 2, 1) := by decide +kernel
theorem dX2_addFoil_55 : decode cX2_addFoil 55 = .ok (.iadd, 1) := by decide +kernel
theorem dX2_addFoil_56 : decode cX2_addFoil 56 = .ok (.putfield 74, 3) := by decide +kernel
theorem dX2_addFoil_59 : decode cX2_addFoil 59 = .ok (.aload_n 0, 1) := by decide +kernel
theorem dX2_addFoil_60 : decode cX2_addFoil 60 = .ok (.getfield 17, 3) := by decide +kernel
theorem dX2_addFoil_63 : decode cX2_addFoil 63 = .ok (.iload_n 1, 1) := by decide +kernel
theorem dX2_addFoil_64 : decode cX2_addFoil 64 = .ok (.aaload, 1) := by decide +kernel
theorem dX2_addFoil_65 : decode cX2_addFoil 65 = .ok (.getfield 74, 3) := by decide +kernel
theorem dX2_addFoil_68 : decode cX2_addFoil 68 = .ok (.ireturn, 1) := by decide +kernel
def wp_X2_addFoil (m : Nat) (x1 : Int32) (x2 : Int32) (σ : Sg) (Q : Int32 → Sg → Prop) : Prop := wp_X5_isIndex x1 (4 : Int32) σ (fun r1 σ2 => ((¬ r1 = 0 → wp_X5_isBetween x2 (1 : Int32) (999 : Int32) σ2 (fun r4 σ5 => ((¬ r4 = 0 → (vp_in x1 4 ∧ ∀ a8 : Nat, a8 = x1.toNatClampNeg → ((((σ5 m 5 a8 3) + x2) ≤ (9999 : Int32) → (vp_in x1 4 ∧ ∀ a11 : Nat, a11 = x1.toNatClampNeg → ∀ σ12 : Sg, σ12 = up σ5 m 5 a11 3 ((σ5 m 5 a11 3) + x2) → (vp_in x1 4 ∧ ∀ a14 : Nat, a14 = x1.toNatClampNeg → Q (σ12 m 5 a14 3) σ12))) ∧ (¬ ((σ5 m 5 a8 3) + x2) ≤ (9999 : Int32) → Q (-4 : Int32) σ5)))) ∧ (r4 = 0 → Q (-2 : Int32) σ5)))) ∧ (r1 = 0 → Q (-1 : Int32) σ2)))
set_option maxRecDepth 100000 in
set_option maxHeartbeats 4000000 in
theorem c_X2_addFoil (l : Launch) (E : Ev) {m : Nat} {x1 : Int32} {x2 : Int32} (hm : m < 11) {σ : Sg} {Q : Int32 → Sg → Prop} (hw : wp_X2_addFoil m x1 x2 σ Q) : CT l E yX2_addFoil cX2_addFoil 3 (some .int) 1 22 [.ref (ad E m 0 0), .int x1, .int x2] σ (QI E Q) := by
  refine CT_of (by decide) (Nat.le_of_ble_eq_true rfl) (fun X h1 h2 C => ?_)
  subst h1; subst h2
  have C : Cx X cX2_addFoil "SweetWraps$Machine" (some .int) 1 22 3 (QI (tE X) Q) := C
  show G X σ [(0, .ref (ad (tE X) m 0 0)), (1, .int x1), (2, .int x2)] [] 0
  unfold wp_X2_addFoil at hw
  refine gx_iload_n C dX2_addFoil_0 1 rfl ?_
  refine gx_iconst (v := (4 : Int32)) C dX2_addFoil_1 (by decide) ?_
  refine gx_ncalli (As := [.int x1, .int (4 : Int32)]) (rest := []) (host := "SweetWraps") C (c_X5_isIndex _ _ hw) (nest_in _ (by decide +kernel)) bw_224 bw_1 bw_225 hyS_X5_isIndex ⟨by decide, by decide⟩ rfl (Nat.le_of_ble_eq_true rfl) dX2_addFoil_2 (fun r1 σ2 hw => ?_)
  refine gx_if_ne (tgt := 10) C dX2_addFoil_5 (by decide) (fun c3 => ?_) (fun c3 => ?_)
  · replace hw := hw.1 c3
    refine gx_iload_n C dX2_addFoil_10 2 rfl ?_
    refine gx_iconst (v := (1 : Int32)) C dX2_addFoil_11 (by decide) ?_
    refine gx_sipush (v := (999 : Int32)) C dX2_addFoil_12 (by decide) ?_
    refine gx_ncalli (As := [.int x2, .int (1 : Int32), .int (999 : Int32)]) (rest := []) (host := "SweetWraps") C (c_X5_isBetween _ _ hw) (nest_in _ (by decide +kernel)) bw_227 bw_1 bw_228 hyS_X5_isBetween ⟨by decide, by decide⟩ rfl (Nat.le_of_ble_eq_true rfl) dX2_addFoil_15 (fun r4 σ5 hw => ?_)
    refine gx_if_ne (tgt := 24) C dX2_addFoil_18 (by decide) (fun c6 => ?_) (fun c6 => ?_)
    · replace hw := hw.1 c6
      refine gx_aload_n C dX2_addFoil_24 0 rfl ?_
      refine gx_get C (ok0 hm) rfl rfl inX2 (ref := "SweetWraps$Machine") 1 (by decide) bw_90 rfl rfl dX2_addFoil_25 ?_
      refine gx_iload_n C dX2_addFoil_28 1 rfl ?_
      have h7 := hw.1
      replace hw := hw.2
      obtain ⟨a8, e_a8⟩ : ∃ z : Nat, z = x1.toNatClampNeg := ⟨_, rfl⟩
      replace hw := hw a8 e_a8
      have ha8 : a8 < 4 := by rw [e_a8]; exact vp_lt h7
      refine gx_aald C (ok2 hm) rfl (t0 := 3) rfl h7 (v := .ref (ad (tE X) m 5 a8)) (by rw [e_a8]; rfl) dX2_addFoil_29 ?_
      refine gx_get C (ok5 hm ha8) rfl rfl inX1 (ref := "SweetWraps$Lane") 3 (by decide) bw_39 rfl rfl dX2_addFoil_30 ?_
      refine gx_iload_n C dX2_addFoil_33 2 rfl ?_
      refine gx_iadd C dX2_addFoil_34 ?_
      refine gx_sipush (v := (9999 : Int32)) C dX2_addFoil_35 (by decide) ?_
      refine gx_icmp_le (tgt := 44) C dX2_addFoil_38 (by decide) (fun c9 => ?_) (fun c9 => ?_)
      · replace hw := hw.1 c9
        refine gx_aload_n C dX2_addFoil_44 0 rfl ?_
        refine gx_get C (ok0 hm) rfl rfl inX2 (ref := "SweetWraps$Machine") 1 (by decide) bw_90 rfl rfl dX2_addFoil_45 ?_
        refine gx_iload_n C dX2_addFoil_48 1 rfl ?_
        have h10 := hw.1
        replace hw := hw.2
        obtain ⟨a11, e_a11⟩ : ∃ z : Nat, z = x1.toNatClampNeg := ⟨_, rfl⟩
        replace hw := hw a11 e_a11
        have ha11 : a11 < 4 := by rw [e_a11]; exact vp_lt h10
        refine gx_aald C (ok2 hm) rfl (t0 := 3) rfl h10 (v := .ref (ad (tE X) m 5 a11)) (by rw [e_a11]; rfl) dX2_addFoil_49 ?_
        refine gx_dup C dX2_addFoil_50 rfl ?_
        refine gx_get C (ok5 hm ha11) rfl rfl inX1 (ref := "SweetWraps$Lane") 3 (by decide) bw_39 rfl rfl dX2_addFoil_51 ?_
        refine gx_iload_n C dX2_addFoil_54 2 rfl ?_
        refine gx_iadd C dX2_addFoil_55 ?_
        refine gx_put C (ok5 hm ha11) rfl rfl inX1 tyX1 tyX1_ok nmX1 (ref := "SweetWraps$Lane") 3 (by decide) bw_39 rfl rfl (v := .int ((σ5 m 5 a11 3) + x2)) rfl rfl (Nat.le_of_ble_eq_true rfl) (upd (σ5 m 5 a11) 3 ((σ5 m 5 a11 3) + x2)) rfl dX2_addFoil_56 ?_
        obtain ⟨σ12, e_σ12⟩ : ∃ z : Sg, z = up σ5 m 5 a11 3 ((σ5 m 5 a11 3) + x2) := ⟨_, rfl⟩
        replace hw := hw σ12 e_σ12
        refine gx_st e_σ12 ?_
        refine gx_aload_n C dX2_addFoil_59 0 rfl ?_
        refine gx_get C (ok0 hm) rfl rfl inX2 (ref := "SweetWraps$Machine") 1 (by decide) bw_90 rfl rfl dX2_addFoil_60 ?_
        refine gx_iload_n C dX2_addFoil_63 1 rfl ?_
        have h13 := hw.1
        replace hw := hw.2
        obtain ⟨a14, e_a14⟩ : ∃ z : Nat, z = x1.toNatClampNeg := ⟨_, rfl⟩
        replace hw := hw a14 e_a14
        have ha14 : a14 < 4 := by rw [e_a14]; exact vp_lt h13
        refine gx_aald C (ok2 hm) rfl (t0 := 3) rfl h13 (v := .ref (ad (tE X) m 5 a14)) (by rw [e_a14]; rfl) dX2_addFoil_64 ?_
        refine gx_get C (ok5 hm ha14) rfl rfl inX1 (ref := "SweetWraps$Lane") 3 (by decide) bw_39 rfl rfl dX2_addFoil_65 ?_
        exact gx_iret C rfl rfl dX2_addFoil_68 hw
      · replace hw := hw.2 c9
        refine gx_bipush (v := (-4 : Int32)) C dX2_addFoil_41 (by decide) ?_
        exact gx_iret C rfl rfl dX2_addFoil_43 hw
    · replace hw := hw.2 c6
      refine gx_bipush (v := (-2 : Int32)) C dX2_addFoil_21 (by decide) ?_
      exact gx_iret C rfl rfl dX2_addFoil_23 hw
  · replace hw := hw.2 c3
    refine gx_iconst (v := (-1 : Int32)) C dX2_addFoil_8 (by decide) ?_
    exact gx_iret C rfl rfl dX2_addFoil_9 hw
theorem hy_X2_addFoil : yX2_addFoil.cls = "SweetWraps$Machine" ∧ yX2_addFoil.cls ≠ "java/lang/invoke/MethodHandle" ∧ yX2_addFoil.cls ≠ "java/lang/invoke/VarHandle" ∧ (parseMethodDescriptor yX2_addFoil.desc).map (fun d => d.parameters.length) = some 2 := by decide +kernel

theorem dX2_addTin_0 : decode cX2_addTin 0 = .ok (.aload_n 0, 1) := by decide +kernel
theorem dX2_addTin_1 : decode cX2_addTin 1 = .ok (.getfield 43, 3) := by decide +kernel
theorem dX2_addTin_4 : decode cX2_addTin 4 = .ok (.bipush 16, 2) := by decide +kernel
theorem dX2_addTin_6 : decode cX2_addTin 6 = .ok (.if_icmp .lt 6, 3) := by decide +kernel
theorem dX2_addTin_9 : decode cX2_addTin 9 = .ok (.bipush (-4), 2) := by decide +kernel
theorem dX2_addTin_11 : decode cX2_addTin 11 = .ok (.ireturn, 1) := by decide +kernel
theorem dX2_addTin_12 : decode cX2_addTin 12 = .ok (.aload_n 0, 1) := by decide +kernel
theorem dX2_addTin_13 : decode cX2_addTin 13 = .ok (.dup, 1) := by decide +kernel
theorem dX2_addTin_14 : decode cX2_addTin 14 = .ok (.getfield 43, 3) := by decide +kernel
theorem dX2_addTin_17 : decode cX2_addTin 17 = .ok (.iconst 1, 1) := by decide +kernel
theorem dX2_addTin_18 : decode cX2_addTin 18 = .ok (.iadd, 1) := by decide +kernel
theorem dX2_addTin_19 : decode cX2_addTin 19 = .ok (.putfield 43, 3) := by decide +kernel
theorem dX2_addTin_22 : decode cX2_addTin 22 = .ok (.aload_n 0, 1) := by decide +kernel
theorem dX2_addTin_23 : decode cX2_addTin 23 = .ok (.getfield 43, 3) := by decide +kernel
theorem dX2_addTin_26 : decode cX2_addTin 26 = .ok (.iconst 1, 1) := by decide +kernel
theorem dX2_addTin_27 : decode cX2_addTin 27 = .ok (.isub, 1) := by decide +kernel
theorem dX2_addTin_28 : decode cX2_addTin 28 = .ok (.ireturn, 1) := by decide +kernel
def wp_X2_addTin (m : Nat) (σ : Sg) (Q : Int32 → Sg → Prop) : Prop := (((σ m 0 0 4) < (16 : Int32) → ∀ σ2 : Sg, σ2 = up σ m 0 0 4 ((σ m 0 0 4) + (1 : Int32)) → Q ((σ2 m 0 0 4) - (1 : Int32)) σ2) ∧ (¬ (σ m 0 0 4) < (16 : Int32) → Q (-4 : Int32) σ))
set_option maxRecDepth 100000 in
set_option maxHeartbeats 4000000 in
theorem c_X2_addTin (l : Launch) (E : Ev) {m : Nat} (hm : m < 11) {σ : Sg} {Q : Int32 → Sg → Prop} (hw : wp_X2_addTin m σ Q) : CT l E yX2_addTin cX2_addTin 1 (some .int) 0 0 [.ref (ad E m 0 0)] σ (QI E Q) := by
  refine CT_of (by decide) (Nat.le_of_ble_eq_true rfl) (fun X h1 h2 C => ?_)
  subst h1; subst h2
  have C : Cx X cX2_addTin "SweetWraps$Machine" (some .int) 0 0 1 (QI (tE X) Q) := C
  show G X σ [(0, .ref (ad (tE X) m 0 0))] [] 0
  unfold wp_X2_addTin at hw
  refine gx_aload_n C dX2_addTin_0 0 rfl ?_
  refine gx_get C (ok0 hm) rfl rfl inX2 (ref := "SweetWraps$Machine") 4 (by decide) bw_94 rfl rfl dX2_addTin_1 ?_
  refine gx_bipush (v := (16 : Int32)) C dX2_addTin_4 (by decide) ?_
  refine gx_icmp_lt (tgt := 12) C dX2_addTin_6 (by decide) (fun c1 => ?_) (fun c1 => ?_)
  · replace hw := hw.1 c1
    refine gx_aload_n C dX2_addTin_12 0 rfl ?_
    refine gx_dup C dX2_addTin_13 rfl ?_
    refine gx_get C (ok0 hm) rfl rfl inX2 (ref := "SweetWraps$Machine") 4 (by decide) bw_94 rfl rfl dX2_addTin_14 ?_
    refine gx_iconst (v := (1 : Int32)) C dX2_addTin_17 (by decide) ?_
    refine gx_iadd C dX2_addTin_18 ?_
    refine gx_put C (ok0 hm) rfl rfl inX2 tyX2 tyX2_ok nmX2 (ref := "SweetWraps$Machine") 4 (by decide) bw_94 rfl rfl (v := .int ((σ m 0 0 4) + (1 : Int32))) rfl rfl (Nat.le_of_ble_eq_true rfl) (upd (σ m 0 0) 4 ((σ m 0 0 4) + (1 : Int32))) rfl dX2_addTin_19 ?_
    obtain ⟨σ2, e_σ2⟩ : ∃ z : Sg, z = up σ m 0 0 4 ((σ m 0 0 4) + (1 : Int32)) := ⟨_, rfl⟩
    replace hw := hw σ2 e_σ2
    refine gx_st e_σ2 ?_
    refine gx_aload_n C dX2_addTin_22 0 rfl ?_
    refine gx_get C (ok0 hm) rfl rfl inX2 (ref := "SweetWraps$Machine") 4 (by decide) bw_94 rfl rfl dX2_addTin_23 ?_
    refine gx_iconst (v := (1 : Int32)) C dX2_addTin_26 (by decide) ?_
    refine gx_isub C dX2_addTin_27 ?_
    exact gx_iret C rfl rfl dX2_addTin_28 hw
  · replace hw := hw.2 c1
    refine gx_bipush (v := (-4 : Int32)) C dX2_addTin_9 (by decide) ?_
    exact gx_iret C rfl rfl dX2_addTin_11 hw
theorem hy_X2_addTin : yX2_addTin.cls = "SweetWraps$Machine" ∧ yX2_addTin.cls ≠ "java/lang/invoke/MethodHandle" ∧ yX2_addTin.cls ≠ "java/lang/invoke/VarHandle" ∧ (parseMethodDescriptor yX2_addTin.desc).map (fun d => d.parameters.length) = some 0 := by decide +kernel

theorem dX2_isTin_0 : decode cX2_isTin 0 = .ok (.iload_n 1, 1) := by decide +kernel
theorem dX2_isTin_1 : decode cX2_isTin 1 = .ok (.aload_n 0, 1) := by decide +kernel
theorem dX2_isTin_2 : decode cX2_isTin 2 = .ok (.getfield 43, 3) := by decide +kernel
theorem dX2_isTin_5 : decode cX2_isTin 5 = .ok (.invokestatic 56, 3) := by decide +kernel
theorem dX2_isTin_8 : decode cX2_isTin 8 = .ok (.ifCond .eq 13, 3) := by decide +kernel
theorem dX2_isTin_11 : decode cX2_isTin 11 = .ok (.iload_n 1, 1) := by decide +kernel
theorem dX2_isTin_12 : decode cX2_isTin 12 = .ok (.bipush 16, 2) := by decide +kernel
theorem dX2_isTin_14 : decode cX2_isTin 14 = .ok (.if_icmp .ge 7, 3) := by decide +kernel
theorem dX2_isTin_17 : decode cX2_isTin 17 = .ok (.iconst 1, 1) := by decide +kernel
theorem dX2_isTin_18 : decode cX2_isTin 18 = .ok (.goto 4, 3) := by decide +kernel
theorem dX2_isTin_21 : decode cX2_isTin 21 = .ok (.iconst 0, 1) := by decide +kernel
theorem dX2_isTin_22 : decode cX2_isTin 22 = .ok (.ireturn, 1) := by decide +kernel
def wp_X2_isTin (m : Nat) (x1 : Int32) (σ : Sg) (Q : Int32 → Sg → Prop) : Prop := wp_X5_isIndex x1 (σ m 0 0 4) σ (fun r1 σ2 => ((r1 = 0 → Q (0 : Int32) σ2) ∧ (¬ r1 = 0 → (((16 : Int32) ≤ x1 → Q (0 : Int32) σ2) ∧ (¬ (16 : Int32) ≤ x1 → Q (1 : Int32) σ2)))))
set_option maxRecDepth 100000 in
set_option maxHeartbeats 4000000 in
theorem c_X2_isTin (l : Launch) (E : Ev) {m : Nat} {x1 : Int32} (hm : m < 11) {σ : Sg} {Q : Int32 → Sg → Prop} (hw : wp_X2_isTin m x1 σ Q) : CT l E yX2_isTin cX2_isTin 2 (some .boolean) 1 21 [.ref (ad E m 0 0), .int x1] σ (QI E Q) := by
  refine CT_of (by decide) (Nat.le_of_ble_eq_true rfl) (fun X h1 h2 C => ?_)
  subst h1; subst h2
  have C : Cx X cX2_isTin "SweetWraps$Machine" (some .boolean) 1 21 2 (QI (tE X) Q) := C
  show G X σ [(0, .ref (ad (tE X) m 0 0)), (1, .int x1)] [] 0
  unfold wp_X2_isTin at hw
  refine gx_iload_n C dX2_isTin_0 1 rfl ?_
  refine gx_aload_n C dX2_isTin_1 0 rfl ?_
  refine gx_get C (ok0 hm) rfl rfl inX2 (ref := "SweetWraps$Machine") 4 (by decide) bw_94 rfl rfl dX2_isTin_2 ?_
  refine gx_ncalli (As := [.int x1, .int (σ m 0 0 4)]) (rest := []) (host := "SweetWraps") C (c_X5_isIndex _ _ hw) (nest_in _ (by decide +kernel)) bw_224 bw_1 bw_225 hyS_X5_isIndex ⟨by decide, by decide⟩ rfl (Nat.le_of_ble_eq_true rfl) dX2_isTin_5 (fun r1 σ2 hw => ?_)
  refine gx_if_eq (tgt := 21) C dX2_isTin_8 (by decide) (fun c3 => ?_) (fun c3 => ?_)
  · replace hw := hw.1 c3
    refine gx_iconst (v := (0 : Int32)) C dX2_isTin_21 (by decide) ?_
    exact gx_iret C rfl rfl dX2_isTin_22 hw
  · replace hw := hw.2 c3
    refine gx_iload_n C dX2_isTin_11 1 rfl ?_
    refine gx_bipush (v := (16 : Int32)) C dX2_isTin_12 (by decide) ?_
    refine gx_icmp_ge (tgt := 21) C dX2_isTin_14 (by decide) (fun c4 => ?_) (fun c4 => ?_)
    · replace hw := hw.1 c4
      refine gx_iconst (v := (0 : Int32)) C dX2_isTin_21 (by decide) ?_
      exact gx_iret C rfl rfl dX2_isTin_22 hw
    · replace hw := hw.2 c4
      refine gx_iconst (v := (1 : Int32)) C dX2_isTin_17 (by decide) ?_
      refine gx_goto (tgt := 22) C dX2_isTin_18 (by decide) ?_
      exact gx_iret C rfl rfl dX2_isTin_22 hw
theorem hy_X2_isTin : yX2_isTin.cls = "SweetWraps$Machine" ∧ yX2_isTin.cls ≠ "java/lang/invoke/MethodHandle" ∧ yX2_isTin.cls ≠ "java/lang/invoke/VarHandle" ∧ (parseMethodDescriptor yX2_isTin.desc).map (fun d => d.parameters.length) = some 1 := by decide +kernel

theorem dX2_shipTin_0 : decode cX2_shipTin 0 = .ok (.aload_n 0, 1) := by decide +kernel
theorem dX2_shipTin_1 : decode cX2_shipTin 1 = .ok (.iload_n 1, 1) := by decide +kernel
theorem dX2_shipTin_2 : decode cX2_shipTin 2 = .ok (.invokevirtual 77, 3) := by decide +kernel
theorem dX2_shipTin_5 : decode cX2_shipTin 5 = .ok (.ifCond .ne 5, 3) := by decide +kernel
theorem dX2_shipTin_8 : decode cX2_shipTin 8 = .ok (.iconst (-1), 1) := by decide +kernel
theorem dX2_shipTin_9 : decode cX2_shipTin 9 = .ok (.ireturn, 1) := by decide +kernel
theorem dX2_shipTin_10 : decode cX2_shipTin 10 = .ok (.aload_n 0, 1) := by decide +kernel
theorem dX2_shipTin_11 : decode cX2_shipTin 11 = .ok (.getfield 23, 3) := by decide +kernel
theorem dX2_shipTin_14 : decode cX2_shipTin 14 = .ok (.iload_n 1, 1) := by decide +kernel
theorem dX2_shipTin_15 : decode cX2_shipTin 15 = .ok (.aaload, 1) := by decide +kernel
theorem dX2_shipTin_16 : decode cX2_shipTin 16 = .ok (.getfield 81, 3) := by decide +kernel
theorem dX2_shipTin_19 : decode cX2_shipTin 19 = .ok (.ifCond .ne 15, 3) := by decide +kernel
theorem dX2_shipTin_22 : decode cX2_shipTin 22 = .ok (.aload_n 0, 1) := by decide +kernel
theorem dX2_shipTin_23 : decode cX2_shipTin 23 = .ok (.getfield 23, 3) := by decide +kernel
theorem dX2_shipTin_26 : decode cX2_shipTin 26 = .ok (.iload_n 1, 1) := by decide +kernel
theorem dX2_shipTin_27 : decode cX2_shipTin 27 = .ok (.aaload, 1) := by decide +kernel
theorem dX2_shipTin_28 : decode cX2_shipTin 28 = .ok (.getfield 85, 3) := by decide +kernel
theorem dX2_shipTin_31 : decode cX2_shipTin 31 = .ok (.ifCond .ne 6, 3) := by decide +kernel
theorem dX2_shipTin_34 : decode cX2_shipTin 34 = .ok (.bipush (-5), 2) := by decide +kernel
theorem dX2_shipTin_36 : decode cX2_shipTin 36 = .ok (.ireturn, 1) := by decide +kernel
theorem dX2_shipTin_37 : decode cX2_shipTin 37 = .ok (.aload_n 0, 1) := by decide +kernel
theorem dX2_shipTin_38 : decode cX2_shipTin 38 = .ok (.getfield 23, 3) := by decide +kernel
theorem dX2_shipTin_41 : decode cX2_shipTin 41 = .ok (.iload_n 1, 1) := by decide +kernel
theorem dX2_shipTin_42 : decode cX2_shipTin 42 = .ok (.aaload, 1) := by decide +kernel
theorem dX2_shipTin_43 : decode cX2_shipTin 43 = .ok (.iconst 1, 1) := by decide +kernel
theorem dX2_shipTin_44 : decode cX2_shipTin 44 = .ok (.putfield 81, 3) := by decide +kernel
theorem dX2_shipTin_47 : decode cX2_shipTin 47 = .ok (.aload_n 0, 1) := by decide +kernel
theorem dX2_shipTin_48 : decode cX2_shipTin 48 = .ok (.getfield 23, 3) := by decide +kernel
theorem dX2_shipTin_51 : decode cX2_shipTin 51 = .ok (.iload_n 1, 1) := by decide +kernel
theorem dX2_shipTin_52 : decode cX2_shipTin 52 = .ok (.aaload, 1) := by decide +kernel
theorem dX2_shipTin_53 : decode cX2_shipTin 53 = .ok (.getfield 85, 3) := by decide +kernel
theorem dX2_shipTin_56 : decode cX2_shipTin 56 = .ok (.ireturn, 1) := by decide +kernel
def wp_X2_shipTin (m : Nat) (x1 : Int32) (σ : Sg) (Q : Int32 → Sg → Prop) : Prop := wp_X2_isTin m x1 σ (fun r1 σ2 => ((¬ r1 = 0 → (vp_in x1 16 ∧ ∀ a5 : Nat, a5 = x1.toNatClampNeg → ((¬ (σ2 m 8 a5 3) = 0 → Q (-5 : Int32) σ2) ∧ ((σ2 m 8 a5 3) = 0 → (vp_in x1 16 ∧ ∀ a8 : Nat, a8 = x1.toNatClampNeg → ((¬ (σ2 m 8 a8 2) = 0 → (vp_in x1 16 ∧ ∀ a11 : Nat, a11 = x1.toNatClampNeg → ∀ σ12 : Sg, σ12 = up σ2 m 8 a11 3 (1 : Int32) → (vp_in x1 16 ∧ ∀ a14 : Nat, a14 = x1.toNatClampNeg → Q (σ12 m 8 a14 2) σ12))) ∧ ((σ2 m 8 a8 2) = 0 → Q (-5 : Int32) σ2))))))) ∧ (r1 = 0 → Q (-1 : Int32) σ2)))
set_option maxRecDepth 100000 in
set_option maxHeartbeats 4000000 in
theorem c_X2_shipTin (l : Launch) (E : Ev) {m : Nat} {x1 : Int32} (hm : m < 11) {σ : Sg} {Q : Int32 → Sg → Prop} (hw : wp_X2_shipTin m x1 σ Q) : CT l E yX2_shipTin cX2_shipTin 2 (some .int) 2 42 [.ref (ad E m 0 0), .int x1] σ (QI E Q) := by
  refine CT_of (by decide) (Nat.le_of_ble_eq_true rfl) (fun X h1 h2 C => ?_)
  subst h1; subst h2
  have C : Cx X cX2_shipTin "SweetWraps$Machine" (some .int) 2 42 2 (QI (tE X) Q) := C
  show G X σ [(0, .ref (ad (tE X) m 0 0)), (1, .int x1)] [] 0
  unfold wp_X2_shipTin at hw
  refine gx_aload_n C dX2_shipTin_0 0 rfl ?_
  refine gx_iload_n C dX2_shipTin_1 1 rfl ?_
  refine gx_vcalli (As := [.int x1]) (rest := []) C (c_X2_isTin _ _ hm hw) (ok0 hm) rfl rfl bw_282 bw_284 bs_2 bw_2 bw_285 hy_X2_isTin ⟨by decide, by decide⟩ rfl (Nat.le_of_ble_eq_true rfl) dX2_shipTin_2 (fun r1 σ2 hw => ?_)
  refine gx_if_ne (tgt := 10) C dX2_shipTin_5 (by decide) (fun c3 => ?_) (fun c3 => ?_)
  · replace hw := hw.1 c3
    refine gx_aload_n C dX2_shipTin_10 0 rfl ?_
    refine gx_get C (ok0 hm) rfl rfl inX2 (ref := "SweetWraps$Machine") 2 (by decide) bw_92 rfl rfl dX2_shipTin_11 ?_
    refine gx_iload_n C dX2_shipTin_14 1 rfl ?_
    have h4 := hw.1
    replace hw := hw.2
    obtain ⟨a5, e_a5⟩ : ∃ z : Nat, z = x1.toNatClampNeg := ⟨_, rfl⟩
    replace hw := hw a5 e_a5
    have ha5 : a5 < 16 := by rw [e_a5]; exact vp_lt h4
    refine gx_aald C (ok3 hm) rfl (t0 := 4) rfl h4 (v := .ref (ad (tE X) m 8 a5)) (by rw [e_a5]; rfl) dX2_shipTin_15 ?_
    refine gx_get C (ok8 hm ha5) rfl rfl inX4 (ref := "SweetWraps$Tin") 3 (by decide) bw_78 rfl rfl dX2_shipTin_16 ?_
    refine gx_if_ne (tgt := 34) C dX2_shipTin_19 (by decide) (fun c6 => ?_) (fun c6 => ?_)
    · replace hw := hw.1 c6
      refine gx_bipush (v := (-5 : Int32)) C dX2_shipTin_34 (by decide) ?_
      exact gx_iret C rfl rfl dX2_shipTin_36 hw
    · replace hw := hw.2 c6
      refine gx_aload_n C dX2_shipTin_22 0 rfl ?_
      refine gx_get C (ok0 hm) rfl rfl inX2 (ref := "SweetWraps$Machine") 2 (by decide) bw_92 rfl rfl dX2_shipTin_23 ?_
      refine gx_iload_n C dX2_shipTin_26 1 rfl ?_
      have h7 := hw.1
      replace hw := hw.2
      obtain ⟨a8, e_a8⟩ : ∃ z : Nat, z = x1.toNatClampNeg := ⟨_, rfl⟩
      replace hw := hw a8 e_a8
      have ha8 : a8 < 16 := by rw [e_a8]; exact vp_lt h7
      refine gx_aald C (ok3 hm) rfl (t0 := 4) rfl h7 (v := .ref (ad (tE X) m 8 a8)) (by rw [e_a8]; rfl) dX2_shipTin_27 ?_
      refine gx_get C (ok8 hm ha8) rfl rfl inX4 (ref := "SweetWraps$Tin") 2 (by decide) bw_76 rfl rfl dX2_shipTin_28 ?_
      refine gx_if_ne (tgt := 37) C dX2_shipTin_31 (by decide) (fun c9 => ?_) (fun c9 => ?_)
      · replace hw := hw.1 c9
        refine gx_aload_n C dX2_shipTin_37 0 rfl ?_
        refine gx_get C (ok0 hm) rfl rfl inX2 (ref := "SweetWraps$Machine") 2 (by decide) bw_92 rfl rfl dX2_shipTin_38 ?_
        refine gx_iload_n C dX2_shipTin_41 1 rfl ?_
        have h10 := hw.1
        replace hw := hw.2
        obtain ⟨a11, e_a11⟩ : ∃ z : Nat, z = x1.toNatClampNeg := ⟨_, rfl⟩
        replace hw := hw a11 e_a11
        have ha11 : a11 < 16 := by rw [e_a11]; exact vp_lt h10
        refine gx_aald C (ok3 hm) rfl (t0 := 4) rfl h10 (v := .ref (ad (tE X) m 8 a11)) (by rw [e_a11]; rfl) dX2_shipTin_42 ?_
        refine gx_iconst (v := (1 : Int32)) C dX2_shipTin_43 (by decide) ?_
        refine gx_put C (ok8 hm ha11) rfl rfl inX4 tyX4 tyX4_ok nmX4 (ref := "SweetWraps$Tin") 3 (by decide) bw_78 rfl rfl (v := .int (1 : Int32)) rfl rfl (Nat.le_of_ble_eq_true rfl) (upd (σ2 m 8 a11) 3 (1 : Int32)) rfl dX2_shipTin_44 ?_
        obtain ⟨σ12, e_σ12⟩ : ∃ z : Sg, z = up σ2 m 8 a11 3 (1 : Int32) := ⟨_, rfl⟩
        replace hw := hw σ12 e_σ12
        refine gx_st e_σ12 ?_
        refine gx_aload_n C dX2_shipTin_47 0 rfl ?_
        refine gx_get C (ok0 hm) rfl rfl inX2 (ref := "SweetWraps$Machine") 2 (by decide) bw_92 rfl rfl dX2_shipTin_48 ?_
        refine gx_iload_n C dX2_shipTin_51 1 rfl ?_
        have h13 := hw.1
        replace hw := hw.2
        obtain ⟨a14, e_a14⟩ : ∃ z : Nat, z = x1.toNatClampNeg := ⟨_, rfl⟩
        replace hw := hw a14 e_a14
        have ha14 : a14 < 16 := by rw [e_a14]; exact vp_lt h13
        refine gx_aald C (ok3 hm) rfl (t0 := 4) rfl h13 (v := .ref (ad (tE X) m 8 a14)) (by rw [e_a14]; rfl) dX2_shipTin_52 ?_
        refine gx_get C (ok8 hm ha14) rfl rfl inX4 (ref := "SweetWraps$Tin") 2 (by decide) bw_76 rfl rfl dX2_shipTin_53 ?_
        exact gx_iret C rfl rfl dX2_shipTin_56 hw
      · replace hw := hw.2 c9
        refine gx_bipush (v := (-5 : Int32)) C dX2_shipTin_34 (by decide) ?_
        exact gx_iret C rfl rfl dX2_shipTin_36 hw
  · replace hw := hw.2 c3
    refine gx_iconst (v := (-1 : Int32)) C dX2_shipTin_8 (by decide) ?_
    exact gx_iret C rfl rfl dX2_shipTin_9 hw
theorem hy_X2_shipTin : yX2_shipTin.cls = "SweetWraps$Machine" ∧ yX2_shipTin.cls ≠ "java/lang/invoke/MethodHandle" ∧ yX2_shipTin.cls ≠ "java/lang/invoke/VarHandle" ∧ (parseMethodDescriptor yX2_shipTin.desc).map (fun d => d.parameters.length) = some 1 := by decide +kernel

theorem dX2_isOpen_0 : decode cX2_isOpen 0 = .ok (.aload_n 0, 1) := by decide +kernel
theorem dX2_isOpen_1 : decode cX2_isOpen 1 = .ok (.iload_n 1, 1) := by decide +kernel
theorem dX2_isOpen_2 : decode cX2_isOpen 2 = .ok (.invokevirtual 77, 3) := by decide +kernel
theorem dX2_isOpen_5 : decode cX2_isOpen 5 = .ok (.ifCond .eq 19, 3) := by decide +kernel
theorem dX2_isOpen_8 : decode cX2_isOpen 8 = .ok (.aload_n 0, 1) := by decide +kernel
theorem dX2_isOpen_9 : decode cX2_isOpen 9 = .ok (.getfield 23, 3) := by decide +kernel
theorem dX2_isOpen_12 : decode cX2_isOpen 12 = .ok (.iload_n 1, 1) := by decide +kernel
theorem dX2_isOpen_13 : decode cX2_isOpen 13 = .ok (.aaload, 1) := by decide +kernel
theorem dX2_isOpen_14 : decode cX2_isOpen 14 = .ok (.getfield 81, 3) := by decide +kernel
theorem dX2_isOpen_17 : decode cX2_isOpen 17 = .ok (.ifCond .ne 7, 3) := by decide +kernel
theorem dX2_isOpen_20 : decode cX2_isOpen 20 = .ok (.iconst 1, 1) := by decide +kernel
theorem dX2_isOpen_21 : decode cX2_isOpen 21 = .ok (.goto 4, 3) := by decide +kernel
theorem dX2_isOpen_24 : decode cX2_isOpen 24 = .ok (.iconst 0, 1) := by decide +kernel
theorem dX2_isOpen_25 : decode cX2_isOpen 25 = .ok (.ireturn, 1) := by decide +kernel
def wp_X2_isOpen (m : Nat) (x1 : Int32) (σ : Sg) (Q : Int32 → Sg → Prop) : Prop := wp_X2_isTin m x1 σ (fun r1 σ2 => ((r1 = 0 → Q (0 : Int32) σ2) ∧ (¬ r1 = 0 → (vp_in x1 16 ∧ ∀ a5 : Nat, a5 = x1.toNatClampNeg → ((¬ (σ2 m 8 a5 3) = 0 → Q (0 : Int32) σ2) ∧ ((σ2 m 8 a5 3) = 0 → Q (1 : Int32) σ2))))))
set_option maxRecDepth 100000 in
set_option maxHeartbeats 4000000 in
theorem c_X2_isOpen (l : Launch) (E : Ev) {m : Nat} {x1 : Int32} (hm : m < 11) {σ : Sg} {Q : Int32 → Sg → Prop} (hw : wp_X2_isOpen m x1 σ Q) : CT l E yX2_isOpen cX2_isOpen 2 (some .boolean) 2 42 [.ref (ad E m 0 0), .int x1] σ (QI E Q) := by
  refine CT_of (by decide) (Nat.le_of_ble_eq_true rfl) (fun X h1 h2 C => ?_)
  subst h1; subst h2
  have C : Cx X cX2_isOpen "SweetWraps$Machine" (some .boolean) 2 42 2 (QI (tE X) Q) := C
  show G X σ [(0, .ref (ad (tE X) m 0 0)), (1, .int x1)] [] 0
  unfold wp_X2_isOpen at hw
  refine gx_aload_n C dX2_isOpen_0 0 rfl ?_
  refine gx_iload_n C dX2_isOpen_1 1 rfl ?_
  refine gx_vcalli (As := [.int x1]) (rest := []) C (c_X2_isTin _ _ hm hw) (ok0 hm) rfl rfl bw_282 bw_284 bs_2 bw_2 bw_285 hy_X2_isTin ⟨by decide, by decide⟩ rfl (Nat.le_of_ble_eq_true rfl) dX2_isOpen_2 (fun r1 σ2 hw => ?_)
  refine gx_if_eq (tgt := 24) C dX2_isOpen_5 (by decide) (fun c3 => ?_) (fun c3 => ?_)
  · replace hw := hw.1 c3
    refine gx_iconst (v := (0 : Int32)) C dX2_isOpen_24 (by decide) ?_
    exact gx_iret C rfl rfl dX2_isOpen_25 hw
  · replace hw := hw.2 c3
    refine gx_aload_n C dX2_isOpen_8 0 rfl ?_
    refine gx_get C (ok0 hm) rfl rfl inX2 (ref := "SweetWraps$Machine") 2 (by decide) bw_92 rfl rfl dX2_isOpen_9 ?_
    refine gx_iload_n C dX2_isOpen_12 1 rfl ?_
    have h4 := hw.1
    replace hw := hw.2
    obtain ⟨a5, e_a5⟩ : ∃ z : Nat, z = x1.toNatClampNeg := ⟨_, rfl⟩
    replace hw := hw a5 e_a5
    have ha5 : a5 < 16 := by rw [e_a5]; exact vp_lt h4
    refine gx_aald C (ok3 hm) rfl (t0 := 4) rfl h4 (v := .ref (ad (tE X) m 8 a5)) (by rw [e_a5]; rfl) dX2_isOpen_13 ?_
    refine gx_get C (ok8 hm ha5) rfl rfl inX4 (ref := "SweetWraps$Tin") 3 (by decide) bw_78 rfl rfl dX2_isOpen_14 ?_
    refine gx_if_ne (tgt := 24) C dX2_isOpen_17 (by decide) (fun c6 => ?_) (fun c6 => ?_)
    · replace hw := hw.1 c6
      refine gx_iconst (v := (0 : Int32)) C dX2_isOpen_24 (by decide) ?_
      exact gx_iret C rfl rfl dX2_isOpen_25 hw
    · replace hw := hw.2 c6
      refine gx_iconst (v := (1 : Int32)) C dX2_isOpen_20 (by decide) ?_
      refine gx_goto (tgt := 25) C dX2_isOpen_21 (by decide) ?_
      exact gx_iret C rfl rfl dX2_isOpen_25 hw
theorem hy_X2_isOpen : yX2_isOpen.cls = "SweetWraps$Machine" ∧ yX2_isOpen.cls ≠ "java/lang/invoke/MethodHandle" ∧ yX2_isOpen.cls ≠ "java/lang/invoke/VarHandle" ∧ (parseMethodDescriptor yX2_isOpen.desc).map (fun d => d.parameters.length) = some 1 := by decide +kernel

theorem dX2_isOpenTinWithBoth_0 : decode cX2_isOpenTinWithBoth 0 = .ok (.iconst 1, 1) := by decide +kernel
theorem dX2_isOpenTinWithBoth_1 : decode cX2_isOpenTinWithBoth 1 = .ok (.iload_n 1, 1) := by decide +kernel
theorem dX2_isOpenTinWithBoth_2 : decode cX2_isOpenTinWithBoth 2 = .ok (.ishl, 1) := by decide +kernel
theorem dX2_isOpenTinWithBoth_3 : decode cX2_isOpenTinWithBoth 3 = .ok (.iconst 1, 1) := by decide +kernel
theorem dX2_isOpenTinWithBoth_4 : decode cX2_isOpenTinWithBoth 4 = .ok (.iload_n 2, 1) := by decide +kernel
theorem dX2_isOpenTinWithBoth_5 : decode cX2_isOpenTinWithBoth 5 = .ok (.ishl, 1) := by decide +kernel
theorem dX2_isOpenTinWithBoth_6 : decode cX2_isOpenTinWithBoth 6 = .ok (.ior, 1) := by decide +kernel
theorem dX2_isOpenTinWithBoth_7 : decode cX2_isOpenTinWithBoth 7 = .ok (.istore_n 3, 1) := by decide +kernel
theorem dX2_isOpenTinWithBoth_8 : decode cX2_isOpenTinWithBoth 8 = .ok (.iconst 0, 1) := by decide +kernel
theorem dX2_isOpenTinWithBoth_9 : decode cX2_isOpenTinWithBoth 9 = .ok (.istore 4, 2) := by decide +kernel
theorem dX2_isOpenTinWithBoth_11 : decode cX2_isOpenTinWithBoth 11 = .ok (.iload 4, 2) := by decide +kernel
theorem dX2_isOpenTinWithBoth_13 : decode cX2_isOpenTinWithBoth 13 = .ok (.bipush 16, 2) := by decide +kernel
theorem dX2_isOpenTinWithBoth_15 : decode cX2_isOpenTinWithBoth 15 = .ok (.if_icmp .ge 36, 3) := by decide +kernel
theorem dX2_isOpenTinWithBoth_18 : decode cX2_isOpenTinWithBoth 18 = .ok (.aload_n 0, 1) := by decide +kernel
theorem dX2_isOpenTinWithBoth_19 : decode cX2_isOpenTinWithBoth 19 = .ok (.iload 4, 2) := by decide +kernel
theorem dX2_isOpenTinWithBoth_21 : decode cX2_isOpenTinWithBoth 21 = .ok (.invokevirtual 171, 3) := by decide +kernel
theorem dX2_isOpenTinWithBoth_24 : decode cX2_isOpenTinWithBoth 24 = .ok (.ifCond .eq 21, 3) := by decide +kernel
theorem dX2_isOpenTinWithBoth_27 : decode cX2_isOpenTinWithBoth 27 = .ok (.aload_n 0, 1) := by decide +kernel
theorem dX2_isOpenTinWithBoth_28 : decode cX2_isOpenTinWithBoth 28 = .ok (.getfield 23, 3) := by decide +kernel
theorem dX2_isOpenTinWithBoth_31 : decode cX2_isOpenTinWithBoth 31 = .ok (.iload 4, 2) := by decide +kernel
theorem dX2_isOpenTinWithBoth_33 : decode cX2_isOpenTinWithBoth 33 = .ok (.aaload, 1) := by decide +kernel
theorem dX2_isOpenTinWithBoth_34 : decode cX2_isOpenTinWithBoth 34 = .ok (.getfield 174, 3) := by decide +kernel
theorem dX2_isOpenTinWithBoth_37 : decode cX2_isOpenTinWithBoth 37 = .ok (.iload_n 3, 1) := by decide +kernel
theorem dX2_isOpenTinWithBoth_38 : decode cX2_isOpenTinWithBoth 38 = .ok (.iand, 1) := by decide +kernel
theorem dX2_isOpenTinWithBoth_39 : decode cX2_isOpenTinWithBoth 39 = .ok (.iload_n 3, 1) := by decide +kernel
theorem dX2_isOpenTinWithBoth_40 : decode cX2_isOpenTinWithBoth 40 = .ok (.if_icmp .ne 5, 3) := by decide +kernel
theorem dX2_isOpenTinWithBoth_43 : decode cX2_isOpenTinWithBoth 43 = .ok (.iconst 1, 1) := by decide +kernel
theorem dX2_isOpenTinWithBoth_44 : decode cX2_isOpenTinWithBoth 44 = .ok (.ireturn, 1) := by decide +kernel
theorem dX2_isOpenTinWithBoth_45 : decode cX2_isOpenTinWithBoth 45 = .ok (.iinc 4 1, 3) := by decide +kernel
theorem dX2_isOpenTinWithBoth_48 : decode cX2_isOpenTinWithBoth 48 = .ok (.goto (-37), 3) := by decide +kernel
theorem dX2_isOpenTinWithBoth_51 : decode cX2_isOpenTinWithBoth 51 = .ok (.iconst 0, 1) := by decide +kernel
theorem dX2_isOpenTinWithBoth_52 : decode cX2_isOpenTinWithBoth 52 = .ok (.ireturn, 1) := by decide +kernel
def wp_X2_isOpenTinWithBoth_b45 (m : Nat) (x1 : Int32) (x2 : Int32) (K11 : Int32 → Int32 → Sg → Prop) (Q : Int32 → Sg → Prop) (v3 : Int32) (v4 : Int32) (σ : Sg) : Prop := ∀ z9 : Int32, z9 = v4 + (1 : Int32) → K11 v3 z9 σ
set_option maxRecDepth 100000 in
set_option maxHeartbeats 4000000 in
theorem g_X2_isOpenTinWithBoth_b45 {X : Tx} {Q : Int32 → Sg → Prop} (C : Cx X cX2_isOpenTinWithBoth "SweetWraps$Machine" (some .boolean) 3 63 5 (QI (tE X) Q)) {m : Nat} {x1 : Int32} {x2 : Int32} (hm : m < 11) {K11 : Int32 → Int32 → Sg → Prop} (hK11 : ∀ (v3 : Int32) (v4 : Int32) (σ : Sg), K11 v3 v4 σ → G X σ [(0, .ref (ad (tE X) m 0 0)), (3, .int v3), (4, .int v4)] [] 11) {v3 : Int32} {v4 : Int32} {σ : Sg} (hw : wp_X2_isOpenTinWithBoth_b45 m x1 x2 K11 Q v3 v4 σ) : G X σ [(0, .ref (ad (tE X) m 0 0)), (3, .int v3), (4, .int v4)] [] 45 := by
  unfold wp_X2_isOpenTinWithBoth_b45 at hw
  obtain ⟨z9, e_z9⟩ : ∃ z : Int32, z = v4 + (1 : Int32) := ⟨_, rfl⟩
  replace hw := hw z9 e_z9
  refine gx_iinc (v := z9) (lv' := [(4, .int z9), (0, .ref (ad (tE X) m 0 0)), (3, .int v3)]) C dX2_isOpenTinWithBoth_45 2 rfl (by rw [e_z9]; rfl) (by decide) rfl ?_
  refine gx_goto (tgt := 11) C dX2_isOpenTinWithBoth_48 (by decide) ?_
  refine gx_sub (lv' := [(0, .ref (ad (tE X) m 0 0)), (3, .int v3), (4, .int z9)]) [1, 2, 0] rfl ?_
  exact hK11 _ _ _ hw
def st_X2_isOpenTinWithBoth_L11 (m : Nat) (x1 : Int32) (x2 : Int32) (Q : Int32 → Sg → Prop) (K11 : Int32 → Int32 → Sg → Prop) (v3 : Int32) (v4 : Int32) (σ : Sg) : Prop := (((16 : Int32) ≤ v4 → Q (0 : Int32) σ) ∧ (¬ (16 : Int32) ≤ v4 → wp_X2_isOpen m v4 σ (fun r3 σ4 => ((r3 = 0 → wp_X2_isOpenTinWithBoth_b45 m x1 x2 K11 Q v3 v4 σ4) ∧ (¬ r3 = 0 → (vp_in v4 16 ∧ ∀ a7 : Nat, a7 = v4.toNatClampNeg → ((¬ ((σ4 m 8 a7 1) &&& v3) = v3 → wp_X2_isOpenTinWithBoth_b45 m x1 x2 K11 Q v3 v4 σ4) ∧ (((σ4 m 8 a7 1) &&& v3) = v3 → Q (1 : Int32) σ4))))))))
def wp_X2_isOpenTinWithBoth_L11 (m : Nat) (x1 : Int32) (x2 : Int32) (Q : Int32 → Sg → Prop) (v3 : Int32) (v4 : Int32) (σ : Sg) : Prop := ∃ n : Nat, lpN (fun (K : Int32 × Int32 × Sg → Prop) (a : Int32 × Int32 × Sg) => st_X2_isOpenTinWithBoth_L11 m x1 x2 Q (fun v3 v4 σ => K (v3, v4, σ)) (a.1) (a.2.1) (a.2.2)) n (v3, v4, σ)
set_option maxRecDepth 100000 in
set_option maxHeartbeats 4000000 in
theorem gs_X2_isOpenTinWithBoth_L11 {X : Tx} {Q : Int32 → Sg → Prop} (C : Cx X cX2_isOpenTinWithBoth "SweetWraps$Machine" (some .boolean) 3 63 5 (QI (tE X) Q)) {m : Nat} {x1 : Int32} {x2 : Int32} (hm : m < 11) {K11 : Int32 → Int32 → Sg → Prop} (hK11 : ∀ (v3 : Int32) (v4 : Int32) (σ : Sg), K11 v3 v4 σ → G X σ [(0, .ref (ad (tE X) m 0 0)), (3, .int v3), (4, .int v4)] [] 11) {v3 : Int32} {v4 : Int32} {σ : Sg} (hw : st_X2_isOpenTinWithBoth_L11 m x1 x2 Q K11 v3 v4 σ) : G X σ [(0, .ref (ad (tE X) m 0 0)), (3, .int v3), (4, .int v4)] [] 11 := by
  unfold st_X2_isOpenTinWithBoth_L11 at hw
  refine gx_iload C dX2_isOpenTinWithBoth_11 2 rfl ?_
  refine gx_bipush (v := (16 : Int32)) C dX2_isOpenTinWithBoth_13 (by decide) ?_
  refine gx_icmp_ge (tgt := 51) C dX2_isOpenTinWithBoth_15 (by decide) (fun c2 => ?_) (fun c2 => ?_)
  · replace hw := hw.1 c2
    refine gx_iconst (v := (0 : Int32)) C dX2_isOpenTinWithBoth_51 (by decide) ?_
    exact gx_iret C rfl rfl dX2_isOpenTinWithBoth_52 hw
  · replace hw := hw.2 c2
    refine gx_aload_n C dX2_isOpenTinWithBoth_18 0 rfl ?_
    refine gx_iload C dX2_isOpenTinWithBoth_19 2 rfl ?_
    refine gx_vcalli (As := [.int v4]) (rest := []) C (c_X2_isOpen _ _ hm hw) (ok0 hm) rfl rfl bw_351 bw_353 bs_12 bw_2 bw_354 hy_X2_isOpen ⟨by decide, by decide⟩ rfl (Nat.le_of_ble_eq_true rfl) dX2_isOpenTinWithBoth_21 (fun r3 σ4 hw => ?_)
    refine gx_if_eq (tgt := 45) C dX2_isOpenTinWithBoth_24 (by decide) (fun c5 => ?_) (fun c5 => ?_)
    · replace hw := hw.1 c5
      exact g_X2_isOpenTinWithBoth_b45 C hm hK11 hw
    · replace hw := hw.2 c5
      refine gx_aload_n C dX2_isOpenTinWithBoth_27 0 rfl ?_
      refine gx_get C (ok0 hm) rfl rfl inX2 (ref := "SweetWraps$Machine") 2 (by decide) bw_92 rfl rfl dX2_isOpenTinWithBoth_28 ?_
      refine gx_iload C dX2_isOpenTinWithBoth_31 2 rfl ?_
      have h6 := hw.1
      replace hw := hw.2
      obtain ⟨a7, e_a7⟩ : ∃ z : Nat, z = v4.toNatClampNeg := ⟨_, rfl⟩
      replace hw := hw a7 e_a7
      have ha7 : a7 < 16 := by rw [e_a7]; exact vp_lt h6
      refine gx_aald C (ok3 hm) rfl (t0 := 4) rfl h6 (v := .ref (ad (tE X) m 8 a7)) (by rw [e_a7]; rfl) dX2_isOpenTinWithBoth_33 ?_
      refine gx_get C (ok8 hm ha7) rfl rfl inX4 (ref := "SweetWraps$Tin") 1 (by decide) bw_74 rfl rfl dX2_isOpenTinWithBoth_34 ?_
      refine gx_iload_n C dX2_isOpenTinWithBoth_37 1 rfl ?_
      refine gx_iand C dX2_isOpenTinWithBoth_38 ?_
      refine gx_iload_n C dX2_isOpenTinWithBoth_39 1 rfl ?_
      refine gx_icmp_ne (tgt := 45) C dX2_isOpenTinWithBoth_40 (by decide) (fun c8 => ?_) (fun c8 => ?_)
      · replace hw := hw.1 c8
        exact g_X2_isOpenTinWithBoth_b45 C hm hK11 hw
      · replace hw := hw.2 c8
        refine gx_iconst (v := (1 : Int32)) C dX2_isOpenTinWithBoth_43 (by decide) ?_
        exact gx_iret C rfl rfl dX2_isOpenTinWithBoth_44 hw
set_option maxRecDepth 100000 in
set_option maxHeartbeats 4000000 in
theorem g_X2_isOpenTinWithBoth_L11 {X : Tx} {Q : Int32 → Sg → Prop} (C : Cx X cX2_isOpenTinWithBoth "SweetWraps$Machine" (some .boolean) 3 63 5 (QI (tE X) Q)) {m : Nat} {x1 : Int32} {x2 : Int32} (hm : m < 11) {v3 : Int32} {v4 : Int32} {σ : Sg} (hw : wp_X2_isOpenTinWithBoth_L11 m x1 x2 Q v3 v4 σ) : G X σ [(0, .ref (ad (tE X) m 0 0)), (3, .int v3), (4, .int v4)] [] 11 := by
  obtain ⟨n, hw⟩ := hw
  exact lpN_G (P := (fun (a : Int32 × Int32 × Sg) => G X (a.2.2) [(0, .ref (ad (tE X) m 0 0)), (3, .int (a.1)), (4, .int (a.2.1))] [] 11)) (fun K a hK h => gs_X2_isOpenTinWithBoth_L11 C hm (fun v3 v4 σ h => hK (v3, v4, σ) h) h) n _ hw
def wp_X2_isOpenTinWithBoth (m : Nat) (x1 : Int32) (x2 : Int32) (σ : Sg) (Q : Int32 → Sg → Prop) : Prop := ∀ z1 : Int32, z1 = (((1 : Int32) <<< (x1 &&& 31)) ||| ((1 : Int32) <<< (x2 &&& 31))) → wp_X2_isOpenTinWithBoth_L11 m x1 x2 Q z1 (0 : Int32) σ
set_option maxRecDepth 100000 in
set_option maxHeartbeats 4000000 in
theorem c_X2_isOpenTinWithBoth (l : Launch) (E : Ev) {m : Nat} {x1 : Int32} {x2 : Int32} (hm : m < 11) {σ : Sg} {Q : Int32 → Sg → Prop} (hw : wp_X2_isOpenTinWithBoth m x1 x2 σ Q) : CT l E yX2_isOpenTinWithBoth cX2_isOpenTinWithBoth 5 (some .boolean) 3 63 [.ref (ad E m 0 0), .int x1, .int x2] σ (QI E Q) := by
  refine CT_of (by decide) (Nat.le_of_ble_eq_true rfl) (fun X h1 h2 C => ?_)
  subst h1; subst h2
  have C : Cx X cX2_isOpenTinWithBoth "SweetWraps$Machine" (some .boolean) 3 63 5 (QI (tE X) Q) := C
  show G X σ [(0, .ref (ad (tE X) m 0 0)), (1, .int x1), (2, .int x2)] [] 0
  unfold wp_X2_isOpenTinWithBoth at hw
  refine gx_iconst (v := (1 : Int32)) C dX2_isOpenTinWithBoth_0 (by decide) ?_
  refine gx_iload_n C dX2_isOpenTinWithBoth_1 1 rfl ?_
  refine gx_ishl C dX2_isOpenTinWithBoth_2 ?_
  refine gx_iconst (v := (1 : Int32)) C dX2_isOpenTinWithBoth_3 (by decide) ?_
  refine gx_iload_n C dX2_isOpenTinWithBoth_4 2 rfl ?_
  refine gx_ishl C dX2_isOpenTinWithBoth_5 ?_
  refine gx_ior C dX2_isOpenTinWithBoth_6 ?_
  obtain ⟨z1, e_z1⟩ : ∃ z : Int32, z = (((1 : Int32) <<< (x1 &&& 31)) ||| ((1 : Int32) <<< (x2 &&& 31))) := ⟨_, rfl⟩
  replace hw := hw z1 e_z1
  refine gx_top e_z1 ?_
  refine gx_istore_n (lv' := [(3, .int z1), (0, .ref (ad (tE X) m 0 0)), (1, .int x1), (2, .int x2)]) C dX2_isOpenTinWithBoth_7 (by decide) rfl ?_
  refine gx_iconst (v := (0 : Int32)) C dX2_isOpenTinWithBoth_8 (by decide) ?_
  refine gx_istore (lv' := [(4, .int (0 : Int32)), (3, .int z1), (0, .ref (ad (tE X) m 0 0)), (1, .int x1), (2, .int x2)]) C dX2_isOpenTinWithBoth_9 (by decide) rfl ?_
  refine gx_sub (lv' := [(0, .ref (ad (tE X) m 0 0)), (3, .int z1), (4, .int (0 : Int32))]) [2, 1, 0] rfl ?_
  exact g_X2_isOpenTinWithBoth_L11 C hm hw
theorem hy_X2_isOpenTinWithBoth : yX2_isOpenTinWithBoth.cls = "SweetWraps$Machine" ∧ yX2_isOpenTinWithBoth.cls ≠ "java/lang/invoke/MethodHandle" ∧ yX2_isOpenTinWithBoth.cls ≠ "java/lang/invoke/VarHandle" ∧ (parseMethodDescriptor yX2_isOpenTinWithBoth.desc).map (fun d => d.parameters.length) = some 2 := by decide +kernel

theorem dX2_switchApart_0 : decode cX2_switchApart 0 = .ok (.iload_n 1, 1) := by decide +kernel
theorem dX2_switchApart_1 : decode cX2_switchApart 1 = .ok (.bipush 6, 2) := by decide +kernel
theorem dX2_switchApart_3 : decode cX2_switchApart 3 = .ok (.invokestatic 56, 3) := by decide +kernel
theorem dX2_switchApart_6 : decode cX2_switchApart 6 = .ok (.ifCond .eq 17, 3) := by decide +kernel
theorem dX2_switchApart_9 : decode cX2_switchApart 9 = .ok (.iload_n 2, 1) := by decide +kernel
theorem dX2_switchApart_10 : decode cX2_switchApart 10 = .ok (.bipush 6, 2) := by decide +kernel
theorem dX2_switchApart_12 : decode cX2_switchApart 12 = .ok (.invokestatic 56, 3) := by decide +kernel
theorem dX2_switchApart_15 : decode cX2_switchApart 15 = .ok (.ifCond .eq 8, 3) := by decide +kernel
theorem dX2_switchApart_18 : decode cX2_switchApart 18 = .ok (.iload_n 1, 1) := by decide +kernel
theorem dX2_switchApart_19 : decode cX2_switchApart 19 = .ok (.iload_n 2, 1) := by decide +kernel
theorem dX2_switchApart_20 : decode cX2_switchApart 20 = .ok (.if_icmp .ne 4, 3) := by decide +kernel
theorem dX2_switchApart_23 : decode cX2_switchApart 23 = .ok (.return_, 1) := by decide +kernel
theorem dX2_switchApart_24 : decode cX2_switchApart 24 = .ok (.aload_n 0, 1) := by decide +kernel
theorem dX2_switchApart_25 : decode cX2_switchApart 25 = .ok (.getfield 27, 3) := by decide +kernel
theorem dX2_switchApart_28 : decode cX2_switchApart 28 = .ok (.iload_n 1, 1) := by decide +kernel
theorem dX2_switchApart_29 : decode cX2_switchApart 29 = .ok (.dup2, 1) := by decide +kernel
theorem dX2_switchApart_30 : decode cX2_switchApart 30 = .ok (.iaload, 1) := by decide +kernel
theorem dX2_switchApart_31 : decode cX2_switchApart 31 = .ok (.iconst 1, 1) := by decide +kernel
theorem dX2_switchApart_32 : decode cX2_switchApart 32 = .ok (.iload_n 2, 1) := by decide +kernel
theorem dX2_switchApart_33 : decode cX2_switchApart 33 = .ok (.ishl, 1) := by decide +kernel
theorem dX2_switchApart_34 : decode cX2_switchApart 34 = .ok (.ixor, 1) := by decide +kernel
theorem dX2_switchApart_35 : decode cX2_switchApart 35 = .ok (.iastore, 1) := by decide +kernel
theorem dX2_switchApart_36 : decode cX2_switchApart 36 = .ok (.aload_n 0, 1) := by decide +kernel
theorem dX2_switchApart_37 : decode cX2_switchApart 37 = .ok (.getfield 27, 3) := by decide +kernel
theorem dX2_switchApart_40 : decode cX2_switchApart 40 = .ok (.iload_n 2, 1) := by decide +kernel
theorem dX2_switchApart_41 : decode cX2_switchApart 41 = .ok (.dup2, 1) := by decide +kernel
theorem dX2_switchApart_42 : decode cX2_switchApart 42 = .ok (.iaload, 1) := by decide +kernel
theorem dX2_switchApart_43 : decode cX2_switchApart 43 = .ok (.iconst 1, 1) := by decide +kernel
theorem dX2_switchApart_44 : decode cX2_switchApart 44 = .ok (.iload_n 1, 1) := by decide +kernel
theorem dX2_switchApart_45 : decode cX2_switchApart 45 = .ok (.ishl, 1) := by decide +kernel
theorem dX2_switchApart_46 : decode cX2_switchApart 46 = .ok (.ixor, 1) := by decide +kernel
theorem dX2_switchApart_47 : decode cX2_switchApart 47 = .ok (.iastore, 1) := by decide +kernel
theorem dX2_switchApart_48 : decode cX2_switchApart 48 = .ok (.return_, 1) := by decide +kernel
def wp_X2_switchApart (m : Nat) (x1 : Int32) (x2 : Int32) (σ : Sg) (Q : Sg → Prop) : Prop := wp_X5_isIndex x1 (6 : Int32) σ (fun r1 σ2 => ((r1 = 0 → Q σ2) ∧ (¬ r1 = 0 → wp_X5_isIndex x2 (6 : Int32) σ2 (fun r4 σ5 => ((r4 = 0 → Q σ5) ∧ (¬ r4 = 0 → ((¬ x1 = x2 → (vp_in x1 6 ∧ (vp_in x1 6 ∧ ∀ σ8 : Sg, σ8 = up σ5 m 4 0 x1.toNatClampNeg ((σ5 m 4 0 x1.toNatClampNeg) ^^^ ((1 : Int32) <<< (x2 &&& 31))) → (vp_in x2 6 ∧ (vp_in x2 6 ∧ ∀ σ9 : Sg, σ9 = up σ8 m 4 0 x2.toNatClampNeg ((σ8 m 4 0 x2.toNatClampNeg) ^^^ ((1 : Int32) <<< (x1 &&& 31))) → Q σ9))))) ∧ (x1 = x2 → Q σ5))))))))
set_option maxRecDepth 100000 in
set_option maxHeartbeats 4000000 in
theorem c_X2_switchApart (l : Launch) (E : Ev) {m : Nat} {x1 : Int32} {x2 : Int32} (hm : m < 11) {σ : Sg} {Q : Sg → Prop} (hw : wp_X2_switchApart m x1 x2 σ Q) : CT l E yX2_switchApart cX2_switchApart 3 none 1 21 [.ref (ad E m 0 0), .int x1, .int x2] σ (QV E Q) := by
  refine CT_of (by decide) (Nat.le_of_ble_eq_true rfl) (fun X h1 h2 C => ?_)
  subst h1; subst h2
  have C : Cx X cX2_switchApart "SweetWraps$Machine" none 1 21 3 (QV (tE X) Q) := C
  show G X σ [(0, .ref (ad (tE X) m 0 0)), (1, .int x1), (2, .int x2)] [] 0
  unfold wp_X2_switchApart at hw
  refine gx_iload_n C dX2_switchApart_0 1 rfl ?_
  refine gx_bipush (v := (6 : Int32)) C dX2_switchApart_1 (by decide) ?_
  refine gx_ncalli (As := [.int x1, .int (6 : Int32)]) (rest := []) (host := "SweetWraps") C (c_X5_isIndex _ _ hw) (nest_in _ (by decide +kernel)) bw_224 bw_1 bw_225 hyS_X5_isIndex ⟨by decide, by decide⟩ rfl (Nat.le_of_ble_eq_true rfl) dX2_switchApart_3 (fun r1 σ2 hw => ?_)
  refine gx_if_eq (tgt := 23) C dX2_switchApart_6 (by decide) (fun c3 => ?_) (fun c3 => ?_)
  · replace hw := hw.1 c3
    exact gx_vret C dX2_switchApart_23 hw
  · replace hw := hw.2 c3
    refine gx_iload_n C dX2_switchApart_9 2 rfl ?_
    refine gx_bipush (v := (6 : Int32)) C dX2_switchApart_10 (by decide) ?_
    refine gx_ncalli (As := [.int x2, .int (6 : Int32)]) (rest := []) (host := "SweetWraps") C (c_X5_isIndex _ _ hw) (nest_in _ (by decide +kernel)) bw_224 bw_1 bw_225 hyS_X5_isIndex ⟨by decide, by decide⟩ rfl (Nat.le_of_ble_eq_true rfl) dX2_switchApart_12 (fun r4 σ5 hw => ?_)
    refine gx_if_eq (tgt := 23) C dX2_switchApart_15 (by decide) (fun c6 => ?_) (fun c6 => ?_)
    · replace hw := hw.1 c6
      exact gx_vret C dX2_switchApart_23 hw
    · replace hw := hw.2 c6
      refine gx_iload_n C dX2_switchApart_18 1 rfl ?_
      refine gx_iload_n C dX2_switchApart_19 2 rfl ?_
      refine gx_icmp_ne (tgt := 24) C dX2_switchApart_20 (by decide) (fun c7 => ?_) (fun c7 => ?_)
      · replace hw := hw.1 c7
        refine gx_aload_n C dX2_switchApart_24 0 rfl ?_
        refine gx_get C (ok0 hm) rfl rfl inX2 (ref := "SweetWraps$Machine") 3 (by decide) bw_93 rfl rfl dX2_switchApart_25 ?_
        refine gx_iload_n C dX2_switchApart_28 1 rfl ?_
        refine gx_dup2 C dX2_switchApart_29 rfl rfl ?_
        refine gx_iald C (ok4 hm) rfl hw.1 _ rfl dX2_switchApart_30 ?_
        replace hw := hw.2
        refine gx_iconst (v := (1 : Int32)) C dX2_switchApart_31 (by decide) ?_
        refine gx_iload_n C dX2_switchApart_32 2 rfl ?_
        refine gx_ishl C dX2_switchApart_33 ?_
        refine gx_ixor C dX2_switchApart_34 ?_
        refine gx_iast C (ok4 hm) (fun _ => rfl) hw.1 _ rfl rfl dX2_switchApart_35 ?_
        replace hw := hw.2
        obtain ⟨σ8, e_σ8⟩ : ∃ z : Sg, z = up σ5 m 4 0 x1.toNatClampNeg ((σ5 m 4 0 x1.toNatClampNeg) ^^^ ((1 : Int32) <<< (x2 &&& 31))) := ⟨_, rfl⟩
        replace hw := hw σ8 e_σ8
        refine gx_st e_σ8 ?_
        refine gx_aload_n C dX2_switchApart_36 0 rfl ?_
        refine gx_get C (ok0 hm) rfl rfl inX2 (ref := "SweetWraps$Machine") 3 (by decide) bw_93 rfl rfl dX2_switchApart_37 ?_
        refine gx_iload_n C dX2_switchApart_40 2 rfl ?_
        refine gx_dup2 C dX2_switchApart_41 rfl rfl ?_
        refine gx_iald C (ok4 hm) rfl hw.1 _ rfl dX2_switchApart_42 ?_
        replace hw := hw.2
        refine gx_iconst (v := (1 : Int32)) C dX2_switchApart_43 (by decide) ?_
        refine gx_iload_n C dX2_switchApart_44 1 rfl ?_
        refine gx_ishl C dX2_switchApart_45 ?_
        refine gx_ixor C dX2_switchApart_46 ?_
        refine gx_iast C (ok4 hm) (fun _ => rfl) hw.1 _ rfl rfl dX2_switchApart_47 ?_
        replace hw := hw.2
        obtain ⟨σ9, e_σ9⟩ : ∃ z : Sg, z = up σ8 m 4 0 x2.toNatClampNeg ((σ8 m 4 0 x2.toNatClampNeg) ^^^ ((1 : Int32) <<< (x1 &&& 31))) := ⟨_, rfl⟩
        replace hw := hw σ9 e_σ9
        refine gx_st e_σ9 ?_
        exact gx_vret C dX2_switchApart_48 hw
      · replace hw := hw.2 c7
        exact gx_vret C dX2_switchApart_23 hw
theorem hy_X2_switchApart : yX2_switchApart.cls = "SweetWraps$Machine" ∧ yX2_switchApart.cls ≠ "java/lang/invoke/MethodHandle" ∧ yX2_switchApart.cls ≠ "java/lang/invoke/VarHandle" ∧ (parseMethodDescriptor yX2_switchApart.desc).map (fun d => d.parameters.length) = some 2 := by decide +kernel

theorem dX2_changeApart_0 : decode cX2_changeApart 0 = .ok (.iload_n 1, 1) := by decide +kernel
theorem dX2_changeApart_1 : decode cX2_changeApart 1 = .ok (.bipush 6, 2) := by decide +kernel
theorem dX2_changeApart_3 : decode cX2_changeApart 3 = .ok (.invokestatic 56, 3) := by decide +kernel
theorem dX2_changeApart_6 : decode cX2_changeApart 6 = .ok (.ifCond .eq 12, 3) := by decide +kernel
theorem dX2_changeApart_9 : decode cX2_changeApart 9 = .ok (.iload_n 2, 1) := by decide +kernel
theorem dX2_changeApart_10 : decode cX2_changeApart 10 = .ok (.bipush 6, 2) := by decide +kernel
theorem dX2_changeApart_12 : decode cX2_changeApart 12 = .ok (.invokestatic 56, 3) := by decide +kernel
theorem dX2_changeApart_15 : decode cX2_changeApart 15 = .ok (.ifCond .ne 5, 3) := by decide +kernel
theorem dX2_changeApart_18 : decode cX2_changeApart 18 = .ok (.iconst (-1), 1) := by decide +kernel
theorem dX2_changeApart_19 : decode cX2_changeApart 19 = .ok (.ireturn, 1) := by decide +kernel
theorem dX2_changeApart_20 : decode cX2_changeApart 20 = .ok (.iload_n 1, 1) := by decide +kernel
theorem dX2_changeApart_21 : decode cX2_changeApart 21 = .ok (.iload_n 2, 1) := by decide +kernel
theorem dX2_changeApart_22 : decode cX2_changeApart 22 = .ok (.if_icmp .ne 6, 3) := by decide +kernel
theorem dX2_changeApart_25 : decode cX2_changeApart 25 = .ok (.bipush (-2), 2) := by decide +kernel
theorem dX2_changeApart_27 : decode cX2_changeApart 27 = .ok (.ireturn, 1) := by decide +kernel
theorem dX2_changeApart_28 : decode cX2_changeApart 28 = .ok (.aload_n 0, 1) := by decide +kernel
theorem dX2_changeApart_29 : decode cX2_changeApart 29 = .ok (.getfield 27, 3) := by decide +kernel
theorem dX2_changeApart_32 : decode cX2_changeApart 32 = .ok (.iload_n 1, 1) := by decide +kernel
theorem dX2_changeApart_33 : decode cX2_changeApart 33 = .ok (.iaload, 1) := by decide +kernel
theorem dX2_changeApart_34 : decode cX2_changeApart 34 = .ok (.iconst 1, 1) := by decide +kernel
theorem dX2_changeApart_35 : decode cX2_changeApart 35 = .ok (.iload_n 2, 1) := by decide +kernel
theorem dX2_changeApart_36 : decode cX2_changeApart 36 = .ok (.ishl, 1) := by decide +kernel
theorem dX2_changeApart_37 : decode cX2_changeApart 37 = .ok (.iand, 1) := by decide +kernel
theorem dX2_changeApart_38 : decode cX2_changeApart 38 = .ok (.ifCond .eq 7, 3) := by decide +kernel
theorem dX2_changeApart_41 : decode cX2_changeApart 41 = .ok (.iconst 1, 1) := by decide +kernel
theorem dX2_changeApart_42 : decode cX2_changeApart 42 = .ok (.goto 4, 3) := by decide +kernel
theorem dX2_changeApart_45 : decode cX2_changeApart 45 = .ok (.iconst 0, 1) := by decide +kernel
theorem dX2_changeApart_46 : decode cX2_changeApart 46 = .ok (.istore_n 3, 1) := by decide +kernel
theorem dX2_changeApart_47 : decode cX2_changeApart 47 = .ok (.iload_n 3, 1) := by decide +kernel
theorem dX2_changeApart_48 : decode cX2_changeApart 48 = .ok (.ifCond .ne 15, 3) := by decide +kernel
theorem dX2_changeApart_51 : decode cX2_changeApart 51 = .ok (.aload_n 0, 1) := by decide +kernel
theorem dX2_changeApart_52 : decode cX2_changeApart 52 = .ok (.iload_n 1, 1) := by decide +kernel
theorem dX2_changeApart_53 : decode cX2_changeApart 53 = .ok (.iload_n 2, 1) := by decide +kernel
theorem dX2_changeApart_54 : decode cX2_changeApart 54 = .ok (.invokevirtual 88, 3) := by decide +kernel
theorem dX2_changeApart_57 : decode cX2_changeApart 57 = .ok (.ifCond .eq 6, 3) := by decide +kernel
theorem dX2_changeApart_60 : decode cX2_changeApart 60 = .ok (.bipush (-5), 2) := by decide +kernel
theorem dX2_changeApart_62 : decode cX2_changeApart 62 = .ok (.ireturn, 1) := by decide +kernel
theorem dX2_changeApart_63 : decode cX2_changeApart 63 = .ok (.aload_n 0, 1) := by decide +kernel
theorem dX2_changeApart_64 : decode cX2_changeApart 64 = .ok (.iload_n 1, 1) := by decide +kernel
theorem dX2_changeApart_65 : decode cX2_changeApart 65 = .ok (.iload_n 2, 1) := by decide +kernel
theorem dX2_changeApart_66 : decode cX2_changeApart 66 = .ok (.invokevirtual 91, 3) := by decide +kernel
theorem dX2_changeApart_69 : decode cX2_changeApart 69 = .ok (.iload_n 3, 1) := by decide +kernel
theorem dX2_changeApart_70 : decode cX2_changeApart 70 = .ok (.ifCond .eq 7, 3) := by decide +kernel
theorem dX2_changeApart_73 : decode cX2_changeApart 73 = .ok (.iconst 0, 1) := by decide +kernel
theorem dX2_changeApart_74 : decode cX2_changeApart 74 = .ok (.goto 4, 3) := by decide +kernel
theorem dX2_changeApart_77 : decode cX2_changeApart 77 = .ok (.iconst 1, 1) := by decide +kernel
theorem dX2_changeApart_78 : decode cX2_changeApart 78 = .ok (.ireturn, 1) := by decide +kernel
def wp_X2_changeApart_b63 (m : Nat) (x1 : Int32) (x2 : Int32) (Q : Int32 → Sg → Prop) (v3 : Int32) (σ : Sg) : Prop := wp_X2_switchApart m x1 x2 σ (fun σ13 => ((v3 = 0 → Q (1 : Int32) σ13) ∧ (¬ v3 = 0 → Q (0 : Int32) σ13)))
set_option maxRecDepth 100000 in
set_option maxHeartbeats 4000000 in
theorem g_X2_changeApart_b63 {X : Tx} {Q : Int32 → Sg → Prop} (C : Cx X cX2_changeApart "SweetWraps$Machine" (some .int) 4 87 4 (QI (tE X) Q)) {m : Nat} {x1 : Int32} {x2 : Int32} (hm : m < 11) {v3 : Int32} {σ : Sg} (hw : wp_X2_changeApart_b63 m x1 x2 Q v3 σ) : G X σ [(0, .ref (ad (tE X) m 0 0)), (1, .int x1), (2, .int x2), (3, .int v3)] [] 63 := by
  unfold wp_X2_changeApart_b63 at hw
  refine gx_aload_n C dX2_changeApart_63 0 rfl ?_
  refine gx_iload_n C dX2_changeApart_64 1 rfl ?_
  refine gx_iload_n C dX2_changeApart_65 2 rfl ?_
  refine gx_vcallv (As := [.int x1, .int x2]) (rest := []) C (c_X2_switchApart _ _ hm hw) (ok0 hm) rfl rfl bw_355 bw_356 bw_357 bw_2 bw_358 hy_X2_switchApart ⟨by decide, by decide⟩ rfl (Nat.le_of_ble_eq_true rfl) dX2_changeApart_66 (fun σ13 hw => ?_)
  refine gx_iload_n C dX2_changeApart_69 3 rfl ?_
  refine gx_if_eq (tgt := 77) C dX2_changeApart_70 (by decide) (fun c14 => ?_) (fun c14 => ?_)
  · replace hw := hw.1 c14
    refine gx_iconst (v := (1 : Int32)) C dX2_changeApart_77 (by decide) ?_
    exact gx_iret C rfl rfl dX2_changeApart_78 hw
  · replace hw := hw.2 c14
    refine gx_iconst (v := (0 : Int32)) C dX2_changeApart_73 (by decide) ?_
    refine gx_goto (tgt := 78) C dX2_changeApart_74 (by decide) ?_
    exact gx_iret C rfl rfl dX2_changeApart_78 hw
def wp_X2_changeApart_b46 (m : Nat) (x1 : Int32) (x2 : Int32) (Q : Int32 → Sg → Prop) (s0 : Int32) (σ : Sg) : Prop := ((¬ s0 = 0 → wp_X2_changeApart_b63 m x1 x2 Q s0 σ) ∧ (s0 = 0 → wp_X2_isOpenTinWithBoth m x1 x2 σ (fun r10 σ11 => ((r10 = 0 → wp_X2_changeApart_b63 m x1 x2 Q s0 σ11) ∧ (¬ r10 = 0 → Q (-5 : Int32) σ11)))))
set_option maxRecDepth 100000 in
set_option maxHeartbeats 4000000 in
theorem g_X2_changeApart_b46 {X : Tx} {Q : Int32 → Sg → Prop} (C : Cx X cX2_changeApart "SweetWraps$Machine" (some .int) 4 87 4 (QI (tE X) Q)) {m : Nat} {x1 : Int32} {x2 : Int32} (hm : m < 11) {s0 : Int32} {σ : Sg} (hw : wp_X2_changeApart_b46 m x1 x2 Q s0 σ) : G X σ [(0, .ref (ad (tE X) m 0 0)), (1, .int x1), (2, .int x2)] [.int s0] 46 := by
  unfold wp_X2_changeApart_b46 at hw
  refine gx_istore_n (lv' := [(3, .int s0), (0, .ref (ad (tE X) m 0 0)), (1, .int x1), (2, .int x2)]) C dX2_changeApart_46 (by decide) rfl ?_
  refine gx_iload_n C dX2_changeApart_47 0 rfl ?_
  refine gx_if_ne (tgt := 63) C dX2_changeApart_48 (by decide) (fun c9 => ?_) (fun c9 => ?_)
  · replace hw := hw.1 c9
    refine gx_sub (lv' := [(0, .ref (ad (tE X) m 0 0)), (1, .int x1), (2, .int x2), (3, .int s0)]) [1, 2, 3, 0] rfl ?_
    exact g_X2_changeApart_b63 C hm hw
  · replace hw := hw.2 c9
    refine gx_aload_n C dX2_changeApart_51 1 rfl ?_
    refine gx_iload_n C dX2_changeApart_52 2 rfl ?_
    refine gx_iload_n C dX2_changeApart_53 3 rfl ?_
    refine gx_vcalli (As := [.int x1, .int x2]) (rest := []) C (c_X2_isOpenTinWithBoth _ _ hm hw) (ok0 hm) rfl rfl bw_347 bw_349 bs_11 bw_2 bw_350 hy_X2_isOpenTinWithBoth ⟨by decide, by decide⟩ rfl (Nat.le_of_ble_eq_true rfl) dX2_changeApart_54 (fun r10 σ11 hw => ?_)
    refine gx_if_eq (tgt := 63) C dX2_changeApart_57 (by decide) (fun c12 => ?_) (fun c12 => ?_)
    · replace hw := hw.1 c12
      refine gx_sub (lv' := [(0, .ref (ad (tE X) m 0 0)), (1, .int x1), (2, .int x2), (3, .int s0)]) [1, 2, 3, 0] rfl ?_
      exact g_X2_changeApart_b63 C hm hw
    · replace hw := hw.2 c12
      refine gx_bipush (v := (-5 : Int32)) C dX2_changeApart_60 (by decide) ?_
      exact gx_iret C rfl rfl dX2_changeApart_62 hw
def wp_X2_changeApart (m : Nat) (x1 : Int32) (x2 : Int32) (σ : Sg) (Q : Int32 → Sg → Prop) : Prop := wp_X5_isIndex x1 (6 : Int32) σ (fun r1 σ2 => ((r1 = 0 → Q (-1 : Int32) σ2) ∧ (¬ r1 = 0 → wp_X5_isIndex x2 (6 : Int32) σ2 (fun r4 σ5 => ((¬ r4 = 0 → ((¬ x1 = x2 → (vp_in x1 6 ∧ ((((σ5 m 4 0 x1.toNatClampNeg) &&& ((1 : Int32) <<< (x2 &&& 31))) = 0 → wp_X2_changeApart_b46 m x1 x2 Q (0 : Int32) σ5) ∧ (¬ ((σ5 m 4 0 x1.toNatClampNeg) &&& ((1 : Int32) <<< (x2 &&& 31))) = 0 → wp_X2_changeApart_b46 m x1 x2 Q (1 : Int32) σ5)))) ∧ (x1 = x2 → Q (-2 : Int32) σ5))) ∧ (r4 = 0 → Q (-1 : Int32) σ5))))))
set_option maxRecDepth 100000 in
set_option maxHeartbeats 4000000 in
theorem c_X2_changeApart (l : Launch) (E : Ev) {m : Nat} {x1 : Int32} {x2 : Int32} (hm : m < 11) {σ : Sg} {Q : Int32 → Sg → Prop} (hw : wp_X2_changeApart m x1 x2 σ Q) : CT l E yX2_changeApart cX2_changeApart 4 (some .int) 4 87 [.ref (ad E m 0 0), .int x1, .int x2] σ (QI E Q) := by
  refine CT_of (by decide) (Nat.le_of_ble_eq_true rfl) (fun X h1 h2 C => ?_)
  subst h1; subst h2
  have C : Cx X cX2_changeApart "SweetWraps$Machine" (some .int) 4 87 4 (QI (tE X) Q) := C
  show G X σ [(0, .ref (ad (tE X) m 0 0)), (1, .int x1), (2, .int x2)] [] 0
  unfold wp_X2_changeApart at hw
  refine gx_iload_n C dX2_changeApart_0 1 rfl ?_
  refine gx_bipush (v := (6 : Int32)) C dX2_changeApart_1 (by decide) ?_
  refine gx_ncalli (As := [.int x1, .int (6 : Int32)]) (rest := []) (host := "SweetWraps") C (c_X5_isIndex _ _ hw) (nest_in _ (by decide +kernel)) bw_224 bw_1 bw_225 hyS_X5_isIndex ⟨by decide, by decide⟩ rfl (Nat.le_of_ble_eq_true rfl) dX2_changeApart_3 (fun r1 σ2 hw => ?_)
  refine gx_if_eq (tgt := 18) C dX2_changeApart_6 (by decide) (fun c3 => ?_) (fun c3 => ?_)
  · replace hw := hw.1 c3
    refine gx_iconst (v := (-1 : Int32)) C dX2_changeApart_18 (by decide) ?_
    exact gx_iret C rfl rfl dX2_changeApart_19 hw
  · replace hw := hw.2 c3
    refine gx_iload_n C dX2_changeApart_9 2 rfl ?_
    refine gx_bipush (v := (6 : Int32)) C dX2_changeApart_10 (by decide) ?_
    refine gx_ncalli (As := [.int x2, .int (6 : Int32)]) (rest := []) (host := "SweetWraps") C (c_X5_isIndex _ _ hw) (nest_in _ (by decide +kernel)) bw_224 bw_1 bw_225 hyS_X5_isIndex ⟨by decide, by decide⟩ rfl (Nat.le_of_ble_eq_true rfl) dX2_changeApart_12 (fun r4 σ5 hw => ?_)
    refine gx_if_ne (tgt := 20) C dX2_changeApart_15 (by decide) (fun c6 => ?_) (fun c6 => ?_)
    · replace hw := hw.1 c6
      refine gx_iload_n C dX2_changeApart_20 1 rfl ?_
      refine gx_iload_n C dX2_changeApart_21 2 rfl ?_
      refine gx_icmp_ne (tgt := 28) C dX2_changeApart_22 (by decide) (fun c7 => ?_) (fun c7 => ?_)
      · replace hw := hw.1 c7
        refine gx_aload_n C dX2_changeApart_28 0 rfl ?_
        refine gx_get C (ok0 hm) rfl rfl inX2 (ref := "SweetWraps$Machine") 3 (by decide) bw_93 rfl rfl dX2_changeApart_29 ?_
        refine gx_iload_n C dX2_changeApart_32 1 rfl ?_
        refine gx_iald C (ok4 hm) rfl hw.1 _ rfl dX2_changeApart_33 ?_
        replace hw := hw.2
        refine gx_iconst (v := (1 : Int32)) C dX2_changeApart_34 (by decide) ?_
        refine gx_iload_n C dX2_changeApart_35 2 rfl ?_
        refine gx_ishl C dX2_changeApart_36 ?_
        refine gx_iand C dX2_changeApart_37 ?_
        refine gx_if_eq (tgt := 45) C dX2_changeApart_38 (by decide) (fun c8 => ?_) (fun c8 => ?_)
        · replace hw := hw.1 c8
          refine gx_iconst (v := (0 : Int32)) C dX2_changeApart_45 (by decide) ?_
          exact g_X2_changeApart_b46 C hm hw
        · replace hw := hw.2 c8
          refine gx_iconst (v := (1 : Int32)) C dX2_changeApart_41 (by decide) ?_
          refine gx_goto (tgt := 46) C dX2_changeApart_42 (by decide) ?_
          exact g_X2_changeApart_b46 C hm hw
      · replace hw := hw.2 c7
        refine gx_bipush (v := (-2 : Int32)) C dX2_changeApart_25 (by decide) ?_
        exact gx_iret C rfl rfl dX2_changeApart_27 hw
    · replace hw := hw.2 c6
      refine gx_iconst (v := (-1 : Int32)) C dX2_changeApart_18 (by decide) ?_
      exact gx_iret C rfl rfl dX2_changeApart_19 hw
theorem hy_X2_changeApart : yX2_changeApart.cls = "SweetWraps$Machine" ∧ yX2_changeApart.cls ≠ "java/lang/invoke/MethodHandle" ∧ yX2_changeApart.cls ≠ "java/lang/invoke/VarHandle" ∧ (parseMethodDescriptor yX2_changeApart.desc).map (fun d => d.parameters.length) = some 2 := by decide +kernel

theorem dX2_foilOfPull_0 : decode cX2_foilOfPull 0 = .ok (.iconst 2, 1) := by decide +kernel
theorem dX2_foilOfPull_1 : decode cX2_foilOfPull 1 = .ok (.aload_n 0, 1) := by decide +kernel
theorem dX2_foilOfPull_2 : decode cX2_foilOfPull 2 = .ok (.getfield 9, 3) := by decide +kernel
theorem dX2_foilOfPull_5 : decode cX2_foilOfPull 5 = .ok (.iconst 3, 1) := by decide +kernel
theorem dX2_foilOfPull_6 : decode cX2_foilOfPull 6 = .ok (.iaload, 1) := by decide +kernel
theorem dX2_foilOfPull_7 : decode cX2_foilOfPull 7 = .ok (.iadd, 1) := by decide +kernel
theorem dX2_foilOfPull_8 : decode cX2_foilOfPull 8 = .ok (.ireturn, 1) := by decide +kernel
def wp_X2_foilOfPull (m : Nat) (σ : Sg) (Q : Int32 → Sg → Prop) : Prop := Q ((2 : Int32) + (σ m 1 0 3)) σ
set_option maxRecDepth 100000 in
set_option maxHeartbeats 4000000 in
theorem c_X2_foilOfPull (l : Launch) (E : Ev) {m : Nat} (hm : m < 11) {σ : Sg} {Q : Int32 → Sg → Prop} (hw : wp_X2_foilOfPull m σ Q) : CT l E yX2_foilOfPull cX2_foilOfPull 1 (some .int) 0 0 [.ref (ad E m 0 0)] σ (QI E Q) := by
  refine CT_of (by decide) (Nat.le_of_ble_eq_true rfl) (fun X h1 h2 C => ?_)
  subst h1; subst h2
  have C : Cx X cX2_foilOfPull "SweetWraps$Machine" (some .int) 0 0 1 (QI (tE X) Q) := C
  show G X σ [(0, .ref (ad (tE X) m 0 0))] [] 0
  unfold wp_X2_foilOfPull at hw
  refine gx_iconst (v := (2 : Int32)) C dX2_foilOfPull_0 (by decide) ?_
  refine gx_aload_n C dX2_foilOfPull_1 0 rfl ?_
  refine gx_get C (ok0 hm) rfl rfl inX2 (ref := "SweetWraps$Machine") 0 (by decide) bw_88 rfl rfl dX2_foilOfPull_2 ?_
  refine gx_iconst (v := (3 : Int32)) C dX2_foilOfPull_5 (by decide) ?_
  refine gx_iald C (ok1 hm) rfl (n := 4) (x := (3 : Int32)) (by unfold vp_in; decide) 3 (by decide) dX2_foilOfPull_6 ?_
  refine gx_iadd C dX2_foilOfPull_7 ?_
  exact gx_iret C rfl rfl dX2_foilOfPull_8 hw
theorem hy_X2_foilOfPull : yX2_foilOfPull.cls = "SweetWraps$Machine" ∧ yX2_foilOfPull.cls ≠ "java/lang/invoke/MethodHandle" ∧ yX2_foilOfPull.cls ≠ "java/lang/invoke/VarHandle" ∧ (parseMethodDescriptor yX2_foilOfPull.desc).map (fun d => d.parameters.length) = some 0 := by decide +kernel

theorem dX2_pullsUntilTear_0 : decode cX2_pullsUntilTear 0 = .ok (.aload_n 0, 1) := by decide +kernel
theorem dX2_pullsUntilTear_1 : decode cX2_pullsUntilTear 1 = .ok (.getfield 9, 3) := by decide +kernel
theorem dX2_pullsUntilTear_4 : decode cX2_pullsUntilTear 4 = .ok (.iconst 0, 1) := by decide +kernel
theorem dX2_pullsUntilTear_5 : decode cX2_pullsUntilTear 5 = .ok (.iaload, 1) := by decide +kernel
theorem dX2_pullsUntilTear_6 : decode cX2_pullsUntilTear 6 = .ok (.istore_n 1, 1) := by decide +kernel
theorem dX2_pullsUntilTear_7 : decode cX2_pullsUntilTear 7 = .ok (.iload_n 1, 1) := by decide +kernel
theorem dX2_pullsUntilTear_8 : decode cX2_pullsUntilTear 8 = .ok (.iconst 1, 1) := by decide +kernel
theorem dX2_pullsUntilTear_9 : decode cX2_pullsUntilTear 9 = .ok (.if_icmp .ge 7, 3) := by decide +kernel
theorem dX2_pullsUntilTear_12 : decode cX2_pullsUntilTear 12 = .ok (.iconst 2, 1) := by decide +kernel
theorem dX2_pullsUntilTear_13 : decode cX2_pullsUntilTear 13 = .ok (.goto 15, 3) := by decide +kernel
theorem dX2_pullsUntilTear_16 : decode cX2_pullsUntilTear 16 = .ok (.iconst 2, 1) := by decide +kernel
theorem dX2_pullsUntilTear_17 : decode cX2_pullsUntilTear 17 = .ok (.aload_n 0, 1) := by decide +kernel
theorem dX2_pullsUntilTear_18 : decode cX2_pullsUntilTear 18 = .ok (.getfield 9, 3) := by decide +kernel
theorem dX2_pullsUntilTear_21 : decode cX2_pullsUntilTear 21 = .ok (.iconst 1, 1) := by decide +kernel
theorem dX2_pullsUntilTear_22 : decode cX2_pullsUntilTear 22 = .ok (.iaload, 1) := by decide +kernel
theorem dX2_pullsUntilTear_23 : decode cX2_pullsUntilTear 23 = .ok (.iload_n 1, 1) := by decide +kernel
theorem dX2_pullsUntilTear_24 : decode cX2_pullsUntilTear 24 = .ok (.idiv, 1) := by decide +kernel
theorem dX2_pullsUntilTear_25 : decode cX2_pullsUntilTear 25 = .ok (.invokestatic 133, 3) := by decide +kernel
theorem dX2_pullsUntilTear_28 : decode cX2_pullsUntilTear 28 = .ok (.ireturn, 1) := by decide +kernel
def wp_X2_pullsUntilTear (m : Nat) (σ : Sg) (Q : Int32 → Sg → Prop) : Prop := ∀ z1 : Int32, z1 = (σ m 1 0 0) → (((1 : Int32) ≤ z1 → (¬ z1 = 0 ∧ ∀ z3 : Int32, z3 = (if (2 : Int32) < ((σ m 1 0 1) / z1) then ((σ m 1 0 1) / z1) else (2 : Int32)) → Q z3 σ)) ∧ (¬ (1 : Int32) ≤ z1 → Q (2 : Int32) σ))
set_option maxRecDepth 100000 in
set_option maxHeartbeats 4000000 in
theorem c_X2_pullsUntilTear (l : Launch) (E : Ev) {m : Nat} (hm : m < 11) {σ : Sg} {Q : Int32 → Sg → Prop} (hw : wp_X2_pullsUntilTear m σ Q) : CT l E yX2_pullsUntilTear cX2_pullsUntilTear 2 (some .int) 1 40 [.ref (ad E m 0 0)] σ (QI E Q) := by
  refine CT_of (by decide) (Nat.le_of_ble_eq_true rfl) (fun X h1 h2 C => ?_)
  subst h1; subst h2
  have C : Cx X cX2_pullsUntilTear "SweetWraps$Machine" (some .int) 1 40 2 (QI (tE X) Q) := C
  show G X σ [(0, .ref (ad (tE X) m 0 0))] [] 0
  unfold wp_X2_pullsUntilTear at hw
  refine gx_aload_n C dX2_pullsUntilTear_0 0 rfl ?_
  refine gx_get C (ok0 hm) rfl rfl inX2 (ref := "SweetWraps$Machine") 0 (by decide) bw_88 rfl rfl dX2_pullsUntilTear_1 ?_
  refine gx_iconst (v := (0 : Int32)) C dX2_pullsUntilTear_4 (by decide) ?_
  refine gx_iald C (ok1 hm) rfl (n := 4) (x := (0 : Int32)) (by unfold vp_in; decide) 0 (by decide) dX2_pullsUntilTear_5 ?_
  obtain ⟨z1, e_z1⟩ : ∃ z : Int32, z = (σ m 1 0 0) := ⟨_, rfl⟩
  replace hw := hw z1 e_z1
  refine gx_top e_z1 ?_
  refine gx_istore_n (lv' := [(1, .int z1), (0, .ref (ad (tE X) m 0 0))]) C dX2_pullsUntilTear_6 (by decide) rfl ?_
  refine gx_iload_n C dX2_pullsUntilTear_7 0 rfl ?_
  refine gx_iconst (v := (1 : Int32)) C dX2_pullsUntilTear_8 (by decide) ?_
  refine gx_icmp_ge (tgt := 16) C dX2_pullsUntilTear_9 (by decide) (fun c2 => ?_) (fun c2 => ?_)
  · replace hw := hw.1 c2
    refine gx_iconst (v := (2 : Int32)) C dX2_pullsUntilTear_16 (by decide) ?_
    refine gx_aload_n C dX2_pullsUntilTear_17 1 rfl ?_
    refine gx_get C (ok0 hm) rfl rfl inX2 (ref := "SweetWraps$Machine") 0 (by decide) bw_88 rfl rfl dX2_pullsUntilTear_18 ?_
    refine gx_iconst (v := (1 : Int32)) C dX2_pullsUntilTear_21 (by decide) ?_
    refine gx_iald C (ok1 hm) rfl (n := 4) (x := (1 : Int32)) (by unfold vp_in; decide) 1 (by decide) dX2_pullsUntilTear_22 ?_
    refine gx_iload_n C dX2_pullsUntilTear_23 0 rfl ?_
    refine gx_idiv C dX2_pullsUntilTear_24 hw.1 ?_
    replace hw := hw.2
    refine gx_mmax C dX2_pullsUntilTear_25 bw_391 bw_392 bw_7 bw_393 ⟨by decide, Nat.le_of_ble_eq_true rfl⟩ ?_
    obtain ⟨z3, e_z3⟩ : ∃ z : Int32, z = (if (2 : Int32) < ((σ m 1 0 1) / z1) then ((σ m 1 0 1) / z1) else (2 : Int32)) := ⟨_, rfl⟩
    replace hw := hw z3 e_z3
    refine gx_top e_z3 ?_
    exact gx_iret C rfl rfl dX2_pullsUntilTear_28 hw
  · replace hw := hw.2 c2
    refine gx_iconst (v := (2 : Int32)) C dX2_pullsUntilTear_12 (by decide) ?_
    refine gx_goto (tgt := 28) C dX2_pullsUntilTear_13 (by decide) ?_
    exact gx_iret C rfl rfl dX2_pullsUntilTear_28 hw
theorem hy_X2_pullsUntilTear : yX2_pullsUntilTear.cls = "SweetWraps$Machine" ∧ yX2_pullsUntilTear.cls ≠ "java/lang/invoke/MethodHandle" ∧ yX2_pullsUntilTear.cls ≠ "java/lang/invoke/VarHandle" ∧ (parseMethodDescriptor yX2_pullsUntilTear.desc).map (fun d => d.parameters.length) = some 0 := by decide +kernel

theorem dX4_hasRoomFor_0 : decode cX4_hasRoomFor 0 = .ok (.aload_n 0, 1) := by decide +kernel
theorem dX4_hasRoomFor_1 : decode cX4_hasRoomFor 1 = .ok (.getfield 26, 3) := by decide +kernel
theorem dX4_hasRoomFor_4 : decode cX4_hasRoomFor 4 = .ok (.ifCond .ne 24, 3) := by decide +kernel
theorem dX4_hasRoomFor_7 : decode cX4_hasRoomFor 7 = .ok (.aload_n 0, 1) := by decide +kernel
theorem dX4_hasRoomFor_8 : decode cX4_hasRoomFor 8 = .ok (.getfield 23, 3) := by decide +kernel
theorem dX4_hasRoomFor_11 : decode cX4_hasRoomFor 11 = .ok (.iload_n 1, 1) := by decide +kernel
theorem dX4_hasRoomFor_12 : decode cX4_hasRoomFor 12 = .ok (.if_icmp .ge 16, 3) := by decide +kernel
theorem dX4_hasRoomFor_15 : decode cX4_hasRoomFor 15 = .ok (.aload_n 0, 1) := by decide +kernel
theorem dX4_hasRoomFor_16 : decode cX4_hasRoomFor 16 = .ok (.getfield 19, 3) := by decide +kernel
theorem dX4_hasRoomFor_19 : decode cX4_hasRoomFor 19 = .ok (.iload_n 2, 1) := by decide +kernel
theorem dX4_hasRoomFor_20 : decode cX4_hasRoomFor 20 = .ok (.iand, 1) := by decide +kernel
theorem dX4_hasRoomFor_21 : decode cX4_hasRoomFor 21 = .ok (.ifCond .ne 7, 3) := by decide +kernel
theorem dX4_hasRoomFor_24 : decode cX4_hasRoomFor 24 = .ok (.iconst 1, 1) := by decide +kernel
theorem dX4_hasRoomFor_25 : decode cX4_hasRoomFor 25 = .ok (.goto 4, 3) := by decide +kernel
theorem dX4_hasRoomFor_28 : decode cX4_hasRoomFor 28 = .ok (.iconst 0, 1) := by decide +kernel
theorem dX4_hasRoomFor_29 : decode cX4_hasRoomFor 29 = .ok (.ireturn, 1) := by decide +kernel
def wp_X4_hasRoomFor (m : Nat) (i : Nat) (x1 : Int32) (x2 : Int32) (σ : Sg) (Q : Int32 → Sg → Prop) : Prop := ((¬ (σ m 8 i 3) = 0 → Q (0 : Int32) σ) ∧ ((σ m 8 i 3) = 0 → ((x1 ≤ (σ m 8 i 2) → Q (0 : Int32) σ) ∧ (¬ x1 ≤ (σ m 8 i 2) → ((¬ ((σ m 8 i 1) &&& x2) = 0 → Q (0 : Int32) σ) ∧ (((σ m 8 i 1) &&& x2) = 0 → Q (1 : Int32) σ))))))
set_option maxRecDepth 100000 in
set_option maxHeartbeats 4000000 in
theorem c_X4_hasRoomFor (l : Launch) (E : Ev) {m : Nat} {i : Nat} {x1 : Int32} {x2 : Int32} (hm : m < 11) (hi : i < 16) {σ : Sg} {Q : Int32 → Sg → Prop} (hw : wp_X4_hasRoomFor m i x1 x2 σ Q) : CT l E yX4_hasRoomFor cX4_hasRoomFor 3 (some .boolean) 0 0 [.ref (ad E m 8 i), .int x1, .int x2] σ (QI E Q) := by
  refine CT_of (by decide) (Nat.le_of_ble_eq_true rfl) (fun X h1 h2 C => ?_)
  subst h1; subst h2
  have C : Cx X cX4_hasRoomFor "SweetWraps$Tin" (some .boolean) 0 0 3 (QI (tE X) Q) := C
  show G X σ [(0, .ref (ad (tE X) m 8 i)), (1, .int x1), (2, .int x2)] [] 0
  unfold wp_X4_hasRoomFor at hw
  refine gx_aload_n C dX4_hasRoomFor_0 0 rfl ?_
  refine gx_get C (ok8 hm hi) rfl rfl inX4 (ref := "SweetWraps$Tin") 3 (by decide) bw_77 rfl rfl dX4_hasRoomFor_1 ?_
  refine gx_if_ne (tgt := 28) C dX4_hasRoomFor_4 (by decide) (fun c1 => ?_) (fun c1 => ?_)
  · replace hw := hw.1 c1
    refine gx_iconst (v := (0 : Int32)) C dX4_hasRoomFor_28 (by decide) ?_
    exact gx_iret C rfl rfl dX4_hasRoomFor_29 hw
  · replace hw := hw.2 c1
    refine gx_aload_n C dX4_hasRoomFor_7 0 rfl ?_
    refine gx_get C (ok8 hm hi) rfl rfl inX4 (ref := "SweetWraps$Tin") 2 (by decide) bw_75 rfl rfl dX4_hasRoomFor_8 ?_
    refine gx_iload_n C dX4_hasRoomFor_11 1 rfl ?_
    refine gx_icmp_ge (tgt := 28) C dX4_hasRoomFor_12 (by decide) (fun c2 => ?_) (fun c2 => ?_)
    · replace hw := hw.1 c2
      refine gx_iconst (v := (0 : Int32)) C dX4_hasRoomFor_28 (by decide) ?_
      exact gx_iret C rfl rfl dX4_hasRoomFor_29 hw
    · replace hw := hw.2 c2
      refine gx_aload_n C dX4_hasRoomFor_15 0 rfl ?_
      refine gx_get C (ok8 hm hi) rfl rfl inX4 (ref := "SweetWraps$Tin") 1 (by decide) bw_73 rfl rfl dX4_hasRoomFor_16 ?_
      refine gx_iload_n C dX4_hasRoomFor_19 2 rfl ?_
      refine gx_iand C dX4_hasRoomFor_20 ?_
      refine gx_if_ne (tgt := 28) C dX4_hasRoomFor_21 (by decide) (fun c3 => ?_) (fun c3 => ?_)
      · replace hw := hw.1 c3
        refine gx_iconst (v := (0 : Int32)) C dX4_hasRoomFor_28 (by decide) ?_
        exact gx_iret C rfl rfl dX4_hasRoomFor_29 hw
      · replace hw := hw.2 c3
        refine gx_iconst (v := (1 : Int32)) C dX4_hasRoomFor_24 (by decide) ?_
        refine gx_goto (tgt := 29) C dX4_hasRoomFor_25 (by decide) ?_
        exact gx_iret C rfl rfl dX4_hasRoomFor_29 hw
theorem hy_X4_hasRoomFor : yX4_hasRoomFor.cls = "SweetWraps$Tin" ∧ yX4_hasRoomFor.cls ≠ "java/lang/invoke/MethodHandle" ∧ yX4_hasRoomFor.cls ≠ "java/lang/invoke/VarHandle" ∧ (parseMethodDescriptor yX4_hasRoomFor.desc).map (fun d => d.parameters.length) = some 2 := by decide +kernel

theorem dX2_tinFor_0 : decode cX2_tinFor 0 = .ok (.iload_n 1, 1) := by decide +kernel
theorem dX2_tinFor_1 : decode cX2_tinFor 1 = .ok (.bipush 6, 2) := by decide +kernel
theorem dX2_tinFor_3 : decode cX2_tinFor 3 = .ok (.invokestatic 56, 3) := by decide +kernel
theorem dX2_tinFor_6 : decode cX2_tinFor 6 = .ok (.ifCond .ne 6, 3) := by decide +kernel
theorem dX2_tinFor_9 : decode cX2_tinFor 9 = .ok (.bipush (-6), 2) := by decide +kernel
theorem dX2_tinFor_11 : decode cX2_tinFor 11 = .ok (.ireturn, 1) := by decide +kernel
theorem dX2_tinFor_12 : decode cX2_tinFor 12 = .ok (.iconst 0, 1) := by decide +kernel
theorem dX2_tinFor_13 : decode cX2_tinFor 13 = .ok (.istore_n 2, 1) := by decide +kernel
theorem dX2_tinFor_14 : decode cX2_tinFor 14 = .ok (.iload_n 2, 1) := by decide +kernel
theorem dX2_tinFor_15 : decode cX2_tinFor 15 = .ok (.aload_n 0, 1) := by decide +kernel
theorem dX2_tinFor_16 : decode cX2_tinFor 16 = .ok (.getfield 43, 3) := by decide +kernel
theorem dX2_tinFor_19 : decode cX2_tinFor 19 = .ok (.if_icmp .ge 41, 3) := by decide +kernel
theorem dX2_tinFor_22 : decode cX2_tinFor 22 = .ok (.iload_n 2, 1) := by decide +kernel
theorem dX2_tinFor_23 : decode cX2_tinFor 23 = .ok (.bipush 16, 2) := by decide +kernel
theorem dX2_tinFor_25 : decode cX2_tinFor 25 = .ok (.if_icmp .ge 35, 3) := by decide +kernel
theorem dX2_tinFor_28 : decode cX2_tinFor 28 = .ok (.aload_n 0, 1) := by decide +kernel
theorem dX2_tinFor_29 : decode cX2_tinFor 29 = .ok (.getfield 23, 3) := by decide +kernel
theorem dX2_tinFor_32 : decode cX2_tinFor 32 = .ok (.iload_n 2, 1) := by decide +kernel
theorem dX2_tinFor_33 : decode cX2_tinFor 33 = .ok (.aaload, 1) := by decide +kernel
theorem dX2_tinFor_34 : decode cX2_tinFor 34 = .ok (.aload_n 0, 1) := by decide +kernel
theorem dX2_tinFor_35 : decode cX2_tinFor 35 = .ok (.getfield 9, 3) := by decide +kernel
theorem dX2_tinFor_38 : decode cX2_tinFor 38 = .ok (.iconst 2, 1) := by decide +kernel
theorem dX2_tinFor_39 : decode cX2_tinFor 39 = .ok (.iaload, 1) := by decide +kernel
theorem dX2_tinFor_40 : decode cX2_tinFor 40 = .ok (.aload_n 0, 1) := by decide +kernel
theorem dX2_tinFor_41 : decode cX2_tinFor 41 = .ok (.getfield 27, 3) := by decide +kernel
theorem dX2_tinFor_44 : decode cX2_tinFor 44 = .ok (.iload_n 1, 1) := by decide +kernel
theorem dX2_tinFor_45 : decode cX2_tinFor 45 = .ok (.iaload, 1) := by decide +kernel
theorem dX2_tinFor_46 : decode cX2_tinFor 46 = .ok (.invokevirtual 141, 3) := by decide +kernel
theorem dX2_tinFor_49 : decode cX2_tinFor 49 = .ok (.ifCond .eq 5, 3) := by decide +kernel
theorem dX2_tinFor_52 : decode cX2_tinFor 52 = .ok (.iload_n 2, 1) := by decide +kernel
theorem dX2_tinFor_53 : decode cX2_tinFor 53 = .ok (.ireturn, 1) := by decide +kernel
theorem dX2_tinFor_54 : decode cX2_tinFor 54 = .ok (.iinc 2 1, 3) := by decide +kernel
theorem dX2_tinFor_57 : decode cX2_tinFor 57 = .ok (.goto (-43), 3) := by decide +kernel
theorem dX2_tinFor_60 : decode cX2_tinFor 60 = .ok (.bipush (-6), 2) := by decide +kernel
theorem dX2_tinFor_62 : decode cX2_tinFor 62 = .ok (.ireturn, 1) := by decide +kernel
def st_X2_tinFor_L14 (m : Nat) (x1 : Int32) (Q : Int32 → Sg → Prop) (K14 : Int32 → Sg → Prop) (v2 : Int32) (σ : Sg) : Prop := (((σ m 0 0 4) ≤ v2 → Q (-6 : Int32) σ) ∧ (¬ (σ m 0 0 4) ≤ v2 → (((16 : Int32) ≤ v2 → Q (-6 : Int32) σ) ∧ (¬ (16 : Int32) ≤ v2 → (vp_in v2 16 ∧ ∀ a7 : Nat, a7 = v2.toNatClampNeg → (vp_in x1 6 ∧ wp_X4_hasRoomFor m a7 (σ m 1 0 2) (σ m 4 0 x1.toNatClampNeg) σ (fun r8 σ9 => ((r8 = 0 → ∀ z11 : Int32, z11 = v2 + (1 : Int32) → K14 z11 σ9) ∧ (¬ r8 = 0 → Q v2 σ9)))))))))
def wp_X2_tinFor_L14 (m : Nat) (x1 : Int32) (Q : Int32 → Sg → Prop) (v2 : Int32) (σ : Sg) : Prop := ∃ n : Nat, lpN (fun (K : Int32 × Sg → Prop) (a : Int32 × Sg) => st_X2_tinFor_L14 m x1 Q (fun v2 σ => K (v2, σ)) (a.1) (a.2)) n (v2, σ)
set_option maxRecDepth 100000 in
set_option maxHeartbeats 4000000 in
theorem gs_X2_tinFor_L14 {X : Tx} {Q : Int32 → Sg → Prop} (C : Cx X cX2_tinFor "SweetWraps$Machine" (some .int) 1 22 3 (QI (tE X) Q)) {m : Nat} {x1 : Int32} (hm : m < 11) {K14 : Int32 → Sg → Prop} (hK14 : ∀ (v2 : Int32) (σ : Sg), K14 v2 σ → G X σ [(0, .ref (ad (tE X) m 0 0)), (1, .int x1), (2, .int v2)] [] 14) {v2 : Int32} {σ : Sg} (hw : st_X2_tinFor_L14 m x1 Q K14 v2 σ) : G X σ [(0, .ref (ad (tE X) m 0 0)), (1, .int x1), (2, .int v2)] [] 14 := by
  unfold st_X2_tinFor_L14 at hw
  refine gx_iload_n C dX2_tinFor_14 2 rfl ?_
  refine gx_aload_n C dX2_tinFor_15 0 rfl ?_
  refine gx_get C (ok0 hm) rfl rfl inX2 (ref := "SweetWraps$Machine") 4 (by decide) bw_94 rfl rfl dX2_tinFor_16 ?_
  refine gx_icmp_ge (tgt := 60) C dX2_tinFor_19 (by decide) (fun c4 => ?_) (fun c4 => ?_)
  · replace hw := hw.1 c4
    refine gx_bipush (v := (-6 : Int32)) C dX2_tinFor_60 (by decide) ?_
    exact gx_iret C rfl rfl dX2_tinFor_62 hw
  · replace hw := hw.2 c4
    refine gx_iload_n C dX2_tinFor_22 2 rfl ?_
    refine gx_bipush (v := (16 : Int32)) C dX2_tinFor_23 (by decide) ?_
    refine gx_icmp_ge (tgt := 60) C dX2_tinFor_25 (by decide) (fun c5 => ?_) (fun c5 => ?_)
    · replace hw := hw.1 c5
      refine gx_bipush (v := (-6 : Int32)) C dX2_tinFor_60 (by decide) ?_
      exact gx_iret C rfl rfl dX2_tinFor_62 hw
    · replace hw := hw.2 c5
      refine gx_aload_n C dX2_tinFor_28 0 rfl ?_
      refine gx_get C (ok0 hm) rfl rfl inX2 (ref := "SweetWraps$Machine") 2 (by decide) bw_92 rfl rfl dX2_tinFor_29 ?_
      refine gx_iload_n C dX2_tinFor_32 2 rfl ?_
      have h6 := hw.1
      replace hw := hw.2
      obtain ⟨a7, e_a7⟩ : ∃ z : Nat, z = v2.toNatClampNeg := ⟨_, rfl⟩
      replace hw := hw a7 e_a7
      have ha7 : a7 < 16 := by rw [e_a7]; exact vp_lt h6
      refine gx_aald C (ok3 hm) rfl (t0 := 4) rfl h6 (v := .ref (ad (tE X) m 8 a7)) (by rw [e_a7]; rfl) dX2_tinFor_33 ?_
      refine gx_aload_n C dX2_tinFor_34 0 rfl ?_
      refine gx_get C (ok0 hm) rfl rfl inX2 (ref := "SweetWraps$Machine") 0 (by decide) bw_88 rfl rfl dX2_tinFor_35 ?_
      refine gx_iconst (v := (2 : Int32)) C dX2_tinFor_38 (by decide) ?_
      refine gx_iald C (ok1 hm) rfl (n := 4) (x := (2 : Int32)) (by unfold vp_in; decide) 2 (by decide) dX2_tinFor_39 ?_
      refine gx_aload_n C dX2_tinFor_40 0 rfl ?_
      refine gx_get C (ok0 hm) rfl rfl inX2 (ref := "SweetWraps$Machine") 3 (by decide) bw_93 rfl rfl dX2_tinFor_41 ?_
      refine gx_iload_n C dX2_tinFor_44 1 rfl ?_
      refine gx_iald C (ok4 hm) rfl hw.1 _ rfl dX2_tinFor_45 ?_
      replace hw := hw.2
      refine gx_vcalli (As := [.int (σ m 1 0 2), .int (σ m 4 0 x1.toNatClampNeg)]) (rest := []) C (c_X4_hasRoomFor _ _ hm ha7 hw) (ok8 hm ha7) rfl rfl bw_307 bw_308 bw_309 bw_4 bw_310 hy_X4_hasRoomFor ⟨by decide, by decide⟩ rfl (Nat.le_of_ble_eq_true rfl) dX2_tinFor_46 (fun r8 σ9 hw => ?_)
      refine gx_if_eq (tgt := 54) C dX2_tinFor_49 (by decide) (fun c10 => ?_) (fun c10 => ?_)
      · replace hw := hw.1 c10
        obtain ⟨z11, e_z11⟩ : ∃ z : Int32, z = v2 + (1 : Int32) := ⟨_, rfl⟩
        replace hw := hw z11 e_z11
        refine gx_iinc (v := z11) (lv' := [(2, .int z11), (0, .ref (ad (tE X) m 0 0)), (1, .int x1)]) C dX2_tinFor_54 2 rfl (by rw [e_z11]; rfl) (by decide) rfl ?_
        refine gx_goto (tgt := 14) C dX2_tinFor_57 (by decide) ?_
        refine gx_sub (lv' := [(0, .ref (ad (tE X) m 0 0)), (1, .int x1), (2, .int z11)]) [1, 2, 0] rfl ?_
        exact hK14 _ _ hw
      · replace hw := hw.2 c10
        refine gx_iload_n C dX2_tinFor_52 2 rfl ?_
        exact gx_iret C rfl rfl dX2_tinFor_53 hw
set_option maxRecDepth 100000 in
set_option maxHeartbeats 4000000 in
theorem g_X2_tinFor_L14 {X : Tx} {Q : Int32 → Sg → Prop} (C : Cx X cX2_tinFor "SweetWraps$Machine" (some .int) 1 22 3 (QI (tE X) Q)) {m : Nat} {x1 : Int32} (hm : m < 11) {v2 : Int32} {σ : Sg} (hw : wp_X2_tinFor_L14 m x1 Q v2 σ) : G X σ [(0, .ref (ad (tE X) m 0 0)), (1, .int x1), (2, .int v2)] [] 14 := by
  obtain ⟨n, hw⟩ := hw
  exact lpN_G (P := (fun (a : Int32 × Sg) => G X (a.2) [(0, .ref (ad (tE X) m 0 0)), (1, .int x1), (2, .int (a.1))] [] 14)) (fun K a hK h => gs_X2_tinFor_L14 C hm (fun v2 σ h => hK (v2, σ) h) h) n _ hw
def wp_X2_tinFor (m : Nat) (x1 : Int32) (σ : Sg) (Q : Int32 → Sg → Prop) : Prop := wp_X5_isIndex x1 (6 : Int32) σ (fun r1 σ2 => ((¬ r1 = 0 → wp_X2_tinFor_L14 m x1 Q (0 : Int32) σ2) ∧ (r1 = 0 → Q (-6 : Int32) σ2)))
set_option maxRecDepth 100000 in
set_option maxHeartbeats 4000000 in
theorem c_X2_tinFor (l : Launch) (E : Ev) {m : Nat} {x1 : Int32} (hm : m < 11) {σ : Sg} {Q : Int32 → Sg → Prop} (hw : wp_X2_tinFor m x1 σ Q) : CT l E yX2_tinFor cX2_tinFor 3 (some .int) 1 22 [.ref (ad E m 0 0), .int x1] σ (QI E Q) := by
  refine CT_of (by decide) (Nat.le_of_ble_eq_true rfl) (fun X h1 h2 C => ?_)
  subst h1; subst h2
  have C : Cx X cX2_tinFor "SweetWraps$Machine" (some .int) 1 22 3 (QI (tE X) Q) := C
  show G X σ [(0, .ref (ad (tE X) m 0 0)), (1, .int x1)] [] 0
  unfold wp_X2_tinFor at hw
  refine gx_iload_n C dX2_tinFor_0 1 rfl ?_
  refine gx_bipush (v := (6 : Int32)) C dX2_tinFor_1 (by decide) ?_
  refine gx_ncalli (As := [.int x1, .int (6 : Int32)]) (rest := []) (host := "SweetWraps") C (c_X5_isIndex _ _ hw) (nest_in _ (by decide +kernel)) bw_224 bw_1 bw_225 hyS_X5_isIndex ⟨by decide, by decide⟩ rfl (Nat.le_of_ble_eq_true rfl) dX2_tinFor_3 (fun r1 σ2 hw => ?_)
  refine gx_if_ne (tgt := 12) C dX2_tinFor_6 (by decide) (fun c3 => ?_) (fun c3 => ?_)
  · replace hw := hw.1 c3
    refine gx_iconst (v := (0 : Int32)) C dX2_tinFor_12 (by decide) ?_
    refine gx_istore_n (lv' := [(2, .int (0 : Int32)), (0, .ref (ad (tE X) m 0 0)), (1, .int x1)]) C dX2_tinFor_13 (by decide) rfl ?_
    refine gx_sub (lv' := [(0, .ref (ad (tE X) m 0 0)), (1, .int x1), (2, .int (0 : Int32))]) [1, 2, 0] rfl ?_
    exact g_X2_tinFor_L14 C hm hw
  · replace hw := hw.2 c3
    refine gx_bipush (v := (-6 : Int32)) C dX2_tinFor_9 (by decide) ?_
    exact gx_iret C rfl rfl dX2_tinFor_11 hw
theorem hy_X2_tinFor : yX2_tinFor.cls = "SweetWraps$Machine" ∧ yX2_tinFor.cls ≠ "java/lang/invoke/MethodHandle" ∧ yX2_tinFor.cls ≠ "java/lang/invoke/VarHandle" ∧ (parseMethodDescriptor yX2_tinFor.desc).map (fun d => d.parameters.length) = some 1 := by decide +kernel
