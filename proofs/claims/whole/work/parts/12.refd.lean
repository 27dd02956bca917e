theorem dX6_go_0 : decode cX6_go 0 = .ok (.aload_n 0, 1) := by decide +kernel
theorem dX6_go_1 : decode cX6_go 1 = .ok (.iconst 0, 1) := by decide +kernel
theorem dX6_go_2 : decode cX6_go 2 = .ok (.putfield 168, 3) := by decide +kernel
theorem dX6_go_5 : decode cX6_go 5 = .ok (.aload_n 0, 1) := by decide +kernel
theorem dX6_go_6 : decode cX6_go 6 = .ok (.iconst 0, 1) := by decide +kernel
theorem dX6_go_7 : decode cX6_go 7 = .ok (.putfield 171, 3) := by decide +kernel
theorem dX6_go_10 : decode cX6_go 10 = .ok (.iconst 0, 1) := by decide +kernel
theorem dX6_go_11 : decode cX6_go 11 = .ok (.istore_n 2, 1) := by decide +kernel
theorem dX6_go_12 : decode cX6_go 12 = .ok (.iconst 1, 1) := by decide +kernel
theorem dX6_go_13 : decode cX6_go 13 = .ok (.istore_n 3, 1) := by decide +kernel
theorem dX6_go_14 : decode cX6_go 14 = .ok (.iload_n 3, 1) := by decide +kernel
theorem dX6_go_15 : decode cX6_go 15 = .ok (.ifCond .eq 70, 3) := by decide +kernel
theorem dX6_go_18 : decode cX6_go 18 = .ok (.aload_n 0, 1) := by decide +kernel
theorem dX6_go_19 : decode cX6_go 19 = .ok (.iload_n 1, 1) := by decide +kernel
theorem dX6_go_20 : decode cX6_go 20 = .ok (.invokevirtual 184, 3) := by decide +kernel
theorem dX6_go_23 : decode cX6_go 23 = .ok (.ifCond .ge 5, 3) := by decide +kernel
theorem dX6_go_26 : decode cX6_go 26 = .ok (.iload_n 2, 1) := by decide +kernel
theorem dX6_go_27 : decode cX6_go 27 = .ok (.ireturn, 1) := by decide +kernel
theorem dX6_go_28 : decode cX6_go 28 = .ok (.iinc 2 1, 3) := by decide +kernel
theorem dX6_go_31 : decode cX6_go 31 = .ok (.aload_n 0, 1) := by decide +kernel
theorem dX6_go_32 : decode cX6_go 32 = .ok (.getfield 171, 3) := by decide +kernel
theorem dX6_go_35 : decode cX6_go 35 = .ok (.ifCond .ne 18, 3) := by decide +kernel
theorem dX6_go_38 : decode cX6_go 38 = .ok (.aload_n 0, 1) := by decide +kernel
theorem dX6_go_39 : decode cX6_go 39 = .ok (.getfield 168, 3) := by decide +kernel
theorem dX6_go_42 : decode cX6_go 42 = .ok (.aload_n 0, 1) := by decide +kernel
theorem dX6_go_43 : decode cX6_go 43 = .ok (.getfield 156, 3) := by decide +kernel
theorem dX6_go_46 : decode cX6_go 46 = .ok (.if_icmp .ge 7, 3) := by decide +kernel
theorem dX6_go_49 : decode cX6_go 49 = .ok (.iconst 1, 1) := by decide +kernel
theorem dX6_go_50 : decode cX6_go 50 = .ok (.goto 4, 3) := by decide +kernel
theorem dX6_go_53 : decode cX6_go 53 = .ok (.iconst 0, 1) := by decide +kernel
theorem dX6_go_54 : decode cX6_go 54 = .ok (.istore_n 3, 1) := by decide +kernel
theorem dX6_go_55 : decode cX6_go 55 = .ok (.iload_n 3, 1) := by decide +kernel
theorem dX6_go_56 : decode cX6_go 56 = .ok (.ifCond .eq (-42), 3) := by decide +kernel
theorem dX6_go_59 : decode cX6_go 59 = .ok (.aload_n 0, 1) := by decide +kernel
theorem dX6_go_60 : decode cX6_go 60 = .ok (.bipush 59, 2) := by decide +kernel
theorem dX6_go_62 : decode cX6_go 62 = .ok (.bipush 59, 2) := by decide +kernel
theorem dX6_go_64 : decode cX6_go 64 = .ok (.invokevirtual 175, 3) := by decide +kernel
theorem dX6_go_67 : decode cX6_go 67 = .ok (.istore 4, 2) := by decide +kernel
theorem dX6_go_69 : decode cX6_go 69 = .ok (.aload_n 0, 1) := by decide +kernel
theorem dX6_go_70 : decode cX6_go 70 = .ok (.getfield 171, 3) := by decide +kernel
theorem dX6_go_73 : decode cX6_go 73 = .ok (.ifCond .ne 7, 3) := by decide +kernel
theorem dX6_go_76 : decode cX6_go 76 = .ok (.iconst 1, 1) := by decide +kernel
theorem dX6_go_77 : decode cX6_go 77 = .ok (.goto 4, 3) := by decide +kernel
theorem dX6_go_80 : decode cX6_go 80 = .ok (.iconst 0, 1) := by decide +kernel
theorem dX6_go_81 : decode cX6_go 81 = .ok (.istore_n 3, 1) := by decide +kernel
theorem dX6_go_82 : decode cX6_go 82 = .ok (.goto (-68), 3) := by decide +kernel
theorem dX6_go_85 : decode cX6_go 85 = .ok (.iload_n 2, 1) := by decide +kernel
theorem dX6_go_86 : decode cX6_go 86 = .ok (.ireturn, 1) := by decide +kernel
def wp_X6_go_b81 (x1 : Int32) (K14 : Int32 → Int32 → Sg → Prop) (Q : Int32 → Sg → Prop) (v2 : Int32) (s0 : Int32) (σ : Sg) : Prop := K14 v2 s0 σ
set_option maxRecDepth 100000 in
set_option maxHeartbeats 4000000 in
theorem g_X6_go_b81 {X : Tx} {Q : Int32 → Sg → Prop} (C : Cx X cX6_go "SweetWrapsModel" (some .int) 9 208 5 (QI (tE X) Q)) {x1 : Int32} {K14 : Int32 → Int32 → Sg → Prop} (hK14 : ∀ (v2 : Int32) (v3 : Int32) (σ : Sg), K14 v2 v3 σ → G X σ [(0, .ref (ad (tE X) 12 18 0)), (1, .int x1), (2, .int v2), (3, .int v3)] [] 14) {v2 : Int32} {s0 : Int32} {σ : Sg} (hw : wp_X6_go_b81 x1 K14 Q v2 s0 σ) : G X σ [(0, .ref (ad (tE X) 12 18 0)), (1, .int x1), (2, .int v2)] [.int s0] 81 := by
  unfold wp_X6_go_b81 at hw
  refine gx_istore_n (lv' := [(3, .int s0), (0, .ref (ad (tE X) 12 18 0)), (1, .int x1), (2, .int v2)]) C dX6_go_81 (by decide) rfl ?_
  refine gx_goto (tgt := 14) C dX6_go_82 (by decide) ?_
  refine gx_sub (lv' := [(0, .ref (ad (tE X) 12 18 0)), (1, .int x1), (2, .int v2), (3, .int s0)]) [1, 2, 3, 0] rfl ?_
  exact hK14 _ _ _ hw
def wp_X6_go_b54 (x1 : Int32) (K14 : Int32 → Int32 → Sg → Prop) (Q : Int32 → Sg → Prop) (v2 : Int32) (s0 : Int32) (σ : Sg) : Prop := ((s0 = 0 → K14 v2 s0 σ) ∧ (¬ s0 = 0 → wp_X6_sign (59 : Int32) (59 : Int32) σ (fun r11 σ12 => ((¬ (σ12 12 18 0 10) = 0 → wp_X6_go_b81 x1 K14 Q v2 (0 : Int32) σ12) ∧ ((σ12 12 18 0 10) = 0 → wp_X6_go_b81 x1 K14 Q v2 (1 : Int32) σ12)))))
set_option maxRecDepth 100000 in
set_option maxHeartbeats 4000000 in
theorem g_X6_go_b54 {X : Tx} {Q : Int32 → Sg → Prop} (C : Cx X cX6_go "SweetWrapsModel" (some .int) 9 208 5 (QI (tE X) Q)) {x1 : Int32} {K14 : Int32 → Int32 → Sg → Prop} (hK14 : ∀ (v2 : Int32) (v3 : Int32) (σ : Sg), K14 v2 v3 σ → G X σ [(0, .ref (ad (tE X) 12 18 0)), (1, .int x1), (2, .int v2), (3, .int v3)] [] 14) {v2 : Int32} {s0 : Int32} {σ : Sg} (hw : wp_X6_go_b54 x1 K14 Q v2 s0 σ) : G X σ [(0, .ref (ad (tE X) 12 18 0)), (1, .int x1), (2, .int v2)] [.int s0] 54 := by
  unfold wp_X6_go_b54 at hw
  refine gx_istore_n (lv' := [(3, .int s0), (0, .ref (ad (tE X) 12 18 0)), (1, .int x1), (2, .int v2)]) C dX6_go_54 (by decide) rfl ?_
  refine gx_iload_n C dX6_go_55 0 rfl ?_
  refine gx_if_eq (tgt := 14) C dX6_go_56 (by decide) (fun c10 => ?_) (fun c10 => ?_)
  · replace hw := hw.1 c10
    refine gx_sub (lv' := [(0, .ref (ad (tE X) 12 18 0)), (1, .int x1), (2, .int v2), (3, .int s0)]) [1, 2, 3, 0] rfl ?_
    exact hK14 _ _ _ hw
  · replace hw := hw.2 c10
    refine gx_aload_n C dX6_go_59 1 rfl ?_
    refine gx_bipush (v := (59 : Int32)) C dX6_go_60 (by decide) ?_
    refine gx_bipush (v := (59 : Int32)) C dX6_go_62 (by decide) ?_
    refine gx_vcalli (As := [.int (59 : Int32), .int (59 : Int32)]) (rest := []) C (c_X6_sign _ _ hw) okg_18 rfl rfl bw_960 bw_962 bs_65 bw_7 bw_963 hy_X6_sign ⟨by decide, by decide⟩ rfl (Nat.le_of_ble_eq_true rfl) dX6_go_64 (fun r11 σ12 hw => ?_)
    refine gx_istore (lv' := [(4, .int r11), (3, .int s0), (0, .ref (ad (tE X) 12 18 0)), (1, .int x1), (2, .int v2)]) C dX6_go_67 (by decide) rfl ?_
    refine gx_aload_n C dX6_go_69 2 rfl ?_
    refine gx_get C okg_18 rfl rfl inX6 (ref := "SweetWrapsModel") 10 (by decide) bw_683 rfl rfl dX6_go_70 ?_
    refine gx_if_ne (tgt := 80) C dX6_go_73 (by decide) (fun c13 => ?_) (fun c13 => ?_)
    · replace hw := hw.1 c13
      refine gx_iconst (v := (0 : Int32)) C dX6_go_80 (by decide) ?_
      refine gx_sub (lv' := [(0, .ref (ad (tE X) 12 18 0)), (1, .int x1), (2, .int v2)]) [2, 3, 4] rfl ?_
      exact g_X6_go_b81 C hK14 hw
    · replace hw := hw.2 c13
      refine gx_iconst (v := (1 : Int32)) C dX6_go_76 (by decide) ?_
      refine gx_goto (tgt := 81) C dX6_go_77 (by decide) ?_
      refine gx_sub (lv' := [(0, .ref (ad (tE X) 12 18 0)), (1, .int x1), (2, .int v2)]) [2, 3, 4] rfl ?_
      exact g_X6_go_b81 C hK14 hw
def wp_X6_go_b53 (x1 : Int32) (K14 : Int32 → Int32 → Sg → Prop) (Q : Int32 → Sg → Prop) (v2 : Int32) (σ : Sg) : Prop := wp_X6_go_b54 x1 K14 Q v2 (0 : Int32) σ
set_option maxRecDepth 100000 in
set_option maxHeartbeats 4000000 in
theorem g_X6_go_b53 {X : Tx} {Q : Int32 → Sg → Prop} (C : Cx X cX6_go "SweetWrapsModel" (some .int) 9 208 5 (QI (tE X) Q)) {x1 : Int32} {K14 : Int32 → Int32 → Sg → Prop} (hK14 : ∀ (v2 : Int32) (v3 : Int32) (σ : Sg), K14 v2 v3 σ → G X σ [(0, .ref (ad (tE X) 12 18 0)), (1, .int x1), (2, .int v2), (3, .int v3)] [] 14) {v2 : Int32} {σ : Sg} (hw : wp_X6_go_b53 x1 K14 Q v2 σ) : G X σ [(0, .ref (ad (tE X) 12 18 0)), (1, .int x1), (2, .int v2)] [] 53 := by
  unfold wp_X6_go_b53 at hw
  refine gx_iconst (v := (0 : Int32)) C dX6_go_53 (by decide) ?_
  exact g_X6_go_b54 C hK14 hw
def st_X6_go_L14 (x1 : Int32) (Q : Int32 → Sg → Prop) (K14 : Int32 → Int32 → Sg → Prop) (v2 : Int32) (v3 : Int32) (σ : Sg) : Prop := ((v3 = 0 → Q v2 σ) ∧ (¬ v3 = 0 → wp_X6_order x1 σ (fun r4 σ5 => ((0 ≤ r4 → ∀ z7 : Int32, z7 = v2 + (1 : Int32) → ((¬ (σ5 12 18 0 10) = 0 → wp_X6_go_b53 x1 K14 Q z7 σ5) ∧ ((σ5 12 18 0 10) = 0 → (((σ5 12 18 0 7) ≤ (σ5 12 18 0 9) → wp_X6_go_b53 x1 K14 Q z7 σ5) ∧ (¬ (σ5 12 18 0 7) ≤ (σ5 12 18 0 9) → wp_X6_go_b54 x1 K14 Q z7 (1 : Int32) σ5))))) ∧ (¬ 0 ≤ r4 → Q v2 σ5)))))
def wp_X6_go_L14 (x1 : Int32) (Q : Int32 → Sg → Prop) (v2 : Int32) (v3 : Int32) (σ : Sg) : Prop := ∃ n : Nat, lpN (fun (K : Int32 × Int32 × Sg → Prop) (a : Int32 × Int32 × Sg) => st_X6_go_L14 x1 Q (fun v2 v3 σ => K (v2, v3, σ)) (a.1) (a.2.1) (a.2.2)) n (v2, v3, σ)
set_option maxRecDepth 100000 in
set_option maxHeartbeats 4000000 in
theorem gs_X6_go_L14 {X : Tx} {Q : Int32 → Sg → Prop} (C : Cx X cX6_go "SweetWrapsModel" (some .int) 9 208 5 (QI (tE X) Q)) {x1 : Int32} {K14 : Int32 → Int32 → Sg → Prop} (hK14 : ∀ (v2 : Int32) (v3 : Int32) (σ : Sg), K14 v2 v3 σ → G X σ [(0, .ref (ad (tE X) 12 18 0)), (1, .int x1), (2, .int v2), (3, .int v3)] [] 14) {v2 : Int32} {v3 : Int32} {σ : Sg} (hw : st_X6_go_L14 x1 Q K14 v2 v3 σ) : G X σ [(0, .ref (ad (tE X) 12 18 0)), (1, .int x1), (2, .int v2), (3, .int v3)] [] 14 := by
  unfold st_X6_go_L14 at hw
  refine gx_iload_n C dX6_go_14 3 rfl ?_
  refine gx_if_eq (tgt := 85) C dX6_go_15 (by decide) (fun c3 => ?_) (fun c3 => ?_)
  · replace hw := hw.1 c3
    refine gx_iload_n C dX6_go_85 2 rfl ?_
    exact gx_iret C rfl rfl dX6_go_86 hw
  · replace hw := hw.2 c3
    refine gx_aload_n C dX6_go_18 0 rfl ?_
    refine gx_iload_n C dX6_go_19 1 rfl ?_
    refine gx_vcalli (As := [.int x1]) (rest := []) C (c_X6_order _ _ hw) okg_18 rfl rfl bw_952 bw_954 bs_63 bw_7 bw_955 hy_X6_order ⟨by decide, by decide⟩ rfl (Nat.le_of_ble_eq_true rfl) dX6_go_20 (fun r4 σ5 hw => ?_)
    refine gx_if_ge (tgt := 28) C dX6_go_23 (by decide) (fun c6 => ?_) (fun c6 => ?_)
    · replace hw := hw.1 c6
      obtain ⟨z7, e_z7⟩ : ∃ z : Int32, z = v2 + (1 : Int32) := ⟨_, rfl⟩
      replace hw := hw z7 e_z7
      refine gx_iinc (v := z7) (lv' := [(2, .int z7), (0, .ref (ad (tE X) 12 18 0)), (1, .int x1), (3, .int v3)]) C dX6_go_28 2 rfl (by rw [e_z7]; rfl) (by decide) rfl ?_
      refine gx_aload_n C dX6_go_31 1 rfl ?_
      refine gx_get C okg_18 rfl rfl inX6 (ref := "SweetWrapsModel") 10 (by decide) bw_683 rfl rfl dX6_go_32 ?_
      refine gx_if_ne (tgt := 53) C dX6_go_35 (by decide) (fun c8 => ?_) (fun c8 => ?_)
      · replace hw := hw.1 c8
        refine gx_sub (lv' := [(0, .ref (ad (tE X) 12 18 0)), (1, .int x1), (2, .int z7)]) [1, 2, 0] rfl ?_
        exact g_X6_go_b53 C hK14 hw
      · replace hw := hw.2 c8
        refine gx_aload_n C dX6_go_38 1 rfl ?_
        refine gx_get C okg_18 rfl rfl inX6 (ref := "SweetWrapsModel") 9 (by decide) bw_682 rfl rfl dX6_go_39 ?_
        refine gx_aload_n C dX6_go_42 1 rfl ?_
        refine gx_get C okg_18 rfl rfl inX6 (ref := "SweetWrapsModel") 7 (by decide) bw_680 rfl rfl dX6_go_43 ?_
        refine gx_icmp_ge (tgt := 53) C dX6_go_46 (by decide) (fun c9 => ?_) (fun c9 => ?_)
        · replace hw := hw.1 c9
          refine gx_sub (lv' := [(0, .ref (ad (tE X) 12 18 0)), (1, .int x1), (2, .int z7)]) [1, 2, 0] rfl ?_
          exact g_X6_go_b53 C hK14 hw
        · replace hw := hw.2 c9
          refine gx_iconst (v := (1 : Int32)) C dX6_go_49 (by decide) ?_
          refine gx_goto (tgt := 54) C dX6_go_50 (by decide) ?_
          refine gx_sub (lv' := [(0, .ref (ad (tE X) 12 18 0)), (1, .int x1), (2, .int z7)]) [1, 2, 0] rfl ?_
          exact g_X6_go_b54 C hK14 hw
    · replace hw := hw.2 c6
      refine gx_iload_n C dX6_go_26 2 rfl ?_
      exact gx_iret C rfl rfl dX6_go_27 hw
set_option maxRecDepth 100000 in
set_option maxHeartbeats 4000000 in
theorem g_X6_go_L14 {X : Tx} {Q : Int32 → Sg → Prop} (C : Cx X cX6_go "SweetWrapsModel" (some .int) 9 208 5 (QI (tE X) Q)) {x1 : Int32} {v2 : Int32} {v3 : Int32} {σ : Sg} (hw : wp_X6_go_L14 x1 Q v2 v3 σ) : G X σ [(0, .ref (ad (tE X) 12 18 0)), (1, .int x1), (2, .int v2), (3, .int v3)] [] 14 := by
  obtain ⟨n, hw⟩ := hw
  exact lpN_G (P := (fun (a : Int32 × Int32 × Sg) => G X (a.2.2) [(0, .ref (ad (tE X) 12 18 0)), (1, .int x1), (2, .int (a.1)), (3, .int (a.2.1))] [] 14)) (fun K a hK h => gs_X6_go_L14 C (fun v2 v3 σ h => hK (v2, v3, σ) h) h) n _ hw
def wp_X6_go (x1 : Int32) (σ : Sg) (Q : Int32 → Sg → Prop) : Prop := ∀ σ1 : Sg, σ1 = up σ 12 18 0 9 (0 : Int32) → ∀ σ2 : Sg, σ2 = up σ1 12 18 0 10 (0 : Int32) → wp_X6_go_L14 x1 Q (0 : Int32) (1 : Int32) σ2
set_option maxRecDepth 100000 in
set_option maxHeartbeats 4000000 in
theorem c_X6_go (l : Launch) (E : Ev) {x1 : Int32} {σ : Sg} {Q : Int32 → Sg → Prop} (hw : wp_X6_go x1 σ Q) : CT l E yX6_go cX6_go 5 (some .int) 9 208 [.ref (ad E 12 18 0), .int x1] σ (QI E Q) := by
  refine CT_of (by decide) (Nat.le_of_ble_eq_true rfl) (fun X h1 h2 C => ?_)
  subst h1; subst h2
  have C : Cx X cX6_go "SweetWrapsModel" (some .int) 9 208 5 (QI (tE X) Q) := C
  show G X σ [(0, .ref (ad (tE X) 12 18 0)), (1, .int x1)] [] 0
  unfold wp_X6_go at hw
  refine gx_aload_n C dX6_go_0 0 rfl ?_
  refine gx_iconst (v := (0 : Int32)) C dX6_go_1 (by decide) ?_
  refine gx_put C okg_18 rfl rfl inX6 tyX6 tyX6_ok nmX6 (ref := "SweetWrapsModel") 9 (by decide) bw_682 rfl rfl (v := .int (0 : Int32)) rfl rfl (Nat.le_of_ble_eq_true rfl) (upd (σ 12 18 0) 9 (0 : Int32)) rfl dX6_go_2 ?_
  obtain ⟨σ1, e_σ1⟩ : ∃ z : Sg, z = up σ 12 18 0 9 (0 : Int32) := ⟨_, rfl⟩
  replace hw := hw σ1 e_σ1
  refine gx_st e_σ1 ?_
  refine gx_aload_n C dX6_go_5 0 rfl ?_
  refine gx_iconst (v := (0 : Int32)) C dX6_go_6 (by decide) ?_
  refine gx_put C okg_18 rfl rfl inX6 tyX6 tyX6_ok nmX6 (ref := "SweetWrapsModel") 10 (by decide) bw_683 rfl rfl (v := .int (0 : Int32)) rfl rfl (Nat.le_of_ble_eq_true rfl) (upd (σ1 12 18 0) 10 (0 : Int32)) rfl dX6_go_7 ?_
  obtain ⟨σ2, e_σ2⟩ : ∃ z : Sg, z = up σ1 12 18 0 10 (0 : Int32) := ⟨_, rfl⟩
  replace hw := hw σ2 e_σ2
  refine gx_st e_σ2 ?_
  refine gx_iconst (v := (0 : Int32)) C dX6_go_10 (by decide) ?_
  refine gx_istore_n (lv' := [(2, .int (0 : Int32)), (0, .ref (ad (tE X) 12 18 0)), (1, .int x1)]) C dX6_go_11 (by decide) rfl ?_
  refine gx_iconst (v := (1 : Int32)) C dX6_go_12 (by decide) ?_
  refine gx_istore_n (lv' := [(3, .int (1 : Int32)), (2, .int (0 : Int32)), (0, .ref (ad (tE X) 12 18 0)), (1, .int x1)]) C dX6_go_13 (by decide) rfl ?_
  refine gx_sub (lv' := [(0, .ref (ad (tE X) 12 18 0)), (1, .int x1), (2, .int (0 : Int32)), (3, .int (1 : Int32))]) [2, 3, 1, 0] rfl ?_
  exact g_X6_go_L14 C hw
theorem hy_X6_go : yX6_go.cls = "SweetWrapsModel" ∧ yX6_go.cls ≠ "java/lang/invoke/MethodHandle" ∧ yX6_go.cls ≠ "java/lang/invoke/VarHandle" ∧ (parseMethodDescriptor yX6_go.desc).map (fun d => d.parameters.length) = some 1 := by decide +kernel

theorem dX6_fault_0 : decode cX6_fault 0 = .ok (.aload_n 0, 1) := by decide +kernel
theorem dX6_fault_1 : decode cX6_fault 1 = .ok (.iconst 0, 1) := by decide +kernel
theorem dX6_fault_2 : decode cX6_fault 2 = .ok (.invokevirtual 188, 3) := by decide +kernel
theorem dX6_fault_5 : decode cX6_fault 5 = .ok (.istore_n 1, 1) := by decide +kernel
theorem dX6_fault_6 : decode cX6_fault 6 = .ok (.aload_n 0, 1) := by decide +kernel
theorem dX6_fault_7 : decode cX6_fault 7 = .ok (.getfield 171, 3) := by decide +kernel
theorem dX6_fault_10 : decode cX6_fault 10 = .ok (.ifCond .eq 10, 3) := by decide +kernel
theorem dX6_fault_13 : decode cX6_fault 13 = .ok (.aload_n 0, 1) := by decide +kernel
theorem dX6_fault_14 : decode cX6_fault 14 = .ok (.getfield 168, 3) := by decide +kernel
theorem dX6_fault_17 : decode cX6_fault 17 = .ok (.goto 5, 3) := by decide +kernel
theorem dX6_fault_20 : decode cX6_fault 20 = .ok (.bipush (-6), 2) := by decide +kernel
theorem dX6_fault_22 : decode cX6_fault 22 = .ok (.ireturn, 1) := by decide +kernel
def wp_X6_fault (σ : Sg) (Q : Int32 → Sg → Prop) : Prop := wp_X6_go (0 : Int32) σ (fun r1 σ2 => (((σ2 12 18 0 10) = 0 → Q (-6 : Int32) σ2) ∧ (¬ (σ2 12 18 0 10) = 0 → Q (σ2 12 18 0 9) σ2)))
set_option maxRecDepth 100000 in
set_option maxHeartbeats 4000000 in
theorem c_X6_fault (l : Launch) (E : Ev) {σ : Sg} {Q : Int32 → Sg → Prop} (hw : wp_X6_fault σ Q) : CT l E yX6_fault cX6_fault 2 (some .int) 10 232 [.ref (ad E 12 18 0)] σ (QI E Q) := by
  refine CT_of (by decide) (Nat.le_of_ble_eq_true rfl) (fun X h1 h2 C => ?_)
  subst h1; subst h2
  have C : Cx X cX6_fault "SweetWrapsModel" (some .int) 10 232 2 (QI (tE X) Q) := C
  show G X σ [(0, .ref (ad (tE X) 12 18 0))] [] 0
  unfold wp_X6_fault at hw
  refine gx_aload_n C dX6_fault_0 0 rfl ?_
  refine gx_iconst (v := (0 : Int32)) C dX6_fault_1 (by decide) ?_
  refine gx_vcalli (As := [.int (0 : Int32)]) (rest := []) C (c_X6_go _ _ hw) okg_18 rfl rfl bw_948 bw_950 bs_62 bw_7 bw_951 hy_X6_go ⟨by decide, by decide⟩ rfl (Nat.le_of_ble_eq_true rfl) dX6_fault_2 (fun r1 σ2 hw => ?_)
  refine gx_istore_n (lv' := [(1, .int r1), (0, .ref (ad (tE X) 12 18 0))]) C dX6_fault_5 (by decide) rfl ?_
  refine gx_aload_n C dX6_fault_6 1 rfl ?_
  refine gx_get C okg_18 rfl rfl inX6 (ref := "SweetWrapsModel") 10 (by decide) bw_683 rfl rfl dX6_fault_7 ?_
  refine gx_if_eq (tgt := 20) C dX6_fault_10 (by decide) (fun c3 => ?_) (fun c3 => ?_)
  · replace hw := hw.1 c3
    refine gx_bipush (v := (-6 : Int32)) C dX6_fault_20 (by decide) ?_
    exact gx_iret C rfl rfl dX6_fault_22 hw
  · replace hw := hw.2 c3
    refine gx_aload_n C dX6_fault_13 1 rfl ?_
    refine gx_get C okg_18 rfl rfl inX6 (ref := "SweetWrapsModel") 9 (by decide) bw_682 rfl rfl dX6_fault_14 ?_
    refine gx_goto (tgt := 22) C dX6_fault_17 (by decide) ?_
    exact gx_iret C rfl rfl dX6_fault_22 hw
theorem hy_X6_fault : yX6_fault.cls = "SweetWrapsModel" ∧ yX6_fault.cls ≠ "java/lang/invoke/MethodHandle" ∧ yX6_fault.cls ≠ "java/lang/invoke/VarHandle" ∧ (parseMethodDescriptor yX6_fault.desc).map (fun d => d.parameters.length) = some 0 := by decide +kernel

theorem dX6_carryOut_0 : decode cX6_carryOut 0 = .ok (.aload_n 0, 1) := by decide +kernel
theorem dX6_carryOut_1 : decode cX6_carryOut 1 = .ok (.iconst 0, 1) := by decide +kernel
theorem dX6_carryOut_2 : decode cX6_carryOut 2 = .ok (.invokevirtual 188, 3) := by decide +kernel
theorem dX6_carryOut_5 : decode cX6_carryOut 5 = .ok (.istore_n 1, 1) := by decide +kernel
theorem dX6_carryOut_6 : decode cX6_carryOut 6 = .ok (.aload_n 0, 1) := by decide +kernel
theorem dX6_carryOut_7 : decode cX6_carryOut 7 = .ok (.getfield 171, 3) := by decide +kernel
theorem dX6_carryOut_10 : decode cX6_carryOut 10 = .ok (.ifCond .eq 6, 3) := by decide +kernel
theorem dX6_carryOut_13 : decode cX6_carryOut 13 = .ok (.bipush (-3), 2) := by decide +kernel
theorem dX6_carryOut_15 : decode cX6_carryOut 15 = .ok (.ireturn, 1) := by decide +kernel
theorem dX6_carryOut_16 : decode cX6_carryOut 16 = .ok (.aload_n 0, 1) := by decide +kernel
theorem dX6_carryOut_17 : decode cX6_carryOut 17 = .ok (.invokevirtual 104, 3) := by decide +kernel
theorem dX6_carryOut_20 : decode cX6_carryOut 20 = .ok (.aload_n 0, 1) := by decide +kernel
theorem dX6_carryOut_21 : decode cX6_carryOut 21 = .ok (.iconst 1, 1) := by decide +kernel
theorem dX6_carryOut_22 : decode cX6_carryOut 22 = .ok (.invokevirtual 188, 3) := by decide +kernel
theorem dX6_carryOut_25 : decode cX6_carryOut 25 = .ok (.istore_n 2, 1) := by decide +kernel
theorem dX6_carryOut_26 : decode cX6_carryOut 26 = .ok (.aload_n 0, 1) := by decide +kernel
theorem dX6_carryOut_27 : decode cX6_carryOut 27 = .ok (.iconst 0, 1) := by decide +kernel
theorem dX6_carryOut_28 : decode cX6_carryOut 28 = .ok (.putfield 156, 3) := by decide +kernel
theorem dX6_carryOut_31 : decode cX6_carryOut 31 = .ok (.iload_n 2, 1) := by decide +kernel
theorem dX6_carryOut_32 : decode cX6_carryOut 32 = .ok (.ireturn, 1) := by decide +kernel
def wp_X6_carryOut (σ : Sg) (Q : Int32 → Sg → Prop) : Prop := wp_X6_go (0 : Int32) σ (fun r1 σ2 => (((σ2 12 18 0 10) = 0 → wp_X6_record σ2 (fun σ4 => wp_X6_go (1 : Int32) σ4 (fun r5 σ6 => ∀ σ7 : Sg, σ7 = up σ6 12 18 0 7 (0 : Int32) → Q r5 σ7))) ∧ (¬ (σ2 12 18 0 10) = 0 → Q (-3 : Int32) σ2)))
set_option maxRecDepth 100000 in
set_option maxHeartbeats 4000000 in
theorem c_X6_carryOut (l : Launch) (E : Ev) {σ : Sg} {Q : Int32 → Sg → Prop} (hw : wp_X6_carryOut σ Q) : CT l E yX6_carryOut cX6_carryOut 3 (some .int) 10 232 [.ref (ad E 12 18 0)] σ (QI E Q) := by
  refine CT_of (by decide) (Nat.le_of_ble_eq_true rfl) (fun X h1 h2 C => ?_)
  subst h1; subst h2
  have C : Cx X cX6_carryOut "SweetWrapsModel" (some .int) 10 232 3 (QI (tE X) Q) := C
  show G X σ [(0, .ref (ad (tE X) 12 18 0))] [] 0
  unfold wp_X6_carryOut at hw
  refine gx_aload_n C dX6_carryOut_0 0 rfl ?_
  refine gx_iconst (v := (0 : Int32)) C dX6_carryOut_1 (by decide) ?_
  refine gx_vcalli (As := [.int (0 : Int32)]) (rest := []) C (c_X6_go _ _ hw) okg_18 rfl rfl bw_948 bw_950 bs_62 bw_7 bw_951 hy_X6_go ⟨by decide, by decide⟩ rfl (Nat.le_of_ble_eq_true rfl) dX6_carryOut_2 (fun r1 σ2 hw => ?_)
  refine gx_istore_n (lv' := [(1, .int r1), (0, .ref (ad (tE X) 12 18 0))]) C dX6_carryOut_5 (by decide) rfl ?_
  refine gx_aload_n C dX6_carryOut_6 1 rfl ?_
  refine gx_get C okg_18 rfl rfl inX6 (ref := "SweetWrapsModel") 10 (by decide) bw_683 rfl rfl dX6_carryOut_7 ?_
  refine gx_if_eq (tgt := 16) C dX6_carryOut_10 (by decide) (fun c3 => ?_) (fun c3 => ?_)
  · replace hw := hw.1 c3
    refine gx_aload_n C dX6_carryOut_16 1 rfl ?_
    refine gx_vcallv (As := []) (rest := []) C (c_X6_record _ _ hw) okg_18 rfl rfl bw_714 bw_716 bs_27 bw_7 bw_717 hy_X6_record ⟨by decide, by decide⟩ rfl (Nat.le_of_ble_eq_true rfl) dX6_carryOut_17 (fun σ4 hw => ?_)
    refine gx_aload_n C dX6_carryOut_20 1 rfl ?_
    refine gx_iconst (v := (1 : Int32)) C dX6_carryOut_21 (by decide) ?_
    refine gx_vcalli (As := [.int (1 : Int32)]) (rest := []) C (c_X6_go _ _ hw) okg_18 rfl rfl bw_948 bw_950 bs_62 bw_7 bw_951 hy_X6_go ⟨by decide, by decide⟩ rfl (Nat.le_of_ble_eq_true rfl) dX6_carryOut_22 (fun r5 σ6 hw => ?_)
    refine gx_istore_n (lv' := [(2, .int r5), (1, .int r1), (0, .ref (ad (tE X) 12 18 0))]) C dX6_carryOut_25 (by decide) rfl ?_
    refine gx_aload_n C dX6_carryOut_26 2 rfl ?_
    refine gx_iconst (v := (0 : Int32)) C dX6_carryOut_27 (by decide) ?_
    refine gx_put C okg_18 rfl rfl inX6 tyX6 tyX6_ok nmX6 (ref := "SweetWrapsModel") 7 (by decide) bw_680 rfl rfl (v := .int (0 : Int32)) rfl rfl (Nat.le_of_ble_eq_true rfl) (upd (σ6 12 18 0) 7 (0 : Int32)) rfl dX6_carryOut_28 ?_
    obtain ⟨σ7, e_σ7⟩ : ∃ z : Sg, z = up σ6 12 18 0 7 (0 : Int32) := ⟨_, rfl⟩
    replace hw := hw σ7 e_σ7
    refine gx_st e_σ7 ?_
    refine gx_iload_n C dX6_carryOut_31 0 rfl ?_
    exact gx_iret C rfl rfl dX6_carryOut_32 hw
  · replace hw := hw.2 c3
    refine gx_bipush (v := (-3 : Int32)) C dX6_carryOut_13 (by decide) ?_
    exact gx_iret C rfl rfl dX6_carryOut_15 hw
theorem hy_X6_carryOut : yX6_carryOut.cls = "SweetWrapsModel" ∧ yX6_carryOut.cls ≠ "java/lang/invoke/MethodHandle" ∧ yX6_carryOut.cls ≠ "java/lang/invoke/VarHandle" ∧ (parseMethodDescriptor yX6_carryOut.desc).map (fun d => d.parameters.length) = some 0 := by decide +kernel

theorem dX6_undo_0 : decode cX6_undo 0 = .ok (.aload_n 0, 1) := by decide +kernel
theorem dX6_undo_1 : decode cX6_undo 1 = .ok (.getfield 32, 3) := by decide +kernel
theorem dX6_undo_4 : decode cX6_undo 4 = .ok (.ifCond .ne 6, 3) := by decide +kernel
theorem dX6_undo_7 : decode cX6_undo 7 = .ok (.bipush (-5), 2) := by decide +kernel
theorem dX6_undo_9 : decode cX6_undo 9 = .ok (.ireturn, 1) := by decide +kernel
theorem dX6_undo_10 : decode cX6_undo 10 = .ok (.aload_n 0, 1) := by decide +kernel
theorem dX6_undo_11 : decode cX6_undo 11 = .ok (.dup, 1) := by decide +kernel
theorem dX6_undo_12 : decode cX6_undo 12 = .ok (.getfield 32, 3) := by decide +kernel
theorem dX6_undo_15 : decode cX6_undo 15 = .ok (.iconst 1, 1) := by decide +kernel
theorem dX6_undo_16 : decode cX6_undo 16 = .ok (.isub, 1) := by decide +kernel
theorem dX6_undo_17 : decode cX6_undo 17 = .ok (.putfield 32, 3) := by decide +kernel
theorem dX6_undo_20 : decode cX6_undo 20 = .ok (.iconst 0, 1) := by decide +kernel
theorem dX6_undo_21 : decode cX6_undo 21 = .ok (.istore_n 1, 1) := by decide +kernel
theorem dX6_undo_22 : decode cX6_undo 22 = .ok (.iload_n 1, 1) := by decide +kernel
theorem dX6_undo_23 : decode cX6_undo 23 = .ok (.sipush 194, 3) := by decide +kernel
theorem dX6_undo_26 : decode cX6_undo 26 = .ok (.if_icmp .ge 30, 3) := by decide +kernel
theorem dX6_undo_29 : decode cX6_undo 29 = .ok (.aload_n 0, 1) := by decide +kernel
theorem dX6_undo_30 : decode cX6_undo 30 = .ok (.getfield 7, 3) := by decide +kernel
theorem dX6_undo_33 : decode cX6_undo 33 = .ok (.iload_n 1, 1) := by decide +kernel
theorem dX6_undo_34 : decode cX6_undo 34 = .ok (.aload_n 0, 1) := by decide +kernel
theorem dX6_undo_35 : decode cX6_undo 35 = .ok (.getfield 16, 3) := by decide +kernel
theorem dX6_undo_38 : decode cX6_undo 38 = .ok (.sipush 194, 3) := by decide +kernel
theorem dX6_undo_41 : decode cX6_undo 41 = .ok (.aload_n 0, 1) := by decide +kernel
theorem dX6_undo_42 : decode cX6_undo 42 = .ok (.getfield 32, 3) := by decide +kernel
theorem dX6_undo_45 : decode cX6_undo 45 = .ok (.imul, 1) := by decide +kernel
theorem dX6_undo_46 : decode cX6_undo 46 = .ok (.iload_n 1, 1) := by decide +kernel
theorem dX6_undo_47 : decode cX6_undo 47 = .ok (.iadd, 1) := by decide +kernel
theorem dX6_undo_48 : decode cX6_undo 48 = .ok (.iaload, 1) := by decide +kernel
theorem dX6_undo_49 : decode cX6_undo 49 = .ok (.iastore, 1) := by decide +kernel
theorem dX6_undo_50 : decode cX6_undo 50 = .ok (.iinc 1 1, 3) := by decide +kernel
theorem dX6_undo_53 : decode cX6_undo 53 = .ok (.goto (-31), 3) := by decide +kernel
theorem dX6_undo_56 : decode cX6_undo 56 = .ok (.aload_n 0, 1) := by decide +kernel
theorem dX6_undo_57 : decode cX6_undo 57 = .ok (.getfield 32, 3) := by decide +kernel
theorem dX6_undo_60 : decode cX6_undo 60 = .ok (.ireturn, 1) := by decide +kernel
def st_X6_undo_L22 (Q : Int32 → Sg → Prop) (K22 : Int32 → Sg → Prop) (v1 : Int32) (σ : Sg) : Prop := (((194 : Int32) ≤ v1 → Q (σ 12 18 0 3) σ) ∧ (¬ (194 : Int32) ≤ v1 → (vp_in (((194 : Int32) * (σ 12 18 0 3)) + v1) 1164 ∧ (vp_in v1 194 ∧ ∀ σ4 : Sg, σ4 = up σ 12 19 0 v1.toNatClampNeg (σ 12 21 0 (((194 : Int32) * (σ 12 18 0 3)) + v1).toNatClampNeg) → ∀ z5 : Int32, z5 = v1 + (1 : Int32) → K22 z5 σ4))))
def wp_X6_undo_L22 (Q : Int32 → Sg → Prop) (v1 : Int32) (σ : Sg) : Prop := ∃ n : Nat, lpN (fun (K : Int32 × Sg → Prop) (a : Int32 × Sg) => st_X6_undo_L22 Q (fun v1 σ => K (v1, σ)) (a.1) (a.2)) n (v1, σ)
set_option maxRecDepth 100000 in
set_option maxHeartbeats 4000000 in
theorem gs_X6_undo_L22 {X : Tx} {Q : Int32 → Sg → Prop} (C : Cx X cX6_undo "SweetWrapsModel" (some .int) 0 0 2 (QI (tE X) Q)) {K22 : Int32 → Sg → Prop} (hK22 : ∀ (v1 : Int32) (σ : Sg), K22 v1 σ → G X σ [(0, .ref (ad (tE X) 12 18 0)), (1, .int v1)] [] 22) {v1 : Int32} {σ : Sg} (hw : st_X6_undo_L22 Q K22 v1 σ) : G X σ [(0, .ref (ad (tE X) 12 18 0)), (1, .int v1)] [] 22 := by
  unfold st_X6_undo_L22 at hw
  refine gx_iload_n C dX6_undo_22 1 rfl ?_
  refine gx_sipush (v := (194 : Int32)) C dX6_undo_23 (by decide) ?_
  refine gx_icmp_ge (tgt := 56) C dX6_undo_26 (by decide) (fun c3 => ?_) (fun c3 => ?_)
  · replace hw := hw.1 c3
    refine gx_aload_n C dX6_undo_56 0 rfl ?_
    refine gx_get C okg_18 rfl rfl inX6 (ref := "SweetWrapsModel") 3 (by decide) bw_676 rfl rfl dX6_undo_57 ?_
    exact gx_iret C rfl rfl dX6_undo_60 hw
  · replace hw := hw.2 c3
    refine gx_aload_n C dX6_undo_29 0 rfl ?_
    refine gx_get C okg_18 rfl rfl inX6 (ref := "SweetWrapsModel") 0 (by decide) bw_673 rfl rfl dX6_undo_30 ?_
    refine gx_iload_n C dX6_undo_33 1 rfl ?_
    refine gx_aload_n C dX6_undo_34 0 rfl ?_
    refine gx_get C okg_18 rfl rfl inX6 (ref := "SweetWrapsModel") 2 (by decide) bw_675 rfl rfl dX6_undo_35 ?_
    refine gx_sipush (v := (194 : Int32)) C dX6_undo_38 (by decide) ?_
    refine gx_aload_n C dX6_undo_41 0 rfl ?_
    refine gx_get C okg_18 rfl rfl inX6 (ref := "SweetWrapsModel") 3 (by decide) bw_676 rfl rfl dX6_undo_42 ?_
    refine gx_imul C dX6_undo_45 ?_
    refine gx_iload_n C dX6_undo_46 1 rfl ?_
    refine gx_iadd C dX6_undo_47 ?_
    refine gx_iald C okg_21 rfl hw.1 _ rfl dX6_undo_48 ?_
    replace hw := hw.2
    refine gx_iast C okg_19 (fun _ => rfl) hw.1 _ rfl rfl dX6_undo_49 ?_
    replace hw := hw.2
    obtain ⟨σ4, e_σ4⟩ : ∃ z : Sg, z = up σ 12 19 0 v1.toNatClampNeg (σ 12 21 0 (((194 : Int32) * (σ 12 18 0 3)) + v1).toNatClampNeg) := ⟨_, rfl⟩
    replace hw := hw σ4 e_σ4
    refine gx_st e_σ4 ?_
    obtain ⟨z5, e_z5⟩ : ∃ z : Int32, z = v1 + (1 : Int32) := ⟨_, rfl⟩
    replace hw := hw z5 e_z5
    refine gx_iinc (v := z5) (lv' := [(1, .int z5), (0, .ref (ad (tE X) 12 18 0))]) C dX6_undo_50 1 rfl (by rw [e_z5]; rfl) (by decide) rfl ?_
    refine gx_goto (tgt := 22) C dX6_undo_53 (by decide) ?_
    refine gx_sub (lv' := [(0, .ref (ad (tE X) 12 18 0)), (1, .int z5)]) [1, 0] rfl ?_
    exact hK22 _ _ hw
set_option maxRecDepth 100000 in
set_option maxHeartbeats 4000000 in
theorem g_X6_undo_L22 {X : Tx} {Q : Int32 → Sg → Prop} (C : Cx X cX6_undo "SweetWrapsModel" (some .int) 0 0 2 (QI (tE X) Q)) {v1 : Int32} {σ : Sg} (hw : wp_X6_undo_L22 Q v1 σ) : G X σ [(0, .ref (ad (tE X) 12 18 0)), (1, .int v1)] [] 22 := by
  obtain ⟨n, hw⟩ := hw
  exact lpN_G (P := (fun (a : Int32 × Sg) => G X (a.2) [(0, .ref (ad (tE X) 12 18 0)), (1, .int (a.1))] [] 22)) (fun K a hK h => gs_X6_undo_L22 C (fun v1 σ h => hK (v1, σ) h) h) n _ hw
def wp_X6_undo (σ : Sg) (Q : Int32 → Sg → Prop) : Prop := ((¬ (σ 12 18 0 3) = 0 → ∀ σ2 : Sg, σ2 = up σ 12 18 0 3 ((σ 12 18 0 3) - (1 : Int32)) → wp_X6_undo_L22 Q (0 : Int32) σ2) ∧ ((σ 12 18 0 3) = 0 → Q (-5 : Int32) σ))
set_option maxRecDepth 100000 in
set_option maxHeartbeats 4000000 in
theorem c_X6_undo (l : Launch) (E : Ev) {σ : Sg} {Q : Int32 → Sg → Prop} (hw : wp_X6_undo σ Q) : CT l E yX6_undo cX6_undo 2 (some .int) 0 0 [.ref (ad E 12 18 0)] σ (QI E Q) := by
  refine CT_of (by decide) (Nat.le_of_ble_eq_true rfl) (fun X h1 h2 C => ?_)
  subst h1; subst h2
  have C : Cx X cX6_undo "SweetWrapsModel" (some .int) 0 0 2 (QI (tE X) Q) := C
  show G X σ [(0, .ref (ad (tE X) 12 18 0))] [] 0
  unfold wp_X6_undo at hw
  refine gx_aload_n C dX6_undo_0 0 rfl ?_
  refine gx_get C okg_18 rfl rfl inX6 (ref := "SweetWrapsModel") 3 (by decide) bw_676 rfl rfl dX6_undo_1 ?_
  refine gx_if_ne (tgt := 10) C dX6_undo_4 (by decide) (fun c1 => ?_) (fun c1 => ?_)
  · replace hw := hw.1 c1
    refine gx_aload_n C dX6_undo_10 0 rfl ?_
    refine gx_dup C dX6_undo_11 rfl ?_
    refine gx_get C okg_18 rfl rfl inX6 (ref := "SweetWrapsModel") 3 (by decide) bw_676 rfl rfl dX6_undo_12 ?_
    refine gx_iconst (v := (1 : Int32)) C dX6_undo_15 (by decide) ?_
    refine gx_isub C dX6_undo_16 ?_
    refine gx_put C okg_18 rfl rfl inX6 tyX6 tyX6_ok nmX6 (ref := "SweetWrapsModel") 3 (by decide) bw_676 rfl rfl (v := .int ((σ 12 18 0 3) - (1 : Int32))) rfl rfl (Nat.le_of_ble_eq_true rfl) (upd (σ 12 18 0) 3 ((σ 12 18 0 3) - (1 : Int32))) rfl dX6_undo_17 ?_
    obtain ⟨σ2, e_σ2⟩ : ∃ z : Sg, z = up σ 12 18 0 3 ((σ 12 18 0 3) - (1 : Int32)) := ⟨_, rfl⟩
    replace hw := hw σ2 e_σ2
    refine gx_st e_σ2 ?_
    refine gx_iconst (v := (0 : Int32)) C dX6_undo_20 (by decide) ?_
    refine gx_istore_n (lv' := [(1, .int (0 : Int32)), (0, .ref (ad (tE X) 12 18 0))]) C dX6_undo_21 (by decide) rfl ?_
    refine gx_sub (lv' := [(0, .ref (ad (tE X) 12 18 0)), (1, .int (0 : Int32))]) [1, 0] rfl ?_
    exact g_X6_undo_L22 C hw
  · replace hw := hw.2 c1
    refine gx_bipush (v := (-5 : Int32)) C dX6_undo_7 (by decide) ?_
    exact gx_iret C rfl rfl dX6_undo_9 hw
theorem hy_X6_undo : yX6_undo.cls = "SweetWrapsModel" ∧ yX6_undo.cls ≠ "java/lang/invoke/MethodHandle" ∧ yX6_undo.cls ≠ "java/lang/invoke/VarHandle" ∧ (parseMethodDescriptor yX6_undo.desc).map (fun d => d.parameters.length) = some 0 := by decide +kernel

theorem dX6_save_0 : decode cX6_save 0 = .ok (.iload_n 1, 1) := by decide +kernel
theorem dX6_save_1 : decode cX6_save 1 = .ok (.iconst 0, 1) := by decide +kernel
theorem dX6_save_2 : decode cX6_save 2 = .ok (.iconst 1, 1) := by decide +kernel
theorem dX6_save_3 : decode cX6_save 3 = .ok (.invokestatic 36, 3) := by decide +kernel
theorem dX6_save_6 : decode cX6_save 6 = .ok (.ifCond .ne 6, 3) := by decide +kernel
theorem dX6_save_9 : decode cX6_save 9 = .ok (.bipush (-2), 2) := by decide +kernel
theorem dX6_save_11 : decode cX6_save 11 = .ok (.ireturn, 1) := by decide +kernel
theorem dX6_save_12 : decode cX6_save 12 = .ok (.iconst 0, 1) := by decide +kernel
theorem dX6_save_13 : decode cX6_save 13 = .ok (.istore_n 2, 1) := by decide +kernel
theorem dX6_save_14 : decode cX6_save 14 = .ok (.iload_n 2, 1) := by decide +kernel
theorem dX6_save_15 : decode cX6_save 15 = .ok (.sipush 194, 3) := by decide +kernel
theorem dX6_save_18 : decode cX6_save 18 = .ok (.if_icmp .ge 27, 3) := by decide +kernel
theorem dX6_save_21 : decode cX6_save 21 = .ok (.aload_n 0, 1) := by decide +kernel
theorem dX6_save_22 : decode cX6_save 22 = .ok (.getfield 19, 3) := by decide +kernel
theorem dX6_save_25 : decode cX6_save 25 = .ok (.sipush 194, 3) := by decide +kernel
theorem dX6_save_28 : decode cX6_save 28 = .ok (.iload_n 1, 1) := by decide +kernel
theorem dX6_save_29 : decode cX6_save 29 = .ok (.imul, 1) := by decide +kernel
theorem dX6_save_30 : decode cX6_save 30 = .ok (.iload_n 2, 1) := by decide +kernel
theorem dX6_save_31 : decode cX6_save 31 = .ok (.iadd, 1) := by decide +kernel
theorem dX6_save_32 : decode cX6_save 32 = .ok (.aload_n 0, 1) := by decide +kernel
theorem dX6_save_33 : decode cX6_save 33 = .ok (.getfield 7, 3) := by decide +kernel
theorem dX6_save_36 : decode cX6_save 36 = .ok (.iload_n 2, 1) := by decide +kernel
theorem dX6_save_37 : decode cX6_save 37 = .ok (.iaload, 1) := by decide +kernel
theorem dX6_save_38 : decode cX6_save 38 = .ok (.iastore, 1) := by decide +kernel
theorem dX6_save_39 : decode cX6_save 39 = .ok (.iinc 2 1, 3) := by decide +kernel
theorem dX6_save_42 : decode cX6_save 42 = .ok (.goto (-28), 3) := by decide +kernel
theorem dX6_save_45 : decode cX6_save 45 = .ok (.aload_n 0, 1) := by decide +kernel
theorem dX6_save_46 : decode cX6_save 46 = .ok (.getfield 22, 3) := by decide +kernel
theorem dX6_save_49 : decode cX6_save 49 = .ok (.iload_n 1, 1) := by decide +kernel
theorem dX6_save_50 : decode cX6_save 50 = .ok (.iconst 1, 1) := by decide +kernel
theorem dX6_save_51 : decode cX6_save 51 = .ok (.bastore, 1) := by decide +kernel
theorem dX6_save_52 : decode cX6_save 52 = .ok (.aload_n 0, 1) := by decide +kernel
theorem dX6_save_53 : decode cX6_save 53 = .ok (.getfield 7, 3) := by decide +kernel
theorem dX6_save_56 : decode cX6_save 56 = .ok (.bipush 72, 2) := by decide +kernel
theorem dX6_save_58 : decode cX6_save 58 = .ok (.iaload, 1) := by decide +kernel
theorem dX6_save_59 : decode cX6_save 59 = .ok (.ireturn, 1) := by decide +kernel
def st_X6_save_L14 (x1 : Int32) (Q : Int32 → Sg → Prop) (K14 : Int32 → Sg → Prop) (v2 : Int32) (σ : Sg) : Prop := (((194 : Int32) ≤ v2 → (vp_in x1 2 ∧ ∀ σ5 : Sg, σ5 = up σ 12 23 0 x1.toNatClampNeg (1 : Int32) → Q (σ5 12 19 0 72) σ5)) ∧ (¬ (194 : Int32) ≤ v2 → (vp_in v2 194 ∧ (vp_in (((194 : Int32) * x1) + v2) 388 ∧ ∀ σ6 : Sg, σ6 = up σ 12 22 0 (((194 : Int32) * x1) + v2).toNatClampNeg (σ 12 19 0 v2.toNatClampNeg) → ∀ z7 : Int32, z7 = v2 + (1 : Int32) → K14 z7 σ6))))
def wp_X6_save_L14 (x1 : Int32) (Q : Int32 → Sg → Prop) (v2 : Int32) (σ : Sg) : Prop := ∃ n : Nat, lpN (fun (K : Int32 × Sg → Prop) (a : Int32 × Sg) => st_X6_save_L14 x1 Q (fun v2 σ => K (v2, σ)) (a.1) (a.2)) n (v2, σ)
set_option maxRecDepth 100000 in
set_option maxHeartbeats 4000000 in
theorem gs_X6_save_L14 {X : Tx} {Q : Int32 → Sg → Prop} (C : Cx X cX6_save "SweetWrapsModel" (some .int) 1 22 3 (QI (tE X) Q)) {x1 : Int32} {K14 : Int32 → Sg → Prop} (hK14 : ∀ (v2 : Int32) (σ : Sg), K14 v2 σ → G X σ [(0, .ref (ad (tE X) 12 18 0)), (1, .int x1), (2, .int v2)] [] 14) {v2 : Int32} {σ : Sg} (hw : st_X6_save_L14 x1 Q K14 v2 σ) : G X σ [(0, .ref (ad (tE X) 12 18 0)), (1, .int x1), (2, .int v2)] [] 14 := by
  unfold st_X6_save_L14 at hw
  refine gx_iload_n C dX6_save_14 2 rfl ?_
  refine gx_sipush (v := (194 : Int32)) C dX6_save_15 (by decide) ?_
  refine gx_icmp_ge (tgt := 45) C dX6_save_18 (by decide) (fun c4 => ?_) (fun c4 => ?_)
  · replace hw := hw.1 c4
    refine gx_aload_n C dX6_save_45 0 rfl ?_
    refine gx_get C okg_18 rfl rfl inX6 (ref := "SweetWrapsModel") 5 (by decide) bw_678 rfl rfl dX6_save_46 ?_
    refine gx_iload_n C dX6_save_49 1 rfl ?_
    refine gx_iconst (v := (1 : Int32)) C dX6_save_50 (by decide) ?_
    refine gx_zast C okg_23 (fun _ => rfl) hw.1 _ rfl (y' := (1 : Int32)) (by decide) dX6_save_51 ?_
    replace hw := hw.2
    obtain ⟨σ5, e_σ5⟩ : ∃ z : Sg, z = up σ 12 23 0 x1.toNatClampNeg (1 : Int32) := ⟨_, rfl⟩
    replace hw := hw σ5 e_σ5
    refine gx_st e_σ5 ?_
    refine gx_aload_n C dX6_save_52 0 rfl ?_
    refine gx_get C okg_18 rfl rfl inX6 (ref := "SweetWrapsModel") 0 (by decide) bw_673 rfl rfl dX6_save_53 ?_
    refine gx_bipush (v := (72 : Int32)) C dX6_save_56 (by decide) ?_
    refine gx_iald C okg_19 rfl (n := 194) (x := (72 : Int32)) (by unfold vp_in; decide) 72 (by decide) dX6_save_58 ?_
    exact gx_iret C rfl rfl dX6_save_59 hw
  · replace hw := hw.2 c4
    refine gx_aload_n C dX6_save_21 0 rfl ?_
    refine gx_get C okg_18 rfl rfl inX6 (ref := "SweetWrapsModel") 4 (by decide) bw_677 rfl rfl dX6_save_22 ?_
    refine gx_sipush (v := (194 : Int32)) C dX6_save_25 (by decide) ?_
    refine gx_iload_n C dX6_save_28 1 rfl ?_
    refine gx_imul C dX6_save_29 ?_
    refine gx_iload_n C dX6_save_30 2 rfl ?_
    refine gx_iadd C dX6_save_31 ?_
    refine gx_aload_n C dX6_save_32 0 rfl ?_
    refine gx_get C okg_18 rfl rfl inX6 (ref := "SweetWrapsModel") 0 (by decide) bw_673 rfl rfl dX6_save_33 ?_
    refine gx_iload_n C dX6_save_36 2 rfl ?_
    refine gx_iald C okg_19 rfl hw.1 _ rfl dX6_save_37 ?_
    replace hw := hw.2
    refine gx_iast C okg_22 (fun _ => rfl) hw.1 _ rfl rfl dX6_save_38 ?_
    replace hw := hw.2
    obtain ⟨σ6, e_σ6⟩ : ∃ z : Sg, z = up σ 12 22 0 (((194 : Int32) * x1) + v2).toNatClampNeg (σ 12 19 0 v2.toNatClampNeg) := ⟨_, rfl⟩
    replace hw := hw σ6 e_σ6
    refine gx_st e_σ6 ?_
    obtain ⟨z7, e_z7⟩ : ∃ z : Int32, z = v2 + (1 : Int32) := ⟨_, rfl⟩
    replace hw := hw z7 e_z7
    refine gx_iinc (v := z7) (lv' := [(2, .int z7), (0, .ref (ad (tE X) 12 18 0)), (1, .int x1)]) C dX6_save_39 2 rfl (by rw [e_z7]; rfl) (by decide) rfl ?_
    refine gx_goto (tgt := 14) C dX6_save_42 (by decide) ?_
    refine gx_sub (lv' := [(0, .ref (ad (tE X) 12 18 0)), (1, .int x1), (2, .int z7)]) [1, 2, 0] rfl ?_
    exact hK14 _ _ hw
set_option maxRecDepth 100000 in
set_option maxHeartbeats 4000000 in
theorem g_X6_save_L14 {X : Tx} {Q : Int32 → Sg → Prop} (C : Cx X cX6_save "SweetWrapsModel" (some .int) 1 22 3 (QI (tE X) Q)) {x1 : Int32} {v2 : Int32} {σ : Sg} (hw : wp_X6_save_L14 x1 Q v2 σ) : G X σ [(0, .ref (ad (tE X) 12 18 0)), (1, .int x1), (2, .int v2)] [] 14 := by
  obtain ⟨n, hw⟩ := hw
  exact lpN_G (P := (fun (a : Int32 × Sg) => G X (a.2) [(0, .ref (ad (tE X) 12 18 0)), (1, .int x1), (2, .int (a.1))] [] 14)) (fun K a hK h => gs_X6_save_L14 C (fun v2 σ h => hK (v2, σ) h) h) n _ hw
def wp_X6_save (x1 : Int32) (σ : Sg) (Q : Int32 → Sg → Prop) : Prop := wp_X6_in x1 (0 : Int32) (1 : Int32) σ (fun r1 σ2 => ((¬ r1 = 0 → wp_X6_save_L14 x1 Q (0 : Int32) σ2) ∧ (r1 = 0 → Q (-2 : Int32) σ2)))
set_option maxRecDepth 100000 in
set_option maxHeartbeats 4000000 in
theorem c_X6_save (l : Launch) (E : Ev) {x1 : Int32} {σ : Sg} {Q : Int32 → Sg → Prop} (hw : wp_X6_save x1 σ Q) : CT l E yX6_save cX6_save 3 (some .int) 1 22 [.ref (ad E 12 18 0), .int x1] σ (QI E Q) := by
  refine CT_of (by decide) (Nat.le_of_ble_eq_true rfl) (fun X h1 h2 C => ?_)
  subst h1; subst h2
  have C : Cx X cX6_save "SweetWrapsModel" (some .int) 1 22 3 (QI (tE X) Q) := C
  show G X σ [(0, .ref (ad (tE X) 12 18 0)), (1, .int x1)] [] 0
  unfold wp_X6_save at hw
  refine gx_iload_n C dX6_save_0 1 rfl ?_
  refine gx_iconst (v := (0 : Int32)) C dX6_save_1 (by decide) ?_
  refine gx_iconst (v := (1 : Int32)) C dX6_save_2 (by decide) ?_
  refine gx_scalli (As := [.int x1, .int (0 : Int32), .int (1 : Int32)]) (rest := []) C (c_X6_in _ _ hw) bw_711 bw_712 bw_7 bw_713 hyS_X6_in ⟨by decide, by decide⟩ rfl (Nat.le_of_ble_eq_true rfl) dX6_save_3 (fun r1 σ2 hw => ?_)
  refine gx_if_ne (tgt := 12) C dX6_save_6 (by decide) (fun c3 => ?_) (fun c3 => ?_)
  · replace hw := hw.1 c3
    refine gx_iconst (v := (0 : Int32)) C dX6_save_12 (by decide) ?_
    refine gx_istore_n (lv' := [(2, .int (0 : Int32)), (0, .ref (ad (tE X) 12 18 0)), (1, .int x1)]) C dX6_save_13 (by decide) rfl ?_
    refine gx_sub (lv' := [(0, .ref (ad (tE X) 12 18 0)), (1, .int x1), (2, .int (0 : Int32))]) [1, 2, 0] rfl ?_
    exact g_X6_save_L14 C hw
  · replace hw := hw.2 c3
    refine gx_bipush (v := (-2 : Int32)) C dX6_save_9 (by decide) ?_
    exact gx_iret C rfl rfl dX6_save_11 hw
theorem hy_X6_save : yX6_save.cls = "SweetWrapsModel" ∧ yX6_save.cls ≠ "java/lang/invoke/MethodHandle" ∧ yX6_save.cls ≠ "java/lang/invoke/VarHandle" ∧ (parseMethodDescriptor yX6_save.desc).map (fun d => d.parameters.length) = some 1 := by decide +kernel

theorem dX6_restore_0 : decode cX6_restore 0 = .ok (.iload_n 1, 1) := by decide +kernel
theorem dX6_restore_1 : decode cX6_restore 1 = .ok (.iconst 0, 1) := by decide +kernel
theorem dX6_restore_2 : decode cX6_restore 2 = .ok (.iconst 1, 1) := by decide +kernel
theorem dX6_restore_3 : decode cX6_restore 3 = .ok (.invokestatic 36, 3) := by decide +kernel
theorem dX6_restore_6 : decode cX6_restore 6 = .ok (.ifCond .ne 6, 3) := by decide +kernel
theorem dX6_restore_9 : decode cX6_restore 9 = .ok (.bipush (-2), 2) := by decide +kernel
theorem dX6_restore_11 : decode cX6_restore 11 = .ok (.ireturn, 1) := by decide +kernel
theorem dX6_restore_12 : decode cX6_restore 12 = .ok (.aload_n 0, 1) := by decide +kernel
theorem dX6_restore_13 : decode cX6_restore 13 = .ok (.getfield 22, 3) := by decide +kernel
theorem dX6_restore_16 : decode cX6_restore 16 = .ok (.iload_n 1, 1) := by decide +kernel
theorem dX6_restore_17 : decode cX6_restore 17 = .ok (.baload, 1) := by decide +kernel
theorem dX6_restore_18 : decode cX6_restore 18 = .ok (.ifCond .ne 6, 3) := by decide +kernel
theorem dX6_restore_21 : decode cX6_restore 21 = .ok (.bipush (-5), 2) := by decide +kernel
theorem dX6_restore_23 : decode cX6_restore 23 = .ok (.ireturn, 1) := by decide +kernel
theorem dX6_restore_24 : decode cX6_restore 24 = .ok (.aload_n 0, 1) := by decide +kernel
theorem dX6_restore_25 : decode cX6_restore 25 = .ok (.invokevirtual 104, 3) := by decide +kernel
theorem dX6_restore_28 : decode cX6_restore 28 = .ok (.iconst 0, 1) := by decide +kernel
theorem dX6_restore_29 : decode cX6_restore 29 = .ok (.istore_n 2, 1) := by decide +kernel
theorem dX6_restore_30 : decode cX6_restore 30 = .ok (.iload_n 2, 1) := by decide +kernel
theorem dX6_restore_31 : decode cX6_restore 31 = .ok (.sipush 194, 3) := by decide +kernel
theorem dX6_restore_34 : decode cX6_restore 34 = .ok (.if_icmp .ge 27, 3) := by decide +kernel
theorem dX6_restore_37 : decode cX6_restore 37 = .ok (.aload_n 0, 1) := by decide +kernel
theorem dX6_restore_38 : decode cX6_restore 38 = .ok (.getfield 7, 3) := by decide +kernel
theorem dX6_restore_41 : decode cX6_restore 41 = .ok (.iload_n 2, 1) := by decide +kernel
theorem dX6_restore_42 : decode cX6_restore 42 = .ok (.aload_n 0, 1) := by decide +kernel
theorem dX6_restore_43 : decode cX6_restore 43 = .ok (.getfield 19, 3) := by decide +kernel
theorem dX6_restore_46 : decode cX6_restore 46 = .ok (.sipush 194, 3) := by decide +kernel
theorem dX6_restore_49 : decode cX6_restore 49 = .ok (.iload_n 1, 1) := by decide +kernel
theorem dX6_restore_50 : decode cX6_restore 50 = .ok (.imul, 1) := by decide +kernel
theorem dX6_restore_51 : decode cX6_restore 51 = .ok (.iload_n 2, 1) := by decide +kernel
theorem dX6_restore_52 : decode cX6_restore 52 = .ok (.iadd, 1) := by decide +kernel
theorem dX6_restore_53 : decode cX6_restore 53 = .ok (.iaload, 1) := by decide +kernel
theorem dX6_restore_54 : decode cX6_restore 54 = .ok (.iastore, 1) := by decide +kernel
theorem dX6_restore_55 : decode cX6_restore 55 = .ok (.iinc 2 1, 3) := by decide +kernel
theorem dX6_restore_58 : decode cX6_restore 58 = .ok (.goto (-28), 3) := by decide +kernel
theorem dX6_restore_61 : decode cX6_restore 61 = .ok (.aload_n 0, 1) := by decide +kernel
theorem dX6_restore_62 : decode cX6_restore 62 = .ok (.getfield 7, 3) := by decide +kernel
theorem dX6_restore_65 : decode cX6_restore 65 = .ok (.bipush 72, 2) := by decide +kernel
theorem dX6_restore_67 : decode cX6_restore 67 = .ok (.iaload, 1) := by decide +kernel
theorem dX6_restore_68 : decode cX6_restore 68 = .ok (.ireturn, 1) := by decide +kernel
def st_X6_restore_L30 (x1 : Int32) (Q : Int32 → Sg → Prop) (K30 : Int32 → Sg → Prop) (v2 : Int32) (σ : Sg) : Prop := (((194 : Int32) ≤ v2 → Q (σ 12 19 0 72) σ) ∧ (¬ (194 : Int32) ≤ v2 → (vp_in (((194 : Int32) * x1) + v2) 388 ∧ (vp_in v2 194 ∧ ∀ σ7 : Sg, σ7 = up σ 12 19 0 v2.toNatClampNeg (σ 12 22 0 (((194 : Int32) * x1) + v2).toNatClampNeg) → ∀ z8 : Int32, z8 = v2 + (1 : Int32) → K30 z8 σ7))))
def wp_X6_restore_L30 (x1 : Int32) (Q : Int32 → Sg → Prop) (v2 : Int32) (σ : Sg) : Prop := ∃ n : Nat, lpN (fun (K : Int32 × Sg → Prop) (a : Int32 × Sg) => st_X6_restore_L30 x1 Q (fun v2 σ => K (v2, σ)) (a.1) (a.2)) n (v2, σ)
set_option maxRecDepth 100000 in
set_option maxHeartbeats 4000000 in
theorem gs_X6_restore_L30 {X : Tx} {Q : Int32 → Sg → Prop} (C : Cx X cX6_restore "SweetWrapsModel" (some .int) 1 22 3 (QI (tE X) Q)) {x1 : Int32} {K30 : Int32 → Sg → Prop} (hK30 : ∀ (v2 : Int32) (σ : Sg), K30 v2 σ → G X σ [(0, .ref (ad (tE X) 12 18 0)), (1, .int x1), (2, .int v2)] [] 30) {v2 : Int32} {σ : Sg} (hw : st_X6_restore_L30 x1 Q K30 v2 σ) : G X σ [(0, .ref (ad (tE X) 12 18 0)), (1, .int x1), (2, .int v2)] [] 30 := by
  unfold st_X6_restore_L30 at hw
  refine gx_iload_n C dX6_restore_30 2 rfl ?_
  refine gx_sipush (v := (194 : Int32)) C dX6_restore_31 (by decide) ?_
  refine gx_icmp_ge (tgt := 61) C dX6_restore_34 (by decide) (fun c6 => ?_) (fun c6 => ?_)
  · replace hw := hw.1 c6
    refine gx_aload_n C dX6_restore_61 0 rfl ?_
    refine gx_get C okg_18 rfl rfl inX6 (ref := "SweetWrapsModel") 0 (by decide) bw_673 rfl rfl dX6_restore_62 ?_
    refine gx_bipush (v := (72 : Int32)) C dX6_restore_65 (by decide) ?_
    refine gx_iald C okg_19 rfl (n := 194) (x := (72 : Int32)) (by unfold vp_in; decide) 72 (by decide) dX6_restore_67 ?_
    exact gx_iret C rfl rfl dX6_restore_68 hw
  · replace hw := hw.2 c6
    refine gx_aload_n C dX6_restore_37 0 rfl ?_
    refine gx_get C okg_18 rfl rfl inX6 (ref := "SweetWrapsModel") 0 (by decide) bw_673 rfl rfl dX6_restore_38 ?_
    refine gx_iload_n C dX6_restore_41 2 rfl ?_
    refine gx_aload_n C dX6_restore_42 0 rfl ?_
    refine gx_get C okg_18 rfl rfl inX6 (ref := "SweetWrapsModel") 4 (by decide) bw_677 rfl rfl dX6_restore_43 ?_
    refine gx_sipush (v := (194 : Int32)) C dX6_restore_46 (by decide) ?_
    refine gx_iload_n C dX6_restore_49 1 rfl ?_
    refine gx_imul C dX6_restore_50 ?_
    refine gx_iload_n C dX6_restore_51 2 rfl ?_
    refine gx_iadd C dX6_restore_52 ?_
    refine gx_iald C okg_22 rfl hw.1 _ rfl dX6_restore_53 ?_
    replace hw := hw.2
    refine gx_iast C okg_19 (fun _ => rfl) hw.1 _ rfl rfl dX6_restore_54 ?_
    replace hw := hw.2
    obtain ⟨σ7, e_σ7⟩ : ∃ z : Sg, z = up σ 12 19 0 v2.toNatClampNeg (σ 12 22 0 (((194 : Int32) * x1) + v2).toNatClampNeg) := ⟨_, rfl⟩
    replace hw := hw σ7 e_σ7
    refine gx_st e_σ7 ?_
    obtain ⟨z8, e_z8⟩ : ∃ z : Int32, z = v2 + (1 : Int32) := ⟨_, rfl⟩
    replace hw := hw z8 e_z8
    refine gx_iinc (v := z8) (lv' := [(2, .int z8), (0, .ref (ad (tE X) 12 18 0)), (1, .int x1)]) C dX6_restore_55 2 rfl (by rw [e_z8]; rfl) (by decide) rfl ?_
    refine gx_goto (tgt := 30) C dX6_restore_58 (by decide) ?_
    refine gx_sub (lv' := [(0, .ref (ad (tE X) 12 18 0)), (1, .int x1), (2, .int z8)]) [1, 2, 0] rfl ?_
    exact hK30 _ _ hw
set_option maxRecDepth 100000 in
set_option maxHeartbeats 4000000 in
theorem g_X6_restore_L30 {X : Tx} {Q : Int32 → Sg → Prop} (C : Cx X cX6_restore "SweetWrapsModel" (some .int) 1 22 3 (QI (tE X) Q)) {x1 : Int32} {v2 : Int32} {σ : Sg} (hw : wp_X6_restore_L30 x1 Q v2 σ) : G X σ [(0, .ref (ad (tE X) 12 18 0)), (1, .int x1), (2, .int v2)] [] 30 := by
  obtain ⟨n, hw⟩ := hw
  exact lpN_G (P := (fun (a : Int32 × Sg) => G X (a.2) [(0, .ref (ad (tE X) 12 18 0)), (1, .int x1), (2, .int (a.1))] [] 30)) (fun K a hK h => gs_X6_restore_L30 C (fun v2 σ h => hK (v2, σ) h) h) n _ hw
def wp_X6_restore (x1 : Int32) (σ : Sg) (Q : Int32 → Sg → Prop) : Prop := wp_X6_in x1 (0 : Int32) (1 : Int32) σ (fun r1 σ2 => ((¬ r1 = 0 → (vp_in x1 2 ∧ ((¬ (σ2 12 23 0 x1.toNatClampNeg) = 0 → wp_X6_record σ2 (fun σ5 => wp_X6_restore_L30 x1 Q (0 : Int32) σ5)) ∧ ((σ2 12 23 0 x1.toNatClampNeg) = 0 → Q (-5 : Int32) σ2)))) ∧ (r1 = 0 → Q (-2 : Int32) σ2)))
set_option maxRecDepth 100000 in
set_option maxHeartbeats 4000000 in
theorem c_X6_restore (l : Launch) (E : Ev) {x1 : Int32} {σ : Sg} {Q : Int32 → Sg → Prop} (hw : wp_X6_restore x1 σ Q) : CT l E yX6_restore cX6_restore 3 (some .int) 1 22 [.ref (ad E 12 18 0), .int x1] σ (QI E Q) := by
  refine CT_of (by decide) (Nat.le_of_ble_eq_true rfl) (fun X h1 h2 C => ?_)
  subst h1; subst h2
  have C : Cx X cX6_restore "SweetWrapsModel" (some .int) 1 22 3 (QI (tE X) Q) := C
  show G X σ [(0, .ref (ad (tE X) 12 18 0)), (1, .int x1)] [] 0
  unfold wp_X6_restore at hw
  refine gx_iload_n C dX6_restore_0 1 rfl ?_
  refine gx_iconst (v := (0 : Int32)) C dX6_restore_1 (by decide) ?_
  refine gx_iconst (v := (1 : Int32)) C dX6_restore_2 (by decide) ?_
  refine gx_scalli (As := [.int x1, .int (0 : Int32), .int (1 : Int32)]) (rest := []) C (c_X6_in _ _ hw) bw_711 bw_712 bw_7 bw_713 hyS_X6_in ⟨by decide, by decide⟩ rfl (Nat.le_of_ble_eq_true rfl) dX6_restore_3 (fun r1 σ2 hw => ?_)
  refine gx_if_ne (tgt := 12) C dX6_restore_6 (by decide) (fun c3 => ?_) (fun c3 => ?_)
  · replace hw := hw.1 c3
    refine gx_aload_n C dX6_restore_12 0 rfl ?_
    refine gx_get C okg_18 rfl rfl inX6 (ref := "SweetWrapsModel") 5 (by decide) bw_678 rfl rfl dX6_restore_13 ?_
    refine gx_iload_n C dX6_restore_16 1 rfl ?_
    refine gx_zald C okg_23 rfl hw.1 _ rfl dX6_restore_17 ?_
    replace hw := hw.2
    refine gx_if_ne (tgt := 24) C dX6_restore_18 (by decide) (fun c4 => ?_) (fun c4 => ?_)
    · replace hw := hw.1 c4
      refine gx_aload_n C dX6_restore_24 0 rfl ?_
      refine gx_vcallv (As := []) (rest := []) C (c_X6_record _ _ hw) okg_18 rfl rfl bw_714 bw_716 bs_27 bw_7 bw_717 hy_X6_record ⟨by decide, by decide⟩ rfl (Nat.le_of_ble_eq_true rfl) dX6_restore_25 (fun σ5 hw => ?_)
      refine gx_iconst (v := (0 : Int32)) C dX6_restore_28 (by decide) ?_
      refine gx_istore_n (lv' := [(2, .int (0 : Int32)), (0, .ref (ad (tE X) 12 18 0)), (1, .int x1)]) C dX6_restore_29 (by decide) rfl ?_
      refine gx_sub (lv' := [(0, .ref (ad (tE X) 12 18 0)), (1, .int x1), (2, .int (0 : Int32))]) [1, 2, 0] rfl ?_
      exact g_X6_restore_L30 C hw
    · replace hw := hw.2 c4
      refine gx_bipush (v := (-5 : Int32)) C dX6_restore_21 (by decide) ?_
      exact gx_iret C rfl rfl dX6_restore_23 hw
  · replace hw := hw.2 c3
    refine gx_bipush (v := (-2 : Int32)) C dX6_restore_9 (by decide) ?_
    exact gx_iret C rfl rfl dX6_restore_11 hw
theorem hy_X6_restore : yX6_restore.cls = "SweetWrapsModel" ∧ yX6_restore.cls ≠ "java/lang/invoke/MethodHandle" ∧ yX6_restore.cls ≠ "java/lang/invoke/VarHandle" ∧ (parseMethodDescriptor yX6_restore.desc).map (fun d => d.parameters.length) = some 1 := by decide +kernel
