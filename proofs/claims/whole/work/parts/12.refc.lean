theorem dX6_inAll_0 : decode cX6_inAll 0 = .ok (.aload_n 0, 1) := by decide +kernel
theorem dX6_inAll_1 : decode cX6_inAll 1 = .ok (.iload_n 1, 1) := by decide +kernel
theorem dX6_inAll_2 : decode cX6_inAll 2 = .ok (.iconst 0, 1) := by decide +kernel
theorem dX6_inAll_3 : decode cX6_inAll 3 = .ok (.invokevirtual 138, 3) := by decide +kernel
theorem dX6_inAll_6 : decode cX6_inAll 6 = .ok (.aload_n 0, 1) := by decide +kernel
theorem dX6_inAll_7 : decode cX6_inAll 7 = .ok (.iload_n 1, 1) := by decide +kernel
theorem dX6_inAll_8 : decode cX6_inAll 8 = .ok (.iconst 1, 1) := by decide +kernel
theorem dX6_inAll_9 : decode cX6_inAll 9 = .ok (.invokevirtual 138, 3) := by decide +kernel
theorem dX6_inAll_12 : decode cX6_inAll 12 = .ok (.iadd, 1) := by decide +kernel
theorem dX6_inAll_13 : decode cX6_inAll 13 = .ok (.ireturn, 1) := by decide +kernel
def wp_X6_inAll (x1 : Int32) (σ : Sg) (Q : Int32 → Sg → Prop) : Prop := wp_X6_inTins x1 (0 : Int32) σ (fun r1 σ2 => wp_X6_inTins x1 (1 : Int32) σ2 (fun r3 σ4 => Q (r1 + r3) σ4))
set_option maxRecDepth 100000 in
set_option maxHeartbeats 4000000 in
theorem c_X6_inAll (l : Launch) (E : Ev) {x1 : Int32} {σ : Sg} {Q : Int32 → Sg → Prop} (hw : wp_X6_inAll x1 σ Q) : CT l E yX6_inAll cX6_inAll 2 (some .int) 2 46 [.ref (ad E 12 18 0), .int x1] σ (QI E Q) := by
  refine CT_of (by decide) (Nat.le_of_ble_eq_true rfl) (fun X h1 h2 C => ?_)
  subst h1; subst h2
  have C : Cx X cX6_inAll "SweetWrapsModel" (some .int) 2 46 2 (QI (tE X) Q) := C
  show G X σ [(0, .ref (ad (tE X) 12 18 0)), (1, .int x1)] [] 0
  unfold wp_X6_inAll at hw
  refine gx_aload_n C dX6_inAll_0 0 rfl ?_
  refine gx_iload_n C dX6_inAll_1 1 rfl ?_
  refine gx_iconst (v := (0 : Int32)) C dX6_inAll_2 (by decide) ?_
  refine gx_vcalli (As := [.int x1, .int (0 : Int32)]) (rest := []) C (c_X6_inTins _ _ hw) okg_18 rfl rfl bw_876 bw_878 bs_55 bw_7 bw_879 hy_X6_inTins ⟨by decide, by decide⟩ rfl (Nat.le_of_ble_eq_true rfl) dX6_inAll_3 (fun r1 σ2 hw => ?_)
  refine gx_aload_n C dX6_inAll_6 0 rfl ?_
  refine gx_iload_n C dX6_inAll_7 1 rfl ?_
  refine gx_iconst (v := (1 : Int32)) C dX6_inAll_8 (by decide) ?_
  refine gx_vcalli (As := [.int x1, .int (1 : Int32)]) (rest := [.int r1]) C (c_X6_inTins _ _ hw) okg_18 rfl rfl bw_876 bw_878 bs_55 bw_7 bw_879 hy_X6_inTins ⟨by decide, by decide⟩ rfl (Nat.le_of_ble_eq_true rfl) dX6_inAll_9 (fun r3 σ4 hw => ?_)
  refine gx_iadd C dX6_inAll_12 ?_
  exact gx_iret C rfl rfl dX6_inAll_13 hw
theorem hy_X6_inAll : yX6_inAll.cls = "SweetWrapsModel" ∧ yX6_inAll.cls ≠ "java/lang/invoke/MethodHandle" ∧ yX6_inAll.cls ≠ "java/lang/invoke/VarHandle" ∧ (parseMethodDescriptor yX6_inAll.desc).map (fun d => d.parameters.length) = some 1 := by decide +kernel

theorem dX6_byCount_0 : decode cX6_byCount 0 = .ok (.iconst 0, 1) := by decide +kernel
theorem dX6_byCount_1 : decode cX6_byCount 1 = .ok (.istore_n 2, 1) := by decide +kernel
theorem dX6_byCount_2 : decode cX6_byCount 2 = .ok (.iload_n 2, 1) := by decide +kernel
theorem dX6_byCount_3 : decode cX6_byCount 3 = .ok (.bipush 6, 2) := by decide +kernel
theorem dX6_byCount_5 : decode cX6_byCount 5 = .ok (.if_icmp .ge 84, 3) := by decide +kernel
theorem dX6_byCount_8 : decode cX6_byCount 8 = .ok (.iconst 0, 1) := by decide +kernel
theorem dX6_byCount_9 : decode cX6_byCount 9 = .ok (.istore_n 3, 1) := by decide +kernel
theorem dX6_byCount_10 : decode cX6_byCount 10 = .ok (.iconst 0, 1) := by decide +kernel
theorem dX6_byCount_11 : decode cX6_byCount 11 = .ok (.istore 4, 2) := by decide +kernel
theorem dX6_byCount_13 : decode cX6_byCount 13 = .ok (.iload 4, 2) := by decide +kernel
theorem dX6_byCount_15 : decode cX6_byCount 15 = .ok (.bipush 6, 2) := by decide +kernel
theorem dX6_byCount_17 : decode cX6_byCount 17 = .ok (.if_icmp .ge 51, 3) := by decide +kernel
theorem dX6_byCount_20 : decode cX6_byCount 20 = .ok (.iload_n 3, 1) := by decide +kernel
theorem dX6_byCount_21 : decode cX6_byCount 21 = .ok (.aload_n 0, 1) := by decide +kernel
theorem dX6_byCount_22 : decode cX6_byCount 22 = .ok (.iload 4, 2) := by decide +kernel
theorem dX6_byCount_24 : decode cX6_byCount 24 = .ok (.invokevirtual 141, 3) := by decide +kernel
theorem dX6_byCount_27 : decode cX6_byCount 27 = .ok (.aload_n 0, 1) := by decide +kernel
theorem dX6_byCount_28 : decode cX6_byCount 28 = .ok (.iload_n 2, 1) := by decide +kernel
theorem dX6_byCount_29 : decode cX6_byCount 29 = .ok (.invokevirtual 141, 3) := by decide +kernel
theorem dX6_byCount_32 : decode cX6_byCount 32 = .ok (.if_icmp .gt 23, 3) := by decide +kernel
theorem dX6_byCount_35 : decode cX6_byCount 35 = .ok (.aload_n 0, 1) := by decide +kernel
theorem dX6_byCount_36 : decode cX6_byCount 36 = .ok (.iload 4, 2) := by decide +kernel
theorem dX6_byCount_38 : decode cX6_byCount 38 = .ok (.invokevirtual 141, 3) := by decide +kernel
theorem dX6_byCount_41 : decode cX6_byCount 41 = .ok (.aload_n 0, 1) := by decide +kernel
theorem dX6_byCount_42 : decode cX6_byCount 42 = .ok (.iload_n 2, 1) := by decide +kernel
theorem dX6_byCount_43 : decode cX6_byCount 43 = .ok (.invokevirtual 141, 3) := by decide +kernel
theorem dX6_byCount_46 : decode cX6_byCount 46 = .ok (.if_icmp .ne 13, 3) := by decide +kernel
theorem dX6_byCount_49 : decode cX6_byCount 49 = .ok (.iload 4, 2) := by decide +kernel
theorem dX6_byCount_51 : decode cX6_byCount 51 = .ok (.iload_n 2, 1) := by decide +kernel
theorem dX6_byCount_52 : decode cX6_byCount 52 = .ok (.if_icmp .ge 7, 3) := by decide +kernel
theorem dX6_byCount_55 : decode cX6_byCount 55 = .ok (.iconst 1, 1) := by decide +kernel
theorem dX6_byCount_56 : decode cX6_byCount 56 = .ok (.goto 4, 3) := by decide +kernel
theorem dX6_byCount_59 : decode cX6_byCount 59 = .ok (.iconst 0, 1) := by decide +kernel
theorem dX6_byCount_60 : decode cX6_byCount 60 = .ok (.iadd, 1) := by decide +kernel
theorem dX6_byCount_61 : decode cX6_byCount 61 = .ok (.istore_n 3, 1) := by decide +kernel
theorem dX6_byCount_62 : decode cX6_byCount 62 = .ok (.iinc 4 1, 3) := by decide +kernel
theorem dX6_byCount_65 : decode cX6_byCount 65 = .ok (.goto (-52), 3) := by decide +kernel
theorem dX6_byCount_68 : decode cX6_byCount 68 = .ok (.aload_n 0, 1) := by decide +kernel
theorem dX6_byCount_69 : decode cX6_byCount 69 = .ok (.iload_n 2, 1) := by decide +kernel
theorem dX6_byCount_70 : decode cX6_byCount 70 = .ok (.invokevirtual 141, 3) := by decide +kernel
theorem dX6_byCount_73 : decode cX6_byCount 73 = .ok (.ifCond .le 10, 3) := by decide +kernel
theorem dX6_byCount_76 : decode cX6_byCount 76 = .ok (.iload_n 3, 1) := by decide +kernel
theorem dX6_byCount_77 : decode cX6_byCount 77 = .ok (.iload_n 1, 1) := by decide +kernel
theorem dX6_byCount_78 : decode cX6_byCount 78 = .ok (.if_icmp .ne 5, 3) := by decide +kernel
theorem dX6_byCount_81 : decode cX6_byCount 81 = .ok (.iload_n 2, 1) := by decide +kernel
theorem dX6_byCount_82 : decode cX6_byCount 82 = .ok (.ireturn, 1) := by decide +kernel
theorem dX6_byCount_83 : decode cX6_byCount 83 = .ok (.iinc 2 1, 3) := by decide +kernel
theorem dX6_byCount_86 : decode cX6_byCount 86 = .ok (.goto (-84), 3) := by decide +kernel
theorem dX6_byCount_89 : decode cX6_byCount 89 = .ok (.iconst (-1), 1) := by decide +kernel
theorem dX6_byCount_90 : decode cX6_byCount 90 = .ok (.ireturn, 1) := by decide +kernel
def wp_X6_byCount_b83 (x1 : Int32) (K2 : Int32 → Sg → Prop) (Q : Int32 → Sg → Prop) (v2 : Int32) (σ : Sg) : Prop := ∀ z18 : Int32, z18 = v2 + (1 : Int32) → K2 z18 σ
set_option maxRecDepth 100000 in
set_option maxHeartbeats 4000000 in
theorem g_X6_byCount_b83 {X : Tx} {Q : Int32 → Sg → Prop} (C : Cx X cX6_byCount "SweetWrapsModel" (some .int) 3 67 5 (QI (tE X) Q)) {x1 : Int32} {K2 : Int32 → Sg → Prop} (hK2 : ∀ (v2 : Int32) (σ : Sg), K2 v2 σ → G X σ [(0, .ref (ad (tE X) 12 18 0)), (1, .int x1), (2, .int v2)] [] 2) {v2 : Int32} {σ : Sg} (hw : wp_X6_byCount_b83 x1 K2 Q v2 σ) : G X σ [(0, .ref (ad (tE X) 12 18 0)), (1, .int x1), (2, .int v2)] [] 83 := by
  unfold wp_X6_byCount_b83 at hw
  obtain ⟨z18, e_z18⟩ : ∃ z : Int32, z = v2 + (1 : Int32) := ⟨_, rfl⟩
  replace hw := hw z18 e_z18
  refine gx_iinc (v := z18) (lv' := [(2, .int z18), (0, .ref (ad (tE X) 12 18 0)), (1, .int x1)]) C dX6_byCount_83 2 rfl (by rw [e_z18]; rfl) (by decide) rfl ?_
  refine gx_goto (tgt := 2) C dX6_byCount_86 (by decide) ?_
  refine gx_sub (lv' := [(0, .ref (ad (tE X) 12 18 0)), (1, .int x1), (2, .int z18)]) [1, 2, 0] rfl ?_
  exact hK2 _ _ hw
def wp_X6_byCount_b60 (x1 : Int32) (K2 : Int32 → Sg → Prop) (K13 : Int32 → Int32 → Int32 → Sg → Prop) (Q : Int32 → Sg → Prop) (v2 : Int32) (v4 : Int32) (s0 : Int32) (s1 : Int32) (σ : Sg) : Prop := ∀ z19 : Int32, z19 = (s1 + s0) → ∀ z20 : Int32, z20 = v4 + (1 : Int32) → K13 v2 z19 z20 σ
set_option maxRecDepth 100000 in
set_option maxHeartbeats 4000000 in
theorem g_X6_byCount_b60 {X : Tx} {Q : Int32 → Sg → Prop} (C : Cx X cX6_byCount "SweetWrapsModel" (some .int) 3 67 5 (QI (tE X) Q)) {x1 : Int32} {K2 : Int32 → Sg → Prop} {K13 : Int32 → Int32 → Int32 → Sg → Prop} (hK2 : ∀ (v2 : Int32) (σ : Sg), K2 v2 σ → G X σ [(0, .ref (ad (tE X) 12 18 0)), (1, .int x1), (2, .int v2)] [] 2) (hK13 : ∀ (v2 : Int32) (v3 : Int32) (v4 : Int32) (σ : Sg), K13 v2 v3 v4 σ → G X σ [(0, .ref (ad (tE X) 12 18 0)), (1, .int x1), (2, .int v2), (3, .int v3), (4, .int v4)] [] 13) {v2 : Int32} {v4 : Int32} {s0 : Int32} {s1 : Int32} {σ : Sg} (hw : wp_X6_byCount_b60 x1 K2 K13 Q v2 v4 s0 s1 σ) : G X σ [(0, .ref (ad (tE X) 12 18 0)), (1, .int x1), (2, .int v2), (4, .int v4)] [.int s0, .int s1] 60 := by
  unfold wp_X6_byCount_b60 at hw
  refine gx_iadd C dX6_byCount_60 ?_
  obtain ⟨z19, e_z19⟩ : ∃ z : Int32, z = (s1 + s0) := ⟨_, rfl⟩
  replace hw := hw z19 e_z19
  refine gx_top e_z19 ?_
  refine gx_istore_n (lv' := [(3, .int z19), (0, .ref (ad (tE X) 12 18 0)), (1, .int x1), (2, .int v2), (4, .int v4)]) C dX6_byCount_61 (by decide) rfl ?_
  obtain ⟨z20, e_z20⟩ : ∃ z : Int32, z = v4 + (1 : Int32) := ⟨_, rfl⟩
  replace hw := hw z20 e_z20
  refine gx_iinc (v := z20) (lv' := [(4, .int z20), (3, .int z19), (0, .ref (ad (tE X) 12 18 0)), (1, .int x1), (2, .int v2)]) C dX6_byCount_62 4 rfl (by rw [e_z20]; rfl) (by decide) rfl ?_
  refine gx_goto (tgt := 13) C dX6_byCount_65 (by decide) ?_
  refine gx_sub (lv' := [(0, .ref (ad (tE X) 12 18 0)), (1, .int x1), (2, .int v2), (3, .int z19), (4, .int z20)]) [2, 3, 4, 1, 0] rfl ?_
  exact hK13 _ _ _ _ hw
def wp_X6_byCount_b59 (x1 : Int32) (K2 : Int32 → Sg → Prop) (K13 : Int32 → Int32 → Int32 → Sg → Prop) (Q : Int32 → Sg → Prop) (v2 : Int32) (v4 : Int32) (s0 : Int32) (σ : Sg) : Prop := wp_X6_byCount_b60 x1 K2 K13 Q v2 v4 (0 : Int32) s0 σ
set_option maxRecDepth 100000 in
set_option maxHeartbeats 4000000 in
theorem g_X6_byCount_b59 {X : Tx} {Q : Int32 → Sg → Prop} (C : Cx X cX6_byCount "SweetWrapsModel" (some .int) 3 67 5 (QI (tE X) Q)) {x1 : Int32} {K2 : Int32 → Sg → Prop} {K13 : Int32 → Int32 → Int32 → Sg → Prop} (hK2 : ∀ (v2 : Int32) (σ : Sg), K2 v2 σ → G X σ [(0, .ref (ad (tE X) 12 18 0)), (1, .int x1), (2, .int v2)] [] 2) (hK13 : ∀ (v2 : Int32) (v3 : Int32) (v4 : Int32) (σ : Sg), K13 v2 v3 v4 σ → G X σ [(0, .ref (ad (tE X) 12 18 0)), (1, .int x1), (2, .int v2), (3, .int v3), (4, .int v4)] [] 13) {v2 : Int32} {v4 : Int32} {s0 : Int32} {σ : Sg} (hw : wp_X6_byCount_b59 x1 K2 K13 Q v2 v4 s0 σ) : G X σ [(0, .ref (ad (tE X) 12 18 0)), (1, .int x1), (2, .int v2), (4, .int v4)] [.int s0] 59 := by
  unfold wp_X6_byCount_b59 at hw
  refine gx_iconst (v := (0 : Int32)) C dX6_byCount_59 (by decide) ?_
  exact g_X6_byCount_b60 C hK2 hK13 hw
def wp_X6_byCount_b55 (x1 : Int32) (K2 : Int32 → Sg → Prop) (K13 : Int32 → Int32 → Int32 → Sg → Prop) (Q : Int32 → Sg → Prop) (v2 : Int32) (v4 : Int32) (s0 : Int32) (σ : Sg) : Prop := wp_X6_byCount_b60 x1 K2 K13 Q v2 v4 (1 : Int32) s0 σ
set_option maxRecDepth 100000 in
set_option maxHeartbeats 4000000 in
theorem g_X6_byCount_b55 {X : Tx} {Q : Int32 → Sg → Prop} (C : Cx X cX6_byCount "SweetWrapsModel" (some .int) 3 67 5 (QI (tE X) Q)) {x1 : Int32} {K2 : Int32 → Sg → Prop} {K13 : Int32 → Int32 → Int32 → Sg → Prop} (hK2 : ∀ (v2 : Int32) (σ : Sg), K2 v2 σ → G X σ [(0, .ref (ad (tE X) 12 18 0)), (1, .int x1), (2, .int v2)] [] 2) (hK13 : ∀ (v2 : Int32) (v3 : Int32) (v4 : Int32) (σ : Sg), K13 v2 v3 v4 σ → G X σ [(0, .ref (ad (tE X) 12 18 0)), (1, .int x1), (2, .int v2), (3, .int v3), (4, .int v4)] [] 13) {v2 : Int32} {v4 : Int32} {s0 : Int32} {σ : Sg} (hw : wp_X6_byCount_b55 x1 K2 K13 Q v2 v4 s0 σ) : G X σ [(0, .ref (ad (tE X) 12 18 0)), (1, .int x1), (2, .int v2), (4, .int v4)] [.int s0] 55 := by
  unfold wp_X6_byCount_b55 at hw
  refine gx_iconst (v := (1 : Int32)) C dX6_byCount_55 (by decide) ?_
  refine gx_goto (tgt := 60) C dX6_byCount_56 (by decide) ?_
  exact g_X6_byCount_b60 C hK2 hK13 hw
def st_X6_byCount_L13 (x1 : Int32) (K2 : Int32 → Sg → Prop) (Q : Int32 → Sg → Prop) (K13 : Int32 → Int32 → Int32 → Sg → Prop) (v2 : Int32) (v3 : Int32) (v4 : Int32) (σ : Sg) : Prop := (((6 : Int32) ≤ v4 → wp_X6_inAll v2 σ (fun r3 σ4 => ((r3 ≤ 0 → wp_X6_byCount_b83 x1 K2 Q v2 σ4) ∧ (¬ r3 ≤ 0 → ((¬ v3 = x1 → wp_X6_byCount_b83 x1 K2 Q v2 σ4) ∧ (v3 = x1 → Q v2 σ4)))))) ∧ (¬ (6 : Int32) ≤ v4 → wp_X6_inAll v4 σ (fun r7 σ8 => wp_X6_inAll v2 σ8 (fun r9 σ10 => ((r9 < r7 → wp_X6_byCount_b55 x1 K2 K13 Q v2 v4 v3 σ10) ∧ (¬ r9 < r7 → wp_X6_inAll v4 σ10 (fun r12 σ13 => wp_X6_inAll v2 σ13 (fun r14 σ15 => ((¬ r12 = r14 → wp_X6_byCount_b59 x1 K2 K13 Q v2 v4 v3 σ15) ∧ (r12 = r14 → ((v2 ≤ v4 → wp_X6_byCount_b59 x1 K2 K13 Q v2 v4 v3 σ15) ∧ (¬ v2 ≤ v4 → wp_X6_byCount_b55 x1 K2 K13 Q v2 v4 v3 σ15))))))))))))
def wp_X6_byCount_L13 (x1 : Int32) (K2 : Int32 → Sg → Prop) (Q : Int32 → Sg → Prop) (v2 : Int32) (v3 : Int32) (v4 : Int32) (σ : Sg) : Prop := ∃ n : Nat, lpN (fun (K : Int32 × Int32 × Int32 × Sg → Prop) (a : Int32 × Int32 × Int32 × Sg) => st_X6_byCount_L13 x1 K2 Q (fun v2 v3 v4 σ => K (v2, v3, v4, σ)) (a.1) (a.2.1) (a.2.2.1) (a.2.2.2)) n (v2, v3, v4, σ)
set_option maxRecDepth 100000 in
set_option maxHeartbeats 4000000 in
theorem gs_X6_byCount_L13 {X : Tx} {Q : Int32 → Sg → Prop} (C : Cx X cX6_byCount "SweetWrapsModel" (some .int) 3 67 5 (QI (tE X) Q)) {x1 : Int32} {K2 : Int32 → Sg → Prop} (hK2 : ∀ (v2 : Int32) (σ : Sg), K2 v2 σ → G X σ [(0, .ref (ad (tE X) 12 18 0)), (1, .int x1), (2, .int v2)] [] 2) {K13 : Int32 → Int32 → Int32 → Sg → Prop} (hK13 : ∀ (v2 : Int32) (v3 : Int32) (v4 : Int32) (σ : Sg), K13 v2 v3 v4 σ → G X σ [(0, .ref (ad (tE X) 12 18 0)), (1, .int x1), (2, .int v2), (3, .int v3), (4, .int v4)] [] 13) {v2 : Int32} {v3 : Int32} {v4 : Int32} {σ : Sg} (hw : st_X6_byCount_L13 x1 K2 Q K13 v2 v3 v4 σ) : G X σ [(0, .ref (ad (tE X) 12 18 0)), (1, .int x1), (2, .int v2), (3, .int v3), (4, .int v4)] [] 13 := by
  unfold st_X6_byCount_L13 at hw
  refine gx_iload C dX6_byCount_13 4 rfl ?_
  refine gx_bipush (v := (6 : Int32)) C dX6_byCount_15 (by decide) ?_
  refine gx_icmp_ge (tgt := 68) C dX6_byCount_17 (by decide) (fun c2 => ?_) (fun c2 => ?_)
  · replace hw := hw.1 c2
    refine gx_aload_n C dX6_byCount_68 0 rfl ?_
    refine gx_iload_n C dX6_byCount_69 2 rfl ?_
    refine gx_vcalli (As := [.int v2]) (rest := []) C (c_X6_inAll _ _ hw) okg_18 rfl rfl bw_888 bw_890 bs_56 bw_7 bw_891 hy_X6_inAll ⟨by decide, by decide⟩ rfl (Nat.le_of_ble_eq_true rfl) dX6_byCount_70 (fun r3 σ4 hw => ?_)
    refine gx_if_le (tgt := 83) C dX6_byCount_73 (by decide) (fun c5 => ?_) (fun c5 => ?_)
    · replace hw := hw.1 c5
      refine gx_sub (lv' := [(0, .ref (ad (tE X) 12 18 0)), (1, .int x1), (2, .int v2)]) [0, 1, 2] rfl ?_
      exact g_X6_byCount_b83 C hK2 hw
    · replace hw := hw.2 c5
      refine gx_iload_n C dX6_byCount_76 3 rfl ?_
      refine gx_iload_n C dX6_byCount_77 1 rfl ?_
      refine gx_icmp_ne (tgt := 83) C dX6_byCount_78 (by decide) (fun c6 => ?_) (fun c6 => ?_)
      · replace hw := hw.1 c6
        refine gx_sub (lv' := [(0, .ref (ad (tE X) 12 18 0)), (1, .int x1), (2, .int v2)]) [0, 1, 2] rfl ?_
        exact g_X6_byCount_b83 C hK2 hw
      · replace hw := hw.2 c6
        refine gx_iload_n C dX6_byCount_81 2 rfl ?_
        exact gx_iret C rfl rfl dX6_byCount_82 hw
  · replace hw := hw.2 c2
    refine gx_iload_n C dX6_byCount_20 3 rfl ?_
    refine gx_aload_n C dX6_byCount_21 0 rfl ?_
    refine gx_iload C dX6_byCount_22 4 rfl ?_
    refine gx_vcalli (As := [.int v4]) (rest := [.int v3]) C (c_X6_inAll _ _ hw) okg_18 rfl rfl bw_888 bw_890 bs_56 bw_7 bw_891 hy_X6_inAll ⟨by decide, by decide⟩ rfl (Nat.le_of_ble_eq_true rfl) dX6_byCount_24 (fun r7 σ8 hw => ?_)
    refine gx_aload_n C dX6_byCount_27 0 rfl ?_
    refine gx_iload_n C dX6_byCount_28 2 rfl ?_
    refine gx_vcalli (As := [.int v2]) (rest := [.int r7, .int v3]) C (c_X6_inAll _ _ hw) okg_18 rfl rfl bw_888 bw_890 bs_56 bw_7 bw_891 hy_X6_inAll ⟨by decide, by decide⟩ rfl (Nat.le_of_ble_eq_true rfl) dX6_byCount_29 (fun r9 σ10 hw => ?_)
    refine gx_icmp_gt (tgt := 55) C dX6_byCount_32 (by decide) (fun c11 => ?_) (fun c11 => ?_)
    · replace hw := hw.1 c11
      refine gx_sub (lv' := [(0, .ref (ad (tE X) 12 18 0)), (1, .int x1), (2, .int v2), (4, .int v4)]) [0, 1, 2, 4] rfl ?_
      exact g_X6_byCount_b55 C hK2 hK13 hw
    · replace hw := hw.2 c11
      refine gx_aload_n C dX6_byCount_35 0 rfl ?_
      refine gx_iload C dX6_byCount_36 4 rfl ?_
      refine gx_vcalli (As := [.int v4]) (rest := [.int v3]) C (c_X6_inAll _ _ hw) okg_18 rfl rfl bw_888 bw_890 bs_56 bw_7 bw_891 hy_X6_inAll ⟨by decide, by decide⟩ rfl (Nat.le_of_ble_eq_true rfl) dX6_byCount_38 (fun r12 σ13 hw => ?_)
      refine gx_aload_n C dX6_byCount_41 0 rfl ?_
      refine gx_iload_n C dX6_byCount_42 2 rfl ?_
      refine gx_vcalli (As := [.int v2]) (rest := [.int r12, .int v3]) C (c_X6_inAll _ _ hw) okg_18 rfl rfl bw_888 bw_890 bs_56 bw_7 bw_891 hy_X6_inAll ⟨by decide, by decide⟩ rfl (Nat.le_of_ble_eq_true rfl) dX6_byCount_43 (fun r14 σ15 hw => ?_)
      refine gx_icmp_ne (tgt := 59) C dX6_byCount_46 (by decide) (fun c16 => ?_) (fun c16 => ?_)
      · replace hw := hw.1 c16
        refine gx_sub (lv' := [(0, .ref (ad (tE X) 12 18 0)), (1, .int x1), (2, .int v2), (4, .int v4)]) [0, 1, 2, 4] rfl ?_
        exact g_X6_byCount_b59 C hK2 hK13 hw
      · replace hw := hw.2 c16
        refine gx_iload C dX6_byCount_49 4 rfl ?_
        refine gx_iload_n C dX6_byCount_51 2 rfl ?_
        refine gx_icmp_ge (tgt := 59) C dX6_byCount_52 (by decide) (fun c17 => ?_) (fun c17 => ?_)
        · replace hw := hw.1 c17
          refine gx_sub (lv' := [(0, .ref (ad (tE X) 12 18 0)), (1, .int x1), (2, .int v2), (4, .int v4)]) [0, 1, 2, 4] rfl ?_
          exact g_X6_byCount_b59 C hK2 hK13 hw
        · replace hw := hw.2 c17
          refine gx_sub (lv' := [(0, .ref (ad (tE X) 12 18 0)), (1, .int x1), (2, .int v2), (4, .int v4)]) [0, 1, 2, 4] rfl ?_
          exact g_X6_byCount_b55 C hK2 hK13 hw
set_option maxRecDepth 100000 in
set_option maxHeartbeats 4000000 in
theorem g_X6_byCount_L13 {X : Tx} {Q : Int32 → Sg → Prop} (C : Cx X cX6_byCount "SweetWrapsModel" (some .int) 3 67 5 (QI (tE X) Q)) {x1 : Int32} {K2 : Int32 → Sg → Prop} (hK2 : ∀ (v2 : Int32) (σ : Sg), K2 v2 σ → G X σ [(0, .ref (ad (tE X) 12 18 0)), (1, .int x1), (2, .int v2)] [] 2) {v2 : Int32} {v3 : Int32} {v4 : Int32} {σ : Sg} (hw : wp_X6_byCount_L13 x1 K2 Q v2 v3 v4 σ) : G X σ [(0, .ref (ad (tE X) 12 18 0)), (1, .int x1), (2, .int v2), (3, .int v3), (4, .int v4)] [] 13 := by
  obtain ⟨n, hw⟩ := hw
  exact lpN_G (P := (fun (a : Int32 × Int32 × Int32 × Sg) => G X (a.2.2.2) [(0, .ref (ad (tE X) 12 18 0)), (1, .int x1), (2, .int (a.1)), (3, .int (a.2.1)), (4, .int (a.2.2.1))] [] 13)) (fun K a hK h => gs_X6_byCount_L13 C hK2 (fun v2 v3 v4 σ h => hK (v2, v3, v4, σ) h) h) n _ hw
def st_X6_byCount_L2 (x1 : Int32) (Q : Int32 → Sg → Prop) (K2 : Int32 → Sg → Prop) (v2 : Int32) (σ : Sg) : Prop := (((6 : Int32) ≤ v2 → Q (-1 : Int32) σ) ∧ (¬ (6 : Int32) ≤ v2 → wp_X6_byCount_L13 x1 K2 Q v2 (0 : Int32) (0 : Int32) σ))
def wp_X6_byCount_L2 (x1 : Int32) (Q : Int32 → Sg → Prop) (v2 : Int32) (σ : Sg) : Prop := ∃ n : Nat, lpN (fun (K : Int32 × Sg → Prop) (a : Int32 × Sg) => st_X6_byCount_L2 x1 Q (fun v2 σ => K (v2, σ)) (a.1) (a.2)) n (v2, σ)
set_option maxRecDepth 100000 in
set_option maxHeartbeats 4000000 in
theorem gs_X6_byCount_L2 {X : Tx} {Q : Int32 → Sg → Prop} (C : Cx X cX6_byCount "SweetWrapsModel" (some .int) 3 67 5 (QI (tE X) Q)) {x1 : Int32} {K2 : Int32 → Sg → Prop} (hK2 : ∀ (v2 : Int32) (σ : Sg), K2 v2 σ → G X σ [(0, .ref (ad (tE X) 12 18 0)), (1, .int x1), (2, .int v2)] [] 2) {v2 : Int32} {σ : Sg} (hw : st_X6_byCount_L2 x1 Q K2 v2 σ) : G X σ [(0, .ref (ad (tE X) 12 18 0)), (1, .int x1), (2, .int v2)] [] 2 := by
  unfold st_X6_byCount_L2 at hw
  refine gx_iload_n C dX6_byCount_2 2 rfl ?_
  refine gx_bipush (v := (6 : Int32)) C dX6_byCount_3 (by decide) ?_
  refine gx_icmp_ge (tgt := 89) C dX6_byCount_5 (by decide) (fun c1 => ?_) (fun c1 => ?_)
  · replace hw := hw.1 c1
    refine gx_iconst (v := (-1 : Int32)) C dX6_byCount_89 (by decide) ?_
    exact gx_iret C rfl rfl dX6_byCount_90 hw
  · replace hw := hw.2 c1
    refine gx_iconst (v := (0 : Int32)) C dX6_byCount_8 (by decide) ?_
    refine gx_istore_n (lv' := [(3, .int (0 : Int32)), (0, .ref (ad (tE X) 12 18 0)), (1, .int x1), (2, .int v2)]) C dX6_byCount_9 (by decide) rfl ?_
    refine gx_iconst (v := (0 : Int32)) C dX6_byCount_10 (by decide) ?_
    refine gx_istore (lv' := [(4, .int (0 : Int32)), (3, .int (0 : Int32)), (0, .ref (ad (tE X) 12 18 0)), (1, .int x1), (2, .int v2)]) C dX6_byCount_11 (by decide) rfl ?_
    refine gx_sub (lv' := [(0, .ref (ad (tE X) 12 18 0)), (1, .int x1), (2, .int v2), (3, .int (0 : Int32)), (4, .int (0 : Int32))]) [2, 3, 4, 1, 0] rfl ?_
    exact g_X6_byCount_L13 C hK2 hw
set_option maxRecDepth 100000 in
set_option maxHeartbeats 4000000 in
theorem g_X6_byCount_L2 {X : Tx} {Q : Int32 → Sg → Prop} (C : Cx X cX6_byCount "SweetWrapsModel" (some .int) 3 67 5 (QI (tE X) Q)) {x1 : Int32} {v2 : Int32} {σ : Sg} (hw : wp_X6_byCount_L2 x1 Q v2 σ) : G X σ [(0, .ref (ad (tE X) 12 18 0)), (1, .int x1), (2, .int v2)] [] 2 := by
  obtain ⟨n, hw⟩ := hw
  exact lpN_G (P := (fun (a : Int32 × Sg) => G X (a.2) [(0, .ref (ad (tE X) 12 18 0)), (1, .int x1), (2, .int (a.1))] [] 2)) (fun K a hK h => gs_X6_byCount_L2 C (fun v2 σ h => hK (v2, σ) h) h) n _ hw
def wp_X6_byCount (x1 : Int32) (σ : Sg) (Q : Int32 → Sg → Prop) : Prop := wp_X6_byCount_L2 x1 Q (0 : Int32) σ
set_option maxRecDepth 100000 in
set_option maxHeartbeats 4000000 in
theorem c_X6_byCount (l : Launch) (E : Ev) {x1 : Int32} {σ : Sg} {Q : Int32 → Sg → Prop} (hw : wp_X6_byCount x1 σ Q) : CT l E yX6_byCount cX6_byCount 5 (some .int) 3 67 [.ref (ad E 12 18 0), .int x1] σ (QI E Q) := by
  refine CT_of (by decide) (Nat.le_of_ble_eq_true rfl) (fun X h1 h2 C => ?_)
  subst h1; subst h2
  have C : Cx X cX6_byCount "SweetWrapsModel" (some .int) 3 67 5 (QI (tE X) Q) := C
  show G X σ [(0, .ref (ad (tE X) 12 18 0)), (1, .int x1)] [] 0
  unfold wp_X6_byCount at hw
  refine gx_iconst (v := (0 : Int32)) C dX6_byCount_0 (by decide) ?_
  refine gx_istore_n (lv' := [(2, .int (0 : Int32)), (0, .ref (ad (tE X) 12 18 0)), (1, .int x1)]) C dX6_byCount_1 (by decide) rfl ?_
  refine gx_sub (lv' := [(0, .ref (ad (tE X) 12 18 0)), (1, .int x1), (2, .int (0 : Int32))]) [1, 2, 0] rfl ?_
  exact g_X6_byCount_L2 C hw
theorem hy_X6_byCount : yX6_byCount.cls = "SweetWrapsModel" ∧ yX6_byCount.cls ≠ "java/lang/invoke/MethodHandle" ∧ yX6_byCount.cls ≠ "java/lang/invoke/VarHandle" ∧ (parseMethodDescriptor yX6_byCount.desc).map (fun d => d.parameters.length) = some 1 := by decide +kernel

theorem dX6_tinSet_0 : decode cX6_tinSet 0 = .ok (.iconst 0, 1) := by decide +kernel
theorem dX6_tinSet_1 : decode cX6_tinSet 1 = .ok (.istore_n 2, 1) := by decide +kernel
theorem dX6_tinSet_2 : decode cX6_tinSet 2 = .ok (.iconst 0, 1) := by decide +kernel
theorem dX6_tinSet_3 : decode cX6_tinSet 3 = .ok (.istore_n 3, 1) := by decide +kernel
theorem dX6_tinSet_4 : decode cX6_tinSet 4 = .ok (.iload_n 3, 1) := by decide +kernel
theorem dX6_tinSet_5 : decode cX6_tinSet 5 = .ok (.aload_n 0, 1) := by decide +kernel
theorem dX6_tinSet_6 : decode cX6_tinSet 6 = .ok (.getfield 7, 3) := by decide +kernel
theorem dX6_tinSet_9 : decode cX6_tinSet 9 = .ok (.bipush 72, 2) := by decide +kernel
theorem dX6_tinSet_11 : decode cX6_tinSet 11 = .ok (.iaload, 1) := by decide +kernel
theorem dX6_tinSet_12 : decode cX6_tinSet 12 = .ok (.if_icmp .ge 35, 3) := by decide +kernel
theorem dX6_tinSet_15 : decode cX6_tinSet 15 = .ok (.iload_n 2, 1) := by decide +kernel
theorem dX6_tinSet_16 : decode cX6_tinSet 16 = .ok (.aload_n 0, 1) := by decide +kernel
theorem dX6_tinSet_17 : decode cX6_tinSet 17 = .ok (.getfield 7, 3) := by decide +kernel
theorem dX6_tinSet_20 : decode cX6_tinSet 20 = .ok (.bipush 73, 2) := by decide +kernel
theorem dX6_tinSet_22 : decode cX6_tinSet 22 = .ok (.bipush 7, 2) := by decide +kernel
theorem dX6_tinSet_24 : decode cX6_tinSet 24 = .ok (.iload_n 3, 1) := by decide +kernel
theorem dX6_tinSet_25 : decode cX6_tinSet 25 = .ok (.imul, 1) := by decide +kernel
theorem dX6_tinSet_26 : decode cX6_tinSet 26 = .ok (.iadd, 1) := by decide +kernel
theorem dX6_tinSet_27 : decode cX6_tinSet 27 = .ok (.iaload, 1) := by decide +kernel
theorem dX6_tinSet_28 : decode cX6_tinSet 28 = .ok (.iload_n 1, 1) := by decide +kernel
theorem dX6_tinSet_29 : decode cX6_tinSet 29 = .ok (.if_icmp .ne 9, 3) := by decide +kernel
theorem dX6_tinSet_32 : decode cX6_tinSet 32 = .ok (.iconst 1, 1) := by decide +kernel
theorem dX6_tinSet_33 : decode cX6_tinSet 33 = .ok (.iload_n 3, 1) := by decide +kernel
theorem dX6_tinSet_34 : decode cX6_tinSet 34 = .ok (.ishl, 1) := by decide +kernel
theorem dX6_tinSet_35 : decode cX6_tinSet 35 = .ok (.goto 4, 3) := by decide +kernel
theorem dX6_tinSet_38 : decode cX6_tinSet 38 = .ok (.iconst 0, 1) := by decide +kernel
theorem dX6_tinSet_39 : decode cX6_tinSet 39 = .ok (.ior, 1) := by decide +kernel
theorem dX6_tinSet_40 : decode cX6_tinSet 40 = .ok (.istore_n 2, 1) := by decide +kernel
theorem dX6_tinSet_41 : decode cX6_tinSet 41 = .ok (.iinc 3 1, 3) := by decide +kernel
theorem dX6_tinSet_44 : decode cX6_tinSet 44 = .ok (.goto (-40), 3) := by decide +kernel
theorem dX6_tinSet_47 : decode cX6_tinSet 47 = .ok (.iload_n 2, 1) := by decide +kernel
theorem dX6_tinSet_48 : decode cX6_tinSet 48 = .ok (.ireturn, 1) := by decide +kernel
def wp_X6_tinSet_b39 (x1 : Int32) (K4 : Int32 → Int32 → Sg → Prop) (Q : Int32 → Sg → Prop) (v3 : Int32) (s0 : Int32) (s1 : Int32) (σ : Sg) : Prop := ∀ z3 : Int32, z3 = (s1 ||| s0) → ∀ z4 : Int32, z4 = v3 + (1 : Int32) → K4 z3 z4 σ
set_option maxRecDepth 100000 in
set_option maxHeartbeats 4000000 in
theorem g_X6_tinSet_b39 {X : Tx} {Q : Int32 → Sg → Prop} (C : Cx X cX6_tinSet "SweetWrapsModel" (some .int) 0 0 4 (QI (tE X) Q)) {x1 : Int32} {K4 : Int32 → Int32 → Sg → Prop} (hK4 : ∀ (v2 : Int32) (v3 : Int32) (σ : Sg), K4 v2 v3 σ → G X σ [(0, .ref (ad (tE X) 12 18 0)), (1, .int x1), (2, .int v2), (3, .int v3)] [] 4) {v3 : Int32} {s0 : Int32} {s1 : Int32} {σ : Sg} (hw : wp_X6_tinSet_b39 x1 K4 Q v3 s0 s1 σ) : G X σ [(0, .ref (ad (tE X) 12 18 0)), (1, .int x1), (3, .int v3)] [.int s0, .int s1] 39 := by
  unfold wp_X6_tinSet_b39 at hw
  refine gx_ior C dX6_tinSet_39 ?_
  obtain ⟨z3, e_z3⟩ : ∃ z : Int32, z = (s1 ||| s0) := ⟨_, rfl⟩
  replace hw := hw z3 e_z3
  refine gx_top e_z3 ?_
  refine gx_istore_n (lv' := [(2, .int z3), (0, .ref (ad (tE X) 12 18 0)), (1, .int x1), (3, .int v3)]) C dX6_tinSet_40 (by decide) rfl ?_
  obtain ⟨z4, e_z4⟩ : ∃ z : Int32, z = v3 + (1 : Int32) := ⟨_, rfl⟩
  replace hw := hw z4 e_z4
  refine gx_iinc (v := z4) (lv' := [(3, .int z4), (2, .int z3), (0, .ref (ad (tE X) 12 18 0)), (1, .int x1)]) C dX6_tinSet_41 3 rfl (by rw [e_z4]; rfl) (by decide) rfl ?_
  refine gx_goto (tgt := 4) C dX6_tinSet_44 (by decide) ?_
  refine gx_sub (lv' := [(0, .ref (ad (tE X) 12 18 0)), (1, .int x1), (2, .int z3), (3, .int z4)]) [2, 3, 1, 0] rfl ?_
  exact hK4 _ _ _ hw
def st_X6_tinSet_L4 (x1 : Int32) (Q : Int32 → Sg → Prop) (K4 : Int32 → Int32 → Sg → Prop) (v2 : Int32) (v3 : Int32) (σ : Sg) : Prop := (((σ 12 19 0 72) ≤ v3 → Q v2 σ) ∧ (¬ (σ 12 19 0 72) ≤ v3 → (vp_in ((73 : Int32) + ((7 : Int32) * v3)) 194 ∧ ((¬ (σ 12 19 0 ((73 : Int32) + ((7 : Int32) * v3)).toNatClampNeg) = x1 → wp_X6_tinSet_b39 x1 K4 Q v3 (0 : Int32) v2 σ) ∧ ((σ 12 19 0 ((73 : Int32) + ((7 : Int32) * v3)).toNatClampNeg) = x1 → wp_X6_tinSet_b39 x1 K4 Q v3 ((1 : Int32) <<< (v3 &&& 31)) v2 σ)))))
def wp_X6_tinSet_L4 (x1 : Int32) (Q : Int32 → Sg → Prop) (v2 : Int32) (v3 : Int32) (σ : Sg) : Prop := ∃ n : Nat, lpN (fun (K : Int32 × Int32 × Sg → Prop) (a : Int32 × Int32 × Sg) => st_X6_tinSet_L4 x1 Q (fun v2 v3 σ => K (v2, v3, σ)) (a.1) (a.2.1) (a.2.2)) n (v2, v3, σ)
set_option maxRecDepth 100000 in
set_option maxHeartbeats 4000000 in
theorem gs_X6_tinSet_L4 {X : Tx} {Q : Int32 → Sg → Prop} (C : Cx X cX6_tinSet "SweetWrapsModel" (some .int) 0 0 4 (QI (tE X) Q)) {x1 : Int32} {K4 : Int32 → Int32 → Sg → Prop} (hK4 : ∀ (v2 : Int32) (v3 : Int32) (σ : Sg), K4 v2 v3 σ → G X σ [(0, .ref (ad (tE X) 12 18 0)), (1, .int x1), (2, .int v2), (3, .int v3)] [] 4) {v2 : Int32} {v3 : Int32} {σ : Sg} (hw : st_X6_tinSet_L4 x1 Q K4 v2 v3 σ) : G X σ [(0, .ref (ad (tE X) 12 18 0)), (1, .int x1), (2, .int v2), (3, .int v3)] [] 4 := by
  unfold st_X6_tinSet_L4 at hw
  refine gx_iload_n C dX6_tinSet_4 3 rfl ?_
  refine gx_aload_n C dX6_tinSet_5 0 rfl ?_
  refine gx_get C okg_18 rfl rfl inX6 (ref := "SweetWrapsModel") 0 (by decide) bw_673 rfl rfl dX6_tinSet_6 ?_
  refine gx_bipush (v := (72 : Int32)) C dX6_tinSet_9 (by decide) ?_
  refine gx_iald C okg_19 rfl (n := 194) (x := (72 : Int32)) (by unfold vp_in; decide) 72 (by decide) dX6_tinSet_11 ?_
  refine gx_icmp_ge (tgt := 47) C dX6_tinSet_12 (by decide) (fun c1 => ?_) (fun c1 => ?_)
  · replace hw := hw.1 c1
    refine gx_iload_n C dX6_tinSet_47 2 rfl ?_
    exact gx_iret C rfl rfl dX6_tinSet_48 hw
  · replace hw := hw.2 c1
    refine gx_iload_n C dX6_tinSet_15 2 rfl ?_
    refine gx_aload_n C dX6_tinSet_16 0 rfl ?_
    refine gx_get C okg_18 rfl rfl inX6 (ref := "SweetWrapsModel") 0 (by decide) bw_673 rfl rfl dX6_tinSet_17 ?_
    refine gx_bipush (v := (73 : Int32)) C dX6_tinSet_20 (by decide) ?_
    refine gx_bipush (v := (7 : Int32)) C dX6_tinSet_22 (by decide) ?_
    refine gx_iload_n C dX6_tinSet_24 3 rfl ?_
    refine gx_imul C dX6_tinSet_25 ?_
    refine gx_iadd C dX6_tinSet_26 ?_
    refine gx_iald C okg_19 rfl hw.1 _ rfl dX6_tinSet_27 ?_
    replace hw := hw.2
    refine gx_iload_n C dX6_tinSet_28 1 rfl ?_
    refine gx_icmp_ne (tgt := 38) C dX6_tinSet_29 (by decide) (fun c2 => ?_) (fun c2 => ?_)
    · replace hw := hw.1 c2
      refine gx_iconst (v := (0 : Int32)) C dX6_tinSet_38 (by decide) ?_
      refine gx_sub (lv' := [(0, .ref (ad (tE X) 12 18 0)), (1, .int x1), (3, .int v3)]) [0, 1, 3] rfl ?_
      exact g_X6_tinSet_b39 C hK4 hw
    · replace hw := hw.2 c2
      refine gx_iconst (v := (1 : Int32)) C dX6_tinSet_32 (by decide) ?_
      refine gx_iload_n C dX6_tinSet_33 3 rfl ?_
      refine gx_ishl C dX6_tinSet_34 ?_
      refine gx_goto (tgt := 39) C dX6_tinSet_35 (by decide) ?_
      refine gx_sub (lv' := [(0, .ref (ad (tE X) 12 18 0)), (1, .int x1), (3, .int v3)]) [0, 1, 3] rfl ?_
      exact g_X6_tinSet_b39 C hK4 hw
set_option maxRecDepth 100000 in
set_option maxHeartbeats 4000000 in
theorem g_X6_tinSet_L4 {X : Tx} {Q : Int32 → Sg → Prop} (C : Cx X cX6_tinSet "SweetWrapsModel" (some .int) 0 0 4 (QI (tE X) Q)) {x1 : Int32} {v2 : Int32} {v3 : Int32} {σ : Sg} (hw : wp_X6_tinSet_L4 x1 Q v2 v3 σ) : G X σ [(0, .ref (ad (tE X) 12 18 0)), (1, .int x1), (2, .int v2), (3, .int v3)] [] 4 := by
  obtain ⟨n, hw⟩ := hw
  exact lpN_G (P := (fun (a : Int32 × Int32 × Sg) => G X (a.2.2) [(0, .ref (ad (tE X) 12 18 0)), (1, .int x1), (2, .int (a.1)), (3, .int (a.2.1))] [] 4)) (fun K a hK h => gs_X6_tinSet_L4 C (fun v2 v3 σ h => hK (v2, v3, σ) h) h) n _ hw
def wp_X6_tinSet (x1 : Int32) (σ : Sg) (Q : Int32 → Sg → Prop) : Prop := wp_X6_tinSet_L4 x1 Q (0 : Int32) (0 : Int32) σ
set_option maxRecDepth 100000 in
set_option maxHeartbeats 4000000 in
theorem c_X6_tinSet (l : Launch) (E : Ev) {x1 : Int32} {σ : Sg} {Q : Int32 → Sg → Prop} (hw : wp_X6_tinSet x1 σ Q) : CT l E yX6_tinSet cX6_tinSet 4 (some .int) 0 0 [.ref (ad E 12 18 0), .int x1] σ (QI E Q) := by
  refine CT_of (by decide) (Nat.le_of_ble_eq_true rfl) (fun X h1 h2 C => ?_)
  subst h1; subst h2
  have C : Cx X cX6_tinSet "SweetWrapsModel" (some .int) 0 0 4 (QI (tE X) Q) := C
  show G X σ [(0, .ref (ad (tE X) 12 18 0)), (1, .int x1)] [] 0
  unfold wp_X6_tinSet at hw
  refine gx_iconst (v := (0 : Int32)) C dX6_tinSet_0 (by decide) ?_
  refine gx_istore_n (lv' := [(2, .int (0 : Int32)), (0, .ref (ad (tE X) 12 18 0)), (1, .int x1)]) C dX6_tinSet_1 (by decide) rfl ?_
  refine gx_iconst (v := (0 : Int32)) C dX6_tinSet_2 (by decide) ?_
  refine gx_istore_n (lv' := [(3, .int (0 : Int32)), (2, .int (0 : Int32)), (0, .ref (ad (tE X) 12 18 0)), (1, .int x1)]) C dX6_tinSet_3 (by decide) rfl ?_
  refine gx_sub (lv' := [(0, .ref (ad (tE X) 12 18 0)), (1, .int x1), (2, .int (0 : Int32)), (3, .int (0 : Int32))]) [2, 3, 1, 0] rfl ?_
  exact g_X6_tinSet_L4 C hw
theorem hy_X6_tinSet : yX6_tinSet.cls = "SweetWrapsModel" ∧ yX6_tinSet.cls ≠ "java/lang/invoke/MethodHandle" ∧ yX6_tinSet.cls ≠ "java/lang/invoke/VarHandle" ∧ (parseMethodDescriptor yX6_tinSet.desc).map (fun d => d.parameters.length) = some 1 := by decide +kernel

theorem dX6_lanes_0 : decode cX6_lanes 0 = .ok (.iconst 0, 1) := by decide +kernel
theorem dX6_lanes_1 : decode cX6_lanes 1 = .ok (.istore_n 2, 1) := by decide +kernel
theorem dX6_lanes_2 : decode cX6_lanes 2 = .ok (.iconst 0, 1) := by decide +kernel
theorem dX6_lanes_3 : decode cX6_lanes 3 = .ok (.istore_n 3, 1) := by decide +kernel
theorem dX6_lanes_4 : decode cX6_lanes 4 = .ok (.iload_n 3, 1) := by decide +kernel
theorem dX6_lanes_5 : decode cX6_lanes 5 = .ok (.iconst 4, 1) := by decide +kernel
theorem dX6_lanes_6 : decode cX6_lanes 6 = .ok (.if_icmp .ge 30, 3) := by decide +kernel
theorem dX6_lanes_9 : decode cX6_lanes 9 = .ok (.iload_n 2, 1) := by decide +kernel
theorem dX6_lanes_10 : decode cX6_lanes 10 = .ok (.iload_n 1, 1) := by decide +kernel
theorem dX6_lanes_11 : decode cX6_lanes 11 = .ok (.ifCond .ge 11, 3) := by decide +kernel
theorem dX6_lanes_14 : decode cX6_lanes 14 = .ok (.aload_n 0, 1) := by decide +kernel
theorem dX6_lanes_15 : decode cX6_lanes 15 = .ok (.iload_n 3, 1) := by decide +kernel
theorem dX6_lanes_16 : decode cX6_lanes 16 = .ok (.invokevirtual 91, 3) := by decide +kernel
theorem dX6_lanes_19 : decode cX6_lanes 19 = .ok (.goto 9, 3) := by decide +kernel
theorem dX6_lanes_22 : decode cX6_lanes 22 = .ok (.aload_n 0, 1) := by decide +kernel
theorem dX6_lanes_23 : decode cX6_lanes 23 = .ok (.iload_n 3, 1) := by decide +kernel
theorem dX6_lanes_24 : decode cX6_lanes 24 = .ok (.iload_n 1, 1) := by decide +kernel
theorem dX6_lanes_25 : decode cX6_lanes 25 = .ok (.invokevirtual 40, 3) := by decide +kernel
theorem dX6_lanes_28 : decode cX6_lanes 28 = .ok (.iadd, 1) := by decide +kernel
theorem dX6_lanes_29 : decode cX6_lanes 29 = .ok (.istore_n 2, 1) := by decide +kernel
theorem dX6_lanes_30 : decode cX6_lanes 30 = .ok (.iinc 3 1, 3) := by decide +kernel
theorem dX6_lanes_33 : decode cX6_lanes 33 = .ok (.goto (-29), 3) := by decide +kernel
theorem dX6_lanes_36 : decode cX6_lanes 36 = .ok (.iload_n 2, 1) := by decide +kernel
theorem dX6_lanes_37 : decode cX6_lanes 37 = .ok (.ireturn, 1) := by decide +kernel
def wp_X6_lanes_b28 (x1 : Int32) (K4 : Int32 → Int32 → Sg → Prop) (Q : Int32 → Sg → Prop) (v3 : Int32) (s0 : Int32) (s1 : Int32) (σ : Sg) : Prop := ∀ z7 : Int32, z7 = (s1 + s0) → ∀ z8 : Int32, z8 = v3 + (1 : Int32) → K4 z7 z8 σ
set_option maxRecDepth 100000 in
set_option maxHeartbeats 4000000 in
theorem g_X6_lanes_b28 {X : Tx} {Q : Int32 → Sg → Prop} (C : Cx X cX6_lanes "SweetWrapsModel" (some .int) 3 67 4 (QI (tE X) Q)) {x1 : Int32} {K4 : Int32 → Int32 → Sg → Prop} (hK4 : ∀ (v2 : Int32) (v3 : Int32) (σ : Sg), K4 v2 v3 σ → G X σ [(0, .ref (ad (tE X) 12 18 0)), (1, .int x1), (2, .int v2), (3, .int v3)] [] 4) {v3 : Int32} {s0 : Int32} {s1 : Int32} {σ : Sg} (hw : wp_X6_lanes_b28 x1 K4 Q v3 s0 s1 σ) : G X σ [(0, .ref (ad (tE X) 12 18 0)), (1, .int x1), (3, .int v3)] [.int s0, .int s1] 28 := by
  unfold wp_X6_lanes_b28 at hw
  refine gx_iadd C dX6_lanes_28 ?_
  obtain ⟨z7, e_z7⟩ : ∃ z : Int32, z = (s1 + s0) := ⟨_, rfl⟩
  replace hw := hw z7 e_z7
  refine gx_top e_z7 ?_
  refine gx_istore_n (lv' := [(2, .int z7), (0, .ref (ad (tE X) 12 18 0)), (1, .int x1), (3, .int v3)]) C dX6_lanes_29 (by decide) rfl ?_
  obtain ⟨z8, e_z8⟩ : ∃ z : Int32, z = v3 + (1 : Int32) := ⟨_, rfl⟩
  replace hw := hw z8 e_z8
  refine gx_iinc (v := z8) (lv' := [(3, .int z8), (2, .int z7), (0, .ref (ad (tE X) 12 18 0)), (1, .int x1)]) C dX6_lanes_30 3 rfl (by rw [e_z8]; rfl) (by decide) rfl ?_
  refine gx_goto (tgt := 4) C dX6_lanes_33 (by decide) ?_
  refine gx_sub (lv' := [(0, .ref (ad (tE X) 12 18 0)), (1, .int x1), (2, .int z7), (3, .int z8)]) [2, 3, 1, 0] rfl ?_
  exact hK4 _ _ _ hw
def st_X6_lanes_L4 (x1 : Int32) (Q : Int32 → Sg → Prop) (K4 : Int32 → Int32 → Sg → Prop) (v2 : Int32) (v3 : Int32) (σ : Sg) : Prop := (((4 : Int32) ≤ v3 → Q v2 σ) ∧ (¬ (4 : Int32) ≤ v3 → ((0 ≤ x1 → wp_X6_lane v3 x1 σ (fun r3 σ4 => wp_X6_lanes_b28 x1 K4 Q v3 r3 v2 σ4)) ∧ (¬ 0 ≤ x1 → wp_X6_inHopper v3 σ (fun r5 σ6 => wp_X6_lanes_b28 x1 K4 Q v3 r5 v2 σ6)))))
def wp_X6_lanes_L4 (x1 : Int32) (Q : Int32 → Sg → Prop) (v2 : Int32) (v3 : Int32) (σ : Sg) : Prop := ∃ n : Nat, lpN (fun (K : Int32 × Int32 × Sg → Prop) (a : Int32 × Int32 × Sg) => st_X6_lanes_L4 x1 Q (fun v2 v3 σ => K (v2, v3, σ)) (a.1) (a.2.1) (a.2.2)) n (v2, v3, σ)
set_option maxRecDepth 100000 in
set_option maxHeartbeats 4000000 in
theorem gs_X6_lanes_L4 {X : Tx} {Q : Int32 → Sg → Prop} (C : Cx X cX6_lanes "SweetWrapsModel" (some .int) 3 67 4 (QI (tE X) Q)) {x1 : Int32} {K4 : Int32 → Int32 → Sg → Prop} (hK4 : ∀ (v2 : Int32) (v3 : Int32) (σ : Sg), K4 v2 v3 σ → G X σ [(0, .ref (ad (tE X) 12 18 0)), (1, .int x1), (2, .int v2), (3, .int v3)] [] 4) {v2 : Int32} {v3 : Int32} {σ : Sg} (hw : st_X6_lanes_L4 x1 Q K4 v2 v3 σ) : G X σ [(0, .ref (ad (tE X) 12 18 0)), (1, .int x1), (2, .int v2), (3, .int v3)] [] 4 := by
  unfold st_X6_lanes_L4 at hw
  refine gx_iload_n C dX6_lanes_4 3 rfl ?_
  refine gx_iconst (v := (4 : Int32)) C dX6_lanes_5 (by decide) ?_
  refine gx_icmp_ge (tgt := 36) C dX6_lanes_6 (by decide) (fun c1 => ?_) (fun c1 => ?_)
  · replace hw := hw.1 c1
    refine gx_iload_n C dX6_lanes_36 2 rfl ?_
    exact gx_iret C rfl rfl dX6_lanes_37 hw
  · replace hw := hw.2 c1
    refine gx_iload_n C dX6_lanes_9 2 rfl ?_
    refine gx_iload_n C dX6_lanes_10 1 rfl ?_
    refine gx_if_ge (tgt := 22) C dX6_lanes_11 (by decide) (fun c2 => ?_) (fun c2 => ?_)
    · replace hw := hw.1 c2
      refine gx_aload_n C dX6_lanes_22 0 rfl ?_
      refine gx_iload_n C dX6_lanes_23 3 rfl ?_
      refine gx_iload_n C dX6_lanes_24 1 rfl ?_
      refine gx_vcalli (As := [.int v3, .int x1]) (rest := [.int v2]) C (c_X6_lane _ _ hw) okg_18 rfl rfl bw_740 bw_742 bs_31 bw_7 bw_743 hy_X6_lane ⟨by decide, by decide⟩ rfl (Nat.le_of_ble_eq_true rfl) dX6_lanes_25 (fun r3 σ4 hw => ?_)
      refine gx_sub (lv' := [(0, .ref (ad (tE X) 12 18 0)), (1, .int x1), (3, .int v3)]) [0, 1, 3] rfl ?_
      exact g_X6_lanes_b28 C hK4 hw
    · replace hw := hw.2 c2
      refine gx_aload_n C dX6_lanes_14 0 rfl ?_
      refine gx_iload_n C dX6_lanes_15 3 rfl ?_
      refine gx_vcalli (As := [.int v3]) (rest := [.int v2]) C (c_X6_inHopper _ _ hw) okg_18 rfl rfl bw_744 bw_746 bs_32 bw_7 bw_747 hy_X6_inHopper ⟨by decide, by decide⟩ rfl (Nat.le_of_ble_eq_true rfl) dX6_lanes_16 (fun r5 σ6 hw => ?_)
      refine gx_goto (tgt := 28) C dX6_lanes_19 (by decide) ?_
      refine gx_sub (lv' := [(0, .ref (ad (tE X) 12 18 0)), (1, .int x1), (3, .int v3)]) [0, 1, 3] rfl ?_
      exact g_X6_lanes_b28 C hK4 hw
set_option maxRecDepth 100000 in
set_option maxHeartbeats 4000000 in
theorem g_X6_lanes_L4 {X : Tx} {Q : Int32 → Sg → Prop} (C : Cx X cX6_lanes "SweetWrapsModel" (some .int) 3 67 4 (QI (tE X) Q)) {x1 : Int32} {v2 : Int32} {v3 : Int32} {σ : Sg} (hw : wp_X6_lanes_L4 x1 Q v2 v3 σ) : G X σ [(0, .ref (ad (tE X) 12 18 0)), (1, .int x1), (2, .int v2), (3, .int v3)] [] 4 := by
  obtain ⟨n, hw⟩ := hw
  exact lpN_G (P := (fun (a : Int32 × Int32 × Sg) => G X (a.2.2) [(0, .ref (ad (tE X) 12 18 0)), (1, .int x1), (2, .int (a.1)), (3, .int (a.2.1))] [] 4)) (fun K a hK h => gs_X6_lanes_L4 C (fun v2 v3 σ h => hK (v2, v3, σ) h) h) n _ hw
def wp_X6_lanes (x1 : Int32) (σ : Sg) (Q : Int32 → Sg → Prop) : Prop := wp_X6_lanes_L4 x1 Q (0 : Int32) (0 : Int32) σ
set_option maxRecDepth 100000 in
set_option maxHeartbeats 4000000 in
theorem c_X6_lanes (l : Launch) (E : Ev) {x1 : Int32} {σ : Sg} {Q : Int32 → Sg → Prop} (hw : wp_X6_lanes x1 σ Q) : CT l E yX6_lanes cX6_lanes 4 (some .int) 3 67 [.ref (ad E 12 18 0), .int x1] σ (QI E Q) := by
  refine CT_of (by decide) (Nat.le_of_ble_eq_true rfl) (fun X h1 h2 C => ?_)
  subst h1; subst h2
  have C : Cx X cX6_lanes "SweetWrapsModel" (some .int) 3 67 4 (QI (tE X) Q) := C
  show G X σ [(0, .ref (ad (tE X) 12 18 0)), (1, .int x1)] [] 0
  unfold wp_X6_lanes at hw
  refine gx_iconst (v := (0 : Int32)) C dX6_lanes_0 (by decide) ?_
  refine gx_istore_n (lv' := [(2, .int (0 : Int32)), (0, .ref (ad (tE X) 12 18 0)), (1, .int x1)]) C dX6_lanes_1 (by decide) rfl ?_
  refine gx_iconst (v := (0 : Int32)) C dX6_lanes_2 (by decide) ?_
  refine gx_istore_n (lv' := [(3, .int (0 : Int32)), (2, .int (0 : Int32)), (0, .ref (ad (tE X) 12 18 0)), (1, .int x1)]) C dX6_lanes_3 (by decide) rfl ?_
  refine gx_sub (lv' := [(0, .ref (ad (tE X) 12 18 0)), (1, .int x1), (2, .int (0 : Int32)), (3, .int (0 : Int32))]) [2, 3, 1, 0] rfl ?_
  exact g_X6_lanes_L4 C hw
theorem hy_X6_lanes : yX6_lanes.cls = "SweetWrapsModel" ∧ yX6_lanes.cls ≠ "java/lang/invoke/MethodHandle" ∧ yX6_lanes.cls ≠ "java/lang/invoke/VarHandle" ∧ (parseMethodDescriptor yX6_lanes.desc).map (fun d => d.parameters.length) = some 1 := by decide +kernel

theorem dX6_shippedSweets_0 : decode cX6_shippedSweets 0 = .ok (.iconst 0, 1) := by decide +kernel
theorem dX6_shippedSweets_1 : decode cX6_shippedSweets 1 = .ok (.istore_n 1, 1) := by decide +kernel
theorem dX6_shippedSweets_2 : decode cX6_shippedSweets 2 = .ok (.iconst 0, 1) := by decide +kernel
theorem dX6_shippedSweets_3 : decode cX6_shippedSweets 3 = .ok (.istore_n 2, 1) := by decide +kernel
theorem dX6_shippedSweets_4 : decode cX6_shippedSweets 4 = .ok (.iload_n 2, 1) := by decide +kernel
theorem dX6_shippedSweets_5 : decode cX6_shippedSweets 5 = .ok (.bipush 6, 2) := by decide +kernel
theorem dX6_shippedSweets_7 : decode cX6_shippedSweets 7 = .ok (.if_icmp .ge 18, 3) := by decide +kernel
theorem dX6_shippedSweets_10 : decode cX6_shippedSweets 10 = .ok (.iload_n 1, 1) := by decide +kernel
theorem dX6_shippedSweets_11 : decode cX6_shippedSweets 11 = .ok (.aload_n 0, 1) := by decide +kernel
theorem dX6_shippedSweets_12 : decode cX6_shippedSweets 12 = .ok (.iload_n 2, 1) := by decide +kernel
theorem dX6_shippedSweets_13 : decode cX6_shippedSweets 13 = .ok (.iconst 1, 1) := by decide +kernel
theorem dX6_shippedSweets_14 : decode cX6_shippedSweets 14 = .ok (.invokevirtual 138, 3) := by decide +kernel
theorem dX6_shippedSweets_17 : decode cX6_shippedSweets 17 = .ok (.iadd, 1) := by decide +kernel
theorem dX6_shippedSweets_18 : decode cX6_shippedSweets 18 = .ok (.istore_n 1, 1) := by decide +kernel
theorem dX6_shippedSweets_19 : decode cX6_shippedSweets 19 = .ok (.iinc 2 1, 3) := by decide +kernel
theorem dX6_shippedSweets_22 : decode cX6_shippedSweets 22 = .ok (.goto (-18), 3) := by decide +kernel
theorem dX6_shippedSweets_25 : decode cX6_shippedSweets 25 = .ok (.iload_n 1, 1) := by decide +kernel
theorem dX6_shippedSweets_26 : decode cX6_shippedSweets 26 = .ok (.ireturn, 1) := by decide +kernel
def st_X6_shippedSweets_L4 (Q : Int32 → Sg → Prop) (K4 : Int32 → Int32 → Sg → Prop) (v1 : Int32) (v2 : Int32) (σ : Sg) : Prop := (((6 : Int32) ≤ v2 → Q v1 σ) ∧ (¬ (6 : Int32) ≤ v2 → wp_X6_inTins v2 (1 : Int32) σ (fun r2 σ3 => ∀ z4 : Int32, z4 = (v1 + r2) → ∀ z5 : Int32, z5 = v2 + (1 : Int32) → K4 z4 z5 σ3)))
def wp_X6_shippedSweets_L4 (Q : Int32 → Sg → Prop) (v1 : Int32) (v2 : Int32) (σ : Sg) : Prop := ∃ n : Nat, lpN (fun (K : Int32 × Int32 × Sg → Prop) (a : Int32 × Int32 × Sg) => st_X6_shippedSweets_L4 Q (fun v1 v2 σ => K (v1, v2, σ)) (a.1) (a.2.1) (a.2.2)) n (v1, v2, σ)
set_option maxRecDepth 100000 in
set_option maxHeartbeats 4000000 in
theorem gs_X6_shippedSweets_L4 {X : Tx} {Q : Int32 → Sg → Prop} (C : Cx X cX6_shippedSweets "SweetWrapsModel" (some .int) 2 46 3 (QI (tE X) Q)) {K4 : Int32 → Int32 → Sg → Prop} (hK4 : ∀ (v1 : Int32) (v2 : Int32) (σ : Sg), K4 v1 v2 σ → G X σ [(0, .ref (ad (tE X) 12 18 0)), (1, .int v1), (2, .int v2)] [] 4) {v1 : Int32} {v2 : Int32} {σ : Sg} (hw : st_X6_shippedSweets_L4 Q K4 v1 v2 σ) : G X σ [(0, .ref (ad (tE X) 12 18 0)), (1, .int v1), (2, .int v2)] [] 4 := by
  unfold st_X6_shippedSweets_L4 at hw
  refine gx_iload_n C dX6_shippedSweets_4 2 rfl ?_
  refine gx_bipush (v := (6 : Int32)) C dX6_shippedSweets_5 (by decide) ?_
  refine gx_icmp_ge (tgt := 25) C dX6_shippedSweets_7 (by decide) (fun c1 => ?_) (fun c1 => ?_)
  · replace hw := hw.1 c1
    refine gx_iload_n C dX6_shippedSweets_25 1 rfl ?_
    exact gx_iret C rfl rfl dX6_shippedSweets_26 hw
  · replace hw := hw.2 c1
    refine gx_iload_n C dX6_shippedSweets_10 1 rfl ?_
    refine gx_aload_n C dX6_shippedSweets_11 0 rfl ?_
    refine gx_iload_n C dX6_shippedSweets_12 2 rfl ?_
    refine gx_iconst (v := (1 : Int32)) C dX6_shippedSweets_13 (by decide) ?_
    refine gx_vcalli (As := [.int v2, .int (1 : Int32)]) (rest := [.int v1]) C (c_X6_inTins _ _ hw) okg_18 rfl rfl bw_876 bw_878 bs_55 bw_7 bw_879 hy_X6_inTins ⟨by decide, by decide⟩ rfl (Nat.le_of_ble_eq_true rfl) dX6_shippedSweets_14 (fun r2 σ3 hw => ?_)
    refine gx_iadd C dX6_shippedSweets_17 ?_
    obtain ⟨z4, e_z4⟩ : ∃ z : Int32, z = (v1 + r2) := ⟨_, rfl⟩
    replace hw := hw z4 e_z4
    refine gx_top e_z4 ?_
    refine gx_istore_n (lv' := [(1, .int z4), (0, .ref (ad (tE X) 12 18 0)), (2, .int v2)]) C dX6_shippedSweets_18 (by decide) rfl ?_
    obtain ⟨z5, e_z5⟩ : ∃ z : Int32, z = v2 + (1 : Int32) := ⟨_, rfl⟩
    replace hw := hw z5 e_z5
    refine gx_iinc (v := z5) (lv' := [(2, .int z5), (1, .int z4), (0, .ref (ad (tE X) 12 18 0))]) C dX6_shippedSweets_19 2 rfl (by rw [e_z5]; rfl) (by decide) rfl ?_
    refine gx_goto (tgt := 4) C dX6_shippedSweets_22 (by decide) ?_
    refine gx_sub (lv' := [(0, .ref (ad (tE X) 12 18 0)), (1, .int z4), (2, .int z5)]) [2, 1, 0] rfl ?_
    exact hK4 _ _ _ hw
set_option maxRecDepth 100000 in
set_option maxHeartbeats 4000000 in
theorem g_X6_shippedSweets_L4 {X : Tx} {Q : Int32 → Sg → Prop} (C : Cx X cX6_shippedSweets "SweetWrapsModel" (some .int) 2 46 3 (QI (tE X) Q)) {v1 : Int32} {v2 : Int32} {σ : Sg} (hw : wp_X6_shippedSweets_L4 Q v1 v2 σ) : G X σ [(0, .ref (ad (tE X) 12 18 0)), (1, .int v1), (2, .int v2)] [] 4 := by
  obtain ⟨n, hw⟩ := hw
  exact lpN_G (P := (fun (a : Int32 × Int32 × Sg) => G X (a.2.2) [(0, .ref (ad (tE X) 12 18 0)), (1, .int (a.1)), (2, .int (a.2.1))] [] 4)) (fun K a hK h => gs_X6_shippedSweets_L4 C (fun v1 v2 σ h => hK (v1, v2, σ) h) h) n _ hw
def wp_X6_shippedSweets (σ : Sg) (Q : Int32 → Sg → Prop) : Prop := wp_X6_shippedSweets_L4 Q (0 : Int32) (0 : Int32) σ
set_option maxRecDepth 100000 in
set_option maxHeartbeats 4000000 in
theorem c_X6_shippedSweets (l : Launch) (E : Ev) {σ : Sg} {Q : Int32 → Sg → Prop} (hw : wp_X6_shippedSweets σ Q) : CT l E yX6_shippedSweets cX6_shippedSweets 3 (some .int) 2 46 [.ref (ad E 12 18 0)] σ (QI E Q) := by
  refine CT_of (by decide) (Nat.le_of_ble_eq_true rfl) (fun X h1 h2 C => ?_)
  subst h1; subst h2
  have C : Cx X cX6_shippedSweets "SweetWrapsModel" (some .int) 2 46 3 (QI (tE X) Q) := C
  show G X σ [(0, .ref (ad (tE X) 12 18 0))] [] 0
  unfold wp_X6_shippedSweets at hw
  refine gx_iconst (v := (0 : Int32)) C dX6_shippedSweets_0 (by decide) ?_
  refine gx_istore_n (lv' := [(1, .int (0 : Int32)), (0, .ref (ad (tE X) 12 18 0))]) C dX6_shippedSweets_1 (by decide) rfl ?_
  refine gx_iconst (v := (0 : Int32)) C dX6_shippedSweets_2 (by decide) ?_
  refine gx_istore_n (lv' := [(2, .int (0 : Int32)), (1, .int (0 : Int32)), (0, .ref (ad (tE X) 12 18 0))]) C dX6_shippedSweets_3 (by decide) rfl ?_
  refine gx_sub (lv' := [(0, .ref (ad (tE X) 12 18 0)), (1, .int (0 : Int32)), (2, .int (0 : Int32))]) [2, 1, 0] rfl ?_
  exact g_X6_shippedSweets_L4 C hw
theorem hy_X6_shippedSweets : yX6_shippedSweets.cls = "SweetWrapsModel" ∧ yX6_shippedSweets.cls ≠ "java/lang/invoke/MethodHandle" ∧ yX6_shippedSweets.cls ≠ "java/lang/invoke/VarHandle" ∧ (parseMethodDescriptor yX6_shippedSweets.desc).map (fun d => d.parameters.length) = some 0 := by decide +kernel

theorem dX6_failing_0 : decode cX6_failing 0 = .ok (.iconst 0, 1) := by decide +kernel
theorem dX6_failing_1 : decode cX6_failing 1 = .ok (.istore_n 1, 1) := by decide +kernel
theorem dX6_failing_2 : decode cX6_failing 2 = .ok (.iconst 0, 1) := by decide +kernel
theorem dX6_failing_3 : decode cX6_failing 3 = .ok (.istore_n 2, 1) := by decide +kernel
theorem dX6_failing_4 : decode cX6_failing 4 = .ok (.iload_n 2, 1) := by decide +kernel
theorem dX6_failing_5 : decode cX6_failing 5 = .ok (.iconst 4, 1) := by decide +kernel
theorem dX6_failing_6 : decode cX6_failing 6 = .ok (.if_icmp .ge 27, 3) := by decide +kernel
theorem dX6_failing_9 : decode cX6_failing 9 = .ok (.iload_n 1, 1) := by decide +kernel
theorem dX6_failing_10 : decode cX6_failing 10 = .ok (.aload_n 0, 1) := by decide +kernel
theorem dX6_failing_11 : decode cX6_failing 11 = .ok (.iload_n 2, 1) := by decide +kernel
theorem dX6_failing_12 : decode cX6_failing 12 = .ok (.invokevirtual 75, 3) := by decide +kernel
theorem dX6_failing_15 : decode cX6_failing 15 = .ok (.ifCond .le 9, 3) := by decide +kernel
theorem dX6_failing_18 : decode cX6_failing 18 = .ok (.iconst 1, 1) := by decide +kernel
theorem dX6_failing_19 : decode cX6_failing 19 = .ok (.iload_n 2, 1) := by decide +kernel
theorem dX6_failing_20 : decode cX6_failing 20 = .ok (.ishl, 1) := by decide +kernel
theorem dX6_failing_21 : decode cX6_failing 21 = .ok (.goto 4, 3) := by decide +kernel
theorem dX6_failing_24 : decode cX6_failing 24 = .ok (.iconst 0, 1) := by decide +kernel
theorem dX6_failing_25 : decode cX6_failing 25 = .ok (.ior, 1) := by decide +kernel
theorem dX6_failing_26 : decode cX6_failing 26 = .ok (.istore_n 1, 1) := by decide +kernel
theorem dX6_failing_27 : decode cX6_failing 27 = .ok (.iinc 2 1, 3) := by decide +kernel
theorem dX6_failing_30 : decode cX6_failing 30 = .ok (.goto (-26), 3) := by decide +kernel
theorem dX6_failing_33 : decode cX6_failing 33 = .ok (.iload_n 1, 1) := by decide +kernel
theorem dX6_failing_34 : decode cX6_failing 34 = .ok (.ireturn, 1) := by decide +kernel
def wp_X6_failing_b25 (K4 : Int32 → Int32 → Sg → Prop) (Q : Int32 → Sg → Prop) (v2 : Int32) (s0 : Int32) (s1 : Int32) (σ : Sg) : Prop := ∀ z5 : Int32, z5 = (s1 ||| s0) → ∀ z6 : Int32, z6 = v2 + (1 : Int32) → K4 z5 z6 σ
set_option maxRecDepth 100000 in
set_option maxHeartbeats 4000000 in
theorem g_X6_failing_b25 {X : Tx} {Q : Int32 → Sg → Prop} (C : Cx X cX6_failing "SweetWrapsModel" (some .int) 5 110 3 (QI (tE X) Q)) {K4 : Int32 → Int32 → Sg → Prop} (hK4 : ∀ (v1 : Int32) (v2 : Int32) (σ : Sg), K4 v1 v2 σ → G X σ [(0, .ref (ad (tE X) 12 18 0)), (1, .int v1), (2, .int v2)] [] 4) {v2 : Int32} {s0 : Int32} {s1 : Int32} {σ : Sg} (hw : wp_X6_failing_b25 K4 Q v2 s0 s1 σ) : G X σ [(0, .ref (ad (tE X) 12 18 0)), (2, .int v2)] [.int s0, .int s1] 25 := by
  unfold wp_X6_failing_b25 at hw
  refine gx_ior C dX6_failing_25 ?_
  obtain ⟨z5, e_z5⟩ : ∃ z : Int32, z = (s1 ||| s0) := ⟨_, rfl⟩
  replace hw := hw z5 e_z5
  refine gx_top e_z5 ?_
  refine gx_istore_n (lv' := [(1, .int z5), (0, .ref (ad (tE X) 12 18 0)), (2, .int v2)]) C dX6_failing_26 (by decide) rfl ?_
  obtain ⟨z6, e_z6⟩ : ∃ z : Int32, z = v2 + (1 : Int32) := ⟨_, rfl⟩
  replace hw := hw z6 e_z6
  refine gx_iinc (v := z6) (lv' := [(2, .int z6), (1, .int z5), (0, .ref (ad (tE X) 12 18 0))]) C dX6_failing_27 2 rfl (by rw [e_z6]; rfl) (by decide) rfl ?_
  refine gx_goto (tgt := 4) C dX6_failing_30 (by decide) ?_
  refine gx_sub (lv' := [(0, .ref (ad (tE X) 12 18 0)), (1, .int z5), (2, .int z6)]) [2, 1, 0] rfl ?_
  exact hK4 _ _ _ hw
def st_X6_failing_L4 (Q : Int32 → Sg → Prop) (K4 : Int32 → Int32 → Sg → Prop) (v1 : Int32) (v2 : Int32) (σ : Sg) : Prop := (((4 : Int32) ≤ v2 → Q v1 σ) ∧ (¬ (4 : Int32) ≤ v2 → wp_X6_reason v2 σ (fun r2 σ3 => ((r2 ≤ 0 → wp_X6_failing_b25 K4 Q v2 (0 : Int32) v1 σ3) ∧ (¬ r2 ≤ 0 → wp_X6_failing_b25 K4 Q v2 ((1 : Int32) <<< (v2 &&& 31)) v1 σ3)))))
def wp_X6_failing_L4 (Q : Int32 → Sg → Prop) (v1 : Int32) (v2 : Int32) (σ : Sg) : Prop := ∃ n : Nat, lpN (fun (K : Int32 × Int32 × Sg → Prop) (a : Int32 × Int32 × Sg) => st_X6_failing_L4 Q (fun v1 v2 σ => K (v1, v2, σ)) (a.1) (a.2.1) (a.2.2)) n (v1, v2, σ)
set_option maxRecDepth 100000 in
set_option maxHeartbeats 4000000 in
theorem gs_X6_failing_L4 {X : Tx} {Q : Int32 → Sg → Prop} (C : Cx X cX6_failing "SweetWrapsModel" (some .int) 5 110 3 (QI (tE X) Q)) {K4 : Int32 → Int32 → Sg → Prop} (hK4 : ∀ (v1 : Int32) (v2 : Int32) (σ : Sg), K4 v1 v2 σ → G X σ [(0, .ref (ad (tE X) 12 18 0)), (1, .int v1), (2, .int v2)] [] 4) {v1 : Int32} {v2 : Int32} {σ : Sg} (hw : st_X6_failing_L4 Q K4 v1 v2 σ) : G X σ [(0, .ref (ad (tE X) 12 18 0)), (1, .int v1), (2, .int v2)] [] 4 := by
  unfold st_X6_failing_L4 at hw
  refine gx_iload_n C dX6_failing_4 2 rfl ?_
  refine gx_iconst (v := (4 : Int32)) C dX6_failing_5 (by decide) ?_
  refine gx_icmp_ge (tgt := 33) C dX6_failing_6 (by decide) (fun c1 => ?_) (fun c1 => ?_)
  · replace hw := hw.1 c1
    refine gx_iload_n C dX6_failing_33 1 rfl ?_
    exact gx_iret C rfl rfl dX6_failing_34 hw
  · replace hw := hw.2 c1
    refine gx_iload_n C dX6_failing_9 1 rfl ?_
    refine gx_aload_n C dX6_failing_10 0 rfl ?_
    refine gx_iload_n C dX6_failing_11 2 rfl ?_
    refine gx_vcalli (As := [.int v2]) (rest := [.int v1]) C (c_X6_reason _ _ hw) okg_18 rfl rfl bw_824 bw_826 bs_47 bw_7 bw_827 hy_X6_reason ⟨by decide, by decide⟩ rfl (Nat.le_of_ble_eq_true rfl) dX6_failing_12 (fun r2 σ3 hw => ?_)
    refine gx_if_le (tgt := 24) C dX6_failing_15 (by decide) (fun c4 => ?_) (fun c4 => ?_)
    · replace hw := hw.1 c4
      refine gx_iconst (v := (0 : Int32)) C dX6_failing_24 (by decide) ?_
      refine gx_sub (lv' := [(0, .ref (ad (tE X) 12 18 0)), (2, .int v2)]) [0, 2] rfl ?_
      exact g_X6_failing_b25 C hK4 hw
    · replace hw := hw.2 c4
      refine gx_iconst (v := (1 : Int32)) C dX6_failing_18 (by decide) ?_
      refine gx_iload_n C dX6_failing_19 2 rfl ?_
      refine gx_ishl C dX6_failing_20 ?_
      refine gx_goto (tgt := 25) C dX6_failing_21 (by decide) ?_
      refine gx_sub (lv' := [(0, .ref (ad (tE X) 12 18 0)), (2, .int v2)]) [0, 2] rfl ?_
      exact g_X6_failing_b25 C hK4 hw
set_option maxRecDepth 100000 in
set_option maxHeartbeats 4000000 in
theorem g_X6_failing_L4 {X : Tx} {Q : Int32 → Sg → Prop} (C : Cx X cX6_failing "SweetWrapsModel" (some .int) 5 110 3 (QI (tE X) Q)) {v1 : Int32} {v2 : Int32} {σ : Sg} (hw : wp_X6_failing_L4 Q v1 v2 σ) : G X σ [(0, .ref (ad (tE X) 12 18 0)), (1, .int v1), (2, .int v2)] [] 4 := by
  obtain ⟨n, hw⟩ := hw
  exact lpN_G (P := (fun (a : Int32 × Int32 × Sg) => G X (a.2.2) [(0, .ref (ad (tE X) 12 18 0)), (1, .int (a.1)), (2, .int (a.2.1))] [] 4)) (fun K a hK h => gs_X6_failing_L4 C (fun v1 v2 σ h => hK (v1, v2, σ) h) h) n _ hw
def wp_X6_failing (σ : Sg) (Q : Int32 → Sg → Prop) : Prop := wp_X6_failing_L4 Q (0 : Int32) (0 : Int32) σ
set_option maxRecDepth 100000 in
set_option maxHeartbeats 4000000 in
theorem c_X6_failing (l : Launch) (E : Ev) {σ : Sg} {Q : Int32 → Sg → Prop} (hw : wp_X6_failing σ Q) : CT l E yX6_failing cX6_failing 3 (some .int) 5 110 [.ref (ad E 12 18 0)] σ (QI E Q) := by
  refine CT_of (by decide) (Nat.le_of_ble_eq_true rfl) (fun X h1 h2 C => ?_)
  subst h1; subst h2
  have C : Cx X cX6_failing "SweetWrapsModel" (some .int) 5 110 3 (QI (tE X) Q) := C
  show G X σ [(0, .ref (ad (tE X) 12 18 0))] [] 0
  unfold wp_X6_failing at hw
  refine gx_iconst (v := (0 : Int32)) C dX6_failing_0 (by decide) ?_
  refine gx_istore_n (lv' := [(1, .int (0 : Int32)), (0, .ref (ad (tE X) 12 18 0))]) C dX6_failing_1 (by decide) rfl ?_
  refine gx_iconst (v := (0 : Int32)) C dX6_failing_2 (by decide) ?_
  refine gx_istore_n (lv' := [(2, .int (0 : Int32)), (1, .int (0 : Int32)), (0, .ref (ad (tE X) 12 18 0))]) C dX6_failing_3 (by decide) rfl ?_
  refine gx_sub (lv' := [(0, .ref (ad (tE X) 12 18 0)), (1, .int (0 : Int32)), (2, .int (0 : Int32))]) [2, 1, 0] rfl ?_
  exact g_X6_failing_L4 C hw
theorem hy_X6_failing : yX6_failing.cls = "SweetWrapsModel" ∧ yX6_failing.cls ≠ "java/lang/invoke/MethodHandle" ∧ yX6_failing.cls ≠ "java/lang/invoke/VarHandle" ∧ (parseMethodDescriptor yX6_failing.desc).map (fun d => d.parameters.length) = some 0 := by decide +kernel

theorem dX6_count_0 : decode cX6_count 0 = .ok (.iload_n 1, 1) := by decide +kernel
theorem dX6_count_1 : decode cX6_count 1 = .ok (.tableswitch 172 0 16 #[83, 92, 100, 100, 108, 114, 121, 126, 133, 133, 147, 152, 152, 152, 152, 162, 167], 83) := by decide +kernel
theorem dX6_count_84 : decode cX6_count 84 = .ok (.aload_n 0, 1) := by decide +kernel
theorem dX6_count_85 : decode cX6_count 85 = .ok (.getfield 7, 3) := by decide +kernel
theorem dX6_count_88 : decode cX6_count 88 = .ok (.sipush 191, 3) := by decide +kernel
theorem dX6_count_91 : decode cX6_count 91 = .ok (.iaload, 1) := by decide +kernel
theorem dX6_count_92 : decode cX6_count 92 = .ok (.ireturn, 1) := by decide +kernel
theorem dX6_count_93 : decode cX6_count 93 = .ok (.aload_n 0, 1) := by decide +kernel
theorem dX6_count_94 : decode cX6_count 94 = .ok (.getfield 7, 3) := by decide +kernel
theorem dX6_count_97 : decode cX6_count 97 = .ok (.bipush 72, 2) := by decide +kernel
theorem dX6_count_99 : decode cX6_count 99 = .ok (.iaload, 1) := by decide +kernel
theorem dX6_count_100 : decode cX6_count 100 = .ok (.ireturn, 1) := by decide +kernel
theorem dX6_count_101 : decode cX6_count 101 = .ok (.aload_n 0, 1) := by decide +kernel
theorem dX6_count_102 : decode cX6_count 102 = .ok (.iload_n 1, 1) := by decide +kernel
theorem dX6_count_103 : decode cX6_count 103 = .ok (.iconst 2, 1) := by decide +kernel
theorem dX6_count_104 : decode cX6_count 104 = .ok (.isub, 1) := by decide +kernel
theorem dX6_count_105 : decode cX6_count 105 = .ok (.invokevirtual 144, 3) := by decide +kernel
theorem dX6_count_108 : decode cX6_count 108 = .ok (.ireturn, 1) := by decide +kernel
theorem dX6_count_109 : decode cX6_count 109 = .ok (.aload_n 0, 1) := by decide +kernel
theorem dX6_count_110 : decode cX6_count 110 = .ok (.iconst (-1), 1) := by decide +kernel
theorem dX6_count_111 : decode cX6_count 111 = .ok (.invokevirtual 147, 3) := by decide +kernel
theorem dX6_count_114 : decode cX6_count 114 = .ok (.ireturn, 1) := by decide +kernel
theorem dX6_count_115 : decode cX6_count 115 = .ok (.aload_n 0, 1) := by decide +kernel
theorem dX6_count_116 : decode cX6_count 116 = .ok (.bipush 16, 2) := by decide +kernel
theorem dX6_count_118 : decode cX6_count 118 = .ok (.invokevirtual 147, 3) := by decide +kernel
theorem dX6_count_121 : decode cX6_count 121 = .ok (.ireturn, 1) := by decide +kernel
theorem dX6_count_122 : decode cX6_count 122 = .ok (.aload_n 0, 1) := by decide +kernel
theorem dX6_count_123 : decode cX6_count 123 = .ok (.invokevirtual 150, 3) := by decide +kernel
theorem dX6_count_126 : decode cX6_count 126 = .ok (.ireturn, 1) := by decide +kernel
theorem dX6_count_127 : decode cX6_count 127 = .ok (.aload_n 0, 1) := by decide +kernel
theorem dX6_count_128 : decode cX6_count 128 = .ok (.bipush 13, 2) := by decide +kernel
theorem dX6_count_130 : decode cX6_count 130 = .ok (.invokevirtual 147, 3) := by decide +kernel
theorem dX6_count_133 : decode cX6_count 133 = .ok (.ireturn, 1) := by decide +kernel
theorem dX6_count_134 : decode cX6_count 134 = .ok (.aload_n 0, 1) := by decide +kernel
theorem dX6_count_135 : decode cX6_count 135 = .ok (.getfield 7, 3) := by decide +kernel
theorem dX6_count_138 : decode cX6_count 138 = .ok (.sipush 192, 3) := by decide +kernel
theorem dX6_count_141 : decode cX6_count 141 = .ok (.iload_n 1, 1) := by decide +kernel
theorem dX6_count_142 : decode cX6_count 142 = .ok (.iadd, 1) := by decide +kernel
theorem dX6_count_143 : decode cX6_count 143 = .ok (.bipush 8, 2) := by decide +kernel
theorem dX6_count_145 : decode cX6_count 145 = .ok (.isub, 1) := by decide +kernel
theorem dX6_count_146 : decode cX6_count 146 = .ok (.iaload, 1) := by decide +kernel
theorem dX6_count_147 : decode cX6_count 147 = .ok (.ireturn, 1) := by decide +kernel
theorem dX6_count_148 : decode cX6_count 148 = .ok (.aload_n 0, 1) := by decide +kernel
theorem dX6_count_149 : decode cX6_count 149 = .ok (.invokevirtual 153, 3) := by decide +kernel
theorem dX6_count_152 : decode cX6_count 152 = .ok (.ireturn, 1) := by decide +kernel
theorem dX6_count_153 : decode cX6_count 153 = .ok (.aload_n 0, 1) := by decide +kernel
theorem dX6_count_154 : decode cX6_count 154 = .ok (.getfield 7, 3) := by decide +kernel
theorem dX6_count_157 : decode cX6_count 157 = .ok (.iload_n 1, 1) := by decide +kernel
theorem dX6_count_158 : decode cX6_count 158 = .ok (.bipush 11, 2) := by decide +kernel
theorem dX6_count_160 : decode cX6_count 160 = .ok (.isub, 1) := by decide +kernel
theorem dX6_count_161 : decode cX6_count 161 = .ok (.iaload, 1) := by decide +kernel
theorem dX6_count_162 : decode cX6_count 162 = .ok (.ireturn, 1) := by decide +kernel
theorem dX6_count_163 : decode cX6_count 163 = .ok (.aload_n 0, 1) := by decide +kernel
theorem dX6_count_164 : decode cX6_count 164 = .ok (.getfield 156, 3) := by decide +kernel
theorem dX6_count_167 : decode cX6_count 167 = .ok (.ireturn, 1) := by decide +kernel
theorem dX6_count_168 : decode cX6_count 168 = .ok (.aload_n 0, 1) := by decide +kernel
theorem dX6_count_169 : decode cX6_count 169 = .ok (.getfield 32, 3) := by decide +kernel
theorem dX6_count_172 : decode cX6_count 172 = .ok (.ireturn, 1) := by decide +kernel
theorem dX6_count_173 : decode cX6_count 173 = .ok (.bipush (-2), 2) := by decide +kernel
theorem dX6_count_175 : decode cX6_count 175 = .ok (.ireturn, 1) := by decide +kernel
def wp_X6_count (x1 : Int32) (σ : Sg) (Q : Int32 → Sg → Prop) : Prop := ((x1 = (0 : Int32) → Q (σ 12 19 0 191) σ) ∧ (¬ x1 = (0 : Int32) → ((x1 = (1 : Int32) → Q (σ 12 19 0 72) σ) ∧ (¬ x1 = (1 : Int32) → ((x1 = (2 : Int32) → wp_X6_tinSet (x1 - (2 : Int32)) σ (fun r18 σ19 => Q r18 σ19)) ∧ (¬ x1 = (2 : Int32) → ((x1 = (3 : Int32) → wp_X6_tinSet (x1 - (2 : Int32)) σ (fun r20 σ21 => Q r20 σ21)) ∧ (¬ x1 = (3 : Int32) → ((x1 = (4 : Int32) → wp_X6_lanes (-1 : Int32) σ (fun r22 σ23 => Q r22 σ23)) ∧ (¬ x1 = (4 : Int32) → ((x1 = (5 : Int32) → wp_X6_lanes (16 : Int32) σ (fun r24 σ25 => Q r24 σ25)) ∧ (¬ x1 = (5 : Int32) → ((x1 = (6 : Int32) → wp_X6_shippedSweets σ (fun r26 σ27 => Q r26 σ27)) ∧ (¬ x1 = (6 : Int32) → ((x1 = (7 : Int32) → wp_X6_lanes (13 : Int32) σ (fun r28 σ29 => Q r28 σ29)) ∧ (¬ x1 = (7 : Int32) → ((x1 = (8 : Int32) → (vp_in (((192 : Int32) + x1) - (8 : Int32)) 194 ∧ Q (σ 12 19 0 (((192 : Int32) + x1) - (8 : Int32)).toNatClampNeg) σ)) ∧ (¬ x1 = (8 : Int32) → ((x1 = (9 : Int32) → (vp_in (((192 : Int32) + x1) - (8 : Int32)) 194 ∧ Q (σ 12 19 0 (((192 : Int32) + x1) - (8 : Int32)).toNatClampNeg) σ)) ∧ (¬ x1 = (9 : Int32) → ((x1 = (10 : Int32) → wp_X6_failing σ (fun r30 σ31 => Q r30 σ31)) ∧ (¬ x1 = (10 : Int32) → ((x1 = (11 : Int32) → (vp_in (x1 - (11 : Int32)) 194 ∧ Q (σ 12 19 0 (x1 - (11 : Int32)).toNatClampNeg) σ)) ∧ (¬ x1 = (11 : Int32) → ((x1 = (12 : Int32) → (vp_in (x1 - (11 : Int32)) 194 ∧ Q (σ 12 19 0 (x1 - (11 : Int32)).toNatClampNeg) σ)) ∧ (¬ x1 = (12 : Int32) → ((x1 = (13 : Int32) → (vp_in (x1 - (11 : Int32)) 194 ∧ Q (σ 12 19 0 (x1 - (11 : Int32)).toNatClampNeg) σ)) ∧ (¬ x1 = (13 : Int32) → ((x1 = (14 : Int32) → (vp_in (x1 - (11 : Int32)) 194 ∧ Q (σ 12 19 0 (x1 - (11 : Int32)).toNatClampNeg) σ)) ∧ (¬ x1 = (14 : Int32) → ((x1 = (15 : Int32) → Q (σ 12 18 0 7) σ) ∧ (¬ x1 = (15 : Int32) → ((x1 = (16 : Int32) → Q (σ 12 18 0 3) σ) ∧ (¬ x1 = (16 : Int32) → Q (-2 : Int32) σ))))))))))))))))))))))))))))))))))
set_option maxRecDepth 100000 in
set_option maxHeartbeats 4000000 in
theorem c_X6_count (l : Launch) (E : Ev) {x1 : Int32} {σ : Sg} {Q : Int32 → Sg → Prop} (hw : wp_X6_count x1 σ Q) : CT l E yX6_count cX6_count 2 (some .int) 6 132 [.ref (ad E 12 18 0), .int x1] σ (QI E Q) := by
  refine CT_of (by decide) (Nat.le_of_ble_eq_true rfl) (fun X h1 h2 C => ?_)
  subst h1; subst h2
  have C : Cx X cX6_count "SweetWrapsModel" (some .int) 6 132 2 (QI (tE X) Q) := C
  show G X σ [(0, .ref (ad (tE X) 12 18 0)), (1, .int x1)] [] 0
  unfold wp_X6_count at hw
  refine gx_iload_n C dX6_count_0 1 rfl ?_
  by_cases c1 : x1 = (0 : Int32)
  · replace hw := hw.1 c1
    refine gx_table (tgt := 84) (off := 83) C dX6_count_1 (0 : Int32) c1 (by decide) (by decide) rfl (by decide) ?_
    refine gx_aload_n C dX6_count_84 0 rfl ?_
    refine gx_get C okg_18 rfl rfl inX6 (ref := "SweetWrapsModel") 0 (by decide) bw_673 rfl rfl dX6_count_85 ?_
    refine gx_sipush (v := (191 : Int32)) C dX6_count_88 (by decide) ?_
    refine gx_iald C okg_19 rfl (n := 194) (x := (191 : Int32)) (by unfold vp_in; decide) 191 (by decide) dX6_count_91 ?_
    exact gx_iret C rfl rfl dX6_count_92 hw
  · replace hw := hw.2 c1
    by_cases c2 : x1 = (1 : Int32)
    · replace hw := hw.1 c2
      refine gx_table (tgt := 93) (off := 92) C dX6_count_1 (1 : Int32) c2 (by decide) (by decide) rfl (by decide) ?_
      refine gx_aload_n C dX6_count_93 0 rfl ?_
      refine gx_get C okg_18 rfl rfl inX6 (ref := "SweetWrapsModel") 0 (by decide) bw_673 rfl rfl dX6_count_94 ?_
      refine gx_bipush (v := (72 : Int32)) C dX6_count_97 (by decide) ?_
      refine gx_iald C okg_19 rfl (n := 194) (x := (72 : Int32)) (by unfold vp_in; decide) 72 (by decide) dX6_count_99 ?_
      exact gx_iret C rfl rfl dX6_count_100 hw
    · replace hw := hw.2 c2
      by_cases c3 : x1 = (2 : Int32)
      · replace hw := hw.1 c3
        refine gx_table (tgt := 101) (off := 100) C dX6_count_1 (2 : Int32) c3 (by decide) (by decide) rfl (by decide) ?_
        refine gx_aload_n C dX6_count_101 0 rfl ?_
        refine gx_iload_n C dX6_count_102 1 rfl ?_
        refine gx_iconst (v := (2 : Int32)) C dX6_count_103 (by decide) ?_
        refine gx_isub C dX6_count_104 ?_
        refine gx_vcalli (As := [.int (x1 - (2 : Int32))]) (rest := []) C (c_X6_tinSet _ _ hw) okg_18 rfl rfl bw_896 bw_898 bs_57 bw_7 bw_899 hy_X6_tinSet ⟨by decide, by decide⟩ rfl (Nat.le_of_ble_eq_true rfl) dX6_count_105 (fun r18 σ19 hw => ?_)
        exact gx_iret C rfl rfl dX6_count_108 hw
      · replace hw := hw.2 c3
        by_cases c4 : x1 = (3 : Int32)
        · replace hw := hw.1 c4
          refine gx_table (tgt := 101) (off := 100) C dX6_count_1 (3 : Int32) c4 (by decide) (by decide) rfl (by decide) ?_
          refine gx_aload_n C dX6_count_101 0 rfl ?_
          refine gx_iload_n C dX6_count_102 1 rfl ?_
          refine gx_iconst (v := (2 : Int32)) C dX6_count_103 (by decide) ?_
          refine gx_isub C dX6_count_104 ?_
          refine gx_vcalli (As := [.int (x1 - (2 : Int32))]) (rest := []) C (c_X6_tinSet _ _ hw) okg_18 rfl rfl bw_896 bw_898 bs_57 bw_7 bw_899 hy_X6_tinSet ⟨by decide, by decide⟩ rfl (Nat.le_of_ble_eq_true rfl) dX6_count_105 (fun r20 σ21 hw => ?_)
          exact gx_iret C rfl rfl dX6_count_108 hw
        · replace hw := hw.2 c4
          by_cases c5 : x1 = (4 : Int32)
          · replace hw := hw.1 c5
            refine gx_table (tgt := 109) (off := 108) C dX6_count_1 (4 : Int32) c5 (by decide) (by decide) rfl (by decide) ?_
            refine gx_aload_n C dX6_count_109 0 rfl ?_
            refine gx_iconst (v := (-1 : Int32)) C dX6_count_110 (by decide) ?_
            refine gx_vcalli (As := [.int (-1 : Int32)]) (rest := []) C (c_X6_lanes _ _ hw) okg_18 rfl rfl bw_900 bw_902 bs_58 bw_7 bw_903 hy_X6_lanes ⟨by decide, by decide⟩ rfl (Nat.le_of_ble_eq_true rfl) dX6_count_111 (fun r22 σ23 hw => ?_)
            exact gx_iret C rfl rfl dX6_count_114 hw
          · replace hw := hw.2 c5
            by_cases c6 : x1 = (5 : Int32)
            · replace hw := hw.1 c6
              refine gx_table (tgt := 115) (off := 114) C dX6_count_1 (5 : Int32) c6 (by decide) (by decide) rfl (by decide) ?_
              refine gx_aload_n C dX6_count_115 0 rfl ?_
              refine gx_bipush (v := (16 : Int32)) C dX6_count_116 (by decide) ?_
              refine gx_vcalli (As := [.int (16 : Int32)]) (rest := []) C (c_X6_lanes _ _ hw) okg_18 rfl rfl bw_900 bw_902 bs_58 bw_7 bw_903 hy_X6_lanes ⟨by decide, by decide⟩ rfl (Nat.le_of_ble_eq_true rfl) dX6_count_118 (fun r24 σ25 hw => ?_)
              exact gx_iret C rfl rfl dX6_count_121 hw
            · replace hw := hw.2 c6
              by_cases c7 : x1 = (6 : Int32)
              · replace hw := hw.1 c7
                refine gx_table (tgt := 122) (off := 121) C dX6_count_1 (6 : Int32) c7 (by decide) (by decide) rfl (by decide) ?_
                refine gx_aload_n C dX6_count_122 0 rfl ?_
                refine gx_vcalli (As := []) (rest := []) C (c_X6_shippedSweets _ _ hw) okg_18 rfl rfl bw_904 bw_906 bs_59 bw_7 bw_907 hy_X6_shippedSweets ⟨by decide, by decide⟩ rfl (Nat.le_of_ble_eq_true rfl) dX6_count_123 (fun r26 σ27 hw => ?_)
                exact gx_iret C rfl rfl dX6_count_126 hw
              · replace hw := hw.2 c7
                by_cases c8 : x1 = (7 : Int32)
                · replace hw := hw.1 c8
                  refine gx_table (tgt := 127) (off := 126) C dX6_count_1 (7 : Int32) c8 (by decide) (by decide) rfl (by decide) ?_
                  refine gx_aload_n C dX6_count_127 0 rfl ?_
                  refine gx_bipush (v := (13 : Int32)) C dX6_count_128 (by decide) ?_
                  refine gx_vcalli (As := [.int (13 : Int32)]) (rest := []) C (c_X6_lanes _ _ hw) okg_18 rfl rfl bw_900 bw_902 bs_58 bw_7 bw_903 hy_X6_lanes ⟨by decide, by decide⟩ rfl (Nat.le_of_ble_eq_true rfl) dX6_count_130 (fun r28 σ29 hw => ?_)
                  exact gx_iret C rfl rfl dX6_count_133 hw
                · replace hw := hw.2 c8
                  by_cases c9 : x1 = (8 : Int32)
                  · replace hw := hw.1 c9
                    refine gx_table (tgt := 134) (off := 133) C dX6_count_1 (8 : Int32) c9 (by decide) (by decide) rfl (by decide) ?_
                    refine gx_aload_n C dX6_count_134 0 rfl ?_
                    refine gx_get C okg_18 rfl rfl inX6 (ref := "SweetWrapsModel") 0 (by decide) bw_673 rfl rfl dX6_count_135 ?_
                    refine gx_sipush (v := (192 : Int32)) C dX6_count_138 (by decide) ?_
                    refine gx_iload_n C dX6_count_141 1 rfl ?_
                    refine gx_iadd C dX6_count_142 ?_
                    refine gx_bipush (v := (8 : Int32)) C dX6_count_143 (by decide) ?_
                    refine gx_isub C dX6_count_145 ?_
                    refine gx_iald C okg_19 rfl hw.1 _ rfl dX6_count_146 ?_
                    replace hw := hw.2
                    exact gx_iret C rfl rfl dX6_count_147 hw
                  · replace hw := hw.2 c9
                    by_cases c10 : x1 = (9 : Int32)
                    · replace hw := hw.1 c10
                      refine gx_table (tgt := 134) (off := 133) C dX6_count_1 (9 : Int32) c10 (by decide) (by decide) rfl (by decide) ?_
                      refine gx_aload_n C dX6_count_134 0 rfl ?_
                      refine gx_get C okg_18 rfl rfl inX6 (ref := "SweetWrapsModel") 0 (by decide) bw_673 rfl rfl dX6_count_135 ?_
                      refine gx_sipush (v := (192 : Int32)) C dX6_count_138 (by decide) ?_
                      refine gx_iload_n C dX6_count_141 1 rfl ?_
                      refine gx_iadd C dX6_count_142 ?_
                      refine gx_bipush (v := (8 : Int32)) C dX6_count_143 (by decide) ?_
                      refine gx_isub C dX6_count_145 ?_
                      refine gx_iald C okg_19 rfl hw.1 _ rfl dX6_count_146 ?_
                      replace hw := hw.2
                      exact gx_iret C rfl rfl dX6_count_147 hw
                    · replace hw := hw.2 c10
                      by_cases c11 : x1 = (10 : Int32)
                      · replace hw := hw.1 c11
                        refine gx_table (tgt := 148) (off := 147) C dX6_count_1 (10 : Int32) c11 (by decide) (by decide) rfl (by decide) ?_
                        refine gx_aload_n C dX6_count_148 0 rfl ?_
                        refine gx_vcalli (As := []) (rest := []) C (c_X6_failing _ _ hw) okg_18 rfl rfl bw_908 bw_910 bs_60 bw_7 bw_911 hy_X6_failing ⟨by decide, by decide⟩ rfl (Nat.le_of_ble_eq_true rfl) dX6_count_149 (fun r30 σ31 hw => ?_)
                        exact gx_iret C rfl rfl dX6_count_152 hw
                      · replace hw := hw.2 c11
                        by_cases c12 : x1 = (11 : Int32)
                        · replace hw := hw.1 c12
                          refine gx_table (tgt := 153) (off := 152) C dX6_count_1 (11 : Int32) c12 (by decide) (by decide) rfl (by decide) ?_
                          refine gx_aload_n C dX6_count_153 0 rfl ?_
                          refine gx_get C okg_18 rfl rfl inX6 (ref := "SweetWrapsModel") 0 (by decide) bw_673 rfl rfl dX6_count_154 ?_
                          refine gx_iload_n C dX6_count_157 1 rfl ?_
                          refine gx_bipush (v := (11 : Int32)) C dX6_count_158 (by decide) ?_
                          refine gx_isub C dX6_count_160 ?_
                          refine gx_iald C okg_19 rfl hw.1 _ rfl dX6_count_161 ?_
                          replace hw := hw.2
                          exact gx_iret C rfl rfl dX6_count_162 hw
                        · replace hw := hw.2 c12
                          by_cases c13 : x1 = (12 : Int32)
                          · replace hw := hw.1 c13
                            refine gx_table (tgt := 153) (off := 152) C dX6_count_1 (12 : Int32) c13 (by decide) (by decide) rfl (by decide) ?_
                            refine gx_aload_n C dX6_count_153 0 rfl ?_
                            refine gx_get C okg_18 rfl rfl inX6 (ref := "SweetWrapsModel") 0 (by decide) bw_673 rfl rfl dX6_count_154 ?_
                            refine gx_iload_n C dX6_count_157 1 rfl ?_
                            refine gx_bipush (v := (11 : Int32)) C dX6_count_158 (by decide) ?_
                            refine gx_isub C dX6_count_160 ?_
                            refine gx_iald C okg_19 rfl hw.1 _ rfl dX6_count_161 ?_
                            replace hw := hw.2
                            exact gx_iret C rfl rfl dX6_count_162 hw
                          · replace hw := hw.2 c13
                            by_cases c14 : x1 = (13 : Int32)
                            · replace hw := hw.1 c14
                              refine gx_table (tgt := 153) (off := 152) C dX6_count_1 (13 : Int32) c14 (by decide) (by decide) rfl (by decide) ?_
                              refine gx_aload_n C dX6_count_153 0 rfl ?_
                              refine gx_get C okg_18 rfl rfl inX6 (ref := "SweetWrapsModel") 0 (by decide) bw_673 rfl rfl dX6_count_154 ?_
                              refine gx_iload_n C dX6_count_157 1 rfl ?_
                              refine gx_bipush (v := (11 : Int32)) C dX6_count_158 (by decide) ?_
                              refine gx_isub C dX6_count_160 ?_
                              refine gx_iald C okg_19 rfl hw.1 _ rfl dX6_count_161 ?_
                              replace hw := hw.2
                              exact gx_iret C rfl rfl dX6_count_162 hw
                            · replace hw := hw.2 c14
                              by_cases c15 : x1 = (14 : Int32)
                              · replace hw := hw.1 c15
                                refine gx_table (tgt := 153) (off := 152) C dX6_count_1 (14 : Int32) c15 (by decide) (by decide) rfl (by decide) ?_
                                refine gx_aload_n C dX6_count_153 0 rfl ?_
                                refine gx_get C okg_18 rfl rfl inX6 (ref := "SweetWrapsModel") 0 (by decide) bw_673 rfl rfl dX6_count_154 ?_
                                refine gx_iload_n C dX6_count_157 1 rfl ?_
                                refine gx_bipush (v := (11 : Int32)) C dX6_count_158 (by decide) ?_
                                refine gx_isub C dX6_count_160 ?_
                                refine gx_iald C okg_19 rfl hw.1 _ rfl dX6_count_161 ?_
                                replace hw := hw.2
                                exact gx_iret C rfl rfl dX6_count_162 hw
                              · replace hw := hw.2 c15
                                by_cases c16 : x1 = (15 : Int32)
                                · replace hw := hw.1 c16
                                  refine gx_table (tgt := 163) (off := 162) C dX6_count_1 (15 : Int32) c16 (by decide) (by decide) rfl (by decide) ?_
                                  refine gx_aload_n C dX6_count_163 0 rfl ?_
                                  refine gx_get C okg_18 rfl rfl inX6 (ref := "SweetWrapsModel") 7 (by decide) bw_680 rfl rfl dX6_count_164 ?_
                                  exact gx_iret C rfl rfl dX6_count_167 hw
                                · replace hw := hw.2 c16
                                  by_cases c17 : x1 = (16 : Int32)
                                  · replace hw := hw.1 c17
                                    refine gx_table (tgt := 168) (off := 167) C dX6_count_1 (16 : Int32) c17 (by decide) (by decide) rfl (by decide) ?_
                                    refine gx_aload_n C dX6_count_168 0 rfl ?_
                                    refine gx_get C okg_18 rfl rfl inX6 (ref := "SweetWrapsModel") 3 (by decide) bw_676 rfl rfl dX6_count_169 ?_
                                    exact gx_iret C rfl rfl dX6_count_172 hw
                                  · replace hw := hw.2 c17
                                    refine gx_tableD (tgt := 173) C dX6_count_1 (by decide) [((83 : Int), (0 : Nat)), ((92 : Int), (1 : Nat)), ((100 : Int), (2 : Nat)), ((100 : Int), (3 : Nat)), ((108 : Int), (4 : Nat)), ((114 : Int), (5 : Nat)), ((121 : Int), (6 : Nat)), ((126 : Int), (7 : Nat)), ((133 : Int), (8 : Nat)), ((133 : Int), (9 : Nat)), ((147 : Int), (10 : Nat)), ((152 : Int), (11 : Nat)), ((152 : Int), (12 : Nat)), ((152 : Int), (13 : Nat)), ((152 : Int), (14 : Nat)), ((162 : Int), (15 : Nat)), ((167 : Int), (16 : Nat))] rfl (List.forall_mem_cons.mpr ⟨Or.inr ⟨(0 : Int32), c1, by decide⟩, List.forall_mem_cons.mpr ⟨Or.inr ⟨(1 : Int32), c2, by decide⟩, List.forall_mem_cons.mpr ⟨Or.inr ⟨(2 : Int32), c3, by decide⟩, List.forall_mem_cons.mpr ⟨Or.inr ⟨(3 : Int32), c4, by decide⟩, List.forall_mem_cons.mpr ⟨Or.inr ⟨(4 : Int32), c5, by decide⟩, List.forall_mem_cons.mpr ⟨Or.inr ⟨(5 : Int32), c6, by decide⟩, List.forall_mem_cons.mpr ⟨Or.inr ⟨(6 : Int32), c7, by decide⟩, List.forall_mem_cons.mpr ⟨Or.inr ⟨(7 : Int32), c8, by decide⟩, List.forall_mem_cons.mpr ⟨Or.inr ⟨(8 : Int32), c9, by decide⟩, List.forall_mem_cons.mpr ⟨Or.inr ⟨(9 : Int32), c10, by decide⟩, List.forall_mem_cons.mpr ⟨Or.inr ⟨(10 : Int32), c11, by decide⟩, List.forall_mem_cons.mpr ⟨Or.inr ⟨(11 : Int32), c12, by decide⟩, List.forall_mem_cons.mpr ⟨Or.inr ⟨(12 : Int32), c13, by decide⟩, List.forall_mem_cons.mpr ⟨Or.inr ⟨(13 : Int32), c14, by decide⟩, List.forall_mem_cons.mpr ⟨Or.inr ⟨(14 : Int32), c15, by decide⟩, List.forall_mem_cons.mpr ⟨Or.inr ⟨(15 : Int32), c16, by decide⟩, List.forall_mem_cons.mpr ⟨Or.inr ⟨(16 : Int32), c17, by decide⟩, fun _ h => absurd h List.not_mem_nil⟩⟩⟩⟩⟩⟩⟩⟩⟩⟩⟩⟩⟩⟩⟩⟩⟩) (by decide) ?_
                                    refine gx_bipush (v := (-2 : Int32)) C dX6_count_173 (by decide) ?_
                                    exact gx_iret C rfl rfl dX6_count_175 hw
theorem hy_X6_count : yX6_count.cls = "SweetWrapsModel" ∧ yX6_count.cls ≠ "java/lang/invoke/MethodHandle" ∧ yX6_count.cls ≠ "java/lang/invoke/VarHandle" ∧ (parseMethodDescriptor yX6_count.desc).map (fun d => d.parameters.length) = some 1 := by decide +kernel

theorem dX6_stands_0 : decode cX6_stands 0 = .ok (.iload_n 1, 1) := by decide +kernel
theorem dX6_stands_1 : decode cX6_stands 1 = .ok (.invokestatic 85, 3) := by decide +kernel
theorem dX6_stands_4 : decode cX6_stands 4 = .ok (.ifCond .ne 5, 3) := by decide +kernel
theorem dX6_stands_7 : decode cX6_stands 7 = .ok (.iconst (-1), 1) := by decide +kernel
theorem dX6_stands_8 : decode cX6_stands 8 = .ok (.ireturn, 1) := by decide +kernel
theorem dX6_stands_9 : decode cX6_stands 9 = .ok (.iload_n 2, 1) := by decide +kernel
theorem dX6_stands_10 : decode cX6_stands 10 = .ok (.iconst 0, 1) := by decide +kernel
theorem dX6_stands_11 : decode cX6_stands 11 = .ok (.iconst 1, 1) := by decide +kernel
theorem dX6_stands_12 : decode cX6_stands 12 = .ok (.invokestatic 36, 3) := by decide +kernel
theorem dX6_stands_15 : decode cX6_stands 15 = .ok (.ifCond .ne 6, 3) := by decide +kernel
theorem dX6_stands_18 : decode cX6_stands 18 = .ok (.bipush (-2), 2) := by decide +kernel
theorem dX6_stands_20 : decode cX6_stands 20 = .ok (.ireturn, 1) := by decide +kernel
theorem dX6_stands_21 : decode cX6_stands 21 = .ok (.aload_n 0, 1) := by decide +kernel
theorem dX6_stands_22 : decode cX6_stands 22 = .ok (.invokevirtual 107, 3) := by decide +kernel
theorem dX6_stands_25 : decode cX6_stands 25 = .ok (.bipush (-6), 2) := by decide +kernel
theorem dX6_stands_27 : decode cX6_stands 27 = .ok (.istore_n 3, 1) := by decide +kernel
theorem dX6_stands_28 : decode cX6_stands 28 = .ok (.iconst 1, 1) := by decide +kernel
theorem dX6_stands_29 : decode cX6_stands 29 = .ok (.istore 4, 2) := by decide +kernel
theorem dX6_stands_31 : decode cX6_stands 31 = .ok (.iload 4, 2) := by decide +kernel
theorem dX6_stands_33 : decode cX6_stands 33 = .ok (.sipush 200, 3) := by decide +kernel
theorem dX6_stands_36 : decode cX6_stands 36 = .ok (.if_icmp .gt 51, 3) := by decide +kernel
theorem dX6_stands_39 : decode cX6_stands 39 = .ok (.iload_n 3, 1) := by decide +kernel
theorem dX6_stands_40 : decode cX6_stands 40 = .ok (.bipush (-6), 2) := by decide +kernel
theorem dX6_stands_42 : decode cX6_stands 42 = .ok (.if_icmp .ne 45, 3) := by decide +kernel
theorem dX6_stands_45 : decode cX6_stands 45 = .ok (.aload_n 0, 1) := by decide +kernel
theorem dX6_stands_46 : decode cX6_stands 46 = .ok (.invokevirtual 81, 3) := by decide +kernel
theorem dX6_stands_49 : decode cX6_stands 49 = .ok (.istore 5, 2) := by decide +kernel
theorem dX6_stands_51 : decode cX6_stands 51 = .ok (.aload_n 0, 1) := by decide +kernel
theorem dX6_stands_52 : decode cX6_stands 52 = .ok (.getfield 29, 3) := by decide +kernel
theorem dX6_stands_55 : decode cX6_stands 55 = .ok (.iload_n 1, 1) := by decide +kernel
theorem dX6_stands_56 : decode cX6_stands 56 = .ok (.iaload, 1) := by decide +kernel
theorem dX6_stands_57 : decode cX6_stands 57 = .ok (.ifCond .ne 8, 3) := by decide +kernel
theorem dX6_stands_60 : decode cX6_stands 60 = .ok (.bipush (-6), 2) := by decide +kernel
theorem dX6_stands_62 : decode cX6_stands 62 = .ok (.goto 18, 3) := by decide +kernel
theorem dX6_stands_65 : decode cX6_stands 65 = .ok (.iload_n 2, 1) := by decide +kernel
theorem dX6_stands_66 : decode cX6_stands 66 = .ok (.ifCond .ne 8, 3) := by decide +kernel
theorem dX6_stands_69 : decode cX6_stands 69 = .ok (.iload 4, 2) := by decide +kernel
theorem dX6_stands_71 : decode cX6_stands 71 = .ok (.goto 9, 3) := by decide +kernel
theorem dX6_stands_74 : decode cX6_stands 74 = .ok (.aload_n 0, 1) := by decide +kernel
theorem dX6_stands_75 : decode cX6_stands 75 = .ok (.getfield 29, 3) := by decide +kernel
theorem dX6_stands_78 : decode cX6_stands 78 = .ok (.iload_n 1, 1) := by decide +kernel
theorem dX6_stands_79 : decode cX6_stands 79 = .ok (.iaload, 1) := by decide +kernel
theorem dX6_stands_80 : decode cX6_stands 80 = .ok (.istore_n 3, 1) := by decide +kernel
theorem dX6_stands_81 : decode cX6_stands 81 = .ok (.iinc 4 1, 3) := by decide +kernel
theorem dX6_stands_84 : decode cX6_stands 84 = .ok (.goto (-53), 3) := by decide +kernel
theorem dX6_stands_87 : decode cX6_stands 87 = .ok (.aload_n 0, 1) := by decide +kernel
theorem dX6_stands_88 : decode cX6_stands 88 = .ok (.invokevirtual 159, 3) := by decide +kernel
theorem dX6_stands_91 : decode cX6_stands 91 = .ok (.iload_n 3, 1) := by decide +kernel
theorem dX6_stands_92 : decode cX6_stands 92 = .ok (.ireturn, 1) := by decide +kernel
def wp_X6_stands_b87 (x1 : Int32) (x2 : Int32) (Q : Int32 → Sg → Prop) (v3 : Int32) (σ : Sg) : Prop := wp_X6_putBack σ (fun σ14 => Q v3 σ14)
set_option maxRecDepth 100000 in
set_option maxHeartbeats 4000000 in
theorem g_X6_stands_b87 {X : Tx} {Q : Int32 → Sg → Prop} (C : Cx X cX6_stands "SweetWrapsModel" (some .int) 6 138 6 (QI (tE X) Q)) {x1 : Int32} {x2 : Int32} {v3 : Int32} {σ : Sg} (hw : wp_X6_stands_b87 x1 x2 Q v3 σ) : G X σ [(0, .ref (ad (tE X) 12 18 0)), (3, .int v3)] [] 87 := by
  unfold wp_X6_stands_b87 at hw
  refine gx_aload_n C dX6_stands_87 0 rfl ?_
  refine gx_vcallv (As := []) (rest := []) C (c_X6_putBack _ _ hw) okg_18 rfl rfl bw_916 bw_918 bs_61 bw_7 bw_919 hy_X6_putBack ⟨by decide, by decide⟩ rfl (Nat.le_of_ble_eq_true rfl) dX6_stands_88 (fun σ14 hw => ?_)
  refine gx_iload_n C dX6_stands_91 1 rfl ?_
  exact gx_iret C rfl rfl dX6_stands_92 hw
def wp_X6_stands_b80 (x1 : Int32) (x2 : Int32) (K31 : Int32 → Int32 → Sg → Prop) (Q : Int32 → Sg → Prop) (v4 : Int32) (s0 : Int32) (σ : Sg) : Prop := ∀ z15 : Int32, z15 = v4 + (1 : Int32) → K31 s0 z15 σ
set_option maxRecDepth 100000 in
set_option maxHeartbeats 4000000 in
theorem g_X6_stands_b80 {X : Tx} {Q : Int32 → Sg → Prop} (C : Cx X cX6_stands "SweetWrapsModel" (some .int) 6 138 6 (QI (tE X) Q)) {x1 : Int32} {x2 : Int32} {K31 : Int32 → Int32 → Sg → Prop} (hK31 : ∀ (v3 : Int32) (v4 : Int32) (σ : Sg), K31 v3 v4 σ → G X σ [(0, .ref (ad (tE X) 12 18 0)), (1, .int x1), (2, .int x2), (3, .int v3), (4, .int v4)] [] 31) {v4 : Int32} {s0 : Int32} {σ : Sg} (hw : wp_X6_stands_b80 x1 x2 K31 Q v4 s0 σ) : G X σ [(0, .ref (ad (tE X) 12 18 0)), (1, .int x1), (2, .int x2), (4, .int v4)] [.int s0] 80 := by
  unfold wp_X6_stands_b80 at hw
  refine gx_istore_n (lv' := [(3, .int s0), (0, .ref (ad (tE X) 12 18 0)), (1, .int x1), (2, .int x2), (4, .int v4)]) C dX6_stands_80 (by decide) rfl ?_
  obtain ⟨z15, e_z15⟩ : ∃ z : Int32, z = v4 + (1 : Int32) := ⟨_, rfl⟩
  replace hw := hw z15 e_z15
  refine gx_iinc (v := z15) (lv' := [(4, .int z15), (3, .int s0), (0, .ref (ad (tE X) 12 18 0)), (1, .int x1), (2, .int x2)]) C dX6_stands_81 4 rfl (by rw [e_z15]; rfl) (by decide) rfl ?_
  refine gx_goto (tgt := 31) C dX6_stands_84 (by decide) ?_
  refine gx_sub (lv' := [(0, .ref (ad (tE X) 12 18 0)), (1, .int x1), (2, .int x2), (3, .int s0), (4, .int z15)]) [2, 3, 4, 1, 0] rfl ?_
  exact hK31 _ _ _ hw
def st_X6_stands_L31 (x1 : Int32) (x2 : Int32) (Q : Int32 → Sg → Prop) (K31 : Int32 → Int32 → Sg → Prop) (v3 : Int32) (v4 : Int32) (σ : Sg) : Prop := (((200 : Int32) < v4 → wp_X6_stands_b87 x1 x2 Q v3 σ) ∧ (¬ (200 : Int32) < v4 → ((¬ v3 = (-6 : Int32) → wp_X6_stands_b87 x1 x2 Q v3 σ) ∧ (v3 = (-6 : Int32) → wp_X6_tick σ (fun r10 σ11 => (vp_in x1 4 ∧ ((¬ (σ11 12 25 0 x1.toNatClampNeg) = 0 → ((¬ x2 = 0 → (vp_in x1 4 ∧ wp_X6_stands_b80 x1 x2 K31 Q v4 (σ11 12 25 0 x1.toNatClampNeg) σ11)) ∧ (x2 = 0 → wp_X6_stands_b80 x1 x2 K31 Q v4 v4 σ11))) ∧ ((σ11 12 25 0 x1.toNatClampNeg) = 0 → wp_X6_stands_b80 x1 x2 K31 Q v4 (-6 : Int32) σ11))))))))
def wp_X6_stands_L31 (x1 : Int32) (x2 : Int32) (Q : Int32 → Sg → Prop) (v3 : Int32) (v4 : Int32) (σ : Sg) : Prop := ∃ n : Nat, lpN (fun (K : Int32 × Int32 × Sg → Prop) (a : Int32 × Int32 × Sg) => st_X6_stands_L31 x1 x2 Q (fun v3 v4 σ => K (v3, v4, σ)) (a.1) (a.2.1) (a.2.2)) n (v3, v4, σ)
set_option maxRecDepth 100000 in
set_option maxHeartbeats 4000000 in
theorem gs_X6_stands_L31 {X : Tx} {Q : Int32 → Sg → Prop} (C : Cx X cX6_stands "SweetWrapsModel" (some .int) 6 138 6 (QI (tE X) Q)) {x1 : Int32} {x2 : Int32} {K31 : Int32 → Int32 → Sg → Prop} (hK31 : ∀ (v3 : Int32) (v4 : Int32) (σ : Sg), K31 v3 v4 σ → G X σ [(0, .ref (ad (tE X) 12 18 0)), (1, .int x1), (2, .int x2), (3, .int v3), (4, .int v4)] [] 31) {v3 : Int32} {v4 : Int32} {σ : Sg} (hw : st_X6_stands_L31 x1 x2 Q K31 v3 v4 σ) : G X σ [(0, .ref (ad (tE X) 12 18 0)), (1, .int x1), (2, .int x2), (3, .int v3), (4, .int v4)] [] 31 := by
  unfold st_X6_stands_L31 at hw
  refine gx_iload C dX6_stands_31 4 rfl ?_
  refine gx_sipush (v := (200 : Int32)) C dX6_stands_33 (by decide) ?_
  refine gx_icmp_gt (tgt := 87) C dX6_stands_36 (by decide) (fun c8 => ?_) (fun c8 => ?_)
  · replace hw := hw.1 c8
    refine gx_sub (lv' := [(0, .ref (ad (tE X) 12 18 0)), (3, .int v3)]) [0, 3] rfl ?_
    exact g_X6_stands_b87 C hw
  · replace hw := hw.2 c8
    refine gx_iload_n C dX6_stands_39 3 rfl ?_
    refine gx_bipush (v := (-6 : Int32)) C dX6_stands_40 (by decide) ?_
    refine gx_icmp_ne (tgt := 87) C dX6_stands_42 (by decide) (fun c9 => ?_) (fun c9 => ?_)
    · replace hw := hw.1 c9
      refine gx_sub (lv' := [(0, .ref (ad (tE X) 12 18 0)), (3, .int v3)]) [0, 3] rfl ?_
      exact g_X6_stands_b87 C hw
    · replace hw := hw.2 c9
      refine gx_aload_n C dX6_stands_45 0 rfl ?_
      refine gx_vcalli (As := []) (rest := []) C (c_X6_tick _ _ hw) okg_18 rfl rfl bw_820 bw_822 bs_46 bw_7 bw_823 hy_X6_tick ⟨by decide, by decide⟩ rfl (Nat.le_of_ble_eq_true rfl) dX6_stands_46 (fun r10 σ11 hw => ?_)
      refine gx_istore (lv' := [(5, .int r10), (0, .ref (ad (tE X) 12 18 0)), (1, .int x1), (2, .int x2), (3, .int v3), (4, .int v4)]) C dX6_stands_49 (by decide) rfl ?_
      refine gx_aload_n C dX6_stands_51 1 rfl ?_
      refine gx_get C okg_18 rfl rfl inX6 (ref := "SweetWrapsModel") 8 (by decide) bw_681 rfl rfl dX6_stands_52 ?_
      refine gx_iload_n C dX6_stands_55 2 rfl ?_
      refine gx_iald C okg_25 rfl hw.1 _ rfl dX6_stands_56 ?_
      replace hw := hw.2
      refine gx_if_ne (tgt := 65) C dX6_stands_57 (by decide) (fun c12 => ?_) (fun c12 => ?_)
      · replace hw := hw.1 c12
        refine gx_iload_n C dX6_stands_65 3 rfl ?_
        refine gx_if_ne (tgt := 74) C dX6_stands_66 (by decide) (fun c13 => ?_) (fun c13 => ?_)
        · replace hw := hw.1 c13
          refine gx_aload_n C dX6_stands_74 1 rfl ?_
          refine gx_get C okg_18 rfl rfl inX6 (ref := "SweetWrapsModel") 8 (by decide) bw_681 rfl rfl dX6_stands_75 ?_
          refine gx_iload_n C dX6_stands_78 2 rfl ?_
          refine gx_iald C okg_25 rfl hw.1 _ rfl dX6_stands_79 ?_
          replace hw := hw.2
          refine gx_sub (lv' := [(0, .ref (ad (tE X) 12 18 0)), (1, .int x1), (2, .int x2), (4, .int v4)]) [1, 2, 3, 5] rfl ?_
          exact g_X6_stands_b80 C hK31 hw
        · replace hw := hw.2 c13
          refine gx_iload C dX6_stands_69 5 rfl ?_
          refine gx_goto (tgt := 80) C dX6_stands_71 (by decide) ?_
          refine gx_sub (lv' := [(0, .ref (ad (tE X) 12 18 0)), (1, .int x1), (2, .int x2), (4, .int v4)]) [1, 2, 3, 5] rfl ?_
          exact g_X6_stands_b80 C hK31 hw
      · replace hw := hw.2 c12
        refine gx_bipush (v := (-6 : Int32)) C dX6_stands_60 (by decide) ?_
        refine gx_goto (tgt := 80) C dX6_stands_62 (by decide) ?_
        refine gx_sub (lv' := [(0, .ref (ad (tE X) 12 18 0)), (1, .int x1), (2, .int x2), (4, .int v4)]) [1, 2, 3, 5] rfl ?_
        exact g_X6_stands_b80 C hK31 hw
set_option maxRecDepth 100000 in
set_option maxHeartbeats 4000000 in
theorem g_X6_stands_L31 {X : Tx} {Q : Int32 → Sg → Prop} (C : Cx X cX6_stands "SweetWrapsModel" (some .int) 6 138 6 (QI (tE X) Q)) {x1 : Int32} {x2 : Int32} {v3 : Int32} {v4 : Int32} {σ : Sg} (hw : wp_X6_stands_L31 x1 x2 Q v3 v4 σ) : G X σ [(0, .ref (ad (tE X) 12 18 0)), (1, .int x1), (2, .int x2), (3, .int v3), (4, .int v4)] [] 31 := by
  obtain ⟨n, hw⟩ := hw
  exact lpN_G (P := (fun (a : Int32 × Int32 × Sg) => G X (a.2.2) [(0, .ref (ad (tE X) 12 18 0)), (1, .int x1), (2, .int x2), (3, .int (a.1)), (4, .int (a.2.1))] [] 31)) (fun K a hK h => gs_X6_stands_L31 C (fun v3 v4 σ h => hK (v3, v4, σ) h) h) n _ hw
def wp_X6_stands (x1 : Int32) (x2 : Int32) (σ : Sg) (Q : Int32 → Sg → Prop) : Prop := wp_X6_isLane x1 σ (fun r1 σ2 => ((¬ r1 = 0 → wp_X6_in x2 (0 : Int32) (1 : Int32) σ2 (fun r4 σ5 => ((¬ r4 = 0 → wp_X6_putAside σ5 (fun σ7 => wp_X6_stands_L31 x1 x2 Q (-6 : Int32) (1 : Int32) σ7)) ∧ (r4 = 0 → Q (-2 : Int32) σ5)))) ∧ (r1 = 0 → Q (-1 : Int32) σ2)))
set_option maxRecDepth 100000 in
set_option maxHeartbeats 4000000 in
theorem c_X6_stands (l : Launch) (E : Ev) {x1 : Int32} {x2 : Int32} {σ : Sg} {Q : Int32 → Sg → Prop} (hw : wp_X6_stands x1 x2 σ Q) : CT l E yX6_stands cX6_stands 6 (some .int) 6 138 [.ref (ad E 12 18 0), .int x1, .int x2] σ (QI E Q) := by
  refine CT_of (by decide) (Nat.le_of_ble_eq_true rfl) (fun X h1 h2 C => ?_)
  subst h1; subst h2
  have C : Cx X cX6_stands "SweetWrapsModel" (some .int) 6 138 6 (QI (tE X) Q) := C
  show G X σ [(0, .ref (ad (tE X) 12 18 0)), (1, .int x1), (2, .int x2)] [] 0
  unfold wp_X6_stands at hw
  refine gx_iload_n C dX6_stands_0 1 rfl ?_
  refine gx_scalli (As := [.int x1]) (rest := []) C (c_X6_isLane _ _ hw) bw_730 bw_731 bw_7 bw_732 hyS_X6_isLane ⟨by decide, by decide⟩ rfl (Nat.le_of_ble_eq_true rfl) dX6_stands_1 (fun r1 σ2 hw => ?_)
  refine gx_if_ne (tgt := 9) C dX6_stands_4 (by decide) (fun c3 => ?_) (fun c3 => ?_)
  · replace hw := hw.1 c3
    refine gx_iload_n C dX6_stands_9 2 rfl ?_
    refine gx_iconst (v := (0 : Int32)) C dX6_stands_10 (by decide) ?_
    refine gx_iconst (v := (1 : Int32)) C dX6_stands_11 (by decide) ?_
    refine gx_scalli (As := [.int x2, .int (0 : Int32), .int (1 : Int32)]) (rest := []) C (c_X6_in _ _ hw) bw_711 bw_712 bw_7 bw_713 hyS_X6_in ⟨by decide, by decide⟩ rfl (Nat.le_of_ble_eq_true rfl) dX6_stands_12 (fun r4 σ5 hw => ?_)
    refine gx_if_ne (tgt := 21) C dX6_stands_15 (by decide) (fun c6 => ?_) (fun c6 => ?_)
    · replace hw := hw.1 c6
      refine gx_aload_n C dX6_stands_21 0 rfl ?_
      refine gx_vcallv (As := []) (rest := []) C (c_X6_putAside _ _ hw) okg_18 rfl rfl bw_722 bw_724 bs_28 bw_7 bw_725 hy_X6_putAside ⟨by decide, by decide⟩ rfl (Nat.le_of_ble_eq_true rfl) dX6_stands_22 (fun σ7 hw => ?_)
      refine gx_bipush (v := (-6 : Int32)) C dX6_stands_25 (by decide) ?_
      refine gx_istore_n (lv' := [(3, .int (-6 : Int32)), (0, .ref (ad (tE X) 12 18 0)), (1, .int x1), (2, .int x2)]) C dX6_stands_27 (by decide) rfl ?_
      refine gx_iconst (v := (1 : Int32)) C dX6_stands_28 (by decide) ?_
      refine gx_istore (lv' := [(4, .int (1 : Int32)), (3, .int (-6 : Int32)), (0, .ref (ad (tE X) 12 18 0)), (1, .int x1), (2, .int x2)]) C dX6_stands_29 (by decide) rfl ?_
      refine gx_sub (lv' := [(0, .ref (ad (tE X) 12 18 0)), (1, .int x1), (2, .int x2), (3, .int (-6 : Int32)), (4, .int (1 : Int32))]) [2, 3, 4, 1, 0] rfl ?_
      exact g_X6_stands_L31 C hw
    · replace hw := hw.2 c6
      refine gx_bipush (v := (-2 : Int32)) C dX6_stands_18 (by decide) ?_
      exact gx_iret C rfl rfl dX6_stands_20 hw
  · replace hw := hw.2 c3
    refine gx_iconst (v := (-1 : Int32)) C dX6_stands_7 (by decide) ?_
    exact gx_iret C rfl rfl dX6_stands_8 hw
theorem hy_X6_stands : yX6_stands.cls = "SweetWrapsModel" ∧ yX6_stands.cls ≠ "java/lang/invoke/MethodHandle" ∧ yX6_stands.cls ≠ "java/lang/invoke/VarHandle" ∧ (parseMethodDescriptor yX6_stands.desc).map (fun d => d.parameters.length) = some 2 := by decide +kernel

theorem dX6_bestSpeed_0 : decode cX6_bestSpeed 0 = .ok (.iload_n 1, 1) := by decide +kernel
theorem dX6_bestSpeed_1 : decode cX6_bestSpeed 1 = .ok (.iconst 1, 1) := by decide +kernel
theorem dX6_bestSpeed_2 : decode cX6_bestSpeed 2 = .ok (.bipush 50, 2) := by decide +kernel
theorem dX6_bestSpeed_4 : decode cX6_bestSpeed 4 = .ok (.invokestatic 36, 3) := by decide +kernel
theorem dX6_bestSpeed_7 : decode cX6_bestSpeed 7 = .ok (.ifCond .eq 12, 3) := by decide +kernel
theorem dX6_bestSpeed_10 : decode cX6_bestSpeed 10 = .ok (.iload_n 2, 1) := by decide +kernel
theorem dX6_bestSpeed_11 : decode cX6_bestSpeed 11 = .ok (.iconst 0, 1) := by decide +kernel
theorem dX6_bestSpeed_12 : decode cX6_bestSpeed 12 = .ok (.iconst 1, 1) := by decide +kernel
theorem dX6_bestSpeed_13 : decode cX6_bestSpeed 13 = .ok (.invokestatic 36, 3) := by decide +kernel
theorem dX6_bestSpeed_16 : decode cX6_bestSpeed 16 = .ok (.ifCond .ne 6, 3) := by decide +kernel
theorem dX6_bestSpeed_19 : decode cX6_bestSpeed 19 = .ok (.bipush (-2), 2) := by decide +kernel
theorem dX6_bestSpeed_21 : decode cX6_bestSpeed 21 = .ok (.ireturn, 1) := by decide +kernel
theorem dX6_bestSpeed_22 : decode cX6_bestSpeed 22 = .ok (.aload_n 0, 1) := by decide +kernel
theorem dX6_bestSpeed_23 : decode cX6_bestSpeed 23 = .ok (.invokevirtual 107, 3) := by decide +kernel
theorem dX6_bestSpeed_26 : decode cX6_bestSpeed 26 = .ok (.iconst 0, 1) := by decide +kernel
theorem dX6_bestSpeed_27 : decode cX6_bestSpeed 27 = .ok (.istore_n 3, 1) := by decide +kernel
theorem dX6_bestSpeed_28 : decode cX6_bestSpeed 28 = .ok (.bipush (-6), 2) := by decide +kernel
theorem dX6_bestSpeed_30 : decode cX6_bestSpeed 30 = .ok (.istore 4, 2) := by decide +kernel
theorem dX6_bestSpeed_32 : decode cX6_bestSpeed 32 = .ok (.iconst 1, 1) := by decide +kernel
theorem dX6_bestSpeed_33 : decode cX6_bestSpeed 33 = .ok (.istore 5, 2) := by decide +kernel
theorem dX6_bestSpeed_35 : decode cX6_bestSpeed 35 = .ok (.iload 5, 2) := by decide +kernel
theorem dX6_bestSpeed_37 : decode cX6_bestSpeed 37 = .ok (.bipush 9, 2) := by decide +kernel
theorem dX6_bestSpeed_39 : decode cX6_bestSpeed 39 = .ok (.if_icmp .gt 58, 3) := by decide +kernel
theorem dX6_bestSpeed_42 : decode cX6_bestSpeed 42 = .ok (.aload_n 0, 1) := by decide +kernel
theorem dX6_bestSpeed_43 : decode cX6_bestSpeed 43 = .ok (.getfield 7, 3) := by decide +kernel
theorem dX6_bestSpeed_46 : decode cX6_bestSpeed 46 = .ok (.iconst 0, 1) := by decide +kernel
theorem dX6_bestSpeed_47 : decode cX6_bestSpeed 47 = .ok (.iload 5, 2) := by decide +kernel
theorem dX6_bestSpeed_49 : decode cX6_bestSpeed 49 = .ok (.iastore, 1) := by decide +kernel
theorem dX6_bestSpeed_50 : decode cX6_bestSpeed 50 = .ok (.aload_n 0, 1) := by decide +kernel
theorem dX6_bestSpeed_51 : decode cX6_bestSpeed 51 = .ok (.iload_n 1, 1) := by decide +kernel
theorem dX6_bestSpeed_52 : decode cX6_bestSpeed 52 = .ok (.invokevirtual 101, 3) := by decide +kernel
theorem dX6_bestSpeed_55 : decode cX6_bestSpeed 55 = .ok (.istore 6, 2) := by decide +kernel
theorem dX6_bestSpeed_57 : decode cX6_bestSpeed 57 = .ok (.iload 6, 2) := by decide +kernel
theorem dX6_bestSpeed_59 : decode cX6_bestSpeed 59 = .ok (.iload 4, 2) := by decide +kernel
theorem dX6_bestSpeed_61 : decode cX6_bestSpeed 61 = .ok (.if_icmp .le 8, 3) := by decide +kernel
theorem dX6_bestSpeed_64 : decode cX6_bestSpeed 64 = .ok (.iload 5, 2) := by decide +kernel
theorem dX6_bestSpeed_66 : decode cX6_bestSpeed 66 = .ok (.goto 4, 3) := by decide +kernel
theorem dX6_bestSpeed_69 : decode cX6_bestSpeed 69 = .ok (.iload_n 3, 1) := by decide +kernel
theorem dX6_bestSpeed_70 : decode cX6_bestSpeed 70 = .ok (.istore_n 3, 1) := by decide +kernel
theorem dX6_bestSpeed_71 : decode cX6_bestSpeed 71 = .ok (.iload 6, 2) := by decide +kernel
theorem dX6_bestSpeed_73 : decode cX6_bestSpeed 73 = .ok (.iload 4, 2) := by decide +kernel
theorem dX6_bestSpeed_75 : decode cX6_bestSpeed 75 = .ok (.if_icmp .le 8, 3) := by decide +kernel
theorem dX6_bestSpeed_78 : decode cX6_bestSpeed 78 = .ok (.iload 6, 2) := by decide +kernel
theorem dX6_bestSpeed_80 : decode cX6_bestSpeed 80 = .ok (.goto 5, 3) := by decide +kernel
theorem dX6_bestSpeed_83 : decode cX6_bestSpeed 83 = .ok (.iload 4, 2) := by decide +kernel
theorem dX6_bestSpeed_85 : decode cX6_bestSpeed 85 = .ok (.istore 4, 2) := by decide +kernel
theorem dX6_bestSpeed_87 : decode cX6_bestSpeed 87 = .ok (.aload_n 0, 1) := by decide +kernel
theorem dX6_bestSpeed_88 : decode cX6_bestSpeed 88 = .ok (.invokevirtual 159, 3) := by decide +kernel
theorem dX6_bestSpeed_91 : decode cX6_bestSpeed 91 = .ok (.iinc 5 1, 3) := by decide +kernel
theorem dX6_bestSpeed_94 : decode cX6_bestSpeed 94 = .ok (.goto (-59), 3) := by decide +kernel
theorem dX6_bestSpeed_97 : decode cX6_bestSpeed 97 = .ok (.iload_n 2, 1) := by decide +kernel
theorem dX6_bestSpeed_98 : decode cX6_bestSpeed 98 = .ok (.ifCond .ne 7, 3) := by decide +kernel
theorem dX6_bestSpeed_101 : decode cX6_bestSpeed 101 = .ok (.iload_n 3, 1) := by decide +kernel
theorem dX6_bestSpeed_102 : decode cX6_bestSpeed 102 = .ok (.goto 5, 3) := by decide +kernel
theorem dX6_bestSpeed_105 : decode cX6_bestSpeed 105 = .ok (.iload 4, 2) := by decide +kernel
theorem dX6_bestSpeed_107 : decode cX6_bestSpeed 107 = .ok (.ireturn, 1) := by decide +kernel
def wp_X6_bestSpeed_b85 (x1 : Int32) (x2 : Int32) (K35 : Int32 → Int32 → Int32 → Sg → Prop) (Q : Int32 → Sg → Prop) (v3 : Int32) (v5 : Int32) (s0 : Int32) (σ : Sg) : Prop := wp_X6_putBack σ (fun σ15 => ∀ z16 : Int32, z16 = v5 + (1 : Int32) → K35 v3 s0 z16 σ15)
set_option maxRecDepth 100000 in
set_option maxHeartbeats 4000000 in
theorem g_X6_bestSpeed_b85 {X : Tx} {Q : Int32 → Sg → Prop} (C : Cx X cX6_bestSpeed "SweetWrapsModel" (some .int) 7 161 7 (QI (tE X) Q)) {x1 : Int32} {x2 : Int32} {K35 : Int32 → Int32 → Int32 → Sg → Prop} (hK35 : ∀ (v3 : Int32) (v4 : Int32) (v5 : Int32) (σ : Sg), K35 v3 v4 v5 σ → G X σ [(0, .ref (ad (tE X) 12 18 0)), (1, .int x1), (2, .int x2), (3, .int v3), (4, .int v4), (5, .int v5)] [] 35) {v3 : Int32} {v5 : Int32} {s0 : Int32} {σ : Sg} (hw : wp_X6_bestSpeed_b85 x1 x2 K35 Q v3 v5 s0 σ) : G X σ [(0, .ref (ad (tE X) 12 18 0)), (1, .int x1), (2, .int x2), (3, .int v3), (5, .int v5)] [.int s0] 85 := by
  unfold wp_X6_bestSpeed_b85 at hw
  refine gx_istore (lv' := [(4, .int s0), (0, .ref (ad (tE X) 12 18 0)), (1, .int x1), (2, .int x2), (3, .int v3), (5, .int v5)]) C dX6_bestSpeed_85 (by decide) rfl ?_
  refine gx_aload_n C dX6_bestSpeed_87 1 rfl ?_
  refine gx_vcallv (As := []) (rest := []) C (c_X6_putBack _ _ hw) okg_18 rfl rfl bw_916 bw_918 bs_61 bw_7 bw_919 hy_X6_putBack ⟨by decide, by decide⟩ rfl (Nat.le_of_ble_eq_true rfl) dX6_bestSpeed_88 (fun σ15 hw => ?_)
  obtain ⟨z16, e_z16⟩ : ∃ z : Int32, z = v5 + (1 : Int32) := ⟨_, rfl⟩
  replace hw := hw z16 e_z16
  refine gx_iinc (v := z16) (lv' := [(5, .int z16), (4, .int s0), (0, .ref (ad (tE X) 12 18 0)), (1, .int x1), (2, .int x2), (3, .int v3)]) C dX6_bestSpeed_91 5 rfl (by rw [e_z16]; rfl) (by decide) rfl ?_
  refine gx_goto (tgt := 35) C dX6_bestSpeed_94 (by decide) ?_
  refine gx_sub (lv' := [(0, .ref (ad (tE X) 12 18 0)), (1, .int x1), (2, .int x2), (3, .int v3), (4, .int s0), (5, .int z16)]) [2, 3, 4, 5, 1, 0] rfl ?_
  exact hK35 _ _ _ _ hw
def wp_X6_bestSpeed_b70 (x1 : Int32) (x2 : Int32) (K35 : Int32 → Int32 → Int32 → Sg → Prop) (Q : Int32 → Sg → Prop) (v4 : Int32) (v5 : Int32) (v6 : Int32) (s0 : Int32) (σ : Sg) : Prop := ((v6 ≤ v4 → wp_X6_bestSpeed_b85 x1 x2 K35 Q s0 v5 v4 σ) ∧ (¬ v6 ≤ v4 → wp_X6_bestSpeed_b85 x1 x2 K35 Q s0 v5 v6 σ))
set_option maxRecDepth 100000 in
set_option maxHeartbeats 4000000 in
theorem g_X6_bestSpeed_b70 {X : Tx} {Q : Int32 → Sg → Prop} (C : Cx X cX6_bestSpeed "SweetWrapsModel" (some .int) 7 161 7 (QI (tE X) Q)) {x1 : Int32} {x2 : Int32} {K35 : Int32 → Int32 → Int32 → Sg → Prop} (hK35 : ∀ (v3 : Int32) (v4 : Int32) (v5 : Int32) (σ : Sg), K35 v3 v4 v5 σ → G X σ [(0, .ref (ad (tE X) 12 18 0)), (1, .int x1), (2, .int x2), (3, .int v3), (4, .int v4), (5, .int v5)] [] 35) {v4 : Int32} {v5 : Int32} {v6 : Int32} {s0 : Int32} {σ : Sg} (hw : wp_X6_bestSpeed_b70 x1 x2 K35 Q v4 v5 v6 s0 σ) : G X σ [(0, .ref (ad (tE X) 12 18 0)), (1, .int x1), (2, .int x2), (4, .int v4), (5, .int v5), (6, .int v6)] [.int s0] 70 := by
  unfold wp_X6_bestSpeed_b70 at hw
  refine gx_istore_n (lv' := [(3, .int s0), (0, .ref (ad (tE X) 12 18 0)), (1, .int x1), (2, .int x2), (4, .int v4), (5, .int v5), (6, .int v6)]) C dX6_bestSpeed_70 (by decide) rfl ?_
  refine gx_iload C dX6_bestSpeed_71 6 rfl ?_
  refine gx_iload C dX6_bestSpeed_73 4 rfl ?_
  refine gx_icmp_le (tgt := 83) C dX6_bestSpeed_75 (by decide) (fun c14 => ?_) (fun c14 => ?_)
  · replace hw := hw.1 c14
    refine gx_iload C dX6_bestSpeed_83 4 rfl ?_
    refine gx_sub (lv' := [(0, .ref (ad (tE X) 12 18 0)), (1, .int x1), (2, .int x2), (3, .int s0), (5, .int v5)]) [1, 2, 3, 0, 5] rfl ?_
    exact g_X6_bestSpeed_b85 C hK35 hw
  · replace hw := hw.2 c14
    refine gx_iload C dX6_bestSpeed_78 6 rfl ?_
    refine gx_goto (tgt := 85) C dX6_bestSpeed_80 (by decide) ?_
    refine gx_sub (lv' := [(0, .ref (ad (tE X) 12 18 0)), (1, .int x1), (2, .int x2), (3, .int s0), (5, .int v5)]) [1, 2, 3, 0, 5] rfl ?_
    exact g_X6_bestSpeed_b85 C hK35 hw
def st_X6_bestSpeed_L35 (x1 : Int32) (x2 : Int32) (Q : Int32 → Sg → Prop) (K35 : Int32 → Int32 → Int32 → Sg → Prop) (v3 : Int32) (v4 : Int32) (v5 : Int32) (σ : Sg) : Prop := (((9 : Int32) < v5 → ((¬ x2 = 0 → Q v4 σ) ∧ (x2 = 0 → Q v3 σ))) ∧ (¬ (9 : Int32) < v5 → ∀ σ10 : Sg, σ10 = up σ 12 19 0 0 v5 → wp_X6_runs x1 σ10 (fun r11 σ12 => ((r11 ≤ v4 → wp_X6_bestSpeed_b70 x1 x2 K35 Q v4 v5 r11 v3 σ12) ∧ (¬ r11 ≤ v4 → wp_X6_bestSpeed_b70 x1 x2 K35 Q v4 v5 r11 v5 σ12)))))
def wp_X6_bestSpeed_L35 (x1 : Int32) (x2 : Int32) (Q : Int32 → Sg → Prop) (v3 : Int32) (v4 : Int32) (v5 : Int32) (σ : Sg) : Prop := ∃ n : Nat, lpN (fun (K : Int32 × Int32 × Int32 × Sg → Prop) (a : Int32 × Int32 × Int32 × Sg) => st_X6_bestSpeed_L35 x1 x2 Q (fun v3 v4 v5 σ => K (v3, v4, v5, σ)) (a.1) (a.2.1) (a.2.2.1) (a.2.2.2)) n (v3, v4, v5, σ)
set_option maxRecDepth 100000 in
set_option maxHeartbeats 4000000 in
theorem gs_X6_bestSpeed_L35 {X : Tx} {Q : Int32 → Sg → Prop} (C : Cx X cX6_bestSpeed "SweetWrapsModel" (some .int) 7 161 7 (QI (tE X) Q)) {x1 : Int32} {x2 : Int32} {K35 : Int32 → Int32 → Int32 → Sg → Prop} (hK35 : ∀ (v3 : Int32) (v4 : Int32) (v5 : Int32) (σ : Sg), K35 v3 v4 v5 σ → G X σ [(0, .ref (ad (tE X) 12 18 0)), (1, .int x1), (2, .int x2), (3, .int v3), (4, .int v4), (5, .int v5)] [] 35) {v3 : Int32} {v4 : Int32} {v5 : Int32} {σ : Sg} (hw : st_X6_bestSpeed_L35 x1 x2 Q K35 v3 v4 v5 σ) : G X σ [(0, .ref (ad (tE X) 12 18 0)), (1, .int x1), (2, .int x2), (3, .int v3), (4, .int v4), (5, .int v5)] [] 35 := by
  unfold st_X6_bestSpeed_L35 at hw
  refine gx_iload C dX6_bestSpeed_35 5 rfl ?_
  refine gx_bipush (v := (9 : Int32)) C dX6_bestSpeed_37 (by decide) ?_
  refine gx_icmp_gt (tgt := 97) C dX6_bestSpeed_39 (by decide) (fun c8 => ?_) (fun c8 => ?_)
  · replace hw := hw.1 c8
    refine gx_iload_n C dX6_bestSpeed_97 2 rfl ?_
    refine gx_if_ne (tgt := 105) C dX6_bestSpeed_98 (by decide) (fun c9 => ?_) (fun c9 => ?_)
    · replace hw := hw.1 c9
      refine gx_iload C dX6_bestSpeed_105 4 rfl ?_
      exact gx_iret C rfl rfl dX6_bestSpeed_107 hw
    · replace hw := hw.2 c9
      refine gx_iload_n C dX6_bestSpeed_101 3 rfl ?_
      refine gx_goto (tgt := 107) C dX6_bestSpeed_102 (by decide) ?_
      exact gx_iret C rfl rfl dX6_bestSpeed_107 hw
  · replace hw := hw.2 c8
    refine gx_aload_n C dX6_bestSpeed_42 0 rfl ?_
    refine gx_get C okg_18 rfl rfl inX6 (ref := "SweetWrapsModel") 0 (by decide) bw_673 rfl rfl dX6_bestSpeed_43 ?_
    refine gx_iconst (v := (0 : Int32)) C dX6_bestSpeed_46 (by decide) ?_
    refine gx_iload C dX6_bestSpeed_47 5 rfl ?_
    refine gx_iast C okg_19 (fun _ => rfl) (n := 194) (x := (0 : Int32)) (by unfold vp_in; decide) 0 (by decide) rfl dX6_bestSpeed_49 ?_
    obtain ⟨σ10, e_σ10⟩ : ∃ z : Sg, z = up σ 12 19 0 0 v5 := ⟨_, rfl⟩
    replace hw := hw σ10 e_σ10
    refine gx_st e_σ10 ?_
    refine gx_aload_n C dX6_bestSpeed_50 0 rfl ?_
    refine gx_iload_n C dX6_bestSpeed_51 1 rfl ?_
    refine gx_vcalli (As := [.int x1]) (rest := []) C (c_X6_runs _ _ hw) okg_18 rfl rfl bw_816 bw_818 bs_45 bw_7 bw_819 hy_X6_runs ⟨by decide, by decide⟩ rfl (Nat.le_of_ble_eq_true rfl) dX6_bestSpeed_52 (fun r11 σ12 hw => ?_)
    refine gx_istore (lv' := [(6, .int r11), (0, .ref (ad (tE X) 12 18 0)), (1, .int x1), (2, .int x2), (3, .int v3), (4, .int v4), (5, .int v5)]) C dX6_bestSpeed_55 (by decide) rfl ?_
    refine gx_iload C dX6_bestSpeed_57 0 rfl ?_
    refine gx_iload C dX6_bestSpeed_59 5 rfl ?_
    refine gx_icmp_le (tgt := 69) C dX6_bestSpeed_61 (by decide) (fun c13 => ?_) (fun c13 => ?_)
    · replace hw := hw.1 c13
      refine gx_iload_n C dX6_bestSpeed_69 4 rfl ?_
      refine gx_sub (lv' := [(0, .ref (ad (tE X) 12 18 0)), (1, .int x1), (2, .int x2), (4, .int v4), (5, .int v5), (6, .int r11)]) [1, 2, 3, 5, 6, 0] rfl ?_
      exact g_X6_bestSpeed_b70 C hK35 hw
    · replace hw := hw.2 c13
      refine gx_iload C dX6_bestSpeed_64 6 rfl ?_
      refine gx_goto (tgt := 70) C dX6_bestSpeed_66 (by decide) ?_
      refine gx_sub (lv' := [(0, .ref (ad (tE X) 12 18 0)), (1, .int x1), (2, .int x2), (4, .int v4), (5, .int v5), (6, .int r11)]) [1, 2, 3, 5, 6, 0] rfl ?_
      exact g_X6_bestSpeed_b70 C hK35 hw
set_option maxRecDepth 100000 in
set_option maxHeartbeats 4000000 in
theorem g_X6_bestSpeed_L35 {X : Tx} {Q : Int32 → Sg → Prop} (C : Cx X cX6_bestSpeed "SweetWrapsModel" (some .int) 7 161 7 (QI (tE X) Q)) {x1 : Int32} {x2 : Int32} {v3 : Int32} {v4 : Int32} {v5 : Int32} {σ : Sg} (hw : wp_X6_bestSpeed_L35 x1 x2 Q v3 v4 v5 σ) : G X σ [(0, .ref (ad (tE X) 12 18 0)), (1, .int x1), (2, .int x2), (3, .int v3), (4, .int v4), (5, .int v5)] [] 35 := by
  obtain ⟨n, hw⟩ := hw
  exact lpN_G (P := (fun (a : Int32 × Int32 × Int32 × Sg) => G X (a.2.2.2) [(0, .ref (ad (tE X) 12 18 0)), (1, .int x1), (2, .int x2), (3, .int (a.1)), (4, .int (a.2.1)), (5, .int (a.2.2.1))] [] 35)) (fun K a hK h => gs_X6_bestSpeed_L35 C (fun v3 v4 v5 σ h => hK (v3, v4, v5, σ) h) h) n _ hw
def wp_X6_bestSpeed (x1 : Int32) (x2 : Int32) (σ : Sg) (Q : Int32 → Sg → Prop) : Prop := wp_X6_in x1 (1 : Int32) (50 : Int32) σ (fun r1 σ2 => ((r1 = 0 → Q (-2 : Int32) σ2) ∧ (¬ r1 = 0 → wp_X6_in x2 (0 : Int32) (1 : Int32) σ2 (fun r4 σ5 => ((¬ r4 = 0 → wp_X6_putAside σ5 (fun σ7 => wp_X6_bestSpeed_L35 x1 x2 Q (0 : Int32) (-6 : Int32) (1 : Int32) σ7)) ∧ (r4 = 0 → Q (-2 : Int32) σ5))))))
set_option maxRecDepth 100000 in
set_option maxHeartbeats 4000000 in
theorem c_X6_bestSpeed (l : Launch) (E : Ev) {x1 : Int32} {x2 : Int32} {σ : Sg} {Q : Int32 → Sg → Prop} (hw : wp_X6_bestSpeed x1 x2 σ Q) : CT l E yX6_bestSpeed cX6_bestSpeed 7 (some .int) 7 161 [.ref (ad E 12 18 0), .int x1, .int x2] σ (QI E Q) := by
  refine CT_of (by decide) (Nat.le_of_ble_eq_true rfl) (fun X h1 h2 C => ?_)
  subst h1; subst h2
  have C : Cx X cX6_bestSpeed "SweetWrapsModel" (some .int) 7 161 7 (QI (tE X) Q) := C
  show G X σ [(0, .ref (ad (tE X) 12 18 0)), (1, .int x1), (2, .int x2)] [] 0
  unfold wp_X6_bestSpeed at hw
  refine gx_iload_n C dX6_bestSpeed_0 1 rfl ?_
  refine gx_iconst (v := (1 : Int32)) C dX6_bestSpeed_1 (by decide) ?_
  refine gx_bipush (v := (50 : Int32)) C dX6_bestSpeed_2 (by decide) ?_
  refine gx_scalli (As := [.int x1, .int (1 : Int32), .int (50 : Int32)]) (rest := []) C (c_X6_in _ _ hw) bw_711 bw_712 bw_7 bw_713 hyS_X6_in ⟨by decide, by decide⟩ rfl (Nat.le_of_ble_eq_true rfl) dX6_bestSpeed_4 (fun r1 σ2 hw => ?_)
  refine gx_if_eq (tgt := 19) C dX6_bestSpeed_7 (by decide) (fun c3 => ?_) (fun c3 => ?_)
  · replace hw := hw.1 c3
    refine gx_bipush (v := (-2 : Int32)) C dX6_bestSpeed_19 (by decide) ?_
    exact gx_iret C rfl rfl dX6_bestSpeed_21 hw
  · replace hw := hw.2 c3
    refine gx_iload_n C dX6_bestSpeed_10 2 rfl ?_
    refine gx_iconst (v := (0 : Int32)) C dX6_bestSpeed_11 (by decide) ?_
    refine gx_iconst (v := (1 : Int32)) C dX6_bestSpeed_12 (by decide) ?_
    refine gx_scalli (As := [.int x2, .int (0 : Int32), .int (1 : Int32)]) (rest := []) C (c_X6_in _ _ hw) bw_711 bw_712 bw_7 bw_713 hyS_X6_in ⟨by decide, by decide⟩ rfl (Nat.le_of_ble_eq_true rfl) dX6_bestSpeed_13 (fun r4 σ5 hw => ?_)
    refine gx_if_ne (tgt := 22) C dX6_bestSpeed_16 (by decide) (fun c6 => ?_) (fun c6 => ?_)
    · replace hw := hw.1 c6
      refine gx_aload_n C dX6_bestSpeed_22 0 rfl ?_
      refine gx_vcallv (As := []) (rest := []) C (c_X6_putAside _ _ hw) okg_18 rfl rfl bw_722 bw_724 bs_28 bw_7 bw_725 hy_X6_putAside ⟨by decide, by decide⟩ rfl (Nat.le_of_ble_eq_true rfl) dX6_bestSpeed_23 (fun σ7 hw => ?_)
      refine gx_iconst (v := (0 : Int32)) C dX6_bestSpeed_26 (by decide) ?_
      refine gx_istore_n (lv' := [(3, .int (0 : Int32)), (0, .ref (ad (tE X) 12 18 0)), (1, .int x1), (2, .int x2)]) C dX6_bestSpeed_27 (by decide) rfl ?_
      refine gx_bipush (v := (-6 : Int32)) C dX6_bestSpeed_28 (by decide) ?_
      refine gx_istore (lv' := [(4, .int (-6 : Int32)), (3, .int (0 : Int32)), (0, .ref (ad (tE X) 12 18 0)), (1, .int x1), (2, .int x2)]) C dX6_bestSpeed_30 (by decide) rfl ?_
      refine gx_iconst (v := (1 : Int32)) C dX6_bestSpeed_32 (by decide) ?_
      refine gx_istore (lv' := [(5, .int (1 : Int32)), (4, .int (-6 : Int32)), (3, .int (0 : Int32)), (0, .ref (ad (tE X) 12 18 0)), (1, .int x1), (2, .int x2)]) C dX6_bestSpeed_33 (by decide) rfl ?_
      refine gx_sub (lv' := [(0, .ref (ad (tE X) 12 18 0)), (1, .int x1), (2, .int x2), (3, .int (0 : Int32)), (4, .int (-6 : Int32)), (5, .int (1 : Int32))]) [3, 4, 5, 2, 1, 0] rfl ?_
      exact g_X6_bestSpeed_L35 C hw
    · replace hw := hw.2 c6
      refine gx_bipush (v := (-2 : Int32)) C dX6_bestSpeed_19 (by decide) ?_
      exact gx_iret C rfl rfl dX6_bestSpeed_21 hw
theorem hy_X6_bestSpeed : yX6_bestSpeed.cls = "SweetWrapsModel" ∧ yX6_bestSpeed.cls ≠ "java/lang/invoke/MethodHandle" ∧ yX6_bestSpeed.cls ≠ "java/lang/invoke/VarHandle" ∧ (parseMethodDescriptor yX6_bestSpeed.desc).map (fun d => d.parameters.length) = some 2 := by decide +kernel

theorem dX6_ifApart_0 : decode cX6_ifApart 0 = .ok (.iload_n 1, 1) := by decide +kernel
theorem dX6_ifApart_1 : decode cX6_ifApart 1 = .ok (.invokestatic 88, 3) := by decide +kernel
theorem dX6_ifApart_4 : decode cX6_ifApart 4 = .ok (.ifCond .eq 10, 3) := by decide +kernel
theorem dX6_ifApart_7 : decode cX6_ifApart 7 = .ok (.iload_n 2, 1) := by decide +kernel
theorem dX6_ifApart_8 : decode cX6_ifApart 8 = .ok (.invokestatic 88, 3) := by decide +kernel
theorem dX6_ifApart_11 : decode cX6_ifApart 11 = .ok (.ifCond .ne 5, 3) := by decide +kernel
theorem dX6_ifApart_14 : decode cX6_ifApart 14 = .ok (.iconst (-1), 1) := by decide +kernel
theorem dX6_ifApart_15 : decode cX6_ifApart 15 = .ok (.ireturn, 1) := by decide +kernel
theorem dX6_ifApart_16 : decode cX6_ifApart 16 = .ok (.iload_n 1, 1) := by decide +kernel
theorem dX6_ifApart_17 : decode cX6_ifApart 17 = .ok (.iload_n 2, 1) := by decide +kernel
theorem dX6_ifApart_18 : decode cX6_ifApart 18 = .ok (.if_icmp .eq 13, 3) := by decide +kernel
theorem dX6_ifApart_21 : decode cX6_ifApart 21 = .ok (.iload_n 3, 1) := by decide +kernel
theorem dX6_ifApart_22 : decode cX6_ifApart 22 = .ok (.iconst 1, 1) := by decide +kernel
theorem dX6_ifApart_23 : decode cX6_ifApart 23 = .ok (.bipush 50, 2) := by decide +kernel
theorem dX6_ifApart_25 : decode cX6_ifApart 25 = .ok (.invokestatic 36, 3) := by decide +kernel
theorem dX6_ifApart_28 : decode cX6_ifApart 28 = .ok (.ifCond .ne 6, 3) := by decide +kernel
theorem dX6_ifApart_31 : decode cX6_ifApart 31 = .ok (.bipush (-2), 2) := by decide +kernel
theorem dX6_ifApart_33 : decode cX6_ifApart 33 = .ok (.ireturn, 1) := by decide +kernel
theorem dX6_ifApart_34 : decode cX6_ifApart 34 = .ok (.aload_n 0, 1) := by decide +kernel
theorem dX6_ifApart_35 : decode cX6_ifApart 35 = .ok (.invokevirtual 107, 3) := by decide +kernel
theorem dX6_ifApart_38 : decode cX6_ifApart 38 = .ok (.aload_n 0, 1) := by decide +kernel
theorem dX6_ifApart_39 : decode cX6_ifApart 39 = .ok (.iload_n 1, 1) := by decide +kernel
theorem dX6_ifApart_40 : decode cX6_ifApart 40 = .ok (.iload_n 2, 1) := by decide +kernel
theorem dX6_ifApart_41 : decode cX6_ifApart 41 = .ok (.invokevirtual 97, 3) := by decide +kernel
theorem dX6_ifApart_44 : decode cX6_ifApart 44 = .ok (.aload_n 0, 1) := by decide +kernel
theorem dX6_ifApart_45 : decode cX6_ifApart 45 = .ok (.iload_n 3, 1) := by decide +kernel
theorem dX6_ifApart_46 : decode cX6_ifApart 46 = .ok (.invokevirtual 101, 3) := by decide +kernel
theorem dX6_ifApart_49 : decode cX6_ifApart 49 = .ok (.istore 4, 2) := by decide +kernel
theorem dX6_ifApart_51 : decode cX6_ifApart 51 = .ok (.aload_n 0, 1) := by decide +kernel
theorem dX6_ifApart_52 : decode cX6_ifApart 52 = .ok (.invokevirtual 159, 3) := by decide +kernel
theorem dX6_ifApart_55 : decode cX6_ifApart 55 = .ok (.iload 4, 2) := by decide +kernel
theorem dX6_ifApart_57 : decode cX6_ifApart 57 = .ok (.ireturn, 1) := by decide +kernel
def wp_X6_ifApart (x1 : Int32) (x2 : Int32) (x3 : Int32) (σ : Sg) (Q : Int32 → Sg → Prop) : Prop := wp_X6_isFlavour x1 σ (fun r1 σ2 => ((r1 = 0 → Q (-1 : Int32) σ2) ∧ (¬ r1 = 0 → wp_X6_isFlavour x2 σ2 (fun r4 σ5 => ((¬ r4 = 0 → ((x1 = x2 → Q (-2 : Int32) σ5) ∧ (¬ x1 = x2 → wp_X6_in x3 (1 : Int32) (50 : Int32) σ5 (fun r8 σ9 => ((¬ r8 = 0 → wp_X6_putAside σ9 (fun σ11 => wp_X6_turn x1 x2 σ11 (fun σ12 => wp_X6_runs x3 σ12 (fun r13 σ14 => wp_X6_putBack σ14 (fun σ15 => Q r13 σ15))))) ∧ (r8 = 0 → Q (-2 : Int32) σ9)))))) ∧ (r4 = 0 → Q (-1 : Int32) σ5))))))
set_option maxRecDepth 100000 in
set_option maxHeartbeats 4000000 in
theorem c_X6_ifApart (l : Launch) (E : Ev) {x1 : Int32} {x2 : Int32} {x3 : Int32} {σ : Sg} {Q : Int32 → Sg → Prop} (hw : wp_X6_ifApart x1 x2 x3 σ Q) : CT l E yX6_ifApart cX6_ifApart 5 (some .int) 7 161 [.ref (ad E 12 18 0), .int x1, .int x2, .int x3] σ (QI E Q) := by
  refine CT_of (by decide) (Nat.le_of_ble_eq_true rfl) (fun X h1 h2 C => ?_)
  subst h1; subst h2
  have C : Cx X cX6_ifApart "SweetWrapsModel" (some .int) 7 161 5 (QI (tE X) Q) := C
  show G X σ [(0, .ref (ad (tE X) 12 18 0)), (1, .int x1), (2, .int x2), (3, .int x3)] [] 0
  unfold wp_X6_ifApart at hw
  refine gx_iload_n C dX6_ifApart_0 1 rfl ?_
  refine gx_scalli (As := [.int x1]) (rest := []) C (c_X6_isFlavour _ _ hw) bw_733 bw_734 bw_7 bw_735 hyS_X6_isFlavour ⟨by decide, by decide⟩ rfl (Nat.le_of_ble_eq_true rfl) dX6_ifApart_1 (fun r1 σ2 hw => ?_)
  refine gx_if_eq (tgt := 14) C dX6_ifApart_4 (by decide) (fun c3 => ?_) (fun c3 => ?_)
  · replace hw := hw.1 c3
    refine gx_iconst (v := (-1 : Int32)) C dX6_ifApart_14 (by decide) ?_
    exact gx_iret C rfl rfl dX6_ifApart_15 hw
  · replace hw := hw.2 c3
    refine gx_iload_n C dX6_ifApart_7 2 rfl ?_
    refine gx_scalli (As := [.int x2]) (rest := []) C (c_X6_isFlavour _ _ hw) bw_733 bw_734 bw_7 bw_735 hyS_X6_isFlavour ⟨by decide, by decide⟩ rfl (Nat.le_of_ble_eq_true rfl) dX6_ifApart_8 (fun r4 σ5 hw => ?_)
    refine gx_if_ne (tgt := 16) C dX6_ifApart_11 (by decide) (fun c6 => ?_) (fun c6 => ?_)
    · replace hw := hw.1 c6
      refine gx_iload_n C dX6_ifApart_16 1 rfl ?_
      refine gx_iload_n C dX6_ifApart_17 2 rfl ?_
      refine gx_icmp_eq (tgt := 31) C dX6_ifApart_18 (by decide) (fun c7 => ?_) (fun c7 => ?_)
      · replace hw := hw.1 c7
        refine gx_bipush (v := (-2 : Int32)) C dX6_ifApart_31 (by decide) ?_
        exact gx_iret C rfl rfl dX6_ifApart_33 hw
      · replace hw := hw.2 c7
        refine gx_iload_n C dX6_ifApart_21 3 rfl ?_
        refine gx_iconst (v := (1 : Int32)) C dX6_ifApart_22 (by decide) ?_
        refine gx_bipush (v := (50 : Int32)) C dX6_ifApart_23 (by decide) ?_
        refine gx_scalli (As := [.int x3, .int (1 : Int32), .int (50 : Int32)]) (rest := []) C (c_X6_in _ _ hw) bw_711 bw_712 bw_7 bw_713 hyS_X6_in ⟨by decide, by decide⟩ rfl (Nat.le_of_ble_eq_true rfl) dX6_ifApart_25 (fun r8 σ9 hw => ?_)
        refine gx_if_ne (tgt := 34) C dX6_ifApart_28 (by decide) (fun c10 => ?_) (fun c10 => ?_)
        · replace hw := hw.1 c10
          refine gx_aload_n C dX6_ifApart_34 0 rfl ?_
          refine gx_vcallv (As := []) (rest := []) C (c_X6_putAside _ _ hw) okg_18 rfl rfl bw_722 bw_724 bs_28 bw_7 bw_725 hy_X6_putAside ⟨by decide, by decide⟩ rfl (Nat.le_of_ble_eq_true rfl) dX6_ifApart_35 (fun σ11 hw => ?_)
          refine gx_aload_n C dX6_ifApart_38 0 rfl ?_
          refine gx_iload_n C dX6_ifApart_39 1 rfl ?_
          refine gx_iload_n C dX6_ifApart_40 2 rfl ?_
          refine gx_vcallv (As := [.int x1, .int x2]) (rest := []) C (c_X6_turn _ _ hw) okg_18 rfl rfl bw_804 bw_806 bs_43 bw_7 bw_807 hy_X6_turn ⟨by decide, by decide⟩ rfl (Nat.le_of_ble_eq_true rfl) dX6_ifApart_41 (fun σ12 hw => ?_)
          refine gx_aload_n C dX6_ifApart_44 0 rfl ?_
          refine gx_iload_n C dX6_ifApart_45 3 rfl ?_
          refine gx_vcalli (As := [.int x3]) (rest := []) C (c_X6_runs _ _ hw) okg_18 rfl rfl bw_816 bw_818 bs_45 bw_7 bw_819 hy_X6_runs ⟨by decide, by decide⟩ rfl (Nat.le_of_ble_eq_true rfl) dX6_ifApart_46 (fun r13 σ14 hw => ?_)
          refine gx_istore (lv' := [(4, .int r13), (0, .ref (ad (tE X) 12 18 0)), (1, .int x1), (2, .int x2), (3, .int x3)]) C dX6_ifApart_49 (by decide) rfl ?_
          refine gx_aload_n C dX6_ifApart_51 1 rfl ?_
          refine gx_vcallv (As := []) (rest := []) C (c_X6_putBack _ _ hw) okg_18 rfl rfl bw_916 bw_918 bs_61 bw_7 bw_919 hy_X6_putBack ⟨by decide, by decide⟩ rfl (Nat.le_of_ble_eq_true rfl) dX6_ifApart_52 (fun σ15 hw => ?_)
          refine gx_iload C dX6_ifApart_55 0 rfl ?_
          exact gx_iret C rfl rfl dX6_ifApart_57 hw
        · replace hw := hw.2 c10
          refine gx_bipush (v := (-2 : Int32)) C dX6_ifApart_31 (by decide) ?_
          exact gx_iret C rfl rfl dX6_ifApart_33 hw
    · replace hw := hw.2 c6
      refine gx_iconst (v := (-1 : Int32)) C dX6_ifApart_14 (by decide) ?_
      exact gx_iret C rfl rfl dX6_ifApart_15 hw
theorem hy_X6_ifApart : yX6_ifApart.cls = "SweetWrapsModel" ∧ yX6_ifApart.cls ≠ "java/lang/invoke/MethodHandle" ∧ yX6_ifApart.cls ≠ "java/lang/invoke/VarHandle" ∧ (parseMethodDescriptor yX6_ifApart.desc).map (fun d => d.parameters.length) = some 3 := by decide +kernel

theorem dX6_tinsFor_0 : decode cX6_tinsFor 0 = .ok (.iconst 0, 1) := by decide +kernel
theorem dX6_tinsFor_1 : decode cX6_tinsFor 1 = .ok (.istore_n 1, 1) := by decide +kernel
theorem dX6_tinsFor_2 : decode cX6_tinsFor 2 = .ok (.iconst 0, 1) := by decide +kernel
theorem dX6_tinsFor_3 : decode cX6_tinsFor 3 = .ok (.istore_n 2, 1) := by decide +kernel
theorem dX6_tinsFor_4 : decode cX6_tinsFor 4 = .ok (.iload_n 2, 1) := by decide +kernel
theorem dX6_tinsFor_5 : decode cX6_tinsFor 5 = .ok (.bipush 6, 2) := by decide +kernel
theorem dX6_tinsFor_7 : decode cX6_tinsFor 7 = .ok (.if_icmp .ge 33, 3) := by decide +kernel
theorem dX6_tinsFor_10 : decode cX6_tinsFor 10 = .ok (.iload_n 1, 1) := by decide +kernel
theorem dX6_tinsFor_11 : decode cX6_tinsFor 11 = .ok (.aload_n 0, 1) := by decide +kernel
theorem dX6_tinsFor_12 : decode cX6_tinsFor 12 = .ok (.iload_n 2, 1) := by decide +kernel
theorem dX6_tinsFor_13 : decode cX6_tinsFor 13 = .ok (.invokevirtual 135, 3) := by decide +kernel
theorem dX6_tinsFor_16 : decode cX6_tinsFor 16 = .ok (.aload_n 0, 1) := by decide +kernel
theorem dX6_tinsFor_17 : decode cX6_tinsFor 17 = .ok (.getfield 7, 3) := by decide +kernel
theorem dX6_tinsFor_20 : decode cX6_tinsFor 20 = .ok (.iconst 2, 1) := by decide +kernel
theorem dX6_tinsFor_21 : decode cX6_tinsFor 21 = .ok (.iaload, 1) := by decide +kernel
theorem dX6_tinsFor_22 : decode cX6_tinsFor 22 = .ok (.iadd, 1) := by decide +kernel
theorem dX6_tinsFor_23 : decode cX6_tinsFor 23 = .ok (.iconst 1, 1) := by decide +kernel
theorem dX6_tinsFor_24 : decode cX6_tinsFor 24 = .ok (.isub, 1) := by decide +kernel
theorem dX6_tinsFor_25 : decode cX6_tinsFor 25 = .ok (.aload_n 0, 1) := by decide +kernel
theorem dX6_tinsFor_26 : decode cX6_tinsFor 26 = .ok (.getfield 7, 3) := by decide +kernel
theorem dX6_tinsFor_29 : decode cX6_tinsFor 29 = .ok (.iconst 2, 1) := by decide +kernel
theorem dX6_tinsFor_30 : decode cX6_tinsFor 30 = .ok (.iaload, 1) := by decide +kernel
theorem dX6_tinsFor_31 : decode cX6_tinsFor 31 = .ok (.idiv, 1) := by decide +kernel
theorem dX6_tinsFor_32 : decode cX6_tinsFor 32 = .ok (.iadd, 1) := by decide +kernel
theorem dX6_tinsFor_33 : decode cX6_tinsFor 33 = .ok (.istore_n 1, 1) := by decide +kernel
theorem dX6_tinsFor_34 : decode cX6_tinsFor 34 = .ok (.iinc 2 1, 3) := by decide +kernel
theorem dX6_tinsFor_37 : decode cX6_tinsFor 37 = .ok (.goto (-33), 3) := by decide +kernel
theorem dX6_tinsFor_40 : decode cX6_tinsFor 40 = .ok (.iload_n 1, 1) := by decide +kernel
theorem dX6_tinsFor_41 : decode cX6_tinsFor 41 = .ok (.ireturn, 1) := by decide +kernel
def st_X6_tinsFor_L4 (Q : Int32 → Sg → Prop) (K4 : Int32 → Int32 → Sg → Prop) (v1 : Int32) (v2 : Int32) (σ : Sg) : Prop := (((6 : Int32) ≤ v2 → Q v1 σ) ∧ (¬ (6 : Int32) ≤ v2 → wp_X6_inHoppers v2 σ (fun r2 σ3 => (¬ (σ3 12 19 0 2) = 0 ∧ ∀ z4 : Int32, z4 = (v1 + (((r2 + (σ3 12 19 0 2)) - (1 : Int32)) / (σ3 12 19 0 2))) → ∀ z5 : Int32, z5 = v2 + (1 : Int32) → K4 z4 z5 σ3))))
def wp_X6_tinsFor_L4 (Q : Int32 → Sg → Prop) (v1 : Int32) (v2 : Int32) (σ : Sg) : Prop := ∃ n : Nat, lpN (fun (K : Int32 × Int32 × Sg → Prop) (a : Int32 × Int32 × Sg) => st_X6_tinsFor_L4 Q (fun v1 v2 σ => K (v1, v2, σ)) (a.1) (a.2.1) (a.2.2)) n (v1, v2, σ)
set_option maxRecDepth 100000 in
set_option maxHeartbeats 4000000 in
theorem gs_X6_tinsFor_L4 {X : Tx} {Q : Int32 → Sg → Prop} (C : Cx X cX6_tinsFor "SweetWrapsModel" (some .int) 3 68 3 (QI (tE X) Q)) {K4 : Int32 → Int32 → Sg → Prop} (hK4 : ∀ (v1 : Int32) (v2 : Int32) (σ : Sg), K4 v1 v2 σ → G X σ [(0, .ref (ad (tE X) 12 18 0)), (1, .int v1), (2, .int v2)] [] 4) {v1 : Int32} {v2 : Int32} {σ : Sg} (hw : st_X6_tinsFor_L4 Q K4 v1 v2 σ) : G X σ [(0, .ref (ad (tE X) 12 18 0)), (1, .int v1), (2, .int v2)] [] 4 := by
  unfold st_X6_tinsFor_L4 at hw
  refine gx_iload_n C dX6_tinsFor_4 2 rfl ?_
  refine gx_bipush (v := (6 : Int32)) C dX6_tinsFor_5 (by decide) ?_
  refine gx_icmp_ge (tgt := 40) C dX6_tinsFor_7 (by decide) (fun c1 => ?_) (fun c1 => ?_)
  · replace hw := hw.1 c1
    refine gx_iload_n C dX6_tinsFor_40 1 rfl ?_
    exact gx_iret C rfl rfl dX6_tinsFor_41 hw
  · replace hw := hw.2 c1
    refine gx_iload_n C dX6_tinsFor_10 1 rfl ?_
    refine gx_aload_n C dX6_tinsFor_11 0 rfl ?_
    refine gx_iload_n C dX6_tinsFor_12 2 rfl ?_
    refine gx_vcalli (As := [.int v2]) (rest := [.int v1]) C (c_X6_inHoppers _ _ hw) okg_18 rfl rfl bw_872 bw_874 bs_54 bw_7 bw_875 hy_X6_inHoppers ⟨by decide, by decide⟩ rfl (Nat.le_of_ble_eq_true rfl) dX6_tinsFor_13 (fun r2 σ3 hw => ?_)
    refine gx_aload_n C dX6_tinsFor_16 0 rfl ?_
    refine gx_get C okg_18 rfl rfl inX6 (ref := "SweetWrapsModel") 0 (by decide) bw_673 rfl rfl dX6_tinsFor_17 ?_
    refine gx_iconst (v := (2 : Int32)) C dX6_tinsFor_20 (by decide) ?_
    refine gx_iald C okg_19 rfl (n := 194) (x := (2 : Int32)) (by unfold vp_in; decide) 2 (by decide) dX6_tinsFor_21 ?_
    refine gx_iadd C dX6_tinsFor_22 ?_
    refine gx_iconst (v := (1 : Int32)) C dX6_tinsFor_23 (by decide) ?_
    refine gx_isub C dX6_tinsFor_24 ?_
    refine gx_aload_n C dX6_tinsFor_25 0 rfl ?_
    refine gx_get C okg_18 rfl rfl inX6 (ref := "SweetWrapsModel") 0 (by decide) bw_673 rfl rfl dX6_tinsFor_26 ?_
    refine gx_iconst (v := (2 : Int32)) C dX6_tinsFor_29 (by decide) ?_
    refine gx_iald C okg_19 rfl (n := 194) (x := (2 : Int32)) (by unfold vp_in; decide) 2 (by decide) dX6_tinsFor_30 ?_
    refine gx_idiv C dX6_tinsFor_31 hw.1 ?_
    replace hw := hw.2
    refine gx_iadd C dX6_tinsFor_32 ?_
    obtain ⟨z4, e_z4⟩ : ∃ z : Int32, z = (v1 + (((r2 + (σ3 12 19 0 2)) - (1 : Int32)) / (σ3 12 19 0 2))) := ⟨_, rfl⟩
    replace hw := hw z4 e_z4
    refine gx_top e_z4 ?_
    refine gx_istore_n (lv' := [(1, .int z4), (0, .ref (ad (tE X) 12 18 0)), (2, .int v2)]) C dX6_tinsFor_33 (by decide) rfl ?_
    obtain ⟨z5, e_z5⟩ : ∃ z : Int32, z = v2 + (1 : Int32) := ⟨_, rfl⟩
    replace hw := hw z5 e_z5
    refine gx_iinc (v := z5) (lv' := [(2, .int z5), (1, .int z4), (0, .ref (ad (tE X) 12 18 0))]) C dX6_tinsFor_34 2 rfl (by rw [e_z5]; rfl) (by decide) rfl ?_
    refine gx_goto (tgt := 4) C dX6_tinsFor_37 (by decide) ?_
    refine gx_sub (lv' := [(0, .ref (ad (tE X) 12 18 0)), (1, .int z4), (2, .int z5)]) [2, 1, 0] rfl ?_
    exact hK4 _ _ _ hw
set_option maxRecDepth 100000 in
set_option maxHeartbeats 4000000 in
theorem g_X6_tinsFor_L4 {X : Tx} {Q : Int32 → Sg → Prop} (C : Cx X cX6_tinsFor "SweetWrapsModel" (some .int) 3 68 3 (QI (tE X) Q)) {v1 : Int32} {v2 : Int32} {σ : Sg} (hw : wp_X6_tinsFor_L4 Q v1 v2 σ) : G X σ [(0, .ref (ad (tE X) 12 18 0)), (1, .int v1), (2, .int v2)] [] 4 := by
  obtain ⟨n, hw⟩ := hw
  exact lpN_G (P := (fun (a : Int32 × Int32 × Sg) => G X (a.2.2) [(0, .ref (ad (tE X) 12 18 0)), (1, .int (a.1)), (2, .int (a.2.1))] [] 4)) (fun K a hK h => gs_X6_tinsFor_L4 C (fun v1 v2 σ h => hK (v1, v2, σ) h) h) n _ hw
def wp_X6_tinsFor (σ : Sg) (Q : Int32 → Sg → Prop) : Prop := wp_X6_tinsFor_L4 Q (0 : Int32) (0 : Int32) σ
set_option maxRecDepth 100000 in
set_option maxHeartbeats 4000000 in
theorem c_X6_tinsFor (l : Launch) (E : Ev) {σ : Sg} {Q : Int32 → Sg → Prop} (hw : wp_X6_tinsFor σ Q) : CT l E yX6_tinsFor cX6_tinsFor 3 (some .int) 3 68 [.ref (ad E 12 18 0)] σ (QI E Q) := by
  refine CT_of (by decide) (Nat.le_of_ble_eq_true rfl) (fun X h1 h2 C => ?_)
  subst h1; subst h2
  have C : Cx X cX6_tinsFor "SweetWrapsModel" (some .int) 3 68 3 (QI (tE X) Q) := C
  show G X σ [(0, .ref (ad (tE X) 12 18 0))] [] 0
  unfold wp_X6_tinsFor at hw
  refine gx_iconst (v := (0 : Int32)) C dX6_tinsFor_0 (by decide) ?_
  refine gx_istore_n (lv' := [(1, .int (0 : Int32)), (0, .ref (ad (tE X) 12 18 0))]) C dX6_tinsFor_1 (by decide) rfl ?_
  refine gx_iconst (v := (0 : Int32)) C dX6_tinsFor_2 (by decide) ?_
  refine gx_istore_n (lv' := [(2, .int (0 : Int32)), (1, .int (0 : Int32)), (0, .ref (ad (tE X) 12 18 0))]) C dX6_tinsFor_3 (by decide) rfl ?_
  refine gx_sub (lv' := [(0, .ref (ad (tE X) 12 18 0)), (1, .int (0 : Int32)), (2, .int (0 : Int32))]) [2, 1, 0] rfl ?_
  exact g_X6_tinsFor_L4 C hw
theorem hy_X6_tinsFor : yX6_tinsFor.cls = "SweetWrapsModel" ∧ yX6_tinsFor.cls ≠ "java/lang/invoke/MethodHandle" ∧ yX6_tinsFor.cls ≠ "java/lang/invoke/VarHandle" ∧ (parseMethodDescriptor yX6_tinsFor.desc).map (fun d => d.parameters.length) = some 0 := by decide +kernel

theorem dX6_code_0 : decode cX6_code 0 = .ok (.lload_n 0, 1) := by decide +kernel
theorem dX6_code_1 : decode cX6_code 1 = .ok (.bipush 8, 2) := by decide +kernel
theorem dX6_code_3 : decode cX6_code 3 = .ok (.iload_n 2, 1) := by decide +kernel
theorem dX6_code_4 : decode cX6_code 4 = .ok (.imul, 1) := by decide +kernel
theorem dX6_code_5 : decode cX6_code 5 = .ok (.lushr, 1) := by decide +kernel
theorem dX6_code_6 : decode cX6_code 6 = .ok (.ldc2_w 162, 3) := by decide +kernel
theorem dX6_code_9 : decode cX6_code 9 = .ok (.land, 1) := by decide +kernel
theorem dX6_code_10 : decode cX6_code 10 = .ok (.l2i, 1) := by decide +kernel
theorem dX6_code_11 : decode cX6_code 11 = .ok (.ireturn, 1) := by decide +kernel
def wp_X6_code (y0 : Int64) (x2 : Int32) (σ : Sg) (Q : Int32 → Sg → Prop) : Prop := Q (Int64.toInt32 ((y0.toUInt64 >>> (Int64.toUInt64 (Int32.toInt64 ((8 : Int32) * x2)) &&& Int64.toUInt64 63)).toInt64 &&& (255 : Int64))) σ
set_option maxRecDepth 100000 in
set_option maxHeartbeats 4000000 in
theorem c_X6_code (l : Launch) (E : Ev) {y0 : Int64} {x2 : Int32} {σ : Sg} {Q : Int32 → Sg → Prop} (hw : wp_X6_code y0 x2 σ Q) : CT l E yX6_code cX6_code 3 (some .int) 0 0 [.long y0, .int x2] σ (QI E Q) := by
  refine CT_of (by decide) (Nat.le_of_ble_eq_true rfl) (fun X h1 h2 C => ?_)
  subst h1; subst h2
  have C : Cx X cX6_code "SweetWrapsModel" (some .int) 0 0 3 (QI (tE X) Q) := C
  show G X σ [(0, .long y0), (2, .int x2)] [] 0
  unfold wp_X6_code at hw
  refine gx_lload_n C dX6_code_0 0 rfl ?_
  refine gx_bipush (v := (8 : Int32)) C dX6_code_1 (by decide) ?_
  refine gx_iload_n C dX6_code_3 1 rfl ?_
  refine gx_imul C dX6_code_4 ?_
  refine gx_lushr C dX6_code_5 ?_
  refine gx_ldc2 C dX6_code_6 bw_939 ?_
  refine gx_land C dX6_code_9 ?_
  refine gx_l2i C dX6_code_10 ?_
  exact gx_iret C rfl rfl dX6_code_11 hw
theorem hyS_X6_code : yX6_code.cls ≠ "java/lang/invoke/MethodHandle" ∧ yX6_code.cls ≠ "java/lang/invoke/VarHandle" ∧ (parseMethodDescriptor yX6_code.desc).map (fun d => d.parameters.length) = some 2 := by decide +kernel

theorem dX6_put_0 : decode cX6_put 0 = .ok (.iconst 0, 1) := by decide +kernel
theorem dX6_put_1 : decode cX6_put 1 = .ok (.istore_n 3, 1) := by decide +kernel
theorem dX6_put_2 : decode cX6_put 2 = .ok (.iload_n 3, 1) := by decide +kernel
theorem dX6_put_3 : decode cX6_put 3 = .ok (.bipush 8, 2) := by decide +kernel
theorem dX6_put_5 : decode cX6_put 5 = .ok (.if_icmp .ge 35, 3) := by decide +kernel
theorem dX6_put_8 : decode cX6_put 8 = .ok (.lload_n 1, 1) := by decide +kernel
theorem dX6_put_9 : decode cX6_put 9 = .ok (.iload_n 3, 1) := by decide +kernel
theorem dX6_put_10 : decode cX6_put 10 = .ok (.invokestatic 164, 3) := by decide +kernel
theorem dX6_put_13 : decode cX6_put 13 = .ok (.ifCond .eq 27, 3) := by decide +kernel
theorem dX6_put_16 : decode cX6_put 16 = .ok (.lload_n 1, 1) := by decide +kernel
theorem dX6_put_17 : decode cX6_put 17 = .ok (.iload_n 3, 1) := by decide +kernel
theorem dX6_put_18 : decode cX6_put 18 = .ok (.invokestatic 164, 3) := by decide +kernel
theorem dX6_put_21 : decode cX6_put 21 = .ok (.bipush 33, 2) := by decide +kernel
theorem dX6_put_23 : decode cX6_put 23 = .ok (.bipush 126, 2) := by decide +kernel
theorem dX6_put_25 : decode cX6_put 25 = .ok (.invokestatic 36, 3) := by decide +kernel
theorem dX6_put_28 : decode cX6_put 28 = .ok (.ifCond .ne 6, 3) := by decide +kernel
theorem dX6_put_31 : decode cX6_put 31 = .ok (.bipush (-2), 2) := by decide +kernel
theorem dX6_put_33 : decode cX6_put 33 = .ok (.ireturn, 1) := by decide +kernel
theorem dX6_put_34 : decode cX6_put 34 = .ok (.iinc 3 1, 3) := by decide +kernel
theorem dX6_put_37 : decode cX6_put 37 = .ok (.goto (-35), 3) := by decide +kernel
theorem dX6_put_40 : decode cX6_put 40 = .ok (.iload_n 3, 1) := by decide +kernel
theorem dX6_put_41 : decode cX6_put 41 = .ok (.ifCond .eq 20, 3) := by decide +kernel
theorem dX6_put_44 : decode cX6_put 44 = .ok (.iload_n 3, 1) := by decide +kernel
theorem dX6_put_45 : decode cX6_put 45 = .ok (.bipush 8, 2) := by decide +kernel
theorem dX6_put_47 : decode cX6_put 47 = .ok (.if_icmp .ge 17, 3) := by decide +kernel
theorem dX6_put_50 : decode cX6_put 50 = .ok (.lload_n 1, 1) := by decide +kernel
theorem dX6_put_51 : decode cX6_put 51 = .ok (.bipush 8, 2) := by decide +kernel
theorem dX6_put_53 : decode cX6_put 53 = .ok (.iload_n 3, 1) := by decide +kernel
theorem dX6_put_54 : decode cX6_put 54 = .ok (.imul, 1) := by decide +kernel
theorem dX6_put_55 : decode cX6_put 55 = .ok (.lushr, 1) := by decide +kernel
theorem dX6_put_56 : decode cX6_put 56 = .ok (.lconst 0, 1) := by decide +kernel
theorem dX6_put_57 : decode cX6_put 57 = .ok (.lcmp, 1) := by decide +kernel
theorem dX6_put_58 : decode cX6_put 58 = .ok (.ifCond .eq 6, 3) := by decide +kernel
theorem dX6_put_61 : decode cX6_put 61 = .ok (.bipush (-2), 2) := by decide +kernel
theorem dX6_put_63 : decode cX6_put 63 = .ok (.ireturn, 1) := by decide +kernel
theorem dX6_put_64 : decode cX6_put 64 = .ok (.aload_n 0, 1) := by decide +kernel
theorem dX6_put_65 : decode cX6_put 65 = .ok (.getfield 156, 3) := by decide +kernel
theorem dX6_put_68 : decode cX6_put 68 = .ok (.iload_n 3, 1) := by decide +kernel
theorem dX6_put_69 : decode cX6_put 69 = .ok (.iadd, 1) := by decide +kernel
theorem dX6_put_70 : decode cX6_put 70 = .ok (.bipush 80, 2) := by decide +kernel
theorem dX6_put_72 : decode cX6_put 72 = .ok (.if_icmp .le 6, 3) := by decide +kernel
theorem dX6_put_75 : decode cX6_put 75 = .ok (.bipush (-4), 2) := by decide +kernel
theorem dX6_put_77 : decode cX6_put 77 = .ok (.ireturn, 1) := by decide +kernel
theorem dX6_put_78 : decode cX6_put 78 = .ok (.iload_n 3, 1) := by decide +kernel
theorem dX6_put_79 : decode cX6_put 79 = .ok (.iconst 1, 1) := by decide +kernel
theorem dX6_put_80 : decode cX6_put 80 = .ok (.isub, 1) := by decide +kernel
theorem dX6_put_81 : decode cX6_put 81 = .ok (.istore 4, 2) := by decide +kernel
theorem dX6_put_83 : decode cX6_put 83 = .ok (.iload 4, 2) := by decide +kernel
theorem dX6_put_85 : decode cX6_put 85 = .ok (.ifCond .lt 34, 3) := by decide +kernel
theorem dX6_put_88 : decode cX6_put 88 = .ok (.aload_n 0, 1) := by decide +kernel
theorem dX6_put_89 : decode cX6_put 89 = .ok (.getfield 26, 3) := by decide +kernel
theorem dX6_put_92 : decode cX6_put 92 = .ok (.aload_n 0, 1) := by decide +kernel
theorem dX6_put_93 : decode cX6_put 93 = .ok (.getfield 156, 3) := by decide +kernel
theorem dX6_put_96 : decode cX6_put 96 = .ok (.lload_n 1, 1) := by decide +kernel
theorem dX6_put_97 : decode cX6_put 97 = .ok (.iload 4, 2) := by decide +kernel
theorem dX6_put_99 : decode cX6_put 99 = .ok (.invokestatic 164, 3) := by decide +kernel
theorem dX6_put_102 : decode cX6_put 102 = .ok (.iastore, 1) := by decide +kernel
theorem dX6_put_103 : decode cX6_put 103 = .ok (.aload_n 0, 1) := by decide +kernel
theorem dX6_put_104 : decode cX6_put 104 = .ok (.dup, 1) := by decide +kernel
theorem dX6_put_105 : decode cX6_put 105 = .ok (.getfield 156, 3) := by decide +kernel
theorem dX6_put_108 : decode cX6_put 108 = .ok (.iconst 1, 1) := by decide +kernel
theorem dX6_put_109 : decode cX6_put 109 = .ok (.iadd, 1) := by decide +kernel
theorem dX6_put_110 : decode cX6_put 110 = .ok (.putfield 156, 3) := by decide +kernel
theorem dX6_put_113 : decode cX6_put 113 = .ok (.iinc 4 (-1), 3) := by decide +kernel
theorem dX6_put_116 : decode cX6_put 116 = .ok (.goto (-33), 3) := by decide +kernel
theorem dX6_put_119 : decode cX6_put 119 = .ok (.aload_n 0, 1) := by decide +kernel
theorem dX6_put_120 : decode cX6_put 120 = .ok (.getfield 156, 3) := by decide +kernel
theorem dX6_put_123 : decode cX6_put 123 = .ok (.ireturn, 1) := by decide +kernel
def st_X6_put_L83 (y1 : Int64) (Q : Int32 → Sg → Prop) (K83 : Int32 → Sg → Prop) (v4 : Int32) (σ : Sg) : Prop := ((v4 < 0 → Q (σ 12 18 0 7) σ) ∧ (¬ v4 < 0 → wp_X6_code y1 v4 σ (fun r17 σ18 => (vp_in (σ 12 18 0 7) 80 ∧ ∀ σ19 : Sg, σ19 = up σ18 12 24 0 (σ 12 18 0 7).toNatClampNeg r17 → ∀ σ20 : Sg, σ20 = up σ19 12 18 0 7 ((σ19 12 18 0 7) + (1 : Int32)) → ∀ z21 : Int32, z21 = v4 + (-1 : Int32) → K83 z21 σ20))))
def wp_X6_put_L83 (y1 : Int64) (Q : Int32 → Sg → Prop) (v4 : Int32) (σ : Sg) : Prop := ∃ n : Nat, lpN (fun (K : Int32 × Sg → Prop) (a : Int32 × Sg) => st_X6_put_L83 y1 Q (fun v4 σ => K (v4, σ)) (a.1) (a.2)) n (v4, σ)
set_option maxRecDepth 100000 in
set_option maxHeartbeats 4000000 in
theorem gs_X6_put_L83 {X : Tx} {Q : Int32 → Sg → Prop} (C : Cx X cX6_put "SweetWrapsModel" (some .int) 1 22 5 (QI (tE X) Q)) {y1 : Int64} {K83 : Int32 → Sg → Prop} (hK83 : ∀ (v4 : Int32) (σ : Sg), K83 v4 σ → G X σ [(0, .ref (ad (tE X) 12 18 0)), (1, .long y1), (4, .int v4)] [] 83) {v4 : Int32} {σ : Sg} (hw : st_X6_put_L83 y1 Q K83 v4 σ) : G X σ [(0, .ref (ad (tE X) 12 18 0)), (1, .long y1), (4, .int v4)] [] 83 := by
  unfold st_X6_put_L83 at hw
  refine gx_iload C dX6_put_83 2 rfl ?_
  refine gx_if_lt (tgt := 119) C dX6_put_85 (by decide) (fun c16 => ?_) (fun c16 => ?_)
  · replace hw := hw.1 c16
    refine gx_aload_n C dX6_put_119 0 rfl ?_
    refine gx_get C okg_18 rfl rfl inX6 (ref := "SweetWrapsModel") 7 (by decide) bw_680 rfl rfl dX6_put_120 ?_
    exact gx_iret C rfl rfl dX6_put_123 hw
  · replace hw := hw.2 c16
    refine gx_aload_n C dX6_put_88 0 rfl ?_
    refine gx_get C okg_18 rfl rfl inX6 (ref := "SweetWrapsModel") 6 (by decide) bw_679 rfl rfl dX6_put_89 ?_
    refine gx_aload_n C dX6_put_92 0 rfl ?_
    refine gx_get C okg_18 rfl rfl inX6 (ref := "SweetWrapsModel") 7 (by decide) bw_680 rfl rfl dX6_put_93 ?_
    refine gx_lload_n C dX6_put_96 1 rfl ?_
    refine gx_iload C dX6_put_97 2 rfl ?_
    refine gx_scalli (As := [.long y1, .int v4]) (rest := [.int (σ 12 18 0 7), .ref (ad (tE X) 12 24 0)]) C (c_X6_code _ _ hw) bw_936 bw_937 bw_7 bw_938 hyS_X6_code ⟨by decide, by decide⟩ rfl (Nat.le_of_ble_eq_true rfl) dX6_put_99 (fun r17 σ18 hw => ?_)
    refine gx_iast C okg_24 (fun _ => rfl) hw.1 _ rfl rfl dX6_put_102 ?_
    replace hw := hw.2
    obtain ⟨σ19, e_σ19⟩ : ∃ z : Sg, z = up σ18 12 24 0 (σ 12 18 0 7).toNatClampNeg r17 := ⟨_, rfl⟩
    replace hw := hw σ19 e_σ19
    refine gx_st e_σ19 ?_
    refine gx_aload_n C dX6_put_103 0 rfl ?_
    refine gx_dup C dX6_put_104 rfl ?_
    refine gx_get C okg_18 rfl rfl inX6 (ref := "SweetWrapsModel") 7 (by decide) bw_680 rfl rfl dX6_put_105 ?_
    refine gx_iconst (v := (1 : Int32)) C dX6_put_108 (by decide) ?_
    refine gx_iadd C dX6_put_109 ?_
    refine gx_put C okg_18 rfl rfl inX6 tyX6 tyX6_ok nmX6 (ref := "SweetWrapsModel") 7 (by decide) bw_680 rfl rfl (v := .int ((σ19 12 18 0 7) + (1 : Int32))) rfl rfl (Nat.le_of_ble_eq_true rfl) (upd (σ19 12 18 0) 7 ((σ19 12 18 0 7) + (1 : Int32))) rfl dX6_put_110 ?_
    obtain ⟨σ20, e_σ20⟩ : ∃ z : Sg, z = up σ19 12 18 0 7 ((σ19 12 18 0 7) + (1 : Int32)) := ⟨_, rfl⟩
    replace hw := hw σ20 e_σ20
    refine gx_st e_σ20 ?_
    obtain ⟨z21, e_z21⟩ : ∃ z : Int32, z = v4 + (-1 : Int32) := ⟨_, rfl⟩
    replace hw := hw z21 e_z21
    refine gx_iinc (v := z21) (lv' := [(4, .int z21), (0, .ref (ad (tE X) 12 18 0)), (1, .long y1)]) C dX6_put_113 2 rfl (by rw [e_z21]; rfl) (by decide) rfl ?_
    refine gx_goto (tgt := 83) C dX6_put_116 (by decide) ?_
    refine gx_sub (lv' := [(0, .ref (ad (tE X) 12 18 0)), (1, .long y1), (4, .int z21)]) [1, 2, 0] rfl ?_
    exact hK83 _ _ hw
set_option maxRecDepth 100000 in
set_option maxHeartbeats 4000000 in
theorem g_X6_put_L83 {X : Tx} {Q : Int32 → Sg → Prop} (C : Cx X cX6_put "SweetWrapsModel" (some .int) 1 22 5 (QI (tE X) Q)) {y1 : Int64} {v4 : Int32} {σ : Sg} (hw : wp_X6_put_L83 y1 Q v4 σ) : G X σ [(0, .ref (ad (tE X) 12 18 0)), (1, .long y1), (4, .int v4)] [] 83 := by
  obtain ⟨n, hw⟩ := hw
  exact lpN_G (P := (fun (a : Int32 × Sg) => G X (a.2) [(0, .ref (ad (tE X) 12 18 0)), (1, .long y1), (4, .int (a.1))] [] 83)) (fun K a hK h => gs_X6_put_L83 C (fun v4 σ h => hK (v4, σ) h) h) n _ hw
def wp_X6_put_b64 (y1 : Int64) (Q : Int32 → Sg → Prop) (v3 : Int32) (σ : Sg) : Prop := ((((σ 12 18 0 7) + v3) ≤ (80 : Int32) → ∀ z15 : Int32, z15 = (v3 - (1 : Int32)) → wp_X6_put_L83 y1 Q z15 σ) ∧ (¬ ((σ 12 18 0 7) + v3) ≤ (80 : Int32) → Q (-4 : Int32) σ))
set_option maxRecDepth 100000 in
set_option maxHeartbeats 4000000 in
theorem g_X6_put_b64 {X : Tx} {Q : Int32 → Sg → Prop} (C : Cx X cX6_put "SweetWrapsModel" (some .int) 1 22 5 (QI (tE X) Q)) {y1 : Int64} {v3 : Int32} {σ : Sg} (hw : wp_X6_put_b64 y1 Q v3 σ) : G X σ [(0, .ref (ad (tE X) 12 18 0)), (1, .long y1), (3, .int v3)] [] 64 := by
  unfold wp_X6_put_b64 at hw
  refine gx_aload_n C dX6_put_64 0 rfl ?_
  refine gx_get C okg_18 rfl rfl inX6 (ref := "SweetWrapsModel") 7 (by decide) bw_680 rfl rfl dX6_put_65 ?_
  refine gx_iload_n C dX6_put_68 2 rfl ?_
  refine gx_iadd C dX6_put_69 ?_
  refine gx_bipush (v := (80 : Int32)) C dX6_put_70 (by decide) ?_
  refine gx_icmp_le (tgt := 78) C dX6_put_72 (by decide) (fun c14 => ?_) (fun c14 => ?_)
  · replace hw := hw.1 c14
    refine gx_iload_n C dX6_put_78 2 rfl ?_
    refine gx_iconst (v := (1 : Int32)) C dX6_put_79 (by decide) ?_
    refine gx_isub C dX6_put_80 ?_
    obtain ⟨z15, e_z15⟩ : ∃ z : Int32, z = (v3 - (1 : Int32)) := ⟨_, rfl⟩
    replace hw := hw z15 e_z15
    refine gx_top e_z15 ?_
    refine gx_istore (lv' := [(4, .int z15), (0, .ref (ad (tE X) 12 18 0)), (1, .long y1), (3, .int v3)]) C dX6_put_81 (by decide) rfl ?_
    refine gx_sub (lv' := [(0, .ref (ad (tE X) 12 18 0)), (1, .long y1), (4, .int z15)]) [1, 2, 0] rfl ?_
    exact g_X6_put_L83 C hw
  · replace hw := hw.2 c14
    refine gx_bipush (v := (-4 : Int32)) C dX6_put_75 (by decide) ?_
    exact gx_iret C rfl rfl dX6_put_77 hw
def wp_X6_put_b40 (y1 : Int64) (Q : Int32 → Sg → Prop) (v3 : Int32) (σ : Sg) : Prop := ((v3 = 0 → Q (-2 : Int32) σ) ∧ (¬ v3 = 0 → (((8 : Int32) ≤ v3 → wp_X6_put_b64 y1 Q v3 σ) ∧ (¬ (8 : Int32) ≤ v3 → (((lg_cmp (y1.toUInt64 >>> (Int64.toUInt64 (Int32.toInt64 ((8 : Int32) * v3)) &&& Int64.toUInt64 63)).toInt64 (0 : Int64)) = 0 → wp_X6_put_b64 y1 Q v3 σ) ∧ (¬ (lg_cmp (y1.toUInt64 >>> (Int64.toUInt64 (Int32.toInt64 ((8 : Int32) * v3)) &&& Int64.toUInt64 63)).toInt64 (0 : Int64)) = 0 → Q (-2 : Int32) σ))))))
set_option maxRecDepth 100000 in
set_option maxHeartbeats 4000000 in
theorem g_X6_put_b40 {X : Tx} {Q : Int32 → Sg → Prop} (C : Cx X cX6_put "SweetWrapsModel" (some .int) 1 22 5 (QI (tE X) Q)) {y1 : Int64} {v3 : Int32} {σ : Sg} (hw : wp_X6_put_b40 y1 Q v3 σ) : G X σ [(0, .ref (ad (tE X) 12 18 0)), (1, .long y1), (3, .int v3)] [] 40 := by
  unfold wp_X6_put_b40 at hw
  refine gx_iload_n C dX6_put_40 2 rfl ?_
  refine gx_if_eq (tgt := 61) C dX6_put_41 (by decide) (fun c11 => ?_) (fun c11 => ?_)
  · replace hw := hw.1 c11
    refine gx_bipush (v := (-2 : Int32)) C dX6_put_61 (by decide) ?_
    exact gx_iret C rfl rfl dX6_put_63 hw
  · replace hw := hw.2 c11
    refine gx_iload_n C dX6_put_44 2 rfl ?_
    refine gx_bipush (v := (8 : Int32)) C dX6_put_45 (by decide) ?_
    refine gx_icmp_ge (tgt := 64) C dX6_put_47 (by decide) (fun c12 => ?_) (fun c12 => ?_)
    · replace hw := hw.1 c12
      exact g_X6_put_b64 C hw
    · replace hw := hw.2 c12
      refine gx_lload_n C dX6_put_50 1 rfl ?_
      refine gx_bipush (v := (8 : Int32)) C dX6_put_51 (by decide) ?_
      refine gx_iload_n C dX6_put_53 2 rfl ?_
      refine gx_imul C dX6_put_54 ?_
      refine gx_lushr C dX6_put_55 ?_
      refine gx_lconst (v := (0 : Int64)) C dX6_put_56 (by decide) ?_
      refine gx_lcmp C dX6_put_57 ?_
      refine gx_if_eq (tgt := 64) C dX6_put_58 (by decide) (fun c13 => ?_) (fun c13 => ?_)
      · replace hw := hw.1 c13
        exact g_X6_put_b64 C hw
      · replace hw := hw.2 c13
        refine gx_bipush (v := (-2 : Int32)) C dX6_put_61 (by decide) ?_
        exact gx_iret C rfl rfl dX6_put_63 hw
def st_X6_put_L2 (y1 : Int64) (Q : Int32 → Sg → Prop) (K2 : Int32 → Sg → Prop) (v3 : Int32) (σ : Sg) : Prop := (((8 : Int32) ≤ v3 → wp_X6_put_b40 y1 Q v3 σ) ∧ (¬ (8 : Int32) ≤ v3 → wp_X6_code y1 v3 σ (fun r2 σ3 => ((r2 = 0 → wp_X6_put_b40 y1 Q v3 σ3) ∧ (¬ r2 = 0 → wp_X6_code y1 v3 σ3 (fun r5 σ6 => wp_X6_in r5 (33 : Int32) (126 : Int32) σ6 (fun r7 σ8 => ((¬ r7 = 0 → ∀ z10 : Int32, z10 = v3 + (1 : Int32) → K2 z10 σ8) ∧ (r7 = 0 → Q (-2 : Int32) σ8)))))))))
def wp_X6_put_L2 (y1 : Int64) (Q : Int32 → Sg → Prop) (v3 : Int32) (σ : Sg) : Prop := ∃ n : Nat, lpN (fun (K : Int32 × Sg → Prop) (a : Int32 × Sg) => st_X6_put_L2 y1 Q (fun v3 σ => K (v3, σ)) (a.1) (a.2)) n (v3, σ)
set_option maxRecDepth 100000 in
set_option maxHeartbeats 4000000 in
theorem gs_X6_put_L2 {X : Tx} {Q : Int32 → Sg → Prop} (C : Cx X cX6_put "SweetWrapsModel" (some .int) 1 22 5 (QI (tE X) Q)) {y1 : Int64} {K2 : Int32 → Sg → Prop} (hK2 : ∀ (v3 : Int32) (σ : Sg), K2 v3 σ → G X σ [(0, .ref (ad (tE X) 12 18 0)), (1, .long y1), (3, .int v3)] [] 2) {v3 : Int32} {σ : Sg} (hw : st_X6_put_L2 y1 Q K2 v3 σ) : G X σ [(0, .ref (ad (tE X) 12 18 0)), (1, .long y1), (3, .int v3)] [] 2 := by
  unfold st_X6_put_L2 at hw
  refine gx_iload_n C dX6_put_2 2 rfl ?_
  refine gx_bipush (v := (8 : Int32)) C dX6_put_3 (by decide) ?_
  refine gx_icmp_ge (tgt := 40) C dX6_put_5 (by decide) (fun c1 => ?_) (fun c1 => ?_)
  · replace hw := hw.1 c1
    exact g_X6_put_b40 C hw
  · replace hw := hw.2 c1
    refine gx_lload_n C dX6_put_8 1 rfl ?_
    refine gx_iload_n C dX6_put_9 2 rfl ?_
    refine gx_scalli (As := [.long y1, .int v3]) (rest := []) C (c_X6_code _ _ hw) bw_936 bw_937 bw_7 bw_938 hyS_X6_code ⟨by decide, by decide⟩ rfl (Nat.le_of_ble_eq_true rfl) dX6_put_10 (fun r2 σ3 hw => ?_)
    refine gx_if_eq (tgt := 40) C dX6_put_13 (by decide) (fun c4 => ?_) (fun c4 => ?_)
    · replace hw := hw.1 c4
      exact g_X6_put_b40 C hw
    · replace hw := hw.2 c4
      refine gx_lload_n C dX6_put_16 1 rfl ?_
      refine gx_iload_n C dX6_put_17 2 rfl ?_
      refine gx_scalli (As := [.long y1, .int v3]) (rest := []) C (c_X6_code _ _ hw) bw_936 bw_937 bw_7 bw_938 hyS_X6_code ⟨by decide, by decide⟩ rfl (Nat.le_of_ble_eq_true rfl) dX6_put_18 (fun r5 σ6 hw => ?_)
      refine gx_bipush (v := (33 : Int32)) C dX6_put_21 (by decide) ?_
      refine gx_bipush (v := (126 : Int32)) C dX6_put_23 (by decide) ?_
      refine gx_scalli (As := [.int r5, .int (33 : Int32), .int (126 : Int32)]) (rest := []) C (c_X6_in _ _ hw) bw_711 bw_712 bw_7 bw_713 hyS_X6_in ⟨by decide, by decide⟩ rfl (Nat.le_of_ble_eq_true rfl) dX6_put_25 (fun r7 σ8 hw => ?_)
      refine gx_if_ne (tgt := 34) C dX6_put_28 (by decide) (fun c9 => ?_) (fun c9 => ?_)
      · replace hw := hw.1 c9
        obtain ⟨z10, e_z10⟩ : ∃ z : Int32, z = v3 + (1 : Int32) := ⟨_, rfl⟩
        replace hw := hw z10 e_z10
        refine gx_iinc (v := z10) (lv' := [(3, .int z10), (0, .ref (ad (tE X) 12 18 0)), (1, .long y1)]) C dX6_put_34 2 rfl (by rw [e_z10]; rfl) (by decide) rfl ?_
        refine gx_goto (tgt := 2) C dX6_put_37 (by decide) ?_
        refine gx_sub (lv' := [(0, .ref (ad (tE X) 12 18 0)), (1, .long y1), (3, .int z10)]) [1, 2, 0] rfl ?_
        exact hK2 _ _ hw
      · replace hw := hw.2 c9
        refine gx_bipush (v := (-2 : Int32)) C dX6_put_31 (by decide) ?_
        exact gx_iret C rfl rfl dX6_put_33 hw
set_option maxRecDepth 100000 in
set_option maxHeartbeats 4000000 in
theorem g_X6_put_L2 {X : Tx} {Q : Int32 → Sg → Prop} (C : Cx X cX6_put "SweetWrapsModel" (some .int) 1 22 5 (QI (tE X) Q)) {y1 : Int64} {v3 : Int32} {σ : Sg} (hw : wp_X6_put_L2 y1 Q v3 σ) : G X σ [(0, .ref (ad (tE X) 12 18 0)), (1, .long y1), (3, .int v3)] [] 2 := by
  obtain ⟨n, hw⟩ := hw
  exact lpN_G (P := (fun (a : Int32 × Sg) => G X (a.2) [(0, .ref (ad (tE X) 12 18 0)), (1, .long y1), (3, .int (a.1))] [] 2)) (fun K a hK h => gs_X6_put_L2 C (fun v3 σ h => hK (v3, σ) h) h) n _ hw
def wp_X6_put (y1 : Int64) (σ : Sg) (Q : Int32 → Sg → Prop) : Prop := wp_X6_put_L2 y1 Q (0 : Int32) σ
set_option maxRecDepth 100000 in
set_option maxHeartbeats 4000000 in
theorem c_X6_put (l : Launch) (E : Ev) {y1 : Int64} {σ : Sg} {Q : Int32 → Sg → Prop} (hw : wp_X6_put y1 σ Q) : CT l E yX6_put cX6_put 5 (some .int) 1 22 [.ref (ad E 12 18 0), .long y1] σ (QI E Q) := by
  refine CT_of (by decide) (Nat.le_of_ble_eq_true rfl) (fun X h1 h2 C => ?_)
  subst h1; subst h2
  have C : Cx X cX6_put "SweetWrapsModel" (some .int) 1 22 5 (QI (tE X) Q) := C
  show G X σ [(0, .ref (ad (tE X) 12 18 0)), (1, .long y1)] [] 0
  unfold wp_X6_put at hw
  refine gx_iconst (v := (0 : Int32)) C dX6_put_0 (by decide) ?_
  refine gx_istore_n (lv' := [(3, .int (0 : Int32)), (0, .ref (ad (tE X) 12 18 0)), (1, .long y1)]) C dX6_put_1 (by decide) rfl ?_
  refine gx_sub (lv' := [(0, .ref (ad (tE X) 12 18 0)), (1, .long y1), (3, .int (0 : Int32))]) [1, 2, 0] rfl ?_
  exact g_X6_put_L2 C hw
theorem hy_X6_put : yX6_put.cls = "SweetWrapsModel" ∧ yX6_put.cls ≠ "java/lang/invoke/MethodHandle" ∧ yX6_put.cls ≠ "java/lang/invoke/VarHandle" ∧ (parseMethodDescriptor yX6_put.desc).map (fun d => d.parameters.length) = some 1 := by decide +kernel

theorem dX6_wipe_0 : decode cX6_wipe 0 = .ok (.aload_n 0, 1) := by decide +kernel
theorem dX6_wipe_1 : decode cX6_wipe 1 = .ok (.getfield 156, 3) := by decide +kernel
theorem dX6_wipe_4 : decode cX6_wipe 4 = .ok (.istore_n 1, 1) := by decide +kernel
theorem dX6_wipe_5 : decode cX6_wipe 5 = .ok (.aload_n 0, 1) := by decide +kernel
theorem dX6_wipe_6 : decode cX6_wipe 6 = .ok (.iconst 0, 1) := by decide +kernel
theorem dX6_wipe_7 : decode cX6_wipe 7 = .ok (.putfield 156, 3) := by decide +kernel
theorem dX6_wipe_10 : decode cX6_wipe 10 = .ok (.iload_n 1, 1) := by decide +kernel
theorem dX6_wipe_11 : decode cX6_wipe 11 = .ok (.ireturn, 1) := by decide +kernel
def wp_X6_wipe (σ : Sg) (Q : Int32 → Sg → Prop) : Prop := ∀ z1 : Int32, z1 = (σ 12 18 0 7) → ∀ σ2 : Sg, σ2 = up σ 12 18 0 7 (0 : Int32) → Q z1 σ2
set_option maxRecDepth 100000 in
set_option maxHeartbeats 4000000 in
theorem c_X6_wipe (l : Launch) (E : Ev) {σ : Sg} {Q : Int32 → Sg → Prop} (hw : wp_X6_wipe σ Q) : CT l E yX6_wipe cX6_wipe 2 (some .int) 0 0 [.ref (ad E 12 18 0)] σ (QI E Q) := by
  refine CT_of (by decide) (Nat.le_of_ble_eq_true rfl) (fun X h1 h2 C => ?_)
  subst h1; subst h2
  have C : Cx X cX6_wipe "SweetWrapsModel" (some .int) 0 0 2 (QI (tE X) Q) := C
  show G X σ [(0, .ref (ad (tE X) 12 18 0))] [] 0
  unfold wp_X6_wipe at hw
  refine gx_aload_n C dX6_wipe_0 0 rfl ?_
  refine gx_get C okg_18 rfl rfl inX6 (ref := "SweetWrapsModel") 7 (by decide) bw_680 rfl rfl dX6_wipe_1 ?_
  obtain ⟨z1, e_z1⟩ : ∃ z : Int32, z = (σ 12 18 0 7) := ⟨_, rfl⟩
  replace hw := hw z1 e_z1
  refine gx_top e_z1 ?_
  refine gx_istore_n (lv' := [(1, .int z1), (0, .ref (ad (tE X) 12 18 0))]) C dX6_wipe_4 (by decide) rfl ?_
  refine gx_aload_n C dX6_wipe_5 1 rfl ?_
  refine gx_iconst (v := (0 : Int32)) C dX6_wipe_6 (by decide) ?_
  refine gx_put C okg_18 rfl rfl inX6 tyX6 tyX6_ok nmX6 (ref := "SweetWrapsModel") 7 (by decide) bw_680 rfl rfl (v := .int (0 : Int32)) rfl rfl (Nat.le_of_ble_eq_true rfl) (upd (σ 12 18 0) 7 (0 : Int32)) rfl dX6_wipe_7 ?_
  obtain ⟨σ2, e_σ2⟩ : ∃ z : Sg, z = up σ 12 18 0 7 (0 : Int32) := ⟨_, rfl⟩
  replace hw := hw σ2 e_σ2
  refine gx_st e_σ2 ?_
  refine gx_iload_n C dX6_wipe_10 0 rfl ?_
  exact gx_iret C rfl rfl dX6_wipe_11 hw
theorem hy_X6_wipe : yX6_wipe.cls = "SweetWrapsModel" ∧ yX6_wipe.cls ≠ "java/lang/invoke/MethodHandle" ∧ yX6_wipe.cls ≠ "java/lang/invoke/VarHandle" ∧ (parseMethodDescriptor yX6_wipe.desc).map (fun d => d.parameters.length) = some 0 := by decide +kernel

theorem dX6_sign_0 : decode cX6_sign 0 = .ok (.aload_n 0, 1) := by decide +kernel
theorem dX6_sign_1 : decode cX6_sign 1 = .ok (.getfield 168, 3) := by decide +kernel
theorem dX6_sign_4 : decode cX6_sign 4 = .ok (.aload_n 0, 1) := by decide +kernel
theorem dX6_sign_5 : decode cX6_sign 5 = .ok (.getfield 156, 3) := by decide +kernel
theorem dX6_sign_8 : decode cX6_sign 8 = .ok (.if_icmp .ge 15, 3) := by decide +kernel
theorem dX6_sign_11 : decode cX6_sign 11 = .ok (.aload_n 0, 1) := by decide +kernel
theorem dX6_sign_12 : decode cX6_sign 12 = .ok (.getfield 26, 3) := by decide +kernel
theorem dX6_sign_15 : decode cX6_sign 15 = .ok (.aload_n 0, 1) := by decide +kernel
theorem dX6_sign_16 : decode cX6_sign 16 = .ok (.getfield 168, 3) := by decide +kernel
theorem dX6_sign_19 : decode cX6_sign 19 = .ok (.iaload, 1) := by decide +kernel
theorem dX6_sign_20 : decode cX6_sign 20 = .ok (.goto 4, 3) := by decide +kernel
theorem dX6_sign_23 : decode cX6_sign 23 = .ok (.iconst 0, 1) := by decide +kernel
theorem dX6_sign_24 : decode cX6_sign 24 = .ok (.istore_n 3, 1) := by decide +kernel
theorem dX6_sign_25 : decode cX6_sign 25 = .ok (.aload_n 0, 1) := by decide +kernel
theorem dX6_sign_26 : decode cX6_sign 26 = .ok (.aload_n 0, 1) := by decide +kernel
theorem dX6_sign_27 : decode cX6_sign 27 = .ok (.getfield 171, 3) := by decide +kernel
theorem dX6_sign_30 : decode cX6_sign 30 = .ok (.ifCond .ne 23, 3) := by decide +kernel
theorem dX6_sign_33 : decode cX6_sign 33 = .ok (.aload_n 0, 1) := by decide +kernel
theorem dX6_sign_34 : decode cX6_sign 34 = .ok (.getfield 168, 3) := by decide +kernel
theorem dX6_sign_37 : decode cX6_sign 37 = .ok (.aload_n 0, 1) := by decide +kernel
theorem dX6_sign_38 : decode cX6_sign 38 = .ok (.getfield 156, 3) := by decide +kernel
theorem dX6_sign_41 : decode cX6_sign 41 = .ok (.if_icmp .ge 12, 3) := by decide +kernel
theorem dX6_sign_44 : decode cX6_sign 44 = .ok (.iload_n 3, 1) := by decide +kernel
theorem dX6_sign_45 : decode cX6_sign 45 = .ok (.iload_n 1, 1) := by decide +kernel
theorem dX6_sign_46 : decode cX6_sign 46 = .ok (.iload_n 2, 1) := by decide +kernel
theorem dX6_sign_47 : decode cX6_sign 47 = .ok (.invokestatic 36, 3) := by decide +kernel
theorem dX6_sign_50 : decode cX6_sign 50 = .ok (.ifCond .ne 7, 3) := by decide +kernel
theorem dX6_sign_53 : decode cX6_sign 53 = .ok (.iconst 1, 1) := by decide +kernel
theorem dX6_sign_54 : decode cX6_sign 54 = .ok (.goto 4, 3) := by decide +kernel
theorem dX6_sign_57 : decode cX6_sign 57 = .ok (.iconst 0, 1) := by decide +kernel
theorem dX6_sign_58 : decode cX6_sign 58 = .ok (.putfield 171, 3) := by decide +kernel
theorem dX6_sign_61 : decode cX6_sign 61 = .ok (.aload_n 0, 1) := by decide +kernel
theorem dX6_sign_62 : decode cX6_sign 62 = .ok (.dup, 1) := by decide +kernel
theorem dX6_sign_63 : decode cX6_sign 63 = .ok (.getfield 168, 3) := by decide +kernel
theorem dX6_sign_66 : decode cX6_sign 66 = .ok (.aload_n 0, 1) := by decide +kernel
theorem dX6_sign_67 : decode cX6_sign 67 = .ok (.getfield 171, 3) := by decide +kernel
theorem dX6_sign_70 : decode cX6_sign 70 = .ok (.ifCond .eq 7, 3) := by decide +kernel
theorem dX6_sign_73 : decode cX6_sign 73 = .ok (.iconst 0, 1) := by decide +kernel
theorem dX6_sign_74 : decode cX6_sign 74 = .ok (.goto 4, 3) := by decide +kernel
theorem dX6_sign_77 : decode cX6_sign 77 = .ok (.iconst 1, 1) := by decide +kernel
theorem dX6_sign_78 : decode cX6_sign 78 = .ok (.iadd, 1) := by decide +kernel
theorem dX6_sign_79 : decode cX6_sign 79 = .ok (.putfield 168, 3) := by decide +kernel
theorem dX6_sign_82 : decode cX6_sign 82 = .ok (.iload_n 3, 1) := by decide +kernel
theorem dX6_sign_83 : decode cX6_sign 83 = .ok (.ireturn, 1) := by decide +kernel
def wp_X6_sign_b58 (x1 : Int32) (x2 : Int32) (Q : Int32 → Sg → Prop) (v3 : Int32) (s0 : Int32) (σ : Sg) : Prop := ((s0 = 0 ∨ s0 = 1) ∧ ∀ σ8 : Sg, σ8 = up σ 12 18 0 10 s0 → (((σ8 12 18 0 10) = 0 → ∀ σ10 : Sg, σ10 = up σ8 12 18 0 9 ((σ8 12 18 0 9) + (1 : Int32)) → Q v3 σ10) ∧ (¬ (σ8 12 18 0 10) = 0 → ∀ σ11 : Sg, σ11 = up σ8 12 18 0 9 ((σ8 12 18 0 9) + (0 : Int32)) → Q v3 σ11)))
set_option maxRecDepth 100000 in
set_option maxHeartbeats 4000000 in
theorem g_X6_sign_b58 {X : Tx} {Q : Int32 → Sg → Prop} (C : Cx X cX6_sign "SweetWrapsModel" (some .int) 1 22 4 (QI (tE X) Q)) {x1 : Int32} {x2 : Int32} {v3 : Int32} {s0 : Int32} {σ : Sg} (hw : wp_X6_sign_b58 x1 x2 Q v3 s0 σ) : G X σ [(0, .ref (ad (tE X) 12 18 0)), (3, .int v3)] [.int s0, .ref (ad (tE X) 12 18 0)] 58 := by
  unfold wp_X6_sign_b58 at hw
  have hb7 := hw.1
  replace hw := hw.2
  refine gx_put C okg_18 rfl rfl inX6 tyX6 tyX6_ok nmX6 (ref := "SweetWrapsModel") 10 (by decide) bw_683 rfl rfl (v := .int s0) (nb_bool hb7) (fb_bool hb7) (Nat.le_of_ble_eq_true rfl) (upd (σ 12 18 0) 10 s0) rfl dX6_sign_58 ?_
  obtain ⟨σ8, e_σ8⟩ : ∃ z : Sg, z = up σ 12 18 0 10 s0 := ⟨_, rfl⟩
  replace hw := hw σ8 e_σ8
  refine gx_st e_σ8 ?_
  refine gx_aload_n C dX6_sign_61 0 rfl ?_
  refine gx_dup C dX6_sign_62 rfl ?_
  refine gx_get C okg_18 rfl rfl inX6 (ref := "SweetWrapsModel") 9 (by decide) bw_682 rfl rfl dX6_sign_63 ?_
  refine gx_aload_n C dX6_sign_66 0 rfl ?_
  refine gx_get C okg_18 rfl rfl inX6 (ref := "SweetWrapsModel") 10 (by decide) bw_683 rfl rfl dX6_sign_67 ?_
  refine gx_if_eq (tgt := 77) C dX6_sign_70 (by decide) (fun c9 => ?_) (fun c9 => ?_)
  · replace hw := hw.1 c9
    refine gx_iconst (v := (1 : Int32)) C dX6_sign_77 (by decide) ?_
    refine gx_iadd C dX6_sign_78 ?_
    refine gx_put C okg_18 rfl rfl inX6 tyX6 tyX6_ok nmX6 (ref := "SweetWrapsModel") 9 (by decide) bw_682 rfl rfl (v := .int ((σ8 12 18 0 9) + (1 : Int32))) rfl rfl (Nat.le_of_ble_eq_true rfl) (upd (σ8 12 18 0) 9 ((σ8 12 18 0 9) + (1 : Int32))) rfl dX6_sign_79 ?_
    obtain ⟨σ10, e_σ10⟩ : ∃ z : Sg, z = up σ8 12 18 0 9 ((σ8 12 18 0 9) + (1 : Int32)) := ⟨_, rfl⟩
    replace hw := hw σ10 e_σ10
    refine gx_st e_σ10 ?_
    refine gx_iload_n C dX6_sign_82 1 rfl ?_
    exact gx_iret C rfl rfl dX6_sign_83 hw
  · replace hw := hw.2 c9
    refine gx_iconst (v := (0 : Int32)) C dX6_sign_73 (by decide) ?_
    refine gx_goto (tgt := 78) C dX6_sign_74 (by decide) ?_
    refine gx_iadd C dX6_sign_78 ?_
    refine gx_put C okg_18 rfl rfl inX6 tyX6 tyX6_ok nmX6 (ref := "SweetWrapsModel") 9 (by decide) bw_682 rfl rfl (v := .int ((σ8 12 18 0 9) + (0 : Int32))) rfl rfl (Nat.le_of_ble_eq_true rfl) (upd (σ8 12 18 0) 9 ((σ8 12 18 0 9) + (0 : Int32))) rfl dX6_sign_79 ?_
    obtain ⟨σ11, e_σ11⟩ : ∃ z : Sg, z = up σ8 12 18 0 9 ((σ8 12 18 0 9) + (0 : Int32)) := ⟨_, rfl⟩
    replace hw := hw σ11 e_σ11
    refine gx_st e_σ11 ?_
    refine gx_iload_n C dX6_sign_82 1 rfl ?_
    exact gx_iret C rfl rfl dX6_sign_83 hw
def wp_X6_sign_b53 (x1 : Int32) (x2 : Int32) (Q : Int32 → Sg → Prop) (v3 : Int32) (σ : Sg) : Prop := wp_X6_sign_b58 x1 x2 Q v3 (1 : Int32) σ
set_option maxRecDepth 100000 in
set_option maxHeartbeats 4000000 in
theorem g_X6_sign_b53 {X : Tx} {Q : Int32 → Sg → Prop} (C : Cx X cX6_sign "SweetWrapsModel" (some .int) 1 22 4 (QI (tE X) Q)) {x1 : Int32} {x2 : Int32} {v3 : Int32} {σ : Sg} (hw : wp_X6_sign_b53 x1 x2 Q v3 σ) : G X σ [(0, .ref (ad (tE X) 12 18 0)), (3, .int v3)] [.ref (ad (tE X) 12 18 0)] 53 := by
  unfold wp_X6_sign_b53 at hw
  refine gx_iconst (v := (1 : Int32)) C dX6_sign_53 (by decide) ?_
  refine gx_goto (tgt := 58) C dX6_sign_54 (by decide) ?_
  exact g_X6_sign_b58 C hw
def wp_X6_sign_b24 (x1 : Int32) (x2 : Int32) (Q : Int32 → Sg → Prop) (s0 : Int32) (σ : Sg) : Prop := ((¬ (σ 12 18 0 10) = 0 → wp_X6_sign_b53 x1 x2 Q s0 σ) ∧ ((σ 12 18 0 10) = 0 → (((σ 12 18 0 7) ≤ (σ 12 18 0 9) → wp_X6_sign_b53 x1 x2 Q s0 σ) ∧ (¬ (σ 12 18 0 7) ≤ (σ 12 18 0 9) → wp_X6_in s0 x1 x2 σ (fun r4 σ5 => ((¬ r4 = 0 → wp_X6_sign_b58 x1 x2 Q s0 (0 : Int32) σ5) ∧ (r4 = 0 → wp_X6_sign_b53 x1 x2 Q s0 σ5)))))))
set_option maxRecDepth 100000 in
set_option maxHeartbeats 4000000 in
theorem g_X6_sign_b24 {X : Tx} {Q : Int32 → Sg → Prop} (C : Cx X cX6_sign "SweetWrapsModel" (some .int) 1 22 4 (QI (tE X) Q)) {x1 : Int32} {x2 : Int32} {s0 : Int32} {σ : Sg} (hw : wp_X6_sign_b24 x1 x2 Q s0 σ) : G X σ [(0, .ref (ad (tE X) 12 18 0)), (1, .int x1), (2, .int x2)] [.int s0] 24 := by
  unfold wp_X6_sign_b24 at hw
  refine gx_istore_n (lv' := [(3, .int s0), (0, .ref (ad (tE X) 12 18 0)), (1, .int x1), (2, .int x2)]) C dX6_sign_24 (by decide) rfl ?_
  refine gx_aload_n C dX6_sign_25 1 rfl ?_
  refine gx_aload_n C dX6_sign_26 1 rfl ?_
  refine gx_get C okg_18 rfl rfl inX6 (ref := "SweetWrapsModel") 10 (by decide) bw_683 rfl rfl dX6_sign_27 ?_
  refine gx_if_ne (tgt := 53) C dX6_sign_30 (by decide) (fun c2 => ?_) (fun c2 => ?_)
  · replace hw := hw.1 c2
    refine gx_sub (lv' := [(0, .ref (ad (tE X) 12 18 0)), (3, .int s0)]) [1, 0] rfl ?_
    exact g_X6_sign_b53 C hw
  · replace hw := hw.2 c2
    refine gx_aload_n C dX6_sign_33 1 rfl ?_
    refine gx_get C okg_18 rfl rfl inX6 (ref := "SweetWrapsModel") 9 (by decide) bw_682 rfl rfl dX6_sign_34 ?_
    refine gx_aload_n C dX6_sign_37 1 rfl ?_
    refine gx_get C okg_18 rfl rfl inX6 (ref := "SweetWrapsModel") 7 (by decide) bw_680 rfl rfl dX6_sign_38 ?_
    refine gx_icmp_ge (tgt := 53) C dX6_sign_41 (by decide) (fun c3 => ?_) (fun c3 => ?_)
    · replace hw := hw.1 c3
      refine gx_sub (lv' := [(0, .ref (ad (tE X) 12 18 0)), (3, .int s0)]) [1, 0] rfl ?_
      exact g_X6_sign_b53 C hw
    · replace hw := hw.2 c3
      refine gx_iload_n C dX6_sign_44 0 rfl ?_
      refine gx_iload_n C dX6_sign_45 2 rfl ?_
      refine gx_iload_n C dX6_sign_46 3 rfl ?_
      refine gx_scalli (As := [.int s0, .int x1, .int x2]) (rest := [.ref (ad (tE X) 12 18 0)]) C (c_X6_in _ _ hw) bw_711 bw_712 bw_7 bw_713 hyS_X6_in ⟨by decide, by decide⟩ rfl (Nat.le_of_ble_eq_true rfl) dX6_sign_47 (fun r4 σ5 hw => ?_)
      refine gx_if_ne (tgt := 57) C dX6_sign_50 (by decide) (fun c6 => ?_) (fun c6 => ?_)
      · replace hw := hw.1 c6
        refine gx_iconst (v := (0 : Int32)) C dX6_sign_57 (by decide) ?_
        refine gx_sub (lv' := [(0, .ref (ad (tE X) 12 18 0)), (3, .int s0)]) [1, 0] rfl ?_
        exact g_X6_sign_b58 C hw
      · replace hw := hw.2 c6
        refine gx_sub (lv' := [(0, .ref (ad (tE X) 12 18 0)), (3, .int s0)]) [1, 0] rfl ?_
        exact g_X6_sign_b53 C hw
def wp_X6_sign (x1 : Int32) (x2 : Int32) (σ : Sg) (Q : Int32 → Sg → Prop) : Prop := (((σ 12 18 0 7) ≤ (σ 12 18 0 9) → wp_X6_sign_b24 x1 x2 Q (0 : Int32) σ) ∧ (¬ (σ 12 18 0 7) ≤ (σ 12 18 0 9) → (vp_in (σ 12 18 0 9) 80 ∧ wp_X6_sign_b24 x1 x2 Q (σ 12 24 0 (σ 12 18 0 9).toNatClampNeg) σ)))
set_option maxRecDepth 100000 in
set_option maxHeartbeats 4000000 in
theorem c_X6_sign (l : Launch) (E : Ev) {x1 : Int32} {x2 : Int32} {σ : Sg} {Q : Int32 → Sg → Prop} (hw : wp_X6_sign x1 x2 σ Q) : CT l E yX6_sign cX6_sign 4 (some .int) 1 22 [.ref (ad E 12 18 0), .int x1, .int x2] σ (QI E Q) := by
  refine CT_of (by decide) (Nat.le_of_ble_eq_true rfl) (fun X h1 h2 C => ?_)
  subst h1; subst h2
  have C : Cx X cX6_sign "SweetWrapsModel" (some .int) 1 22 4 (QI (tE X) Q) := C
  show G X σ [(0, .ref (ad (tE X) 12 18 0)), (1, .int x1), (2, .int x2)] [] 0
  unfold wp_X6_sign at hw
  refine gx_aload_n C dX6_sign_0 0 rfl ?_
  refine gx_get C okg_18 rfl rfl inX6 (ref := "SweetWrapsModel") 9 (by decide) bw_682 rfl rfl dX6_sign_1 ?_
  refine gx_aload_n C dX6_sign_4 0 rfl ?_
  refine gx_get C okg_18 rfl rfl inX6 (ref := "SweetWrapsModel") 7 (by decide) bw_680 rfl rfl dX6_sign_5 ?_
  refine gx_icmp_ge (tgt := 23) C dX6_sign_8 (by decide) (fun c1 => ?_) (fun c1 => ?_)
  · replace hw := hw.1 c1
    refine gx_iconst (v := (0 : Int32)) C dX6_sign_23 (by decide) ?_
    exact g_X6_sign_b24 C hw
  · replace hw := hw.2 c1
    refine gx_aload_n C dX6_sign_11 0 rfl ?_
    refine gx_get C okg_18 rfl rfl inX6 (ref := "SweetWrapsModel") 6 (by decide) bw_679 rfl rfl dX6_sign_12 ?_
    refine gx_aload_n C dX6_sign_15 0 rfl ?_
    refine gx_get C okg_18 rfl rfl inX6 (ref := "SweetWrapsModel") 9 (by decide) bw_682 rfl rfl dX6_sign_16 ?_
    refine gx_iald C okg_24 rfl hw.1 _ rfl dX6_sign_19 ?_
    replace hw := hw.2
    refine gx_goto (tgt := 24) C dX6_sign_20 (by decide) ?_
    exact g_X6_sign_b24 C hw
theorem hy_X6_sign : yX6_sign.cls = "SweetWrapsModel" ∧ yX6_sign.cls ≠ "java/lang/invoke/MethodHandle" ∧ yX6_sign.cls ≠ "java/lang/invoke/VarHandle" ∧ (parseMethodDescriptor yX6_sign.desc).map (fun d => d.parameters.length) = some 2 := by decide +kernel

theorem dX6_number_0 : decode cX6_number 0 = .ok (.aload_n 0, 1) := by decide +kernel
theorem dX6_number_1 : decode cX6_number 1 = .ok (.bipush 48, 2) := by decide +kernel
theorem dX6_number_3 : decode cX6_number 3 = .ok (.bipush 57, 2) := by decide +kernel
theorem dX6_number_5 : decode cX6_number 5 = .ok (.invokevirtual 175, 3) := by decide +kernel
theorem dX6_number_8 : decode cX6_number 8 = .ok (.bipush 48, 2) := by decide +kernel
theorem dX6_number_10 : decode cX6_number 10 = .ok (.isub, 1) := by decide +kernel
theorem dX6_number_11 : decode cX6_number 11 = .ok (.istore_n 1, 1) := by decide +kernel
theorem dX6_number_12 : decode cX6_number 12 = .ok (.iload_n 1, 1) := by decide +kernel
theorem dX6_number_13 : decode cX6_number 13 = .ok (.ifCond .le 94, 3) := by decide +kernel
theorem dX6_number_16 : decode cX6_number 16 = .ok (.aload_n 0, 1) := by decide +kernel
theorem dX6_number_17 : decode cX6_number 17 = .ok (.getfield 171, 3) := by decide +kernel
theorem dX6_number_20 : decode cX6_number 20 = .ok (.ifCond .ne 87, 3) := by decide +kernel
theorem dX6_number_23 : decode cX6_number 23 = .ok (.aload_n 0, 1) := by decide +kernel
theorem dX6_number_24 : decode cX6_number 24 = .ok (.getfield 168, 3) := by decide +kernel
theorem dX6_number_27 : decode cX6_number 27 = .ok (.aload_n 0, 1) := by decide +kernel
theorem dX6_number_28 : decode cX6_number 28 = .ok (.getfield 156, 3) := by decide +kernel
theorem dX6_number_31 : decode cX6_number 31 = .ok (.if_icmp .ge 76, 3) := by decide +kernel
theorem dX6_number_34 : decode cX6_number 34 = .ok (.aload_n 0, 1) := by decide +kernel
theorem dX6_number_35 : decode cX6_number 35 = .ok (.getfield 26, 3) := by decide +kernel
theorem dX6_number_38 : decode cX6_number 38 = .ok (.aload_n 0, 1) := by decide +kernel
theorem dX6_number_39 : decode cX6_number 39 = .ok (.getfield 168, 3) := by decide +kernel
theorem dX6_number_42 : decode cX6_number 42 = .ok (.iaload, 1) := by decide +kernel
theorem dX6_number_43 : decode cX6_number 43 = .ok (.bipush 48, 2) := by decide +kernel
theorem dX6_number_45 : decode cX6_number 45 = .ok (.bipush 57, 2) := by decide +kernel
theorem dX6_number_47 : decode cX6_number 47 = .ok (.invokestatic 36, 3) := by decide +kernel
theorem dX6_number_50 : decode cX6_number 50 = .ok (.ifCond .eq 57, 3) := by decide +kernel
theorem dX6_number_53 : decode cX6_number 53 = .ok (.bipush 10, 2) := by decide +kernel
theorem dX6_number_55 : decode cX6_number 55 = .ok (.iload_n 1, 1) := by decide +kernel
theorem dX6_number_56 : decode cX6_number 56 = .ok (.imul, 1) := by decide +kernel
theorem dX6_number_57 : decode cX6_number 57 = .ok (.aload_n 0, 1) := by decide +kernel
theorem dX6_number_58 : decode cX6_number 58 = .ok (.getfield 26, 3) := by decide +kernel
theorem dX6_number_61 : decode cX6_number 61 = .ok (.aload_n 0, 1) := by decide +kernel
theorem dX6_number_62 : decode cX6_number 62 = .ok (.getfield 168, 3) := by decide +kernel
theorem dX6_number_65 : decode cX6_number 65 = .ok (.iaload, 1) := by decide +kernel
theorem dX6_number_66 : decode cX6_number 66 = .ok (.iadd, 1) := by decide +kernel
theorem dX6_number_67 : decode cX6_number 67 = .ok (.bipush 48, 2) := by decide +kernel
theorem dX6_number_69 : decode cX6_number 69 = .ok (.isub, 1) := by decide +kernel
theorem dX6_number_70 : decode cX6_number 70 = .ok (.sipush 999, 3) := by decide +kernel
theorem dX6_number_73 : decode cX6_number 73 = .ok (.if_icmp .gt 34, 3) := by decide +kernel
theorem dX6_number_76 : decode cX6_number 76 = .ok (.bipush 10, 2) := by decide +kernel
theorem dX6_number_78 : decode cX6_number 78 = .ok (.iload_n 1, 1) := by decide +kernel
theorem dX6_number_79 : decode cX6_number 79 = .ok (.imul, 1) := by decide +kernel
theorem dX6_number_80 : decode cX6_number 80 = .ok (.aload_n 0, 1) := by decide +kernel
theorem dX6_number_81 : decode cX6_number 81 = .ok (.getfield 26, 3) := by decide +kernel
theorem dX6_number_84 : decode cX6_number 84 = .ok (.aload_n 0, 1) := by decide +kernel
theorem dX6_number_85 : decode cX6_number 85 = .ok (.getfield 168, 3) := by decide +kernel
theorem dX6_number_88 : decode cX6_number 88 = .ok (.iaload, 1) := by decide +kernel
theorem dX6_number_89 : decode cX6_number 89 = .ok (.iadd, 1) := by decide +kernel
theorem dX6_number_90 : decode cX6_number 90 = .ok (.bipush 48, 2) := by decide +kernel
theorem dX6_number_92 : decode cX6_number 92 = .ok (.isub, 1) := by decide +kernel
theorem dX6_number_93 : decode cX6_number 93 = .ok (.istore_n 1, 1) := by decide +kernel
theorem dX6_number_94 : decode cX6_number 94 = .ok (.aload_n 0, 1) := by decide +kernel
theorem dX6_number_95 : decode cX6_number 95 = .ok (.dup, 1) := by decide +kernel
theorem dX6_number_96 : decode cX6_number 96 = .ok (.getfield 168, 3) := by decide +kernel
theorem dX6_number_99 : decode cX6_number 99 = .ok (.iconst 1, 1) := by decide +kernel
theorem dX6_number_100 : decode cX6_number 100 = .ok (.iadd, 1) := by decide +kernel
theorem dX6_number_101 : decode cX6_number 101 = .ok (.putfield 168, 3) := by decide +kernel
theorem dX6_number_104 : decode cX6_number 104 = .ok (.goto (-92), 3) := by decide +kernel
theorem dX6_number_107 : decode cX6_number 107 = .ok (.iload_n 1, 1) := by decide +kernel
theorem dX6_number_108 : decode cX6_number 108 = .ok (.ireturn, 1) := by decide +kernel
def st_X6_number_L12 (Q : Int32 → Sg → Prop) (K12 : Int32 → Sg → Prop) (v1 : Int32) (σ : Sg) : Prop := ((v1 ≤ 0 → Q v1 σ) ∧ (¬ v1 ≤ 0 → ((¬ (σ 12 18 0 10) = 0 → Q v1 σ) ∧ ((σ 12 18 0 10) = 0 → (((σ 12 18 0 7) ≤ (σ 12 18 0 9) → Q v1 σ) ∧ (¬ (σ 12 18 0 7) ≤ (σ 12 18 0 9) → (vp_in (σ 12 18 0 9) 80 ∧ wp_X6_in (σ 12 24 0 (σ 12 18 0 9).toNatClampNeg) (48 : Int32) (57 : Int32) σ (fun r7 σ8 => ((r7 = 0 → Q v1 σ8) ∧ (¬ r7 = 0 → (vp_in (σ8 12 18 0 9) 80 ∧ (((999 : Int32) < ((((10 : Int32) * v1) + (σ8 12 24 0 (σ8 12 18 0 9).toNatClampNeg)) - (48 : Int32)) → Q v1 σ8) ∧ (¬ (999 : Int32) < ((((10 : Int32) * v1) + (σ8 12 24 0 (σ8 12 18 0 9).toNatClampNeg)) - (48 : Int32)) → (vp_in (σ8 12 18 0 9) 80 ∧ ∀ z11 : Int32, z11 = ((((10 : Int32) * v1) + (σ8 12 24 0 (σ8 12 18 0 9).toNatClampNeg)) - (48 : Int32)) → ∀ σ12 : Sg, σ12 = up σ8 12 18 0 9 ((σ8 12 18 0 9) + (1 : Int32)) → K12 z11 σ12))))))))))))))
def wp_X6_number_L12 (Q : Int32 → Sg → Prop) (v1 : Int32) (σ : Sg) : Prop := ∃ n : Nat, lpN (fun (K : Int32 × Sg → Prop) (a : Int32 × Sg) => st_X6_number_L12 Q (fun v1 σ => K (v1, σ)) (a.1) (a.2)) n (v1, σ)
set_option maxRecDepth 100000 in
set_option maxHeartbeats 4000000 in
theorem gs_X6_number_L12 {X : Tx} {Q : Int32 → Sg → Prop} (C : Cx X cX6_number "SweetWrapsModel" (some .int) 2 45 2 (QI (tE X) Q)) {K12 : Int32 → Sg → Prop} (hK12 : ∀ (v1 : Int32) (σ : Sg), K12 v1 σ → G X σ [(0, .ref (ad (tE X) 12 18 0)), (1, .int v1)] [] 12) {v1 : Int32} {σ : Sg} (hw : st_X6_number_L12 Q K12 v1 σ) : G X σ [(0, .ref (ad (tE X) 12 18 0)), (1, .int v1)] [] 12 := by
  unfold st_X6_number_L12 at hw
  refine gx_iload_n C dX6_number_12 1 rfl ?_
  refine gx_if_le (tgt := 107) C dX6_number_13 (by decide) (fun c4 => ?_) (fun c4 => ?_)
  · replace hw := hw.1 c4
    refine gx_iload_n C dX6_number_107 1 rfl ?_
    exact gx_iret C rfl rfl dX6_number_108 hw
  · replace hw := hw.2 c4
    refine gx_aload_n C dX6_number_16 0 rfl ?_
    refine gx_get C okg_18 rfl rfl inX6 (ref := "SweetWrapsModel") 10 (by decide) bw_683 rfl rfl dX6_number_17 ?_
    refine gx_if_ne (tgt := 107) C dX6_number_20 (by decide) (fun c5 => ?_) (fun c5 => ?_)
    · replace hw := hw.1 c5
      refine gx_iload_n C dX6_number_107 1 rfl ?_
      exact gx_iret C rfl rfl dX6_number_108 hw
    · replace hw := hw.2 c5
      refine gx_aload_n C dX6_number_23 0 rfl ?_
      refine gx_get C okg_18 rfl rfl inX6 (ref := "SweetWrapsModel") 9 (by decide) bw_682 rfl rfl dX6_number_24 ?_
      refine gx_aload_n C dX6_number_27 0 rfl ?_
      refine gx_get C okg_18 rfl rfl inX6 (ref := "SweetWrapsModel") 7 (by decide) bw_680 rfl rfl dX6_number_28 ?_
      refine gx_icmp_ge (tgt := 107) C dX6_number_31 (by decide) (fun c6 => ?_) (fun c6 => ?_)
      · replace hw := hw.1 c6
        refine gx_iload_n C dX6_number_107 1 rfl ?_
        exact gx_iret C rfl rfl dX6_number_108 hw
      · replace hw := hw.2 c6
        refine gx_aload_n C dX6_number_34 0 rfl ?_
        refine gx_get C okg_18 rfl rfl inX6 (ref := "SweetWrapsModel") 6 (by decide) bw_679 rfl rfl dX6_number_35 ?_
        refine gx_aload_n C dX6_number_38 0 rfl ?_
        refine gx_get C okg_18 rfl rfl inX6 (ref := "SweetWrapsModel") 9 (by decide) bw_682 rfl rfl dX6_number_39 ?_
        refine gx_iald C okg_24 rfl hw.1 _ rfl dX6_number_42 ?_
        replace hw := hw.2
        refine gx_bipush (v := (48 : Int32)) C dX6_number_43 (by decide) ?_
        refine gx_bipush (v := (57 : Int32)) C dX6_number_45 (by decide) ?_
        refine gx_scalli (As := [.int (σ 12 24 0 (σ 12 18 0 9).toNatClampNeg), .int (48 : Int32), .int (57 : Int32)]) (rest := []) C (c_X6_in _ _ hw) bw_711 bw_712 bw_7 bw_713 hyS_X6_in ⟨by decide, by decide⟩ rfl (Nat.le_of_ble_eq_true rfl) dX6_number_47 (fun r7 σ8 hw => ?_)
        refine gx_if_eq (tgt := 107) C dX6_number_50 (by decide) (fun c9 => ?_) (fun c9 => ?_)
        · replace hw := hw.1 c9
          refine gx_iload_n C dX6_number_107 1 rfl ?_
          exact gx_iret C rfl rfl dX6_number_108 hw
        · replace hw := hw.2 c9
          refine gx_bipush (v := (10 : Int32)) C dX6_number_53 (by decide) ?_
          refine gx_iload_n C dX6_number_55 1 rfl ?_
          refine gx_imul C dX6_number_56 ?_
          refine gx_aload_n C dX6_number_57 0 rfl ?_
          refine gx_get C okg_18 rfl rfl inX6 (ref := "SweetWrapsModel") 6 (by decide) bw_679 rfl rfl dX6_number_58 ?_
          refine gx_aload_n C dX6_number_61 0 rfl ?_
          refine gx_get C okg_18 rfl rfl inX6 (ref := "SweetWrapsModel") 9 (by decide) bw_682 rfl rfl dX6_number_62 ?_
          refine gx_iald C okg_24 rfl hw.1 _ rfl dX6_number_65 ?_
          replace hw := hw.2
          refine gx_iadd C dX6_number_66 ?_
          refine gx_bipush (v := (48 : Int32)) C dX6_number_67 (by decide) ?_
          refine gx_isub C dX6_number_69 ?_
          refine gx_sipush (v := (999 : Int32)) C dX6_number_70 (by decide) ?_
          refine gx_icmp_gt (tgt := 107) C dX6_number_73 (by decide) (fun c10 => ?_) (fun c10 => ?_)
          · replace hw := hw.1 c10
            refine gx_iload_n C dX6_number_107 1 rfl ?_
            exact gx_iret C rfl rfl dX6_number_108 hw
          · replace hw := hw.2 c10
            refine gx_bipush (v := (10 : Int32)) C dX6_number_76 (by decide) ?_
            refine gx_iload_n C dX6_number_78 1 rfl ?_
            refine gx_imul C dX6_number_79 ?_
            refine gx_aload_n C dX6_number_80 0 rfl ?_
            refine gx_get C okg_18 rfl rfl inX6 (ref := "SweetWrapsModel") 6 (by decide) bw_679 rfl rfl dX6_number_81 ?_
            refine gx_aload_n C dX6_number_84 0 rfl ?_
            refine gx_get C okg_18 rfl rfl inX6 (ref := "SweetWrapsModel") 9 (by decide) bw_682 rfl rfl dX6_number_85 ?_
            refine gx_iald C okg_24 rfl hw.1 _ rfl dX6_number_88 ?_
            replace hw := hw.2
            refine gx_iadd C dX6_number_89 ?_
            refine gx_bipush (v := (48 : Int32)) C dX6_number_90 (by decide) ?_
            refine gx_isub C dX6_number_92 ?_
            obtain ⟨z11, e_z11⟩ : ∃ z : Int32, z = ((((10 : Int32) * v1) + (σ8 12 24 0 (σ8 12 18 0 9).toNatClampNeg)) - (48 : Int32)) := ⟨_, rfl⟩
            replace hw := hw z11 e_z11
            refine gx_top e_z11 ?_
            refine gx_istore_n (lv' := [(1, .int z11), (0, .ref (ad (tE X) 12 18 0))]) C dX6_number_93 (by decide) rfl ?_
            refine gx_aload_n C dX6_number_94 1 rfl ?_
            refine gx_dup C dX6_number_95 rfl ?_
            refine gx_get C okg_18 rfl rfl inX6 (ref := "SweetWrapsModel") 9 (by decide) bw_682 rfl rfl dX6_number_96 ?_
            refine gx_iconst (v := (1 : Int32)) C dX6_number_99 (by decide) ?_
            refine gx_iadd C dX6_number_100 ?_
            refine gx_put C okg_18 rfl rfl inX6 tyX6 tyX6_ok nmX6 (ref := "SweetWrapsModel") 9 (by decide) bw_682 rfl rfl (v := .int ((σ8 12 18 0 9) + (1 : Int32))) rfl rfl (Nat.le_of_ble_eq_true rfl) (upd (σ8 12 18 0) 9 ((σ8 12 18 0 9) + (1 : Int32))) rfl dX6_number_101 ?_
            obtain ⟨σ12, e_σ12⟩ : ∃ z : Sg, z = up σ8 12 18 0 9 ((σ8 12 18 0 9) + (1 : Int32)) := ⟨_, rfl⟩
            replace hw := hw σ12 e_σ12
            refine gx_st e_σ12 ?_
            refine gx_goto (tgt := 12) C dX6_number_104 (by decide) ?_
            refine gx_sub (lv' := [(0, .ref (ad (tE X) 12 18 0)), (1, .int z11)]) [1, 0] rfl ?_
            exact hK12 _ _ hw
set_option maxRecDepth 100000 in
set_option maxHeartbeats 4000000 in
theorem g_X6_number_L12 {X : Tx} {Q : Int32 → Sg → Prop} (C : Cx X cX6_number "SweetWrapsModel" (some .int) 2 45 2 (QI (tE X) Q)) {v1 : Int32} {σ : Sg} (hw : wp_X6_number_L12 Q v1 σ) : G X σ [(0, .ref (ad (tE X) 12 18 0)), (1, .int v1)] [] 12 := by
  obtain ⟨n, hw⟩ := hw
  exact lpN_G (P := (fun (a : Int32 × Sg) => G X (a.2) [(0, .ref (ad (tE X) 12 18 0)), (1, .int (a.1))] [] 12)) (fun K a hK h => gs_X6_number_L12 C (fun v1 σ h => hK (v1, σ) h) h) n _ hw
def wp_X6_number (σ : Sg) (Q : Int32 → Sg → Prop) : Prop := wp_X6_sign (48 : Int32) (57 : Int32) σ (fun r1 σ2 => ∀ z3 : Int32, z3 = (r1 - (48 : Int32)) → wp_X6_number_L12 Q z3 σ2)
set_option maxRecDepth 100000 in
set_option maxHeartbeats 4000000 in
theorem c_X6_number (l : Launch) (E : Ev) {σ : Sg} {Q : Int32 → Sg → Prop} (hw : wp_X6_number σ Q) : CT l E yX6_number cX6_number 2 (some .int) 2 45 [.ref (ad E 12 18 0)] σ (QI E Q) := by
  refine CT_of (by decide) (Nat.le_of_ble_eq_true rfl) (fun X h1 h2 C => ?_)
  subst h1; subst h2
  have C : Cx X cX6_number "SweetWrapsModel" (some .int) 2 45 2 (QI (tE X) Q) := C
  show G X σ [(0, .ref (ad (tE X) 12 18 0))] [] 0
  unfold wp_X6_number at hw
  refine gx_aload_n C dX6_number_0 0 rfl ?_
  refine gx_bipush (v := (48 : Int32)) C dX6_number_1 (by decide) ?_
  refine gx_bipush (v := (57 : Int32)) C dX6_number_3 (by decide) ?_
  refine gx_vcalli (As := [.int (48 : Int32), .int (57 : Int32)]) (rest := []) C (c_X6_sign _ _ hw) okg_18 rfl rfl bw_960 bw_962 bs_65 bw_7 bw_963 hy_X6_sign ⟨by decide, by decide⟩ rfl (Nat.le_of_ble_eq_true rfl) dX6_number_5 (fun r1 σ2 hw => ?_)
  refine gx_bipush (v := (48 : Int32)) C dX6_number_8 (by decide) ?_
  refine gx_isub C dX6_number_10 ?_
  obtain ⟨z3, e_z3⟩ : ∃ z : Int32, z = (r1 - (48 : Int32)) := ⟨_, rfl⟩
  replace hw := hw z3 e_z3
  refine gx_top e_z3 ?_
  refine gx_istore_n (lv' := [(1, .int z3), (0, .ref (ad (tE X) 12 18 0))]) C dX6_number_11 (by decide) rfl ?_
  refine gx_sub (lv' := [(0, .ref (ad (tE X) 12 18 0)), (1, .int z3)]) [1, 0] rfl ?_
  exact g_X6_number_L12 C hw
theorem hy_X6_number : yX6_number.cls = "SweetWrapsModel" ∧ yX6_number.cls ≠ "java/lang/invoke/MethodHandle" ∧ yX6_number.cls ≠ "java/lang/invoke/VarHandle" ∧ (parseMethodDescriptor yX6_number.desc).map (fun d => d.parameters.length) = some 0 := by decide +kernel

theorem dX6_isNext_0 : decode cX6_isNext 0 = .ok (.aload_n 0, 1) := by decide +kernel
theorem dX6_isNext_1 : decode cX6_isNext 1 = .ok (.getfield 171, 3) := by decide +kernel
theorem dX6_isNext_4 : decode cX6_isNext 4 = .ok (.ifCond .ne 31, 3) := by decide +kernel
theorem dX6_isNext_7 : decode cX6_isNext 7 = .ok (.aload_n 0, 1) := by decide +kernel
theorem dX6_isNext_8 : decode cX6_isNext 8 = .ok (.getfield 168, 3) := by decide +kernel
theorem dX6_isNext_11 : decode cX6_isNext 11 = .ok (.aload_n 0, 1) := by decide +kernel
theorem dX6_isNext_12 : decode cX6_isNext 12 = .ok (.getfield 156, 3) := by decide +kernel
theorem dX6_isNext_15 : decode cX6_isNext 15 = .ok (.if_icmp .ge 20, 3) := by decide +kernel
theorem dX6_isNext_18 : decode cX6_isNext 18 = .ok (.aload_n 0, 1) := by decide +kernel
theorem dX6_isNext_19 : decode cX6_isNext 19 = .ok (.getfield 26, 3) := by decide +kernel
theorem dX6_isNext_22 : decode cX6_isNext 22 = .ok (.aload_n 0, 1) := by decide +kernel
theorem dX6_isNext_23 : decode cX6_isNext 23 = .ok (.getfield 168, 3) := by decide +kernel
theorem dX6_isNext_26 : decode cX6_isNext 26 = .ok (.iaload, 1) := by decide +kernel
theorem dX6_isNext_27 : decode cX6_isNext 27 = .ok (.iload_n 1, 1) := by decide +kernel
theorem dX6_isNext_28 : decode cX6_isNext 28 = .ok (.if_icmp .ne 7, 3) := by decide +kernel
theorem dX6_isNext_31 : decode cX6_isNext 31 = .ok (.iconst 1, 1) := by decide +kernel
theorem dX6_isNext_32 : decode cX6_isNext 32 = .ok (.goto 4, 3) := by decide +kernel
theorem dX6_isNext_35 : decode cX6_isNext 35 = .ok (.iconst 0, 1) := by decide +kernel
theorem dX6_isNext_36 : decode cX6_isNext 36 = .ok (.ireturn, 1) := by decide +kernel
def wp_X6_isNext (x1 : Int32) (σ : Sg) (Q : Int32 → Sg → Prop) : Prop := ((¬ (σ 12 18 0 10) = 0 → Q (0 : Int32) σ) ∧ ((σ 12 18 0 10) = 0 → (((σ 12 18 0 7) ≤ (σ 12 18 0 9) → Q (0 : Int32) σ) ∧ (¬ (σ 12 18 0 7) ≤ (σ 12 18 0 9) → (vp_in (σ 12 18 0 9) 80 ∧ ((¬ (σ 12 24 0 (σ 12 18 0 9).toNatClampNeg) = x1 → Q (0 : Int32) σ) ∧ ((σ 12 24 0 (σ 12 18 0 9).toNatClampNeg) = x1 → Q (1 : Int32) σ)))))))
set_option maxRecDepth 100000 in
set_option maxHeartbeats 4000000 in
theorem c_X6_isNext (l : Launch) (E : Ev) {x1 : Int32} {σ : Sg} {Q : Int32 → Sg → Prop} (hw : wp_X6_isNext x1 σ Q) : CT l E yX6_isNext cX6_isNext 2 (some .boolean) 0 0 [.ref (ad E 12 18 0), .int x1] σ (QI E Q) := by
  refine CT_of (by decide) (Nat.le_of_ble_eq_true rfl) (fun X h1 h2 C => ?_)
  subst h1; subst h2
  have C : Cx X cX6_isNext "SweetWrapsModel" (some .boolean) 0 0 2 (QI (tE X) Q) := C
  show G X σ [(0, .ref (ad (tE X) 12 18 0)), (1, .int x1)] [] 0
  unfold wp_X6_isNext at hw
  refine gx_aload_n C dX6_isNext_0 0 rfl ?_
  refine gx_get C okg_18 rfl rfl inX6 (ref := "SweetWrapsModel") 10 (by decide) bw_683 rfl rfl dX6_isNext_1 ?_
  refine gx_if_ne (tgt := 35) C dX6_isNext_4 (by decide) (fun c1 => ?_) (fun c1 => ?_)
  · replace hw := hw.1 c1
    refine gx_iconst (v := (0 : Int32)) C dX6_isNext_35 (by decide) ?_
    exact gx_iret C rfl rfl dX6_isNext_36 hw
  · replace hw := hw.2 c1
    refine gx_aload_n C dX6_isNext_7 0 rfl ?_
    refine gx_get C okg_18 rfl rfl inX6 (ref := "SweetWrapsModel") 9 (by decide) bw_682 rfl rfl dX6_isNext_8 ?_
    refine gx_aload_n C dX6_isNext_11 0 rfl ?_
    refine gx_get C okg_18 rfl rfl inX6 (ref := "SweetWrapsModel") 7 (by decide) bw_680 rfl rfl dX6_isNext_12 ?_
    refine gx_icmp_ge (tgt := 35) C dX6_isNext_15 (by decide) (fun c2 => ?_) (fun c2 => ?_)
    · replace hw := hw.1 c2
      refine gx_iconst (v := (0 : Int32)) C dX6_isNext_35 (by decide) ?_
      exact gx_iret C rfl rfl dX6_isNext_36 hw
    · replace hw := hw.2 c2
      refine gx_aload_n C dX6_isNext_18 0 rfl ?_
      refine gx_get C okg_18 rfl rfl inX6 (ref := "SweetWrapsModel") 6 (by decide) bw_679 rfl rfl dX6_isNext_19 ?_
      refine gx_aload_n C dX6_isNext_22 0 rfl ?_
      refine gx_get C okg_18 rfl rfl inX6 (ref := "SweetWrapsModel") 9 (by decide) bw_682 rfl rfl dX6_isNext_23 ?_
      refine gx_iald C okg_24 rfl hw.1 _ rfl dX6_isNext_26 ?_
      replace hw := hw.2
      refine gx_iload_n C dX6_isNext_27 1 rfl ?_
      refine gx_icmp_ne (tgt := 35) C dX6_isNext_28 (by decide) (fun c3 => ?_) (fun c3 => ?_)
      · replace hw := hw.1 c3
        refine gx_iconst (v := (0 : Int32)) C dX6_isNext_35 (by decide) ?_
        exact gx_iret C rfl rfl dX6_isNext_36 hw
      · replace hw := hw.2 c3
        refine gx_iconst (v := (1 : Int32)) C dX6_isNext_31 (by decide) ?_
        refine gx_goto (tgt := 36) C dX6_isNext_32 (by decide) ?_
        exact gx_iret C rfl rfl dX6_isNext_36 hw
theorem hy_X6_isNext : yX6_isNext.cls = "SweetWrapsModel" ∧ yX6_isNext.cls ≠ "java/lang/invoke/MethodHandle" ∧ yX6_isNext.cls ≠ "java/lang/invoke/VarHandle" ∧ (parseMethodDescriptor yX6_isNext.desc).map (fun d => d.parameters.length) = some 1 := by decide +kernel

theorem dX6_order_0 : decode cX6_order 0 = .ok (.aload_n 0, 1) := by decide +kernel
theorem dX6_order_1 : decode cX6_order 1 = .ok (.bipush 104, 2) := by decide +kernel
theorem dX6_order_3 : decode cX6_order 3 = .ok (.invokevirtual 178, 3) := by decide +kernel
theorem dX6_order_6 : decode cX6_order 6 = .ok (.ifCond .eq 81, 3) := by decide +kernel
theorem dX6_order_9 : decode cX6_order 9 = .ok (.aload_n 0, 1) := by decide +kernel
theorem dX6_order_10 : decode cX6_order 10 = .ok (.dup, 1) := by decide +kernel
theorem dX6_order_11 : decode cX6_order 11 = .ok (.getfield 168, 3) := by decide +kernel
theorem dX6_order_14 : decode cX6_order 14 = .ok (.iconst 1, 1) := by decide +kernel
theorem dX6_order_15 : decode cX6_order 15 = .ok (.iadd, 1) := by decide +kernel
theorem dX6_order_16 : decode cX6_order 16 = .ok (.putfield 168, 3) := by decide +kernel
theorem dX6_order_19 : decode cX6_order 19 = .ok (.aload_n 0, 1) := by decide +kernel
theorem dX6_order_20 : decode cX6_order 20 = .ok (.bipush 48, 2) := by decide +kernel
theorem dX6_order_22 : decode cX6_order 22 = .ok (.bipush 57, 2) := by decide +kernel
theorem dX6_order_24 : decode cX6_order 24 = .ok (.invokevirtual 175, 3) := by decide +kernel
theorem dX6_order_27 : decode cX6_order 27 = .ok (.bipush 48, 2) := by decide +kernel
theorem dX6_order_29 : decode cX6_order 29 = .ok (.isub, 1) := by decide +kernel
theorem dX6_order_30 : decode cX6_order 30 = .ok (.istore_n 2, 1) := by decide +kernel
theorem dX6_order_31 : decode cX6_order 31 = .ok (.aload_n 0, 1) := by decide +kernel
theorem dX6_order_32 : decode cX6_order 32 = .ok (.bipush 46, 2) := by decide +kernel
theorem dX6_order_34 : decode cX6_order 34 = .ok (.bipush 46, 2) := by decide +kernel
theorem dX6_order_36 : decode cX6_order 36 = .ok (.invokevirtual 175, 3) := by decide +kernel
theorem dX6_order_39 : decode cX6_order 39 = .ok (.istore_n 3, 1) := by decide +kernel
theorem dX6_order_40 : decode cX6_order 40 = .ok (.aload_n 0, 1) := by decide +kernel
theorem dX6_order_41 : decode cX6_order 41 = .ok (.bipush 48, 2) := by decide +kernel
theorem dX6_order_43 : decode cX6_order 43 = .ok (.bipush 57, 2) := by decide +kernel
theorem dX6_order_45 : decode cX6_order 45 = .ok (.invokevirtual 175, 3) := by decide +kernel
theorem dX6_order_48 : decode cX6_order 48 = .ok (.bipush 48, 2) := by decide +kernel
theorem dX6_order_50 : decode cX6_order 50 = .ok (.isub, 1) := by decide +kernel
theorem dX6_order_51 : decode cX6_order 51 = .ok (.istore 4, 2) := by decide +kernel
theorem dX6_order_53 : decode cX6_order 53 = .ok (.aload_n 0, 1) := by decide +kernel
theorem dX6_order_54 : decode cX6_order 54 = .ok (.bipush 42, 2) := by decide +kernel
theorem dX6_order_56 : decode cX6_order 56 = .ok (.bipush 42, 2) := by decide +kernel
theorem dX6_order_58 : decode cX6_order 58 = .ok (.invokevirtual 175, 3) := by decide +kernel
theorem dX6_order_61 : decode cX6_order 61 = .ok (.istore 5, 2) := by decide +kernel
theorem dX6_order_63 : decode cX6_order 63 = .ok (.aload_n 0, 1) := by decide +kernel
theorem dX6_order_64 : decode cX6_order 64 = .ok (.invokevirtual 181, 3) := by decide +kernel
theorem dX6_order_67 : decode cX6_order 67 = .ok (.istore 6, 2) := by decide +kernel
theorem dX6_order_69 : decode cX6_order 69 = .ok (.iload_n 1, 1) := by decide +kernel
theorem dX6_order_70 : decode cX6_order 70 = .ok (.ifCond .eq 15, 3) := by decide +kernel
theorem dX6_order_73 : decode cX6_order 73 = .ok (.aload_n 0, 1) := by decide +kernel
theorem dX6_order_74 : decode cX6_order 74 = .ok (.iload_n 2, 1) := by decide +kernel
theorem dX6_order_75 : decode cX6_order 75 = .ok (.iload 4, 2) := by decide +kernel
theorem dX6_order_77 : decode cX6_order 77 = .ok (.iload 6, 2) := by decide +kernel
theorem dX6_order_79 : decode cX6_order 79 = .ok (.invokevirtual 110, 3) := by decide +kernel
theorem dX6_order_82 : decode cX6_order 82 = .ok (.goto 4, 3) := by decide +kernel
theorem dX6_order_85 : decode cX6_order 85 = .ok (.iconst 0, 1) := by decide +kernel
theorem dX6_order_86 : decode cX6_order 86 = .ok (.ireturn, 1) := by decide +kernel
theorem dX6_order_87 : decode cX6_order 87 = .ok (.aload_n 0, 1) := by decide +kernel
theorem dX6_order_88 : decode cX6_order 88 = .ok (.bipush 102, 2) := by decide +kernel
theorem dX6_order_90 : decode cX6_order 90 = .ok (.invokevirtual 178, 3) := by decide +kernel
theorem dX6_order_93 : decode cX6_order 93 = .ok (.ifCond .eq 56, 3) := by decide +kernel
theorem dX6_order_96 : decode cX6_order 96 = .ok (.aload_n 0, 1) := by decide +kernel
theorem dX6_order_97 : decode cX6_order 97 = .ok (.dup, 1) := by decide +kernel
theorem dX6_order_98 : decode cX6_order 98 = .ok (.getfield 168, 3) := by decide +kernel
theorem dX6_order_101 : decode cX6_order 101 = .ok (.iconst 1, 1) := by decide +kernel
theorem dX6_order_102 : decode cX6_order 102 = .ok (.iadd, 1) := by decide +kernel
theorem dX6_order_103 : decode cX6_order 103 = .ok (.putfield 168, 3) := by decide +kernel
theorem dX6_order_106 : decode cX6_order 106 = .ok (.aload_n 0, 1) := by decide +kernel
theorem dX6_order_107 : decode cX6_order 107 = .ok (.bipush 48, 2) := by decide +kernel
theorem dX6_order_109 : decode cX6_order 109 = .ok (.bipush 57, 2) := by decide +kernel
theorem dX6_order_111 : decode cX6_order 111 = .ok (.invokevirtual 175, 3) := by decide +kernel
theorem dX6_order_114 : decode cX6_order 114 = .ok (.bipush 48, 2) := by decide +kernel
theorem dX6_order_116 : decode cX6_order 116 = .ok (.isub, 1) := by decide +kernel
theorem dX6_order_117 : decode cX6_order 117 = .ok (.istore_n 2, 1) := by decide +kernel
theorem dX6_order_118 : decode cX6_order 118 = .ok (.aload_n 0, 1) := by decide +kernel
theorem dX6_order_119 : decode cX6_order 119 = .ok (.bipush 43, 2) := by decide +kernel
theorem dX6_order_121 : decode cX6_order 121 = .ok (.bipush 43, 2) := by decide +kernel
theorem dX6_order_123 : decode cX6_order 123 = .ok (.invokevirtual 175, 3) := by decide +kernel
theorem dX6_order_126 : decode cX6_order 126 = .ok (.istore_n 3, 1) := by decide +kernel
theorem dX6_order_127 : decode cX6_order 127 = .ok (.aload_n 0, 1) := by decide +kernel
theorem dX6_order_128 : decode cX6_order 128 = .ok (.invokevirtual 181, 3) := by decide +kernel
theorem dX6_order_131 : decode cX6_order 131 = .ok (.istore 4, 2) := by decide +kernel
theorem dX6_order_133 : decode cX6_order 133 = .ok (.iload_n 1, 1) := by decide +kernel
theorem dX6_order_134 : decode cX6_order 134 = .ok (.ifCond .eq 13, 3) := by decide +kernel
theorem dX6_order_137 : decode cX6_order 137 = .ok (.aload_n 0, 1) := by decide +kernel
theorem dX6_order_138 : decode cX6_order 138 = .ok (.iload_n 2, 1) := by decide +kernel
theorem dX6_order_139 : decode cX6_order 139 = .ok (.iload 4, 2) := by decide +kernel
theorem dX6_order_141 : decode cX6_order 141 = .ok (.invokevirtual 117, 3) := by decide +kernel
theorem dX6_order_144 : decode cX6_order 144 = .ok (.goto 4, 3) := by decide +kernel
theorem dX6_order_147 : decode cX6_order 147 = .ok (.iconst 0, 1) := by decide +kernel
theorem dX6_order_148 : decode cX6_order 148 = .ok (.ireturn, 1) := by decide +kernel
theorem dX6_order_149 : decode cX6_order 149 = .ok (.aload_n 0, 1) := by decide +kernel
theorem dX6_order_150 : decode cX6_order 150 = .ok (.bipush 115, 2) := by decide +kernel
theorem dX6_order_152 : decode cX6_order 152 = .ok (.invokevirtual 178, 3) := by decide +kernel
theorem dX6_order_155 : decode cX6_order 155 = .ok (.ifCond .ne 12, 3) := by decide +kernel
theorem dX6_order_158 : decode cX6_order 158 = .ok (.aload_n 0, 1) := by decide +kernel
theorem dX6_order_159 : decode cX6_order 159 = .ok (.bipush 114, 2) := by decide +kernel
theorem dX6_order_161 : decode cX6_order 161 = .ok (.invokevirtual 178, 3) := by decide +kernel
theorem dX6_order_164 : decode cX6_order 164 = .ok (.ifCond .eq 51, 3) := by decide +kernel
theorem dX6_order_167 : decode cX6_order 167 = .ok (.aload_n 0, 1) := by decide +kernel
theorem dX6_order_168 : decode cX6_order 168 = .ok (.bipush 115, 2) := by decide +kernel
theorem dX6_order_170 : decode cX6_order 170 = .ok (.invokevirtual 178, 3) := by decide +kernel
theorem dX6_order_173 : decode cX6_order 173 = .ok (.istore_n 2, 1) := by decide +kernel
theorem dX6_order_174 : decode cX6_order 174 = .ok (.aload_n 0, 1) := by decide +kernel
theorem dX6_order_175 : decode cX6_order 175 = .ok (.dup, 1) := by decide +kernel
theorem dX6_order_176 : decode cX6_order 176 = .ok (.getfield 168, 3) := by decide +kernel
theorem dX6_order_179 : decode cX6_order 179 = .ok (.iconst 1, 1) := by decide +kernel
theorem dX6_order_180 : decode cX6_order 180 = .ok (.iadd, 1) := by decide +kernel
theorem dX6_order_181 : decode cX6_order 181 = .ok (.putfield 168, 3) := by decide +kernel
theorem dX6_order_184 : decode cX6_order 184 = .ok (.aload_n 0, 1) := by decide +kernel
theorem dX6_order_185 : decode cX6_order 185 = .ok (.invokevirtual 181, 3) := by decide +kernel
theorem dX6_order_188 : decode cX6_order 188 = .ok (.istore_n 3, 1) := by decide +kernel
theorem dX6_order_189 : decode cX6_order 189 = .ok (.iload_n 1, 1) := by decide +kernel
theorem dX6_order_190 : decode cX6_order 190 = .ok (.ifCond .ne 7, 3) := by decide +kernel
theorem dX6_order_193 : decode cX6_order 193 = .ok (.iconst 0, 1) := by decide +kernel
theorem dX6_order_194 : decode cX6_order 194 = .ok (.goto 20, 3) := by decide +kernel
theorem dX6_order_197 : decode cX6_order 197 = .ok (.iload_n 2, 1) := by decide +kernel
theorem dX6_order_198 : decode cX6_order 198 = .ok (.ifCond .eq 11, 3) := by decide +kernel
theorem dX6_order_201 : decode cX6_order 201 = .ok (.aload_n 0, 1) := by decide +kernel
theorem dX6_order_202 : decode cX6_order 202 = .ok (.iload_n 3, 1) := by decide +kernel
theorem dX6_order_203 : decode cX6_order 203 = .ok (.invokevirtual 123, 3) := by decide +kernel
theorem dX6_order_206 : decode cX6_order 206 = .ok (.goto 8, 3) := by decide +kernel
theorem dX6_order_209 : decode cX6_order 209 = .ok (.aload_n 0, 1) := by decide +kernel
theorem dX6_order_210 : decode cX6_order 210 = .ok (.iload_n 3, 1) := by decide +kernel
theorem dX6_order_211 : decode cX6_order 211 = .ok (.invokevirtual 129, 3) := by decide +kernel
theorem dX6_order_214 : decode cX6_order 214 = .ok (.ireturn, 1) := by decide +kernel
theorem dX6_order_215 : decode cX6_order 215 = .ok (.aload_n 0, 1) := by decide +kernel
theorem dX6_order_216 : decode cX6_order 216 = .ok (.bipush 97, 2) := by decide +kernel
theorem dX6_order_218 : decode cX6_order 218 = .ok (.invokevirtual 178, 3) := by decide +kernel
theorem dX6_order_221 : decode cX6_order 221 = .ok (.ifCond .eq 52, 3) := by decide +kernel
theorem dX6_order_224 : decode cX6_order 224 = .ok (.aload_n 0, 1) := by decide +kernel
theorem dX6_order_225 : decode cX6_order 225 = .ok (.dup, 1) := by decide +kernel
theorem dX6_order_226 : decode cX6_order 226 = .ok (.getfield 168, 3) := by decide +kernel
theorem dX6_order_229 : decode cX6_order 229 = .ok (.iconst 1, 1) := by decide +kernel
theorem dX6_order_230 : decode cX6_order 230 = .ok (.iadd, 1) := by decide +kernel
theorem dX6_order_231 : decode cX6_order 231 = .ok (.putfield 168, 3) := by decide +kernel
theorem dX6_order_234 : decode cX6_order 234 = .ok (.aload_n 0, 1) := by decide +kernel
theorem dX6_order_235 : decode cX6_order 235 = .ok (.bipush 48, 2) := by decide +kernel
theorem dX6_order_237 : decode cX6_order 237 = .ok (.bipush 57, 2) := by decide +kernel
theorem dX6_order_239 : decode cX6_order 239 = .ok (.invokevirtual 175, 3) := by decide +kernel
theorem dX6_order_242 : decode cX6_order 242 = .ok (.bipush 48, 2) := by decide +kernel
theorem dX6_order_244 : decode cX6_order 244 = .ok (.isub, 1) := by decide +kernel
theorem dX6_order_245 : decode cX6_order 245 = .ok (.istore_n 2, 1) := by decide +kernel
theorem dX6_order_246 : decode cX6_order 246 = .ok (.aload_n 0, 1) := by decide +kernel
theorem dX6_order_247 : decode cX6_order 247 = .ok (.bipush 48, 2) := by decide +kernel
theorem dX6_order_249 : decode cX6_order 249 = .ok (.bipush 57, 2) := by decide +kernel
theorem dX6_order_251 : decode cX6_order 251 = .ok (.invokevirtual 175, 3) := by decide +kernel
theorem dX6_order_254 : decode cX6_order 254 = .ok (.bipush 48, 2) := by decide +kernel
theorem dX6_order_256 : decode cX6_order 256 = .ok (.isub, 1) := by decide +kernel
theorem dX6_order_257 : decode cX6_order 257 = .ok (.istore_n 3, 1) := by decide +kernel
theorem dX6_order_258 : decode cX6_order 258 = .ok (.iload_n 1, 1) := by decide +kernel
theorem dX6_order_259 : decode cX6_order 259 = .ok (.ifCond .eq 12, 3) := by decide +kernel
theorem dX6_order_262 : decode cX6_order 262 = .ok (.aload_n 0, 1) := by decide +kernel
theorem dX6_order_263 : decode cX6_order 263 = .ok (.iload_n 2, 1) := by decide +kernel
theorem dX6_order_264 : decode cX6_order 264 = .ok (.iload_n 3, 1) := by decide +kernel
theorem dX6_order_265 : decode cX6_order 265 = .ok (.invokevirtual 126, 3) := by decide +kernel
theorem dX6_order_268 : decode cX6_order 268 = .ok (.goto 4, 3) := by decide +kernel
theorem dX6_order_271 : decode cX6_order 271 = .ok (.iconst 0, 1) := by decide +kernel
theorem dX6_order_272 : decode cX6_order 272 = .ok (.ireturn, 1) := by decide +kernel
theorem dX6_order_273 : decode cX6_order 273 = .ok (.aload_n 0, 1) := by decide +kernel
theorem dX6_order_274 : decode cX6_order 274 = .ok (.bipush 116, 2) := by decide +kernel
theorem dX6_order_276 : decode cX6_order 276 = .ok (.bipush 116, 2) := by decide +kernel
theorem dX6_order_278 : decode cX6_order 278 = .ok (.invokevirtual 175, 3) := by decide +kernel
theorem dX6_order_281 : decode cX6_order 281 = .ok (.istore_n 2, 1) := by decide +kernel
theorem dX6_order_282 : decode cX6_order 282 = .ok (.iload_n 1, 1) := by decide +kernel
theorem dX6_order_283 : decode cX6_order 283 = .ok (.ifCond .eq 10, 3) := by decide +kernel
theorem dX6_order_286 : decode cX6_order 286 = .ok (.aload_n 0, 1) := by decide +kernel
theorem dX6_order_287 : decode cX6_order 287 = .ok (.invokevirtual 120, 3) := by decide +kernel
theorem dX6_order_290 : decode cX6_order 290 = .ok (.goto 4, 3) := by decide +kernel
theorem dX6_order_293 : decode cX6_order 293 = .ok (.iconst 0, 1) := by decide +kernel
theorem dX6_order_294 : decode cX6_order 294 = .ok (.ireturn, 1) := by decide +kernel
def wp_X6_order_b167 (x1 : Int32) (Q : Int32 → Sg → Prop) (σ : Sg) : Prop := wp_X6_isNext (115 : Int32) σ (fun r58 σ59 => ∀ σ60 : Sg, σ60 = up σ59 12 18 0 9 ((σ59 12 18 0 9) + (1 : Int32)) → wp_X6_number σ60 (fun r61 σ62 => ((¬ x1 = 0 → ((r58 = 0 → wp_X6_goes r61 σ62 (fun r65 σ66 => Q r65 σ66)) ∧ (¬ r58 = 0 → wp_X6_ships r61 σ62 (fun r67 σ68 => Q r67 σ68)))) ∧ (x1 = 0 → Q (0 : Int32) σ62))))
set_option maxRecDepth 100000 in
set_option maxHeartbeats 4000000 in
theorem g_X6_order_b167 {X : Tx} {Q : Int32 → Sg → Prop} (C : Cx X cX6_order "SweetWrapsModel" (some .int) 8 182 7 (QI (tE X) Q)) {x1 : Int32} {σ : Sg} (hw : wp_X6_order_b167 x1 Q σ) : G X σ [(0, .ref (ad (tE X) 12 18 0)), (1, .int x1)] [] 167 := by
  unfold wp_X6_order_b167 at hw
  refine gx_aload_n C dX6_order_167 0 rfl ?_
  refine gx_bipush (v := (115 : Int32)) C dX6_order_168 (by decide) ?_
  refine gx_vcalli (As := [.int (115 : Int32)]) (rest := []) C (c_X6_isNext _ _ hw) okg_18 rfl rfl bw_956 bw_958 bs_64 bw_7 bw_959 hy_X6_isNext ⟨by decide, by decide⟩ rfl (Nat.le_of_ble_eq_true rfl) dX6_order_170 (fun r58 σ59 hw => ?_)
  refine gx_istore_n (lv' := [(2, .int r58), (0, .ref (ad (tE X) 12 18 0)), (1, .int x1)]) C dX6_order_173 (by decide) rfl ?_
  refine gx_aload_n C dX6_order_174 1 rfl ?_
  refine gx_dup C dX6_order_175 rfl ?_
  refine gx_get C okg_18 rfl rfl inX6 (ref := "SweetWrapsModel") 9 (by decide) bw_682 rfl rfl dX6_order_176 ?_
  refine gx_iconst (v := (1 : Int32)) C dX6_order_179 (by decide) ?_
  refine gx_iadd C dX6_order_180 ?_
  refine gx_put C okg_18 rfl rfl inX6 tyX6 tyX6_ok nmX6 (ref := "SweetWrapsModel") 9 (by decide) bw_682 rfl rfl (v := .int ((σ59 12 18 0 9) + (1 : Int32))) rfl rfl (Nat.le_of_ble_eq_true rfl) (upd (σ59 12 18 0) 9 ((σ59 12 18 0 9) + (1 : Int32))) rfl dX6_order_181 ?_
  obtain ⟨σ60, e_σ60⟩ : ∃ z : Sg, z = up σ59 12 18 0 9 ((σ59 12 18 0 9) + (1 : Int32)) := ⟨_, rfl⟩
  replace hw := hw σ60 e_σ60
  refine gx_st e_σ60 ?_
  refine gx_aload_n C dX6_order_184 1 rfl ?_
  refine gx_vcalli (As := []) (rest := []) C (c_X6_number _ _ hw) okg_18 rfl rfl bw_964 bw_966 bs_66 bw_7 bw_967 hy_X6_number ⟨by decide, by decide⟩ rfl (Nat.le_of_ble_eq_true rfl) dX6_order_185 (fun r61 σ62 hw => ?_)
  refine gx_istore_n (lv' := [(3, .int r61), (2, .int r58), (0, .ref (ad (tE X) 12 18 0)), (1, .int x1)]) C dX6_order_188 (by decide) rfl ?_
  refine gx_iload_n C dX6_order_189 3 rfl ?_
  refine gx_if_ne (tgt := 197) C dX6_order_190 (by decide) (fun c63 => ?_) (fun c63 => ?_)
  · replace hw := hw.1 c63
    refine gx_iload_n C dX6_order_197 1 rfl ?_
    refine gx_if_eq (tgt := 209) C dX6_order_198 (by decide) (fun c64 => ?_) (fun c64 => ?_)
    · replace hw := hw.1 c64
      refine gx_aload_n C dX6_order_209 2 rfl ?_
      refine gx_iload_n C dX6_order_210 0 rfl ?_
      refine gx_vcalli (As := [.int r61]) (rest := []) C (c_X6_goes _ _ hw) okg_18 rfl rfl bw_812 bw_814 bs_44 bw_7 bw_815 hy_X6_goes ⟨by decide, by decide⟩ rfl (Nat.le_of_ble_eq_true rfl) dX6_order_211 (fun r65 σ66 hw => ?_)
      exact gx_iret C rfl rfl dX6_order_214 hw
    · replace hw := hw.2 c64
      refine gx_aload_n C dX6_order_201 2 rfl ?_
      refine gx_iload_n C dX6_order_202 0 rfl ?_
      refine gx_vcalli (As := [.int r61]) (rest := []) C (c_X6_ships _ _ hw) okg_18 rfl rfl bw_776 bw_778 bs_37 bw_7 bw_779 hy_X6_ships ⟨by decide, by decide⟩ rfl (Nat.le_of_ble_eq_true rfl) dX6_order_203 (fun r67 σ68 hw => ?_)
      refine gx_goto (tgt := 214) C dX6_order_206 (by decide) ?_
      exact gx_iret C rfl rfl dX6_order_214 hw
  · replace hw := hw.2 c63
    refine gx_iconst (v := (0 : Int32)) C dX6_order_193 (by decide) ?_
    refine gx_goto (tgt := 214) C dX6_order_194 (by decide) ?_
    exact gx_iret C rfl rfl dX6_order_214 hw
def wp_X6_order (x1 : Int32) (σ : Sg) (Q : Int32 → Sg → Prop) : Prop := wp_X6_isNext (104 : Int32) σ (fun r1 σ2 => ((r1 = 0 → wp_X6_isNext (102 : Int32) σ2 (fun r4 σ5 => ((r4 = 0 → wp_X6_isNext (115 : Int32) σ5 (fun r7 σ8 => ((¬ r7 = 0 → wp_X6_order_b167 x1 Q σ8) ∧ (r7 = 0 → wp_X6_isNext (114 : Int32) σ8 (fun r10 σ11 => ((r10 = 0 → wp_X6_isNext (97 : Int32) σ11 (fun r13 σ14 => ((r13 = 0 → wp_X6_sign (116 : Int32) (116 : Int32) σ14 (fun r16 σ17 => ((x1 = 0 → Q (0 : Int32) σ17) ∧ (¬ x1 = 0 → wp_X6_tins σ17 (fun r19 σ20 => Q r19 σ20))))) ∧ (¬ r13 = 0 → ∀ σ21 : Sg, σ21 = up σ14 12 18 0 9 ((σ14 12 18 0 9) + (1 : Int32)) → wp_X6_sign (48 : Int32) (57 : Int32) σ21 (fun r22 σ23 => ∀ z24 : Int32, z24 = (r22 - (48 : Int32)) → wp_X6_sign (48 : Int32) (57 : Int32) σ23 (fun r25 σ26 => ∀ z27 : Int32, z27 = (r25 - (48 : Int32)) → ((x1 = 0 → Q (0 : Int32) σ26) ∧ (¬ x1 = 0 → wp_X6_keepsApart z24 z27 σ26 (fun r29 σ30 => Q r29 σ30))))))))) ∧ (¬ r10 = 0 → wp_X6_order_b167 x1 Q σ11))))))) ∧ (¬ r4 = 0 → ∀ σ31 : Sg, σ31 = up σ5 12 18 0 9 ((σ5 12 18 0 9) + (1 : Int32)) → wp_X6_sign (48 : Int32) (57 : Int32) σ31 (fun r32 σ33 => ∀ z34 : Int32, z34 = (r32 - (48 : Int32)) → wp_X6_sign (43 : Int32) (43 : Int32) σ33 (fun r35 σ36 => wp_X6_number σ36 (fun r37 σ38 => ((x1 = 0 → Q (0 : Int32) σ38) ∧ (¬ x1 = 0 → wp_X6_foils z34 r37 σ38 (fun r40 σ41 => Q r40 σ41)))))))))) ∧ (¬ r1 = 0 → ∀ σ42 : Sg, σ42 = up σ2 12 18 0 9 ((σ2 12 18 0 9) + (1 : Int32)) → wp_X6_sign (48 : Int32) (57 : Int32) σ42 (fun r43 σ44 => ∀ z45 : Int32, z45 = (r43 - (48 : Int32)) → wp_X6_sign (46 : Int32) (46 : Int32) σ44 (fun r46 σ47 => wp_X6_sign (48 : Int32) (57 : Int32) σ47 (fun r48 σ49 => ∀ z50 : Int32, z50 = (r48 - (48 : Int32)) → wp_X6_sign (42 : Int32) (42 : Int32) σ49 (fun r51 σ52 => wp_X6_number σ52 (fun r53 σ54 => ((x1 = 0 → Q (0 : Int32) σ54) ∧ (¬ x1 = 0 → wp_X6_heaps z45 z50 r53 σ54 (fun r56 σ57 => Q r56 σ57)))))))))))
set_option maxRecDepth 100000 in
set_option maxHeartbeats 4000000 in
theorem c_X6_order (l : Launch) (E : Ev) {x1 : Int32} {σ : Sg} {Q : Int32 → Sg → Prop} (hw : wp_X6_order x1 σ Q) : CT l E yX6_order cX6_order 7 (some .int) 8 182 [.ref (ad E 12 18 0), .int x1] σ (QI E Q) := by
  refine CT_of (by decide) (Nat.le_of_ble_eq_true rfl) (fun X h1 h2 C => ?_)
  subst h1; subst h2
  have C : Cx X cX6_order "SweetWrapsModel" (some .int) 8 182 7 (QI (tE X) Q) := C
  show G X σ [(0, .ref (ad (tE X) 12 18 0)), (1, .int x1)] [] 0
  unfold wp_X6_order at hw
  refine gx_aload_n C dX6_order_0 0 rfl ?_
  refine gx_bipush (v := (104 : Int32)) C dX6_order_1 (by decide) ?_
  refine gx_vcalli (As := [.int (104 : Int32)]) (rest := []) C (c_X6_isNext _ _ hw) okg_18 rfl rfl bw_956 bw_958 bs_64 bw_7 bw_959 hy_X6_isNext ⟨by decide, by decide⟩ rfl (Nat.le_of_ble_eq_true rfl) dX6_order_3 (fun r1 σ2 hw => ?_)
  refine gx_if_eq (tgt := 87) C dX6_order_6 (by decide) (fun c3 => ?_) (fun c3 => ?_)
  · replace hw := hw.1 c3
    refine gx_aload_n C dX6_order_87 0 rfl ?_
    refine gx_bipush (v := (102 : Int32)) C dX6_order_88 (by decide) ?_
    refine gx_vcalli (As := [.int (102 : Int32)]) (rest := []) C (c_X6_isNext _ _ hw) okg_18 rfl rfl bw_956 bw_958 bs_64 bw_7 bw_959 hy_X6_isNext ⟨by decide, by decide⟩ rfl (Nat.le_of_ble_eq_true rfl) dX6_order_90 (fun r4 σ5 hw => ?_)
    refine gx_if_eq (tgt := 149) C dX6_order_93 (by decide) (fun c6 => ?_) (fun c6 => ?_)
    · replace hw := hw.1 c6
      refine gx_aload_n C dX6_order_149 0 rfl ?_
      refine gx_bipush (v := (115 : Int32)) C dX6_order_150 (by decide) ?_
      refine gx_vcalli (As := [.int (115 : Int32)]) (rest := []) C (c_X6_isNext _ _ hw) okg_18 rfl rfl bw_956 bw_958 bs_64 bw_7 bw_959 hy_X6_isNext ⟨by decide, by decide⟩ rfl (Nat.le_of_ble_eq_true rfl) dX6_order_152 (fun r7 σ8 hw => ?_)
      refine gx_if_ne (tgt := 167) C dX6_order_155 (by decide) (fun c9 => ?_) (fun c9 => ?_)
      · replace hw := hw.1 c9
        exact g_X6_order_b167 C hw
      · replace hw := hw.2 c9
        refine gx_aload_n C dX6_order_158 0 rfl ?_
        refine gx_bipush (v := (114 : Int32)) C dX6_order_159 (by decide) ?_
        refine gx_vcalli (As := [.int (114 : Int32)]) (rest := []) C (c_X6_isNext _ _ hw) okg_18 rfl rfl bw_956 bw_958 bs_64 bw_7 bw_959 hy_X6_isNext ⟨by decide, by decide⟩ rfl (Nat.le_of_ble_eq_true rfl) dX6_order_161 (fun r10 σ11 hw => ?_)
        refine gx_if_eq (tgt := 215) C dX6_order_164 (by decide) (fun c12 => ?_) (fun c12 => ?_)
        · replace hw := hw.1 c12
          refine gx_aload_n C dX6_order_215 0 rfl ?_
          refine gx_bipush (v := (97 : Int32)) C dX6_order_216 (by decide) ?_
          refine gx_vcalli (As := [.int (97 : Int32)]) (rest := []) C (c_X6_isNext _ _ hw) okg_18 rfl rfl bw_956 bw_958 bs_64 bw_7 bw_959 hy_X6_isNext ⟨by decide, by decide⟩ rfl (Nat.le_of_ble_eq_true rfl) dX6_order_218 (fun r13 σ14 hw => ?_)
          refine gx_if_eq (tgt := 273) C dX6_order_221 (by decide) (fun c15 => ?_) (fun c15 => ?_)
          · replace hw := hw.1 c15
            refine gx_aload_n C dX6_order_273 0 rfl ?_
            refine gx_bipush (v := (116 : Int32)) C dX6_order_274 (by decide) ?_
            refine gx_bipush (v := (116 : Int32)) C dX6_order_276 (by decide) ?_
            refine gx_vcalli (As := [.int (116 : Int32), .int (116 : Int32)]) (rest := []) C (c_X6_sign _ _ hw) okg_18 rfl rfl bw_960 bw_962 bs_65 bw_7 bw_963 hy_X6_sign ⟨by decide, by decide⟩ rfl (Nat.le_of_ble_eq_true rfl) dX6_order_278 (fun r16 σ17 hw => ?_)
            refine gx_istore_n (lv' := [(2, .int r16), (0, .ref (ad (tE X) 12 18 0)), (1, .int x1)]) C dX6_order_281 (by decide) rfl ?_
            refine gx_iload_n C dX6_order_282 2 rfl ?_
            refine gx_if_eq (tgt := 293) C dX6_order_283 (by decide) (fun c18 => ?_) (fun c18 => ?_)
            · replace hw := hw.1 c18
              refine gx_iconst (v := (0 : Int32)) C dX6_order_293 (by decide) ?_
              exact gx_iret C rfl rfl dX6_order_294 hw
            · replace hw := hw.2 c18
              refine gx_aload_n C dX6_order_286 1 rfl ?_
              refine gx_vcalli (As := []) (rest := []) C (c_X6_tins _ _ hw) okg_18 rfl rfl bw_768 bw_770 bs_36 bw_7 bw_771 hy_X6_tins ⟨by decide, by decide⟩ rfl (Nat.le_of_ble_eq_true rfl) dX6_order_287 (fun r19 σ20 hw => ?_)
              refine gx_goto (tgt := 294) C dX6_order_290 (by decide) ?_
              exact gx_iret C rfl rfl dX6_order_294 hw
          · replace hw := hw.2 c15
            refine gx_aload_n C dX6_order_224 0 rfl ?_
            refine gx_dup C dX6_order_225 rfl ?_
            refine gx_get C okg_18 rfl rfl inX6 (ref := "SweetWrapsModel") 9 (by decide) bw_682 rfl rfl dX6_order_226 ?_
            refine gx_iconst (v := (1 : Int32)) C dX6_order_229 (by decide) ?_
            refine gx_iadd C dX6_order_230 ?_
            refine gx_put C okg_18 rfl rfl inX6 tyX6 tyX6_ok nmX6 (ref := "SweetWrapsModel") 9 (by decide) bw_682 rfl rfl (v := .int ((σ14 12 18 0 9) + (1 : Int32))) rfl rfl (Nat.le_of_ble_eq_true rfl) (upd (σ14 12 18 0) 9 ((σ14 12 18 0 9) + (1 : Int32))) rfl dX6_order_231 ?_
            obtain ⟨σ21, e_σ21⟩ : ∃ z : Sg, z = up σ14 12 18 0 9 ((σ14 12 18 0 9) + (1 : Int32)) := ⟨_, rfl⟩
            replace hw := hw σ21 e_σ21
            refine gx_st e_σ21 ?_
            refine gx_aload_n C dX6_order_234 0 rfl ?_
            refine gx_bipush (v := (48 : Int32)) C dX6_order_235 (by decide) ?_
            refine gx_bipush (v := (57 : Int32)) C dX6_order_237 (by decide) ?_
            refine gx_vcalli (As := [.int (48 : Int32), .int (57 : Int32)]) (rest := []) C (c_X6_sign _ _ hw) okg_18 rfl rfl bw_960 bw_962 bs_65 bw_7 bw_963 hy_X6_sign ⟨by decide, by decide⟩ rfl (Nat.le_of_ble_eq_true rfl) dX6_order_239 (fun r22 σ23 hw => ?_)
            refine gx_bipush (v := (48 : Int32)) C dX6_order_242 (by decide) ?_
            refine gx_isub C dX6_order_244 ?_
            obtain ⟨z24, e_z24⟩ : ∃ z : Int32, z = (r22 - (48 : Int32)) := ⟨_, rfl⟩
            replace hw := hw z24 e_z24
            refine gx_top e_z24 ?_
            refine gx_istore_n (lv' := [(2, .int z24), (0, .ref (ad (tE X) 12 18 0)), (1, .int x1)]) C dX6_order_245 (by decide) rfl ?_
            refine gx_aload_n C dX6_order_246 1 rfl ?_
            refine gx_bipush (v := (48 : Int32)) C dX6_order_247 (by decide) ?_
            refine gx_bipush (v := (57 : Int32)) C dX6_order_249 (by decide) ?_
            refine gx_vcalli (As := [.int (48 : Int32), .int (57 : Int32)]) (rest := []) C (c_X6_sign _ _ hw) okg_18 rfl rfl bw_960 bw_962 bs_65 bw_7 bw_963 hy_X6_sign ⟨by decide, by decide⟩ rfl (Nat.le_of_ble_eq_true rfl) dX6_order_251 (fun r25 σ26 hw => ?_)
            refine gx_bipush (v := (48 : Int32)) C dX6_order_254 (by decide) ?_
            refine gx_isub C dX6_order_256 ?_
            obtain ⟨z27, e_z27⟩ : ∃ z : Int32, z = (r25 - (48 : Int32)) := ⟨_, rfl⟩
            replace hw := hw z27 e_z27
            refine gx_top e_z27 ?_
            refine gx_istore_n (lv' := [(3, .int z27), (2, .int z24), (0, .ref (ad (tE X) 12 18 0)), (1, .int x1)]) C dX6_order_257 (by decide) rfl ?_
            refine gx_iload_n C dX6_order_258 3 rfl ?_
            refine gx_if_eq (tgt := 271) C dX6_order_259 (by decide) (fun c28 => ?_) (fun c28 => ?_)
            · replace hw := hw.1 c28
              refine gx_iconst (v := (0 : Int32)) C dX6_order_271 (by decide) ?_
              exact gx_iret C rfl rfl dX6_order_272 hw
            · replace hw := hw.2 c28
              refine gx_aload_n C dX6_order_262 2 rfl ?_
              refine gx_iload_n C dX6_order_263 1 rfl ?_
              refine gx_iload_n C dX6_order_264 0 rfl ?_
              refine gx_vcalli (As := [.int z24, .int z27]) (rest := []) C (c_X6_keepsApart _ _ hw) okg_18 rfl rfl bw_796 bw_798 bs_41 bw_7 bw_799 hy_X6_keepsApart ⟨by decide, by decide⟩ rfl (Nat.le_of_ble_eq_true rfl) dX6_order_265 (fun r29 σ30 hw => ?_)
              refine gx_goto (tgt := 272) C dX6_order_268 (by decide) ?_
              exact gx_iret C rfl rfl dX6_order_272 hw
        · replace hw := hw.2 c12
          exact g_X6_order_b167 C hw
    · replace hw := hw.2 c6
      refine gx_aload_n C dX6_order_96 0 rfl ?_
      refine gx_dup C dX6_order_97 rfl ?_
      refine gx_get C okg_18 rfl rfl inX6 (ref := "SweetWrapsModel") 9 (by decide) bw_682 rfl rfl dX6_order_98 ?_
      refine gx_iconst (v := (1 : Int32)) C dX6_order_101 (by decide) ?_
      refine gx_iadd C dX6_order_102 ?_
      refine gx_put C okg_18 rfl rfl inX6 tyX6 tyX6_ok nmX6 (ref := "SweetWrapsModel") 9 (by decide) bw_682 rfl rfl (v := .int ((σ5 12 18 0 9) + (1 : Int32))) rfl rfl (Nat.le_of_ble_eq_true rfl) (upd (σ5 12 18 0) 9 ((σ5 12 18 0 9) + (1 : Int32))) rfl dX6_order_103 ?_
      obtain ⟨σ31, e_σ31⟩ : ∃ z : Sg, z = up σ5 12 18 0 9 ((σ5 12 18 0 9) + (1 : Int32)) := ⟨_, rfl⟩
      replace hw := hw σ31 e_σ31
      refine gx_st e_σ31 ?_
      refine gx_aload_n C dX6_order_106 0 rfl ?_
      refine gx_bipush (v := (48 : Int32)) C dX6_order_107 (by decide) ?_
      refine gx_bipush (v := (57 : Int32)) C dX6_order_109 (by decide) ?_
      refine gx_vcalli (As := [.int (48 : Int32), .int (57 : Int32)]) (rest := []) C (c_X6_sign _ _ hw) okg_18 rfl rfl bw_960 bw_962 bs_65 bw_7 bw_963 hy_X6_sign ⟨by decide, by decide⟩ rfl (Nat.le_of_ble_eq_true rfl) dX6_order_111 (fun r32 σ33 hw => ?_)
      refine gx_bipush (v := (48 : Int32)) C dX6_order_114 (by decide) ?_
      refine gx_isub C dX6_order_116 ?_
      obtain ⟨z34, e_z34⟩ : ∃ z : Int32, z = (r32 - (48 : Int32)) := ⟨_, rfl⟩
      replace hw := hw z34 e_z34
      refine gx_top e_z34 ?_
      refine gx_istore_n (lv' := [(2, .int z34), (0, .ref (ad (tE X) 12 18 0)), (1, .int x1)]) C dX6_order_117 (by decide) rfl ?_
      refine gx_aload_n C dX6_order_118 1 rfl ?_
      refine gx_bipush (v := (43 : Int32)) C dX6_order_119 (by decide) ?_
      refine gx_bipush (v := (43 : Int32)) C dX6_order_121 (by decide) ?_
      refine gx_vcalli (As := [.int (43 : Int32), .int (43 : Int32)]) (rest := []) C (c_X6_sign _ _ hw) okg_18 rfl rfl bw_960 bw_962 bs_65 bw_7 bw_963 hy_X6_sign ⟨by decide, by decide⟩ rfl (Nat.le_of_ble_eq_true rfl) dX6_order_123 (fun r35 σ36 hw => ?_)
      refine gx_istore_n (lv' := [(3, .int r35), (2, .int z34), (0, .ref (ad (tE X) 12 18 0)), (1, .int x1)]) C dX6_order_126 (by decide) rfl ?_
      refine gx_aload_n C dX6_order_127 2 rfl ?_
      refine gx_vcalli (As := []) (rest := []) C (c_X6_number _ _ hw) okg_18 rfl rfl bw_964 bw_966 bs_66 bw_7 bw_967 hy_X6_number ⟨by decide, by decide⟩ rfl (Nat.le_of_ble_eq_true rfl) dX6_order_128 (fun r37 σ38 hw => ?_)
      refine gx_istore (lv' := [(4, .int r37), (3, .int r35), (2, .int z34), (0, .ref (ad (tE X) 12 18 0)), (1, .int x1)]) C dX6_order_131 (by decide) rfl ?_
      refine gx_iload_n C dX6_order_133 4 rfl ?_
      refine gx_if_eq (tgt := 147) C dX6_order_134 (by decide) (fun c39 => ?_) (fun c39 => ?_)
      · replace hw := hw.1 c39
        refine gx_iconst (v := (0 : Int32)) C dX6_order_147 (by decide) ?_
        exact gx_iret C rfl rfl dX6_order_148 hw
      · replace hw := hw.2 c39
        refine gx_aload_n C dX6_order_137 3 rfl ?_
        refine gx_iload_n C dX6_order_138 2 rfl ?_
        refine gx_iload C dX6_order_139 0 rfl ?_
        refine gx_vcalli (As := [.int z34, .int r37]) (rest := []) C (c_X6_foils _ _ hw) okg_18 rfl rfl bw_760 bw_762 bs_35 bw_7 bw_763 hy_X6_foils ⟨by decide, by decide⟩ rfl (Nat.le_of_ble_eq_true rfl) dX6_order_141 (fun r40 σ41 hw => ?_)
        refine gx_goto (tgt := 148) C dX6_order_144 (by decide) ?_
        exact gx_iret C rfl rfl dX6_order_148 hw
  · replace hw := hw.2 c3
    refine gx_aload_n C dX6_order_9 0 rfl ?_
    refine gx_dup C dX6_order_10 rfl ?_
    refine gx_get C okg_18 rfl rfl inX6 (ref := "SweetWrapsModel") 9 (by decide) bw_682 rfl rfl dX6_order_11 ?_
    refine gx_iconst (v := (1 : Int32)) C dX6_order_14 (by decide) ?_
    refine gx_iadd C dX6_order_15 ?_
    refine gx_put C okg_18 rfl rfl inX6 tyX6 tyX6_ok nmX6 (ref := "SweetWrapsModel") 9 (by decide) bw_682 rfl rfl (v := .int ((σ2 12 18 0 9) + (1 : Int32))) rfl rfl (Nat.le_of_ble_eq_true rfl) (upd (σ2 12 18 0) 9 ((σ2 12 18 0 9) + (1 : Int32))) rfl dX6_order_16 ?_
    obtain ⟨σ42, e_σ42⟩ : ∃ z : Sg, z = up σ2 12 18 0 9 ((σ2 12 18 0 9) + (1 : Int32)) := ⟨_, rfl⟩
    replace hw := hw σ42 e_σ42
    refine gx_st e_σ42 ?_
    refine gx_aload_n C dX6_order_19 0 rfl ?_
    refine gx_bipush (v := (48 : Int32)) C dX6_order_20 (by decide) ?_
    refine gx_bipush (v := (57 : Int32)) C dX6_order_22 (by decide) ?_
    refine gx_vcalli (As := [.int (48 : Int32), .int (57 : Int32)]) (rest := []) C (c_X6_sign _ _ hw) okg_18 rfl rfl bw_960 bw_962 bs_65 bw_7 bw_963 hy_X6_sign ⟨by decide, by decide⟩ rfl (Nat.le_of_ble_eq_true rfl) dX6_order_24 (fun r43 σ44 hw => ?_)
    refine gx_bipush (v := (48 : Int32)) C dX6_order_27 (by decide) ?_
    refine gx_isub C dX6_order_29 ?_
    obtain ⟨z45, e_z45⟩ : ∃ z : Int32, z = (r43 - (48 : Int32)) := ⟨_, rfl⟩
    replace hw := hw z45 e_z45
    refine gx_top e_z45 ?_
    refine gx_istore_n (lv' := [(2, .int z45), (0, .ref (ad (tE X) 12 18 0)), (1, .int x1)]) C dX6_order_30 (by decide) rfl ?_
    refine gx_aload_n C dX6_order_31 1 rfl ?_
    refine gx_bipush (v := (46 : Int32)) C dX6_order_32 (by decide) ?_
    refine gx_bipush (v := (46 : Int32)) C dX6_order_34 (by decide) ?_
    refine gx_vcalli (As := [.int (46 : Int32), .int (46 : Int32)]) (rest := []) C (c_X6_sign _ _ hw) okg_18 rfl rfl bw_960 bw_962 bs_65 bw_7 bw_963 hy_X6_sign ⟨by decide, by decide⟩ rfl (Nat.le_of_ble_eq_true rfl) dX6_order_36 (fun r46 σ47 hw => ?_)
    refine gx_istore_n (lv' := [(3, .int r46), (2, .int z45), (0, .ref (ad (tE X) 12 18 0)), (1, .int x1)]) C dX6_order_39 (by decide) rfl ?_
    refine gx_aload_n C dX6_order_40 2 rfl ?_
    refine gx_bipush (v := (48 : Int32)) C dX6_order_41 (by decide) ?_
    refine gx_bipush (v := (57 : Int32)) C dX6_order_43 (by decide) ?_
    refine gx_vcalli (As := [.int (48 : Int32), .int (57 : Int32)]) (rest := []) C (c_X6_sign _ _ hw) okg_18 rfl rfl bw_960 bw_962 bs_65 bw_7 bw_963 hy_X6_sign ⟨by decide, by decide⟩ rfl (Nat.le_of_ble_eq_true rfl) dX6_order_45 (fun r48 σ49 hw => ?_)
    refine gx_bipush (v := (48 : Int32)) C dX6_order_48 (by decide) ?_
    refine gx_isub C dX6_order_50 ?_
    obtain ⟨z50, e_z50⟩ : ∃ z : Int32, z = (r48 - (48 : Int32)) := ⟨_, rfl⟩
    replace hw := hw z50 e_z50
    refine gx_top e_z50 ?_
    refine gx_istore (lv' := [(4, .int z50), (3, .int r46), (2, .int z45), (0, .ref (ad (tE X) 12 18 0)), (1, .int x1)]) C dX6_order_51 (by decide) rfl ?_
    refine gx_aload_n C dX6_order_53 3 rfl ?_
    refine gx_bipush (v := (42 : Int32)) C dX6_order_54 (by decide) ?_
    refine gx_bipush (v := (42 : Int32)) C dX6_order_56 (by decide) ?_
    refine gx_vcalli (As := [.int (42 : Int32), .int (42 : Int32)]) (rest := []) C (c_X6_sign _ _ hw) okg_18 rfl rfl bw_960 bw_962 bs_65 bw_7 bw_963 hy_X6_sign ⟨by decide, by decide⟩ rfl (Nat.le_of_ble_eq_true rfl) dX6_order_58 (fun r51 σ52 hw => ?_)
    refine gx_istore (lv' := [(5, .int r51), (4, .int z50), (3, .int r46), (2, .int z45), (0, .ref (ad (tE X) 12 18 0)), (1, .int x1)]) C dX6_order_61 (by decide) rfl ?_
    refine gx_aload_n C dX6_order_63 4 rfl ?_
    refine gx_vcalli (As := []) (rest := []) C (c_X6_number _ _ hw) okg_18 rfl rfl bw_964 bw_966 bs_66 bw_7 bw_967 hy_X6_number ⟨by decide, by decide⟩ rfl (Nat.le_of_ble_eq_true rfl) dX6_order_64 (fun r53 σ54 hw => ?_)
    refine gx_istore (lv' := [(6, .int r53), (5, .int r51), (4, .int z50), (3, .int r46), (2, .int z45), (0, .ref (ad (tE X) 12 18 0)), (1, .int x1)]) C dX6_order_67 (by decide) rfl ?_
    refine gx_iload_n C dX6_order_69 6 rfl ?_
    refine gx_if_eq (tgt := 85) C dX6_order_70 (by decide) (fun c55 => ?_) (fun c55 => ?_)
    · replace hw := hw.1 c55
      refine gx_iconst (v := (0 : Int32)) C dX6_order_85 (by decide) ?_
      exact gx_iret C rfl rfl dX6_order_86 hw
    · replace hw := hw.2 c55
      refine gx_aload_n C dX6_order_73 5 rfl ?_
      refine gx_iload_n C dX6_order_74 4 rfl ?_
      refine gx_iload C dX6_order_75 2 rfl ?_
      refine gx_iload C dX6_order_77 0 rfl ?_
      refine gx_vcalli (As := [.int z45, .int z50, .int r53]) (rest := []) C (c_X6_heaps _ _ hw) okg_18 rfl rfl bw_726 bw_728 bs_29 bw_7 bw_729 hy_X6_heaps ⟨by decide, by decide⟩ rfl (Nat.le_of_ble_eq_true rfl) dX6_order_79 (fun r56 σ57 hw => ?_)
      refine gx_goto (tgt := 86) C dX6_order_82 (by decide) ?_
      exact gx_iret C rfl rfl dX6_order_86 hw
theorem hy_X6_order : yX6_order.cls = "SweetWrapsModel" ∧ yX6_order.cls ≠ "java/lang/invoke/MethodHandle" ∧ yX6_order.cls ≠ "java/lang/invoke/VarHandle" ∧ (parseMethodDescriptor yX6_order.desc).map (fun d => d.parameters.length) = some 1 := by decide +kernel
