theorem dX5_tinsFor_0 : decode cX5_tinsFor 0 = .ok (.aload_n 0, 1) := by decide +kernel
theorem dX5_tinsFor_1 : decode cX5_tinsFor 1 = .ok (.getfield 10, 3) := by decide +kernel
theorem dX5_tinsFor_4 : decode cX5_tinsFor 4 = .ok (.invokevirtual 141, 3) := by decide +kernel
theorem dX5_tinsFor_7 : decode cX5_tinsFor 7 = .ok (.ireturn, 1) := by decide +kernel
def wp_X5_tinsFor (σ : Sg) (Q : Int32 → Sg → Prop) : Prop := wp_X2_tinsForHoppers 0 σ (fun r1 σ2 => Q r1 σ2)
set_option maxRecDepth 100000 in
set_option maxHeartbeats 4000000 in
theorem c_X5_tinsFor (l : Launch) (E : Ev) {σ : Sg} {Q : Int32 → Sg → Prop} (hw : wp_X5_tinsFor σ Q) : CT l E yX5_tinsFor cX5_tinsFor 1 (some .int) 3 69 [.ref (ad E 11 10 0)] σ (QI E Q) := by
  refine CT_of (by decide) (Nat.le_of_ble_eq_true rfl) (fun X h1 h2 C => ?_)
  subst h1; subst h2
  have C : Cx X cX5_tinsFor "SweetWraps" (some .int) 3 69 1 (QI (tE X) Q) := C
  show G X σ [(0, .ref (ad (tE X) 11 10 0))] [] 0
  unfold wp_X5_tinsFor at hw
  refine gx_aload_n C dX5_tinsFor_0 0 rfl ?_
  refine gx_get C okg_10 rfl rfl inX5 (ref := "SweetWraps") 0 (by decide) bw_171 rfl rfl dX5_tinsFor_1 ?_
  refine gx_vcalli (As := []) (rest := []) C (c_X2_tinsForHoppers _ _ (by decide) hw) (ok0 (show 0 < 11 from by decide)) rfl rfl bw_507 bw_508 bw_509 bw_2 bw_510 hy_X2_tinsForHoppers ⟨by decide, by decide⟩ rfl (Nat.le_of_ble_eq_true rfl) dX5_tinsFor_4 (fun r1 σ2 hw => ?_)
  exact gx_iret C rfl rfl dX5_tinsFor_7 hw
theorem hy_X5_tinsFor : yX5_tinsFor.cls = "SweetWraps" ∧ yX5_tinsFor.cls ≠ "java/lang/invoke/MethodHandle" ∧ yX5_tinsFor.cls ≠ "java/lang/invoke/VarHandle" ∧ (parseMethodDescriptor yX5_tinsFor.desc).map (fun d => d.parameters.length) = some 0 := by decide +kernel

theorem dX5_put_0 : decode cX5_put 0 = .ok (.aload_n 0, 1) := by decide +kernel
theorem dX5_put_1 : decode cX5_put 1 = .ok (.getfield 37, 3) := by decide +kernel
theorem dX5_put_4 : decode cX5_put 4 = .ok (.lload_n 1, 1) := by decide +kernel
theorem dX5_put_5 : decode cX5_put 5 = .ok (.invokevirtual 144, 3) := by decide +kernel
theorem dX5_put_8 : decode cX5_put 8 = .ok (.ireturn, 1) := by decide +kernel
def wp_X5_put (y1 : Int64) (σ : Sg) (Q : Int32 → Sg → Prop) : Prop := wp_X3_append y1 σ (fun r1 σ2 => Q r1 σ2)
set_option maxRecDepth 100000 in
set_option maxHeartbeats 4000000 in
theorem c_X5_put (l : Launch) (E : Ev) {y1 : Int64} {σ : Sg} {Q : Int32 → Sg → Prop} (hw : wp_X5_put y1 σ Q) : CT l E yX5_put cX5_put 3 (some .int) 3 72 [.ref (ad E 11 10 0), .long y1] σ (QI E Q) := by
  refine CT_of (by decide) (Nat.le_of_ble_eq_true rfl) (fun X h1 h2 C => ?_)
  subst h1; subst h2
  have C : Cx X cX5_put "SweetWraps" (some .int) 3 72 3 (QI (tE X) Q) := C
  show G X σ [(0, .ref (ad (tE X) 11 10 0)), (1, .long y1)] [] 0
  unfold wp_X5_put at hw
  refine gx_aload_n C dX5_put_0 0 rfl ?_
  refine gx_get C okg_10 rfl rfl inX5 (ref := "SweetWraps") 5 (by decide) bw_176 rfl rfl dX5_put_1 ?_
  refine gx_lload_n C dX5_put_4 1 rfl ?_
  refine gx_vcalli (As := [.long y1]) (rest := []) C (c_X3_append _ _ hw) okg_15 rfl rfl bw_515 bw_516 bw_517 bw_6 bw_518 hy_X3_append ⟨by decide, by decide⟩ rfl (Nat.le_of_ble_eq_true rfl) dX5_put_5 (fun r1 σ2 hw => ?_)
  exact gx_iret C rfl rfl dX5_put_8 hw
theorem hy_X5_put : yX5_put.cls = "SweetWraps" ∧ yX5_put.cls ≠ "java/lang/invoke/MethodHandle" ∧ yX5_put.cls ≠ "java/lang/invoke/VarHandle" ∧ (parseMethodDescriptor yX5_put.desc).map (fun d => d.parameters.length) = some 1 := by decide +kernel

theorem dX5_wipe_0 : decode cX5_wipe 0 = .ok (.aload_n 0, 1) := by decide +kernel
theorem dX5_wipe_1 : decode cX5_wipe 1 = .ok (.getfield 37, 3) := by decide +kernel
theorem dX5_wipe_4 : decode cX5_wipe 4 = .ok (.invokevirtual 148, 3) := by decide +kernel
theorem dX5_wipe_7 : decode cX5_wipe 7 = .ok (.ireturn, 1) := by decide +kernel
def wp_X5_wipe (σ : Sg) (Q : Int32 → Sg → Prop) : Prop := wp_X3_clear σ (fun r1 σ2 => Q r1 σ2)
set_option maxRecDepth 100000 in
set_option maxHeartbeats 4000000 in
theorem c_X5_wipe (l : Launch) (E : Ev) {σ : Sg} {Q : Int32 → Sg → Prop} (hw : wp_X5_wipe σ Q) : CT l E yX5_wipe cX5_wipe 1 (some .int) 1 21 [.ref (ad E 11 10 0)] σ (QI E Q) := by
  refine CT_of (by decide) (Nat.le_of_ble_eq_true rfl) (fun X h1 h2 C => ?_)
  subst h1; subst h2
  have C : Cx X cX5_wipe "SweetWraps" (some .int) 1 21 1 (QI (tE X) Q) := C
  show G X σ [(0, .ref (ad (tE X) 11 10 0))] [] 0
  unfold wp_X5_wipe at hw
  refine gx_aload_n C dX5_wipe_0 0 rfl ?_
  refine gx_get C okg_10 rfl rfl inX5 (ref := "SweetWraps") 5 (by decide) bw_176 rfl rfl dX5_wipe_1 ?_
  refine gx_vcalli (As := []) (rest := []) C (c_X3_clear _ _ hw) okg_15 rfl rfl bw_529 bw_530 bw_531 bw_6 bw_532 hy_X3_clear ⟨by decide, by decide⟩ rfl (Nat.le_of_ble_eq_true rfl) dX5_wipe_4 (fun r1 σ2 hw => ?_)
  exact gx_iret C rfl rfl dX5_wipe_7 hw
theorem hy_X5_wipe : yX5_wipe.cls = "SweetWraps" ∧ yX5_wipe.cls ≠ "java/lang/invoke/MethodHandle" ∧ yX5_wipe.cls ≠ "java/lang/invoke/VarHandle" ∧ (parseMethodDescriptor yX5_wipe.desc).map (fun d => d.parameters.length) = some 0 := by decide +kernel

theorem dX5_fault_0 : decode cX5_fault 0 = .ok (.aload_n 0, 1) := by decide +kernel
theorem dX5_fault_1 : decode cX5_fault 1 = .ok (.getfield 37, 3) := by decide +kernel
theorem dX5_fault_4 : decode cX5_fault 4 = .ok (.invokevirtual 151, 3) := by decide +kernel
theorem dX5_fault_7 : decode cX5_fault 7 = .ok (.ireturn, 1) := by decide +kernel
def wp_X5_fault (σ : Sg) (Q : Int32 → Sg → Prop) : Prop := wp_X3_findFault σ (fun r1 σ2 => Q r1 σ2)
set_option maxRecDepth 100000 in
set_option maxHeartbeats 4000000 in
theorem c_X5_fault (l : Launch) (E : Ev) {σ : Sg} {Q : Int32 → Sg → Prop} (hw : wp_X5_fault σ Q) : CT l E yX5_fault cX5_fault 1 (some .int) 6 166 [.ref (ad E 11 10 0)] σ (QI E Q) := by
  refine CT_of (by decide) (Nat.le_of_ble_eq_true rfl) (fun X h1 h2 C => ?_)
  subst h1; subst h2
  have C : Cx X cX5_fault "SweetWraps" (some .int) 6 166 1 (QI (tE X) Q) := C
  show G X σ [(0, .ref (ad (tE X) 11 10 0))] [] 0
  unfold wp_X5_fault at hw
  refine gx_aload_n C dX5_fault_0 0 rfl ?_
  refine gx_get C okg_10 rfl rfl inX5 (ref := "SweetWraps") 5 (by decide) bw_176 rfl rfl dX5_fault_1 ?_
  refine gx_vcalli (As := []) (rest := []) C (c_X3_findFault _ _ hw) okg_15 rfl rfl bw_537 bw_538 bw_539 bw_6 bw_540 hy_X3_findFault ⟨by decide, by decide⟩ rfl (Nat.le_of_ble_eq_true rfl) dX5_fault_4 (fun r1 σ2 hw => ?_)
  exact gx_iret C rfl rfl dX5_fault_7 hw
theorem hy_X5_fault : yX5_fault.cls = "SweetWraps" ∧ yX5_fault.cls ≠ "java/lang/invoke/MethodHandle" ∧ yX5_fault.cls ≠ "java/lang/invoke/VarHandle" ∧ (parseMethodDescriptor yX5_fault.desc).map (fun d => d.parameters.length) = some 0 := by decide +kernel

theorem dX5_carryOrder_0 : decode cX5_carryOrder 0 = .ok (.aload_n 0, 1) := by decide +kernel
theorem dX5_carryOrder_1 : decode cX5_carryOrder 1 = .ok (.getfield 37, 3) := by decide +kernel
theorem dX5_carryOrder_4 : decode cX5_carryOrder 4 = .ok (.getfield 168, 3) := by decide +kernel
theorem dX5_carryOrder_7 : decode cX5_carryOrder 7 = .ok (.tableswitch 222 97 116 #[179, 222, 222, 222, 222, 128, 222, 93, 222, 222, 222, 222, 222, 222, 222, 222, 222, 205, 162, 154], 93) := by decide +kernel
theorem dX5_carryOrder_100 : decode cX5_carryOrder 100 = .ok (.aload_n 0, 1) := by decide +kernel
theorem dX5_carryOrder_101 : decode cX5_carryOrder 101 = .ok (.getfield 10, 3) := by decide +kernel
theorem dX5_carryOrder_104 : decode cX5_carryOrder 104 = .ok (.aload_n 0, 1) := by decide +kernel
theorem dX5_carryOrder_105 : decode cX5_carryOrder 105 = .ok (.getfield 37, 3) := by decide +kernel
theorem dX5_carryOrder_108 : decode cX5_carryOrder 108 = .ok (.getfield 171, 3) := by decide +kernel
theorem dX5_carryOrder_111 : decode cX5_carryOrder 111 = .ok (.iconst 0, 1) := by decide +kernel
theorem dX5_carryOrder_112 : decode cX5_carryOrder 112 = .ok (.iaload, 1) := by decide +kernel
theorem dX5_carryOrder_113 : decode cX5_carryOrder 113 = .ok (.aload_n 0, 1) := by decide +kernel
theorem dX5_carryOrder_114 : decode cX5_carryOrder 114 = .ok (.getfield 37, 3) := by decide +kernel
theorem dX5_carryOrder_117 : decode cX5_carryOrder 117 = .ok (.getfield 171, 3) := by decide +kernel
theorem dX5_carryOrder_120 : decode cX5_carryOrder 120 = .ok (.iconst 1, 1) := by decide +kernel
theorem dX5_carryOrder_121 : decode cX5_carryOrder 121 = .ok (.iaload, 1) := by decide +kernel
theorem dX5_carryOrder_122 : decode cX5_carryOrder 122 = .ok (.aload_n 0, 1) := by decide +kernel
theorem dX5_carryOrder_123 : decode cX5_carryOrder 123 = .ok (.getfield 37, 3) := by decide +kernel
theorem dX5_carryOrder_126 : decode cX5_carryOrder 126 = .ok (.getfield 171, 3) := by decide +kernel
theorem dX5_carryOrder_129 : decode cX5_carryOrder 129 = .ok (.iconst 2, 1) := by decide +kernel
theorem dX5_carryOrder_130 : decode cX5_carryOrder 130 = .ok (.iaload, 1) := by decide +kernel
theorem dX5_carryOrder_131 : decode cX5_carryOrder 131 = .ok (.invokevirtual 53, 3) := by decide +kernel
theorem dX5_carryOrder_134 : decode cX5_carryOrder 134 = .ok (.ireturn, 1) := by decide +kernel
theorem dX5_carryOrder_135 : decode cX5_carryOrder 135 = .ok (.aload_n 0, 1) := by decide +kernel
theorem dX5_carryOrder_136 : decode cX5_carryOrder 136 = .ok (.getfield 10, 3) := by decide +kernel
theorem dX5_carryOrder_139 : decode cX5_carryOrder 139 = .ok (.aload_n 0, 1) := by decide +kernel
theorem dX5_carryOrder_140 : decode cX5_carryOrder 140 = .ok (.getfield 37, 3) := by decide +kernel
theorem dX5_carryOrder_143 : decode cX5_carryOrder 143 = .ok (.getfield 171, 3) := by decide +kernel
theorem dX5_carryOrder_146 : decode cX5_carryOrder 146 = .ok (.iconst 0, 1) := by decide +kernel
theorem dX5_carryOrder_147 : decode cX5_carryOrder 147 = .ok (.iaload, 1) := by decide +kernel
theorem dX5_carryOrder_148 : decode cX5_carryOrder 148 = .ok (.aload_n 0, 1) := by decide +kernel
theorem dX5_carryOrder_149 : decode cX5_carryOrder 149 = .ok (.getfield 37, 3) := by decide +kernel
theorem dX5_carryOrder_152 : decode cX5_carryOrder 152 = .ok (.getfield 171, 3) := by decide +kernel
theorem dX5_carryOrder_155 : decode cX5_carryOrder 155 = .ok (.iconst 1, 1) := by decide +kernel
theorem dX5_carryOrder_156 : decode cX5_carryOrder 156 = .ok (.iaload, 1) := by decide +kernel
theorem dX5_carryOrder_157 : decode cX5_carryOrder 157 = .ok (.invokevirtual 57, 3) := by decide +kernel
theorem dX5_carryOrder_160 : decode cX5_carryOrder 160 = .ok (.ireturn, 1) := by decide +kernel
theorem dX5_carryOrder_161 : decode cX5_carryOrder 161 = .ok (.aload_n 0, 1) := by decide +kernel
theorem dX5_carryOrder_162 : decode cX5_carryOrder 162 = .ok (.getfield 10, 3) := by decide +kernel
theorem dX5_carryOrder_165 : decode cX5_carryOrder 165 = .ok (.invokevirtual 60, 3) := by decide +kernel
theorem dX5_carryOrder_168 : decode cX5_carryOrder 168 = .ok (.ireturn, 1) := by decide +kernel
theorem dX5_carryOrder_169 : decode cX5_carryOrder 169 = .ok (.aload_n 0, 1) := by decide +kernel
theorem dX5_carryOrder_170 : decode cX5_carryOrder 170 = .ok (.getfield 10, 3) := by decide +kernel
theorem dX5_carryOrder_173 : decode cX5_carryOrder 173 = .ok (.aload_n 0, 1) := by decide +kernel
theorem dX5_carryOrder_174 : decode cX5_carryOrder 174 = .ok (.getfield 37, 3) := by decide +kernel
theorem dX5_carryOrder_177 : decode cX5_carryOrder 177 = .ok (.getfield 171, 3) := by decide +kernel
theorem dX5_carryOrder_180 : decode cX5_carryOrder 180 = .ok (.iconst 0, 1) := by decide +kernel
theorem dX5_carryOrder_181 : decode cX5_carryOrder 181 = .ok (.iaload, 1) := by decide +kernel
theorem dX5_carryOrder_182 : decode cX5_carryOrder 182 = .ok (.invokevirtual 64, 3) := by decide +kernel
theorem dX5_carryOrder_185 : decode cX5_carryOrder 185 = .ok (.ireturn, 1) := by decide +kernel
theorem dX5_carryOrder_186 : decode cX5_carryOrder 186 = .ok (.aload_n 0, 1) := by decide +kernel
theorem dX5_carryOrder_187 : decode cX5_carryOrder 187 = .ok (.getfield 10, 3) := by decide +kernel
theorem dX5_carryOrder_190 : decode cX5_carryOrder 190 = .ok (.aload_n 0, 1) := by decide +kernel
theorem dX5_carryOrder_191 : decode cX5_carryOrder 191 = .ok (.getfield 37, 3) := by decide +kernel
theorem dX5_carryOrder_194 : decode cX5_carryOrder 194 = .ok (.getfield 171, 3) := by decide +kernel
theorem dX5_carryOrder_197 : decode cX5_carryOrder 197 = .ok (.iconst 0, 1) := by decide +kernel
theorem dX5_carryOrder_198 : decode cX5_carryOrder 198 = .ok (.iaload, 1) := by decide +kernel
theorem dX5_carryOrder_199 : decode cX5_carryOrder 199 = .ok (.aload_n 0, 1) := by decide +kernel
theorem dX5_carryOrder_200 : decode cX5_carryOrder 200 = .ok (.getfield 37, 3) := by decide +kernel
theorem dX5_carryOrder_203 : decode cX5_carryOrder 203 = .ok (.getfield 171, 3) := by decide +kernel
theorem dX5_carryOrder_206 : decode cX5_carryOrder 206 = .ok (.iconst 1, 1) := by decide +kernel
theorem dX5_carryOrder_207 : decode cX5_carryOrder 207 = .ok (.iaload, 1) := by decide +kernel
theorem dX5_carryOrder_208 : decode cX5_carryOrder 208 = .ok (.invokevirtual 67, 3) := by decide +kernel
theorem dX5_carryOrder_211 : decode cX5_carryOrder 211 = .ok (.ireturn, 1) := by decide +kernel
theorem dX5_carryOrder_212 : decode cX5_carryOrder 212 = .ok (.aload_n 0, 1) := by decide +kernel
theorem dX5_carryOrder_213 : decode cX5_carryOrder 213 = .ok (.getfield 10, 3) := by decide +kernel
theorem dX5_carryOrder_216 : decode cX5_carryOrder 216 = .ok (.aload_n 0, 1) := by decide +kernel
theorem dX5_carryOrder_217 : decode cX5_carryOrder 217 = .ok (.getfield 37, 3) := by decide +kernel
theorem dX5_carryOrder_220 : decode cX5_carryOrder 220 = .ok (.getfield 171, 3) := by decide +kernel
theorem dX5_carryOrder_223 : decode cX5_carryOrder 223 = .ok (.iconst 0, 1) := by decide +kernel
theorem dX5_carryOrder_224 : decode cX5_carryOrder 224 = .ok (.iaload, 1) := by decide +kernel
theorem dX5_carryOrder_225 : decode cX5_carryOrder 225 = .ok (.invokevirtual 70, 3) := by decide +kernel
theorem dX5_carryOrder_228 : decode cX5_carryOrder 228 = .ok (.ireturn, 1) := by decide +kernel
theorem dX5_carryOrder_229 : decode cX5_carryOrder 229 = .ok (.bipush (-3), 2) := by decide +kernel
theorem dX5_carryOrder_231 : decode cX5_carryOrder 231 = .ok (.ireturn, 1) := by decide +kernel
def wp_X5_carryOrder (σ : Sg) (Q : Int32 → Sg → Prop) : Prop := (((σ 11 15 0 4) = (97 : Int32) → wp_X2_changeApart 0 (σ 11 17 0 0) (σ 11 17 0 1) σ (fun r7 σ8 => Q r7 σ8)) ∧ (¬ (σ 11 15 0 4) = (97 : Int32) → (((σ 11 15 0 4) = (102 : Int32) → wp_X2_addFoil 0 (σ 11 17 0 0) (σ 11 17 0 1) σ (fun r9 σ10 => Q r9 σ10)) ∧ (¬ (σ 11 15 0 4) = (102 : Int32) → (((σ 11 15 0 4) = (104 : Int32) → wp_X2_addSweets 0 (σ 11 17 0 0) (σ 11 17 0 1) (σ 11 17 0 2) σ (fun r11 σ12 => Q r11 σ12)) ∧ (¬ (σ 11 15 0 4) = (104 : Int32) → (((σ 11 15 0 4) = (114 : Int32) → wp_X2_runTicks 0 (σ 11 17 0 0) σ (fun r13 σ14 => Q r13 σ14)) ∧ (¬ (σ 11 15 0 4) = (114 : Int32) → (((σ 11 15 0 4) = (115 : Int32) → wp_X2_shipTin 0 (σ 11 17 0 0) σ (fun r15 σ16 => Q r15 σ16)) ∧ (¬ (σ 11 15 0 4) = (115 : Int32) → (((σ 11 15 0 4) = (116 : Int32) → wp_X2_addTin 0 σ (fun r17 σ18 => Q r17 σ18)) ∧ (¬ (σ 11 15 0 4) = (116 : Int32) → Q (-3 : Int32) σ))))))))))))
set_option maxRecDepth 100000 in
set_option maxHeartbeats 4000000 in
theorem c_X5_carryOrder (l : Launch) (E : Ev) {σ : Sg} {Q : Int32 → Sg → Prop} (hw : wp_X5_carryOrder σ Q) : CT l E yX5_carryOrder cX5_carryOrder 1 (some .int) 5 133 [.ref (ad E 11 10 0)] σ (QI E Q) := by
  refine CT_of (by decide) (Nat.le_of_ble_eq_true rfl) (fun X h1 h2 C => ?_)
  subst h1; subst h2
  have C : Cx X cX5_carryOrder "SweetWraps" (some .int) 5 133 1 (QI (tE X) Q) := C
  show G X σ [(0, .ref (ad (tE X) 11 10 0))] [] 0
  unfold wp_X5_carryOrder at hw
  refine gx_aload_n C dX5_carryOrder_0 0 rfl ?_
  refine gx_get C okg_10 rfl rfl inX5 (ref := "SweetWraps") 5 (by decide) bw_176 rfl rfl dX5_carryOrder_1 ?_
  refine gx_get C okg_15 rfl rfl inX3 (ref := "SweetWraps$Pad") 4 (by decide) bw_154 rfl rfl dX5_carryOrder_4 ?_
  by_cases c1 : (σ 11 15 0 4) = (97 : Int32)
  · replace hw := hw.1 c1
    refine gx_table (tgt := 186) (off := 179) C dX5_carryOrder_7 (97 : Int32) c1 (by decide) (by decide) rfl (by decide) ?_
    refine gx_aload_n C dX5_carryOrder_186 0 rfl ?_
    refine gx_get C okg_10 rfl rfl inX5 (ref := "SweetWraps") 0 (by decide) bw_171 rfl rfl dX5_carryOrder_187 ?_
    refine gx_aload_n C dX5_carryOrder_190 0 rfl ?_
    refine gx_get C okg_10 rfl rfl inX5 (ref := "SweetWraps") 5 (by decide) bw_176 rfl rfl dX5_carryOrder_191 ?_
    refine gx_get C okg_15 rfl rfl inX3 (ref := "SweetWraps$Pad") 1 (by decide) bw_149 rfl rfl dX5_carryOrder_194 ?_
    refine gx_iconst (v := (0 : Int32)) C dX5_carryOrder_197 (by decide) ?_
    refine gx_iald C okg_17 rfl (n := 3) (x := (0 : Int32)) (by unfold vp_in; decide) 0 (by decide) dX5_carryOrder_198 ?_
    refine gx_aload_n C dX5_carryOrder_199 0 rfl ?_
    refine gx_get C okg_10 rfl rfl inX5 (ref := "SweetWraps") 5 (by decide) bw_176 rfl rfl dX5_carryOrder_200 ?_
    refine gx_get C okg_15 rfl rfl inX3 (ref := "SweetWraps$Pad") 1 (by decide) bw_149 rfl rfl dX5_carryOrder_203 ?_
    refine gx_iconst (v := (1 : Int32)) C dX5_carryOrder_206 (by decide) ?_
    refine gx_iald C okg_17 rfl (n := 3) (x := (1 : Int32)) (by unfold vp_in; decide) 1 (by decide) dX5_carryOrder_207 ?_
    refine gx_vcalli (As := [.int (σ 11 17 0 0), .int (σ 11 17 0 1)]) (rest := []) C (c_X2_changeApart _ _ (by decide) hw) (ok0 (show 0 < 11 from by decide)) rfl rfl bw_297 bw_298 bw_299 bw_2 bw_300 hy_X2_changeApart ⟨by decide, by decide⟩ rfl (Nat.le_of_ble_eq_true rfl) dX5_carryOrder_208 (fun r7 σ8 hw => ?_)
    exact gx_iret C rfl rfl dX5_carryOrder_211 hw
  · replace hw := hw.2 c1
    by_cases c2 : (σ 11 15 0 4) = (102 : Int32)
    · replace hw := hw.1 c2
      refine gx_table (tgt := 135) (off := 128) C dX5_carryOrder_7 (102 : Int32) c2 (by decide) (by decide) rfl (by decide) ?_
      refine gx_aload_n C dX5_carryOrder_135 0 rfl ?_
      refine gx_get C okg_10 rfl rfl inX5 (ref := "SweetWraps") 0 (by decide) bw_171 rfl rfl dX5_carryOrder_136 ?_
      refine gx_aload_n C dX5_carryOrder_139 0 rfl ?_
      refine gx_get C okg_10 rfl rfl inX5 (ref := "SweetWraps") 5 (by decide) bw_176 rfl rfl dX5_carryOrder_140 ?_
      refine gx_get C okg_15 rfl rfl inX3 (ref := "SweetWraps$Pad") 1 (by decide) bw_149 rfl rfl dX5_carryOrder_143 ?_
      refine gx_iconst (v := (0 : Int32)) C dX5_carryOrder_146 (by decide) ?_
      refine gx_iald C okg_17 rfl (n := 3) (x := (0 : Int32)) (by unfold vp_in; decide) 0 (by decide) dX5_carryOrder_147 ?_
      refine gx_aload_n C dX5_carryOrder_148 0 rfl ?_
      refine gx_get C okg_10 rfl rfl inX5 (ref := "SweetWraps") 5 (by decide) bw_176 rfl rfl dX5_carryOrder_149 ?_
      refine gx_get C okg_15 rfl rfl inX3 (ref := "SweetWraps$Pad") 1 (by decide) bw_149 rfl rfl dX5_carryOrder_152 ?_
      refine gx_iconst (v := (1 : Int32)) C dX5_carryOrder_155 (by decide) ?_
      refine gx_iald C okg_17 rfl (n := 3) (x := (1 : Int32)) (by unfold vp_in; decide) 1 (by decide) dX5_carryOrder_156 ?_
      refine gx_vcalli (As := [.int (σ 11 17 0 0), .int (σ 11 17 0 1)]) (rest := []) C (c_X2_addFoil _ _ (by decide) hw) (ok0 (show 0 < 11 from by decide)) rfl rfl bw_269 bw_270 bw_271 bw_2 bw_272 hy_X2_addFoil ⟨by decide, by decide⟩ rfl (Nat.le_of_ble_eq_true rfl) dX5_carryOrder_157 (fun r9 σ10 hw => ?_)
      exact gx_iret C rfl rfl dX5_carryOrder_160 hw
    · replace hw := hw.2 c2
      by_cases c3 : (σ 11 15 0 4) = (104 : Int32)
      · replace hw := hw.1 c3
        refine gx_table (tgt := 100) (off := 93) C dX5_carryOrder_7 (104 : Int32) c3 (by decide) (by decide) rfl (by decide) ?_
        refine gx_aload_n C dX5_carryOrder_100 0 rfl ?_
        refine gx_get C okg_10 rfl rfl inX5 (ref := "SweetWraps") 0 (by decide) bw_171 rfl rfl dX5_carryOrder_101 ?_
        refine gx_aload_n C dX5_carryOrder_104 0 rfl ?_
        refine gx_get C okg_10 rfl rfl inX5 (ref := "SweetWraps") 5 (by decide) bw_176 rfl rfl dX5_carryOrder_105 ?_
        refine gx_get C okg_15 rfl rfl inX3 (ref := "SweetWraps$Pad") 1 (by decide) bw_149 rfl rfl dX5_carryOrder_108 ?_
        refine gx_iconst (v := (0 : Int32)) C dX5_carryOrder_111 (by decide) ?_
        refine gx_iald C okg_17 rfl (n := 3) (x := (0 : Int32)) (by unfold vp_in; decide) 0 (by decide) dX5_carryOrder_112 ?_
        refine gx_aload_n C dX5_carryOrder_113 0 rfl ?_
        refine gx_get C okg_10 rfl rfl inX5 (ref := "SweetWraps") 5 (by decide) bw_176 rfl rfl dX5_carryOrder_114 ?_
        refine gx_get C okg_15 rfl rfl inX3 (ref := "SweetWraps$Pad") 1 (by decide) bw_149 rfl rfl dX5_carryOrder_117 ?_
        refine gx_iconst (v := (1 : Int32)) C dX5_carryOrder_120 (by decide) ?_
        refine gx_iald C okg_17 rfl (n := 3) (x := (1 : Int32)) (by unfold vp_in; decide) 1 (by decide) dX5_carryOrder_121 ?_
        refine gx_aload_n C dX5_carryOrder_122 0 rfl ?_
        refine gx_get C okg_10 rfl rfl inX5 (ref := "SweetWraps") 5 (by decide) bw_176 rfl rfl dX5_carryOrder_123 ?_
        refine gx_get C okg_15 rfl rfl inX3 (ref := "SweetWraps$Pad") 1 (by decide) bw_149 rfl rfl dX5_carryOrder_126 ?_
        refine gx_iconst (v := (2 : Int32)) C dX5_carryOrder_129 (by decide) ?_
        refine gx_iald C okg_17 rfl (n := 3) (x := (2 : Int32)) (by unfold vp_in; decide) 2 (by decide) dX5_carryOrder_130 ?_
        refine gx_vcalli (As := [.int (σ 11 17 0 0), .int (σ 11 17 0 1), .int (σ 11 17 0 2)]) (rest := []) C (c_X2_addSweets _ _ (by decide) hw) (ok0 (show 0 < 11 from by decide)) rfl rfl bw_248 bw_249 bw_250 bw_2 bw_251 hy_X2_addSweets ⟨by decide, by decide⟩ rfl (Nat.le_of_ble_eq_true rfl) dX5_carryOrder_131 (fun r11 σ12 hw => ?_)
        exact gx_iret C rfl rfl dX5_carryOrder_134 hw
      · replace hw := hw.2 c3
        by_cases c4 : (σ 11 15 0 4) = (114 : Int32)
        · replace hw := hw.1 c4
          refine gx_table (tgt := 212) (off := 205) C dX5_carryOrder_7 (114 : Int32) c4 (by decide) (by decide) rfl (by decide) ?_
          refine gx_aload_n C dX5_carryOrder_212 0 rfl ?_
          refine gx_get C okg_10 rfl rfl inX5 (ref := "SweetWraps") 0 (by decide) bw_171 rfl rfl dX5_carryOrder_213 ?_
          refine gx_aload_n C dX5_carryOrder_216 0 rfl ?_
          refine gx_get C okg_10 rfl rfl inX5 (ref := "SweetWraps") 5 (by decide) bw_176 rfl rfl dX5_carryOrder_217 ?_
          refine gx_get C okg_15 rfl rfl inX3 (ref := "SweetWraps$Pad") 1 (by decide) bw_149 rfl rfl dX5_carryOrder_220 ?_
          refine gx_iconst (v := (0 : Int32)) C dX5_carryOrder_223 (by decide) ?_
          refine gx_iald C okg_17 rfl (n := 3) (x := (0 : Int32)) (by unfold vp_in; decide) 0 (by decide) dX5_carryOrder_224 ?_
          refine gx_vcalli (As := [.int (σ 11 17 0 0)]) (rest := []) C (c_X2_runTicks _ _ (by decide) hw) (ok0 (show 0 < 11 from by decide)) rfl rfl bw_317 bw_318 bw_319 bw_2 bw_320 hy_X2_runTicks ⟨by decide, by decide⟩ rfl (Nat.le_of_ble_eq_true rfl) dX5_carryOrder_225 (fun r13 σ14 hw => ?_)
          exact gx_iret C rfl rfl dX5_carryOrder_228 hw
        · replace hw := hw.2 c4
          by_cases c5 : (σ 11 15 0 4) = (115 : Int32)
          · replace hw := hw.1 c5
            refine gx_table (tgt := 169) (off := 162) C dX5_carryOrder_7 (115 : Int32) c5 (by decide) (by decide) rfl (by decide) ?_
            refine gx_aload_n C dX5_carryOrder_169 0 rfl ?_
            refine gx_get C okg_10 rfl rfl inX5 (ref := "SweetWraps") 0 (by decide) bw_171 rfl rfl dX5_carryOrder_170 ?_
            refine gx_aload_n C dX5_carryOrder_173 0 rfl ?_
            refine gx_get C okg_10 rfl rfl inX5 (ref := "SweetWraps") 5 (by decide) bw_176 rfl rfl dX5_carryOrder_174 ?_
            refine gx_get C okg_15 rfl rfl inX3 (ref := "SweetWraps$Pad") 1 (by decide) bw_149 rfl rfl dX5_carryOrder_177 ?_
            refine gx_iconst (v := (0 : Int32)) C dX5_carryOrder_180 (by decide) ?_
            refine gx_iald C okg_17 rfl (n := 3) (x := (0 : Int32)) (by unfold vp_in; decide) 0 (by decide) dX5_carryOrder_181 ?_
            refine gx_vcalli (As := [.int (σ 11 17 0 0)]) (rest := []) C (c_X2_shipTin _ _ (by decide) hw) (ok0 (show 0 < 11 from by decide)) rfl rfl bw_285 bw_286 bw_287 bw_2 bw_288 hy_X2_shipTin ⟨by decide, by decide⟩ rfl (Nat.le_of_ble_eq_true rfl) dX5_carryOrder_182 (fun r15 σ16 hw => ?_)
            exact gx_iret C rfl rfl dX5_carryOrder_185 hw
          · replace hw := hw.2 c5
            by_cases c6 : (σ 11 15 0 4) = (116 : Int32)
            · replace hw := hw.1 c6
              refine gx_table (tgt := 161) (off := 154) C dX5_carryOrder_7 (116 : Int32) c6 (by decide) (by decide) rfl (by decide) ?_
              refine gx_aload_n C dX5_carryOrder_161 0 rfl ?_
              refine gx_get C okg_10 rfl rfl inX5 (ref := "SweetWraps") 0 (by decide) bw_171 rfl rfl dX5_carryOrder_162 ?_
              refine gx_vcalli (As := []) (rest := []) C (c_X2_addTin _ _ (by decide) hw) (ok0 (show 0 < 11 from by decide)) rfl rfl bw_277 bw_278 bw_279 bw_2 bw_280 hy_X2_addTin ⟨by decide, by decide⟩ rfl (Nat.le_of_ble_eq_true rfl) dX5_carryOrder_165 (fun r17 σ18 hw => ?_)
              exact gx_iret C rfl rfl dX5_carryOrder_168 hw
            · replace hw := hw.2 c6
              refine gx_tableD (tgt := 229) C dX5_carryOrder_7 (by decide) [((179 : Int), (0 : Nat)), ((222 : Int), (1 : Nat)), ((222 : Int), (2 : Nat)), ((222 : Int), (3 : Nat)), ((222 : Int), (4 : Nat)), ((128 : Int), (5 : Nat)), ((222 : Int), (6 : Nat)), ((93 : Int), (7 : Nat)), ((222 : Int), (8 : Nat)), ((222 : Int), (9 : Nat)), ((222 : Int), (10 : Nat)), ((222 : Int), (11 : Nat)), ((222 : Int), (12 : Nat)), ((222 : Int), (13 : Nat)), ((222 : Int), (14 : Nat)), ((222 : Int), (15 : Nat)), ((222 : Int), (16 : Nat)), ((205 : Int), (17 : Nat)), ((162 : Int), (18 : Nat)), ((154 : Int), (19 : Nat))] rfl (List.forall_mem_cons.mpr ⟨Or.inr ⟨(97 : Int32), c1, by decide⟩, List.forall_mem_cons.mpr ⟨Or.inl rfl, List.forall_mem_cons.mpr ⟨Or.inl rfl, List.forall_mem_cons.mpr ⟨Or.inl rfl, List.forall_mem_cons.mpr ⟨Or.inl rfl, List.forall_mem_cons.mpr ⟨Or.inr ⟨(102 : Int32), c2, by decide⟩, List.forall_mem_cons.mpr ⟨Or.inl rfl, List.forall_mem_cons.mpr ⟨Or.inr ⟨(104 : Int32), c3, by decide⟩, List.forall_mem_cons.mpr ⟨Or.inl rfl, List.forall_mem_cons.mpr ⟨Or.inl rfl, List.forall_mem_cons.mpr ⟨Or.inl rfl, List.forall_mem_cons.mpr ⟨Or.inl rfl, List.forall_mem_cons.mpr ⟨Or.inl rfl, List.forall_mem_cons.mpr ⟨Or.inl rfl, List.forall_mem_cons.mpr ⟨Or.inl rfl, List.forall_mem_cons.mpr ⟨Or.inl rfl, List.forall_mem_cons.mpr ⟨Or.inl rfl, List.forall_mem_cons.mpr ⟨Or.inr ⟨(114 : Int32), c4, by decide⟩, List.forall_mem_cons.mpr ⟨Or.inr ⟨(115 : Int32), c5, by decide⟩, List.forall_mem_cons.mpr ⟨Or.inr ⟨(116 : Int32), c6, by decide⟩, fun _ h => absurd h List.not_mem_nil⟩⟩⟩⟩⟩⟩⟩⟩⟩⟩⟩⟩⟩⟩⟩⟩⟩⟩⟩⟩) (by decide) ?_
              refine gx_bipush (v := (-3 : Int32)) C dX5_carryOrder_229 (by decide) ?_
              exact gx_iret C rfl rfl dX5_carryOrder_231 hw
theorem hy_X5_carryOrder : yX5_carryOrder.cls = "SweetWraps" ∧ yX5_carryOrder.cls ≠ "java/lang/invoke/MethodHandle" ∧ yX5_carryOrder.cls ≠ "java/lang/invoke/VarHandle" ∧ (parseMethodDescriptor yX5_carryOrder.desc).map (fun d => d.parameters.length) = some 0 := by decide +kernel

theorem dX5_carryOut_0 : decode cX5_carryOut 0 = .ok (.aload_n 0, 1) := by decide +kernel
theorem dX5_carryOut_1 : decode cX5_carryOut 1 = .ok (.getfield 37, 3) := by decide +kernel
theorem dX5_carryOut_4 : decode cX5_carryOut 4 = .ok (.invokevirtual 151, 3) := by decide +kernel
theorem dX5_carryOut_7 : decode cX5_carryOut 7 = .ok (.bipush (-6), 2) := by decide +kernel
theorem dX5_carryOut_9 : decode cX5_carryOut 9 = .ok (.if_icmp .eq 6, 3) := by decide +kernel
theorem dX5_carryOut_12 : decode cX5_carryOut 12 = .ok (.bipush (-3), 2) := by decide +kernel
theorem dX5_carryOut_14 : decode cX5_carryOut 14 = .ok (.ireturn, 1) := by decide +kernel
theorem dX5_carryOut_15 : decode cX5_carryOut 15 = .ok (.aload_n 0, 1) := by decide +kernel
theorem dX5_carryOut_16 : decode cX5_carryOut 16 = .ok (.getfield 22, 3) := by decide +kernel
theorem dX5_carryOut_19 : decode cX5_carryOut 19 = .ok (.aload_n 0, 1) := by decide +kernel
theorem dX5_carryOut_20 : decode cX5_carryOut 20 = .ok (.getfield 10, 3) := by decide +kernel
theorem dX5_carryOut_23 : decode cX5_carryOut 23 = .ok (.invokevirtual 41, 3) := by decide +kernel
theorem dX5_carryOut_26 : decode cX5_carryOut 26 = .ok (.aload_n 0, 1) := by decide +kernel
theorem dX5_carryOut_27 : decode cX5_carryOut 27 = .ok (.getfield 37, 3) := by decide +kernel
theorem dX5_carryOut_30 : decode cX5_carryOut 30 = .ok (.invokevirtual 154, 3) := by decide +kernel
theorem dX5_carryOut_33 : decode cX5_carryOut 33 = .ok (.iconst 0, 1) := by decide +kernel
theorem dX5_carryOut_34 : decode cX5_carryOut 34 = .ok (.istore_n 1, 1) := by decide +kernel
theorem dX5_carryOut_35 : decode cX5_carryOut 35 = .ok (.iconst 0, 1) := by decide +kernel
theorem dX5_carryOut_36 : decode cX5_carryOut 36 = .ok (.istore_n 2, 1) := by decide +kernel
theorem dX5_carryOut_37 : decode cX5_carryOut 37 = .ok (.iload_n 2, 1) := by decide +kernel
theorem dX5_carryOut_38 : decode cX5_carryOut 38 = .ok (.bipush 80, 2) := by decide +kernel
theorem dX5_carryOut_40 : decode cX5_carryOut 40 = .ok (.if_icmp .ge 47, 3) := by decide +kernel
theorem dX5_carryOut_43 : decode cX5_carryOut 43 = .ok (.aload_n 0, 1) := by decide +kernel
theorem dX5_carryOut_44 : decode cX5_carryOut 44 = .ok (.getfield 37, 3) := by decide +kernel
theorem dX5_carryOut_47 : decode cX5_carryOut 47 = .ok (.invokevirtual 157, 3) := by decide +kernel
theorem dX5_carryOut_50 : decode cX5_carryOut 50 = .ok (.ifCond .eq 37, 3) := by decide +kernel
theorem dX5_carryOut_53 : decode cX5_carryOut 53 = .ok (.aload_n 0, 1) := by decide +kernel
theorem dX5_carryOut_54 : decode cX5_carryOut 54 = .ok (.invokevirtual 161, 3) := by decide +kernel
theorem dX5_carryOut_57 : decode cX5_carryOut 57 = .ok (.ifCond .ge 6, 3) := by decide +kernel
theorem dX5_carryOut_60 : decode cX5_carryOut 60 = .ok (.goto 27, 3) := by decide +kernel
theorem dX5_carryOut_63 : decode cX5_carryOut 63 = .ok (.iinc 1 1, 3) := by decide +kernel
theorem dX5_carryOut_66 : decode cX5_carryOut 66 = .ok (.aload_n 0, 1) := by decide +kernel
theorem dX5_carryOut_67 : decode cX5_carryOut 67 = .ok (.getfield 37, 3) := by decide +kernel
theorem dX5_carryOut_70 : decode cX5_carryOut 70 = .ok (.bipush 59, 2) := by decide +kernel
theorem dX5_carryOut_72 : decode cX5_carryOut 72 = .ok (.invokevirtual 164, 3) := by decide +kernel
theorem dX5_carryOut_75 : decode cX5_carryOut 75 = .ok (.ifCond .ne 6, 3) := by decide +kernel
theorem dX5_carryOut_78 : decode cX5_carryOut 78 = .ok (.goto 9, 3) := by decide +kernel
theorem dX5_carryOut_81 : decode cX5_carryOut 81 = .ok (.iinc 2 1, 3) := by decide +kernel
theorem dX5_carryOut_84 : decode cX5_carryOut 84 = .ok (.goto (-47), 3) := by decide +kernel
theorem dX5_carryOut_87 : decode cX5_carryOut 87 = .ok (.aload_n 0, 1) := by decide +kernel
theorem dX5_carryOut_88 : decode cX5_carryOut 88 = .ok (.getfield 37, 3) := by decide +kernel
theorem dX5_carryOut_91 : decode cX5_carryOut 91 = .ok (.invokevirtual 148, 3) := by decide +kernel
theorem dX5_carryOut_94 : decode cX5_carryOut 94 = .ok (.pop, 1) := by decide +kernel
theorem dX5_carryOut_95 : decode cX5_carryOut 95 = .ok (.aload_n 0, 1) := by decide +kernel
theorem dX5_carryOut_96 : decode cX5_carryOut 96 = .ok (.getfield 22, 3) := by decide +kernel
theorem dX5_carryOut_99 : decode cX5_carryOut 99 = .ok (.iload_n 1, 1) := by decide +kernel
theorem dX5_carryOut_100 : decode cX5_carryOut 100 = .ok (.invokevirtual 49, 3) := by decide +kernel
theorem dX5_carryOut_103 : decode cX5_carryOut 103 = .ok (.ireturn, 1) := by decide +kernel
def wp_X5_carryOut_b87 (Q : Int32 → Sg → Prop) (v1 : Int32) (σ : Sg) : Prop := wp_X3_clear σ (fun r18 σ19 => wp_X0_record v1 σ19 (fun r20 σ21 => Q r20 σ21))
set_option maxRecDepth 100000 in
set_option maxHeartbeats 4000000 in
theorem g_X5_carryOut_b87 {X : Tx} {Q : Int32 → Sg → Prop} (C : Cx X cX5_carryOut "SweetWraps" (some .int) 6 166 3 (QI (tE X) Q)) {v1 : Int32} {σ : Sg} (hw : wp_X5_carryOut_b87 Q v1 σ) : G X σ [(0, .ref (ad (tE X) 11 10 0)), (1, .int v1)] [] 87 := by
  unfold wp_X5_carryOut_b87 at hw
  refine gx_aload_n C dX5_carryOut_87 0 rfl ?_
  refine gx_get C okg_10 rfl rfl inX5 (ref := "SweetWraps") 5 (by decide) bw_176 rfl rfl dX5_carryOut_88 ?_
  refine gx_vcalli (As := []) (rest := []) C (c_X3_clear _ _ hw) okg_15 rfl rfl bw_529 bw_530 bw_531 bw_6 bw_532 hy_X3_clear ⟨by decide, by decide⟩ rfl (Nat.le_of_ble_eq_true rfl) dX5_carryOut_91 (fun r18 σ19 hw => ?_)
  refine gx_pop C dX5_carryOut_94 rfl ?_
  refine gx_aload_n C dX5_carryOut_95 0 rfl ?_
  refine gx_get C okg_10 rfl rfl inX5 (ref := "SweetWraps") 2 (by decide) bw_173 rfl rfl dX5_carryOut_96 ?_
  refine gx_iload_n C dX5_carryOut_99 1 rfl ?_
  refine gx_vcalli (As := [.int v1]) (rest := []) C (c_X0_record _ _ hw) okg_11 rfl rfl bw_235 bw_236 bw_237 bw_5 bw_238 hy_X0_record ⟨by decide, by decide⟩ rfl (Nat.le_of_ble_eq_true rfl) dX5_carryOut_100 (fun r20 σ21 hw => ?_)
  exact gx_iret C rfl rfl dX5_carryOut_103 hw
def st_X5_carryOut_L37 (Q : Int32 → Sg → Prop) (K37 : Int32 → Int32 → Sg → Prop) (v1 : Int32) (v2 : Int32) (σ : Sg) : Prop := (((80 : Int32) ≤ v2 → wp_X5_carryOut_b87 Q v1 σ) ∧ (¬ (80 : Int32) ≤ v2 → wp_X3_readOrder σ (fun r7 σ8 => ((r7 = 0 → wp_X5_carryOut_b87 Q v1 σ8) ∧ (¬ r7 = 0 → wp_X5_carryOrder σ8 (fun r10 σ11 => ((0 ≤ r10 → ∀ z13 : Int32, z13 = v1 + (1 : Int32) → wp_X3_readSign (59 : Int32) σ11 (fun r14 σ15 => ((¬ r14 = 0 → ∀ z17 : Int32, z17 = v2 + (1 : Int32) → K37 z13 z17 σ15) ∧ (r14 = 0 → wp_X5_carryOut_b87 Q z13 σ15)))) ∧ (¬ 0 ≤ r10 → wp_X5_carryOut_b87 Q v1 σ11))))))))
def wp_X5_carryOut_L37 (Q : Int32 → Sg → Prop) (v1 : Int32) (v2 : Int32) (σ : Sg) : Prop := ∃ n : Nat, lpN (fun (K : Int32 × Int32 × Sg → Prop) (a : Int32 × Int32 × Sg) => st_X5_carryOut_L37 Q (fun v1 v2 σ => K (v1, v2, σ)) (a.1) (a.2.1) (a.2.2)) n (v1, v2, σ)
set_option maxRecDepth 100000 in
set_option maxHeartbeats 4000000 in
theorem gs_X5_carryOut_L37 {X : Tx} {Q : Int32 → Sg → Prop} (C : Cx X cX5_carryOut "SweetWraps" (some .int) 6 166 3 (QI (tE X) Q)) {K37 : Int32 → Int32 → Sg → Prop} (hK37 : ∀ (v1 : Int32) (v2 : Int32) (σ : Sg), K37 v1 v2 σ → G X σ [(0, .ref (ad (tE X) 11 10 0)), (1, .int v1), (2, .int v2)] [] 37) {v1 : Int32} {v2 : Int32} {σ : Sg} (hw : st_X5_carryOut_L37 Q K37 v1 v2 σ) : G X σ [(0, .ref (ad (tE X) 11 10 0)), (1, .int v1), (2, .int v2)] [] 37 := by
  unfold st_X5_carryOut_L37 at hw
  refine gx_iload_n C dX5_carryOut_37 2 rfl ?_
  refine gx_bipush (v := (80 : Int32)) C dX5_carryOut_38 (by decide) ?_
  refine gx_icmp_ge (tgt := 87) C dX5_carryOut_40 (by decide) (fun c6 => ?_) (fun c6 => ?_)
  · replace hw := hw.1 c6
    refine gx_sub (lv' := [(0, .ref (ad (tE X) 11 10 0)), (1, .int v1)]) [0, 1] rfl ?_
    exact g_X5_carryOut_b87 C hw
  · replace hw := hw.2 c6
    refine gx_aload_n C dX5_carryOut_43 0 rfl ?_
    refine gx_get C okg_10 rfl rfl inX5 (ref := "SweetWraps") 5 (by decide) bw_176 rfl rfl dX5_carryOut_44 ?_
    refine gx_vcalli (As := []) (rest := []) C (c_X3_readOrder _ _ hw) okg_15 rfl rfl bw_645 bw_546 bw_547 bw_6 bw_548 hy_X3_readOrder ⟨by decide, by decide⟩ rfl (Nat.le_of_ble_eq_true rfl) dX5_carryOut_47 (fun r7 σ8 hw => ?_)
    refine gx_if_eq (tgt := 87) C dX5_carryOut_50 (by decide) (fun c9 => ?_) (fun c9 => ?_)
    · replace hw := hw.1 c9
      refine gx_sub (lv' := [(0, .ref (ad (tE X) 11 10 0)), (1, .int v1)]) [0, 1] rfl ?_
      exact g_X5_carryOut_b87 C hw
    · replace hw := hw.2 c9
      refine gx_aload_n C dX5_carryOut_53 0 rfl ?_
      refine gx_vcalli (As := []) (rest := []) C (c_X5_carryOrder _ _ hw) okg_10 rfl rfl bw_646 bw_648 bs_26 bw_1 bw_649 hy_X5_carryOrder ⟨by decide, by decide⟩ rfl (Nat.le_of_ble_eq_true rfl) dX5_carryOut_54 (fun r10 σ11 hw => ?_)
      refine gx_if_ge (tgt := 63) C dX5_carryOut_57 (by decide) (fun c12 => ?_) (fun c12 => ?_)
      · replace hw := hw.1 c12
        obtain ⟨z13, e_z13⟩ : ∃ z : Int32, z = v1 + (1 : Int32) := ⟨_, rfl⟩
        replace hw := hw z13 e_z13
        refine gx_iinc (v := z13) (lv' := [(1, .int z13), (0, .ref (ad (tE X) 11 10 0)), (2, .int v2)]) C dX5_carryOut_63 1 rfl (by rw [e_z13]; rfl) (by decide) rfl ?_
        refine gx_aload_n C dX5_carryOut_66 1 rfl ?_
        refine gx_get C okg_10 rfl rfl inX5 (ref := "SweetWraps") 5 (by decide) bw_176 rfl rfl dX5_carryOut_67 ?_
        refine gx_bipush (v := (59 : Int32)) C dX5_carryOut_70 (by decide) ?_
        refine gx_vcalli (As := [.int (59 : Int32)]) (rest := []) C (c_X3_readSign _ _ hw) okg_15 rfl rfl bw_650 bw_632 bw_633 bw_6 bw_634 hy_X3_readSign ⟨by decide, by decide⟩ rfl (Nat.le_of_ble_eq_true rfl) dX5_carryOut_72 (fun r14 σ15 hw => ?_)
        refine gx_if_ne (tgt := 81) C dX5_carryOut_75 (by decide) (fun c16 => ?_) (fun c16 => ?_)
        · replace hw := hw.1 c16
          obtain ⟨z17, e_z17⟩ : ∃ z : Int32, z = v2 + (1 : Int32) := ⟨_, rfl⟩
          replace hw := hw z17 e_z17
          refine gx_iinc (v := z17) (lv' := [(2, .int z17), (1, .int z13), (0, .ref (ad (tE X) 11 10 0))]) C dX5_carryOut_81 2 rfl (by rw [e_z17]; rfl) (by decide) rfl ?_
          refine gx_goto (tgt := 37) C dX5_carryOut_84 (by decide) ?_
          refine gx_sub (lv' := [(0, .ref (ad (tE X) 11 10 0)), (1, .int z13), (2, .int z17)]) [2, 1, 0] rfl ?_
          exact hK37 _ _ _ hw
        · replace hw := hw.2 c16
          refine gx_goto (tgt := 87) C dX5_carryOut_78 (by decide) ?_
          refine gx_sub (lv' := [(0, .ref (ad (tE X) 11 10 0)), (1, .int z13)]) [1, 0] rfl ?_
          exact g_X5_carryOut_b87 C hw
      · replace hw := hw.2 c12
        refine gx_goto (tgt := 87) C dX5_carryOut_60 (by decide) ?_
        refine gx_sub (lv' := [(0, .ref (ad (tE X) 11 10 0)), (1, .int v1)]) [0, 1] rfl ?_
        exact g_X5_carryOut_b87 C hw
set_option maxRecDepth 100000 in
set_option maxHeartbeats 4000000 in
theorem g_X5_carryOut_L37 {X : Tx} {Q : Int32 → Sg → Prop} (C : Cx X cX5_carryOut "SweetWraps" (some .int) 6 166 3 (QI (tE X) Q)) {v1 : Int32} {v2 : Int32} {σ : Sg} (hw : wp_X5_carryOut_L37 Q v1 v2 σ) : G X σ [(0, .ref (ad (tE X) 11 10 0)), (1, .int v1), (2, .int v2)] [] 37 := by
  obtain ⟨n, hw⟩ := hw
  exact lpN_G (P := (fun (a : Int32 × Int32 × Sg) => G X (a.2.2) [(0, .ref (ad (tE X) 11 10 0)), (1, .int (a.1)), (2, .int (a.2.1))] [] 37)) (fun K a hK h => gs_X5_carryOut_L37 C (fun v1 v2 σ h => hK (v1, v2, σ) h) h) n _ hw
def wp_X5_carryOut (σ : Sg) (Q : Int32 → Sg → Prop) : Prop := wp_X3_findFault σ (fun r1 σ2 => ((r1 = (-6 : Int32) → wp_X0_prepare 0 σ2 (fun σ4 => wp_X3_startReading σ4 (fun σ5 => wp_X5_carryOut_L37 Q (0 : Int32) (0 : Int32) σ5))) ∧ (¬ r1 = (-6 : Int32) → Q (-3 : Int32) σ2)))
set_option maxRecDepth 100000 in
set_option maxHeartbeats 4000000 in
theorem c_X5_carryOut (l : Launch) (E : Ev) {σ : Sg} {Q : Int32 → Sg → Prop} (hw : wp_X5_carryOut σ Q) : CT l E yX5_carryOut cX5_carryOut 3 (some .int) 6 166 [.ref (ad E 11 10 0)] σ (QI E Q) := by
  refine CT_of (by decide) (Nat.le_of_ble_eq_true rfl) (fun X h1 h2 C => ?_)
  subst h1; subst h2
  have C : Cx X cX5_carryOut "SweetWraps" (some .int) 6 166 3 (QI (tE X) Q) := C
  show G X σ [(0, .ref (ad (tE X) 11 10 0))] [] 0
  unfold wp_X5_carryOut at hw
  refine gx_aload_n C dX5_carryOut_0 0 rfl ?_
  refine gx_get C okg_10 rfl rfl inX5 (ref := "SweetWraps") 5 (by decide) bw_176 rfl rfl dX5_carryOut_1 ?_
  refine gx_vcalli (As := []) (rest := []) C (c_X3_findFault _ _ hw) okg_15 rfl rfl bw_537 bw_538 bw_539 bw_6 bw_540 hy_X3_findFault ⟨by decide, by decide⟩ rfl (Nat.le_of_ble_eq_true rfl) dX5_carryOut_4 (fun r1 σ2 hw => ?_)
  refine gx_bipush (v := (-6 : Int32)) C dX5_carryOut_7 (by decide) ?_
  refine gx_icmp_eq (tgt := 15) C dX5_carryOut_9 (by decide) (fun c3 => ?_) (fun c3 => ?_)
  · replace hw := hw.1 c3
    refine gx_aload_n C dX5_carryOut_15 0 rfl ?_
    refine gx_get C okg_10 rfl rfl inX5 (ref := "SweetWraps") 2 (by decide) bw_173 rfl rfl dX5_carryOut_16 ?_
    refine gx_aload_n C dX5_carryOut_19 0 rfl ?_
    refine gx_get C okg_10 rfl rfl inX5 (ref := "SweetWraps") 0 (by decide) bw_171 rfl rfl dX5_carryOut_20 ?_
    refine gx_vcallv (As := [.ref (ad (tE X) 0 0 0)]) (rest := []) C (c_X0_prepare _ _ (by decide) hw) okg_11 rfl rfl bw_194 bw_195 bw_196 bw_5 bw_197 hy_X0_prepare ⟨by decide, by decide⟩ rfl (Nat.le_of_ble_eq_true rfl) dX5_carryOut_23 (fun σ4 hw => ?_)
    refine gx_aload_n C dX5_carryOut_26 0 rfl ?_
    refine gx_get C okg_10 rfl rfl inX5 (ref := "SweetWraps") 5 (by decide) bw_176 rfl rfl dX5_carryOut_27 ?_
    refine gx_vcallv (As := []) (rest := []) C (c_X3_startReading _ _ hw) okg_15 rfl rfl bw_644 bw_542 bw_543 bw_6 bw_544 hy_X3_startReading ⟨by decide, by decide⟩ rfl (Nat.le_of_ble_eq_true rfl) dX5_carryOut_30 (fun σ5 hw => ?_)
    refine gx_iconst (v := (0 : Int32)) C dX5_carryOut_33 (by decide) ?_
    refine gx_istore_n (lv' := [(1, .int (0 : Int32)), (0, .ref (ad (tE X) 11 10 0))]) C dX5_carryOut_34 (by decide) rfl ?_
    refine gx_iconst (v := (0 : Int32)) C dX5_carryOut_35 (by decide) ?_
    refine gx_istore_n (lv' := [(2, .int (0 : Int32)), (1, .int (0 : Int32)), (0, .ref (ad (tE X) 11 10 0))]) C dX5_carryOut_36 (by decide) rfl ?_
    refine gx_sub (lv' := [(0, .ref (ad (tE X) 11 10 0)), (1, .int (0 : Int32)), (2, .int (0 : Int32))]) [2, 1, 0] rfl ?_
    exact g_X5_carryOut_L37 C hw
  · replace hw := hw.2 c3
    refine gx_bipush (v := (-3 : Int32)) C dX5_carryOut_12 (by decide) ?_
    exact gx_iret C rfl rfl dX5_carryOut_14 hw
theorem hy_X5_carryOut : yX5_carryOut.cls = "SweetWraps" ∧ yX5_carryOut.cls ≠ "java/lang/invoke/MethodHandle" ∧ yX5_carryOut.cls ≠ "java/lang/invoke/VarHandle" ∧ (parseMethodDescriptor yX5_carryOut.desc).map (fun d => d.parameters.length) = some 0 := by decide +kernel

theorem dX5_undo_0 : decode cX5_undo 0 = .ok (.aload_n 0, 1) := by decide +kernel
theorem dX5_undo_1 : decode cX5_undo 1 = .ok (.getfield 22, 3) := by decide +kernel
theorem dX5_undo_4 : decode cX5_undo 4 = .ok (.aload_n 0, 1) := by decide +kernel
theorem dX5_undo_5 : decode cX5_undo 5 = .ok (.getfield 10, 3) := by decide +kernel
theorem dX5_undo_8 : decode cX5_undo 8 = .ok (.invokevirtual 174, 3) := by decide +kernel
theorem dX5_undo_11 : decode cX5_undo 11 = .ok (.ireturn, 1) := by decide +kernel
def wp_X5_undo (σ : Sg) (Q : Int32 → Sg → Prop) : Prop := wp_X0_stepBack 0 σ (fun r1 σ2 => Q r1 σ2)
set_option maxRecDepth 100000 in
set_option maxHeartbeats 4000000 in
theorem c_X5_undo (l : Launch) (E : Ev) {σ : Sg} {Q : Int32 → Sg → Prop} (hw : wp_X5_undo σ Q) : CT l E yX5_undo cX5_undo 1 (some .int) 5 145 [.ref (ad E 11 10 0)] σ (QI E Q) := by
  refine CT_of (by decide) (Nat.le_of_ble_eq_true rfl) (fun X h1 h2 C => ?_)
  subst h1; subst h2
  have C : Cx X cX5_undo "SweetWraps" (some .int) 5 145 1 (QI (tE X) Q) := C
  show G X σ [(0, .ref (ad (tE X) 11 10 0))] [] 0
  unfold wp_X5_undo at hw
  refine gx_aload_n C dX5_undo_0 0 rfl ?_
  refine gx_get C okg_10 rfl rfl inX5 (ref := "SweetWraps") 2 (by decide) bw_173 rfl rfl dX5_undo_1 ?_
  refine gx_aload_n C dX5_undo_4 0 rfl ?_
  refine gx_get C okg_10 rfl rfl inX5 (ref := "SweetWraps") 0 (by decide) bw_171 rfl rfl dX5_undo_5 ?_
  refine gx_vcalli (As := [.ref (ad (tE X) 0 0 0)]) (rest := []) C (c_X0_stepBack _ _ (by decide) hw) okg_11 rfl rfl bw_655 bw_656 bw_657 bw_5 bw_658 hy_X0_stepBack ⟨by decide, by decide⟩ rfl (Nat.le_of_ble_eq_true rfl) dX5_undo_8 (fun r1 σ2 hw => ?_)
  exact gx_iret C rfl rfl dX5_undo_11 hw
theorem hy_X5_undo : yX5_undo.cls = "SweetWraps" ∧ yX5_undo.cls ≠ "java/lang/invoke/MethodHandle" ∧ yX5_undo.cls ≠ "java/lang/invoke/VarHandle" ∧ (parseMethodDescriptor yX5_undo.desc).map (fun d => d.parameters.length) = some 0 := by decide +kernel

theorem dX5_save_0 : decode cX5_save 0 = .ok (.iload_n 1, 1) := by decide +kernel
theorem dX5_save_1 : decode cX5_save 1 = .ok (.iconst 2, 1) := by decide +kernel
theorem dX5_save_2 : decode cX5_save 2 = .ok (.invokestatic 104, 3) := by decide +kernel
theorem dX5_save_5 : decode cX5_save 5 = .ok (.ifCond .ne 6, 3) := by decide +kernel
theorem dX5_save_8 : decode cX5_save 8 = .ok (.bipush (-2), 2) := by decide +kernel
theorem dX5_save_10 : decode cX5_save 10 = .ok (.ireturn, 1) := by decide +kernel
theorem dX5_save_11 : decode cX5_save 11 = .ok (.aload_n 0, 1) := by decide +kernel
theorem dX5_save_12 : decode cX5_save 12 = .ok (.getfield 26, 3) := by decide +kernel
theorem dX5_save_15 : decode cX5_save 15 = .ok (.iload_n 1, 1) := by decide +kernel
theorem dX5_save_16 : decode cX5_save 16 = .ok (.aaload, 1) := by decide +kernel
theorem dX5_save_17 : decode cX5_save 17 = .ok (.aload_n 0, 1) := by decide +kernel
theorem dX5_save_18 : decode cX5_save 18 = .ok (.getfield 10, 3) := by decide +kernel
theorem dX5_save_21 : decode cX5_save 21 = .ok (.invokevirtual 108, 3) := by decide +kernel
theorem dX5_save_24 : decode cX5_save 24 = .ok (.aload_n 0, 1) := by decide +kernel
theorem dX5_save_25 : decode cX5_save 25 = .ok (.getfield 30, 3) := by decide +kernel
theorem dX5_save_28 : decode cX5_save 28 = .ok (.iload_n 1, 1) := by decide +kernel
theorem dX5_save_29 : decode cX5_save 29 = .ok (.iconst 1, 1) := by decide +kernel
theorem dX5_save_30 : decode cX5_save 30 = .ok (.bastore, 1) := by decide +kernel
theorem dX5_save_31 : decode cX5_save 31 = .ok (.aload_n 0, 1) := by decide +kernel
theorem dX5_save_32 : decode cX5_save 32 = .ok (.getfield 10, 3) := by decide +kernel
theorem dX5_save_35 : decode cX5_save 35 = .ok (.getfield 178, 3) := by decide +kernel
theorem dX5_save_38 : decode cX5_save 38 = .ok (.ireturn, 1) := by decide +kernel
def wp_X5_save (x1 : Int32) (σ : Sg) (Q : Int32 → Sg → Prop) : Prop := wp_X5_isIndex x1 (2 : Int32) σ (fun r1 σ2 => ((¬ r1 = 0 → (vp_in x1 2 ∧ ∀ b5 : Nat, b5 = 9 + x1.toNatClampNeg → wp_X2_copyFrom b5 0 σ2 (fun σ6 => (vp_in x1 2 ∧ ∀ σ7 : Sg, σ7 = up σ6 11 14 0 x1.toNatClampNeg (1 : Int32) → Q (σ7 0 0 0 4) σ7)))) ∧ (r1 = 0 → Q (-2 : Int32) σ2)))
set_option maxRecDepth 100000 in
set_option maxHeartbeats 4000000 in
theorem c_X5_save (l : Launch) (E : Ev) {x1 : Int32} {σ : Sg} {Q : Int32 → Sg → Prop} (hw : wp_X5_save x1 σ Q) : CT l E yX5_save cX5_save 2 (some .int) 4 124 [.ref (ad E 11 10 0), .int x1] σ (QI E Q) := by
  refine CT_of (by decide) (Nat.le_of_ble_eq_true rfl) (fun X h1 h2 C => ?_)
  subst h1; subst h2
  have C : Cx X cX5_save "SweetWraps" (some .int) 4 124 2 (QI (tE X) Q) := C
  show G X σ [(0, .ref (ad (tE X) 11 10 0)), (1, .int x1)] [] 0
  unfold wp_X5_save at hw
  refine gx_iload_n C dX5_save_0 1 rfl ?_
  refine gx_iconst (v := (2 : Int32)) C dX5_save_1 (by decide) ?_
  refine gx_scalli (As := [.int x1, .int (2 : Int32)]) (rest := []) C (c_X5_isIndex _ _ hw) bw_488 bw_226 bw_1 bw_227 hyS_X5_isIndex ⟨by decide, by decide⟩ rfl (Nat.le_of_ble_eq_true rfl) dX5_save_2 (fun r1 σ2 hw => ?_)
  refine gx_if_ne (tgt := 11) C dX5_save_5 (by decide) (fun c3 => ?_) (fun c3 => ?_)
  · replace hw := hw.1 c3
    refine gx_aload_n C dX5_save_11 0 rfl ?_
    refine gx_get C okg_10 rfl rfl inX5 (ref := "SweetWraps") 3 (by decide) bw_174 rfl rfl dX5_save_12 ?_
    refine gx_iload_n C dX5_save_15 1 rfl ?_
    have h4 := hw.1
    replace hw := hw.2
    obtain ⟨b5, e_b5⟩ : ∃ z : Nat, z = 9 + x1.toNatClampNeg := ⟨_, rfl⟩
    replace hw := hw b5 e_b5
    have hb5 : b5 < 11 := by rw [e_b5]; have := vp_lt h4; omega
    refine gx_aald C okg_13 rfl (t0 := 5) rfl h4 (v := .ref (ad (tE X) b5 0 0)) (by rw [e_b5]; rfl) dX5_save_16 ?_
    refine gx_aload_n C dX5_save_17 0 rfl ?_
    refine gx_get C okg_10 rfl rfl inX5 (ref := "SweetWraps") 0 (by decide) bw_171 rfl rfl dX5_save_18 ?_
    refine gx_vcallv (As := [.ref (ad (tE X) 0 0 0)]) (rest := []) C (c_X2_copyFrom _ _ hb5 (by decide) hw) (ok0 hb5) rfl rfl bw_489 bw_199 bw_200 bw_2 bw_201 hy_X2_copyFrom ⟨by decide, by decide⟩ rfl (Nat.le_of_ble_eq_true rfl) dX5_save_21 (fun σ6 hw => ?_)
    refine gx_aload_n C dX5_save_24 0 rfl ?_
    refine gx_get C okg_10 rfl rfl inX5 (ref := "SweetWraps") 4 (by decide) bw_175 rfl rfl dX5_save_25 ?_
    refine gx_iload_n C dX5_save_28 1 rfl ?_
    refine gx_iconst (v := (1 : Int32)) C dX5_save_29 (by decide) ?_
    refine gx_zast C okg_14 (fun _ => rfl) hw.1 _ rfl (y' := (1 : Int32)) (by decide) dX5_save_30 ?_
    replace hw := hw.2
    obtain ⟨σ7, e_σ7⟩ : ∃ z : Sg, z = up σ6 11 14 0 x1.toNatClampNeg (1 : Int32) := ⟨_, rfl⟩
    replace hw := hw σ7 e_σ7
    refine gx_st e_σ7 ?_
    refine gx_aload_n C dX5_save_31 0 rfl ?_
    refine gx_get C okg_10 rfl rfl inX5 (ref := "SweetWraps") 0 (by decide) bw_171 rfl rfl dX5_save_32 ?_
    refine gx_get C (ok0 (show 0 < 11 from by decide)) rfl rfl inX2 (ref := "SweetWraps$Machine") 4 (by decide) bw_100 rfl rfl dX5_save_35 ?_
    exact gx_iret C rfl rfl dX5_save_38 hw
  · replace hw := hw.2 c3
    refine gx_bipush (v := (-2 : Int32)) C dX5_save_8 (by decide) ?_
    exact gx_iret C rfl rfl dX5_save_10 hw
theorem hy_X5_save : yX5_save.cls = "SweetWraps" ∧ yX5_save.cls ≠ "java/lang/invoke/MethodHandle" ∧ yX5_save.cls ≠ "java/lang/invoke/VarHandle" ∧ (parseMethodDescriptor yX5_save.desc).map (fun d => d.parameters.length) = some 1 := by decide +kernel

theorem dX5_restore_0 : decode cX5_restore 0 = .ok (.iload_n 1, 1) := by decide +kernel
theorem dX5_restore_1 : decode cX5_restore 1 = .ok (.iconst 2, 1) := by decide +kernel
theorem dX5_restore_2 : decode cX5_restore 2 = .ok (.invokestatic 104, 3) := by decide +kernel
theorem dX5_restore_5 : decode cX5_restore 5 = .ok (.ifCond .ne 6, 3) := by decide +kernel
theorem dX5_restore_8 : decode cX5_restore 8 = .ok (.bipush (-2), 2) := by decide +kernel
theorem dX5_restore_10 : decode cX5_restore 10 = .ok (.ireturn, 1) := by decide +kernel
theorem dX5_restore_11 : decode cX5_restore 11 = .ok (.aload_n 0, 1) := by decide +kernel
theorem dX5_restore_12 : decode cX5_restore 12 = .ok (.getfield 30, 3) := by decide +kernel
theorem dX5_restore_15 : decode cX5_restore 15 = .ok (.iload_n 1, 1) := by decide +kernel
theorem dX5_restore_16 : decode cX5_restore 16 = .ok (.baload, 1) := by decide +kernel
theorem dX5_restore_17 : decode cX5_restore 17 = .ok (.ifCond .ne 6, 3) := by decide +kernel
theorem dX5_restore_20 : decode cX5_restore 20 = .ok (.bipush (-5), 2) := by decide +kernel
theorem dX5_restore_22 : decode cX5_restore 22 = .ok (.ireturn, 1) := by decide +kernel
theorem dX5_restore_23 : decode cX5_restore 23 = .ok (.aload_n 0, 1) := by decide +kernel
theorem dX5_restore_24 : decode cX5_restore 24 = .ok (.getfield 22, 3) := by decide +kernel
theorem dX5_restore_27 : decode cX5_restore 27 = .ok (.aload_n 0, 1) := by decide +kernel
theorem dX5_restore_28 : decode cX5_restore 28 = .ok (.getfield 10, 3) := by decide +kernel
theorem dX5_restore_31 : decode cX5_restore 31 = .ok (.invokevirtual 41, 3) := by decide +kernel
theorem dX5_restore_34 : decode cX5_restore 34 = .ok (.aload_n 0, 1) := by decide +kernel
theorem dX5_restore_35 : decode cX5_restore 35 = .ok (.getfield 10, 3) := by decide +kernel
theorem dX5_restore_38 : decode cX5_restore 38 = .ok (.aload_n 0, 1) := by decide +kernel
theorem dX5_restore_39 : decode cX5_restore 39 = .ok (.getfield 26, 3) := by decide +kernel
theorem dX5_restore_42 : decode cX5_restore 42 = .ok (.iload_n 1, 1) := by decide +kernel
theorem dX5_restore_43 : decode cX5_restore 43 = .ok (.aaload, 1) := by decide +kernel
theorem dX5_restore_44 : decode cX5_restore 44 = .ok (.invokevirtual 108, 3) := by decide +kernel
theorem dX5_restore_47 : decode cX5_restore 47 = .ok (.aload_n 0, 1) := by decide +kernel
theorem dX5_restore_48 : decode cX5_restore 48 = .ok (.getfield 22, 3) := by decide +kernel
theorem dX5_restore_51 : decode cX5_restore 51 = .ok (.aload_n 0, 1) := by decide +kernel
theorem dX5_restore_52 : decode cX5_restore 52 = .ok (.getfield 10, 3) := by decide +kernel
theorem dX5_restore_55 : decode cX5_restore 55 = .ok (.getfield 178, 3) := by decide +kernel
theorem dX5_restore_58 : decode cX5_restore 58 = .ok (.invokevirtual 49, 3) := by decide +kernel
theorem dX5_restore_61 : decode cX5_restore 61 = .ok (.ireturn, 1) := by decide +kernel
def wp_X5_restore (x1 : Int32) (σ : Sg) (Q : Int32 → Sg → Prop) : Prop := wp_X5_isIndex x1 (2 : Int32) σ (fun r1 σ2 => ((¬ r1 = 0 → (vp_in x1 2 ∧ ((¬ (σ2 11 14 0 x1.toNatClampNeg) = 0 → wp_X0_prepare 0 σ2 (fun σ5 => (vp_in x1 2 ∧ ∀ b7 : Nat, b7 = 9 + x1.toNatClampNeg → wp_X2_copyFrom 0 b7 σ5 (fun σ8 => wp_X0_record (σ8 0 0 0 4) σ8 (fun r9 σ10 => Q r9 σ10))))) ∧ ((σ2 11 14 0 x1.toNatClampNeg) = 0 → Q (-5 : Int32) σ2)))) ∧ (r1 = 0 → Q (-2 : Int32) σ2)))
set_option maxRecDepth 100000 in
set_option maxHeartbeats 4000000 in
theorem c_X5_restore (l : Launch) (E : Ev) {x1 : Int32} {σ : Sg} {Q : Int32 → Sg → Prop} (hw : wp_X5_restore x1 σ Q) : CT l E yX5_restore cX5_restore 2 (some .int) 5 145 [.ref (ad E 11 10 0), .int x1] σ (QI E Q) := by
  refine CT_of (by decide) (Nat.le_of_ble_eq_true rfl) (fun X h1 h2 C => ?_)
  subst h1; subst h2
  have C : Cx X cX5_restore "SweetWraps" (some .int) 5 145 2 (QI (tE X) Q) := C
  show G X σ [(0, .ref (ad (tE X) 11 10 0)), (1, .int x1)] [] 0
  unfold wp_X5_restore at hw
  refine gx_iload_n C dX5_restore_0 1 rfl ?_
  refine gx_iconst (v := (2 : Int32)) C dX5_restore_1 (by decide) ?_
  refine gx_scalli (As := [.int x1, .int (2 : Int32)]) (rest := []) C (c_X5_isIndex _ _ hw) bw_488 bw_226 bw_1 bw_227 hyS_X5_isIndex ⟨by decide, by decide⟩ rfl (Nat.le_of_ble_eq_true rfl) dX5_restore_2 (fun r1 σ2 hw => ?_)
  refine gx_if_ne (tgt := 11) C dX5_restore_5 (by decide) (fun c3 => ?_) (fun c3 => ?_)
  · replace hw := hw.1 c3
    refine gx_aload_n C dX5_restore_11 0 rfl ?_
    refine gx_get C okg_10 rfl rfl inX5 (ref := "SweetWraps") 4 (by decide) bw_175 rfl rfl dX5_restore_12 ?_
    refine gx_iload_n C dX5_restore_15 1 rfl ?_
    refine gx_zald C okg_14 rfl hw.1 _ rfl dX5_restore_16 ?_
    replace hw := hw.2
    refine gx_if_ne (tgt := 23) C dX5_restore_17 (by decide) (fun c4 => ?_) (fun c4 => ?_)
    · replace hw := hw.1 c4
      refine gx_aload_n C dX5_restore_23 0 rfl ?_
      refine gx_get C okg_10 rfl rfl inX5 (ref := "SweetWraps") 2 (by decide) bw_173 rfl rfl dX5_restore_24 ?_
      refine gx_aload_n C dX5_restore_27 0 rfl ?_
      refine gx_get C okg_10 rfl rfl inX5 (ref := "SweetWraps") 0 (by decide) bw_171 rfl rfl dX5_restore_28 ?_
      refine gx_vcallv (As := [.ref (ad (tE X) 0 0 0)]) (rest := []) C (c_X0_prepare _ _ (by decide) hw) okg_11 rfl rfl bw_194 bw_195 bw_196 bw_5 bw_197 hy_X0_prepare ⟨by decide, by decide⟩ rfl (Nat.le_of_ble_eq_true rfl) dX5_restore_31 (fun σ5 hw => ?_)
      refine gx_aload_n C dX5_restore_34 0 rfl ?_
      refine gx_get C okg_10 rfl rfl inX5 (ref := "SweetWraps") 0 (by decide) bw_171 rfl rfl dX5_restore_35 ?_
      refine gx_aload_n C dX5_restore_38 0 rfl ?_
      refine gx_get C okg_10 rfl rfl inX5 (ref := "SweetWraps") 3 (by decide) bw_174 rfl rfl dX5_restore_39 ?_
      refine gx_iload_n C dX5_restore_42 1 rfl ?_
      have h6 := hw.1
      replace hw := hw.2
      obtain ⟨b7, e_b7⟩ : ∃ z : Nat, z = 9 + x1.toNatClampNeg := ⟨_, rfl⟩
      replace hw := hw b7 e_b7
      have hb7 : b7 < 11 := by rw [e_b7]; have := vp_lt h6; omega
      refine gx_aald C okg_13 rfl (t0 := 5) rfl h6 (v := .ref (ad (tE X) b7 0 0)) (by rw [e_b7]; rfl) dX5_restore_43 ?_
      refine gx_vcallv (As := [.ref (ad (tE X) b7 0 0)]) (rest := []) C (c_X2_copyFrom _ _ (by decide) hb7 hw) (ok0 (show 0 < 11 from by decide)) rfl rfl bw_489 bw_199 bw_200 bw_2 bw_201 hy_X2_copyFrom ⟨by decide, by decide⟩ rfl (Nat.le_of_ble_eq_true rfl) dX5_restore_44 (fun σ8 hw => ?_)
      refine gx_aload_n C dX5_restore_47 0 rfl ?_
      refine gx_get C okg_10 rfl rfl inX5 (ref := "SweetWraps") 2 (by decide) bw_173 rfl rfl dX5_restore_48 ?_
      refine gx_aload_n C dX5_restore_51 0 rfl ?_
      refine gx_get C okg_10 rfl rfl inX5 (ref := "SweetWraps") 0 (by decide) bw_171 rfl rfl dX5_restore_52 ?_
      refine gx_get C (ok0 (show 0 < 11 from by decide)) rfl rfl inX2 (ref := "SweetWraps$Machine") 4 (by decide) bw_100 rfl rfl dX5_restore_55 ?_
      refine gx_vcalli (As := [.int (σ8 0 0 0 4)]) (rest := []) C (c_X0_record _ _ hw) okg_11 rfl rfl bw_235 bw_236 bw_237 bw_5 bw_238 hy_X0_record ⟨by decide, by decide⟩ rfl (Nat.le_of_ble_eq_true rfl) dX5_restore_58 (fun r9 σ10 hw => ?_)
      exact gx_iret C rfl rfl dX5_restore_61 hw
    · replace hw := hw.2 c4
      refine gx_bipush (v := (-5 : Int32)) C dX5_restore_20 (by decide) ?_
      exact gx_iret C rfl rfl dX5_restore_22 hw
  · replace hw := hw.2 c3
    refine gx_bipush (v := (-2 : Int32)) C dX5_restore_8 (by decide) ?_
    exact gx_iret C rfl rfl dX5_restore_10 hw
theorem hy_X5_restore : yX5_restore.cls = "SweetWraps" ∧ yX5_restore.cls ≠ "java/lang/invoke/MethodHandle" ∧ yX5_restore.cls ≠ "java/lang/invoke/VarHandle" ∧ (parseMethodDescriptor yX5_restore.desc).map (fun d => d.parameters.length) = some 1 := by decide +kernel
