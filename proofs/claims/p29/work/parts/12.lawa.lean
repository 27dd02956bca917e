theorem dL_low_0 : decode cL_low 0 = .ok (.iload_n 0, 1) := by decide +kernel
theorem dL_low_1 : decode cL_low 1 = .ok (.ldc 7, 2) := by decide +kernel
theorem dL_low_3 : decode cL_low 3 = .ok (.iand, 1) := by decide +kernel
theorem dL_low_4 : decode cL_low 4 = .ok (.iload_n 1, 1) := by decide +kernel
theorem dL_low_5 : decode cL_low 5 = .ok (.irem, 1) := by decide +kernel
theorem dL_low_6 : decode cL_low 6 = .ok (.ireturn, 1) := by decide +kernel
def wp_L_low (x0 : Int32) (x1 : Int32) (σ : Sg) (Q : Int32 → Sg → Prop) : Prop := (¬ x1 = 0 ∧ Q ((x0 &&& (2147483647 : Int32)) - (x0 &&& (2147483647 : Int32)) / x1 * x1) σ)
set_option maxRecDepth 100000 in
set_option maxHeartbeats 4000000 in
theorem c_L_low (l : Launch) (E : Ev) {x0 : Int32} {x1 : Int32} {σ : Sg} {Q : Int32 → Sg → Prop} (hw : wp_L_low x0 x1 σ Q) : CT l E yL_low cL_low 2 (some .int) 0 0 [.int x0, .int x1] σ (QI E Q) := by
  refine CT_of (by decide) (Nat.le_of_ble_eq_true rfl) (fun X h1 h2 C => ?_)
  subst h1; subst h2
  have C : Cx X cL_low "SweetWrapsLaw" (some .int) 0 0 2 (QI (tE X) Q) := C
  show G X σ [(0, .int x0), (1, .int x1)] [] 0
  unfold wp_L_low at hw
  refine gx_iload_n C dL_low_0 0 rfl ?_
  refine gx_ldc C dL_low_1 bw_184 ?_
  refine gx_iand C dL_low_3 ?_
  refine gx_iload_n C dL_low_4 1 rfl ?_
  refine gx_irem C dL_low_5 hw.1 ?_
  replace hw := hw.2
  exact gx_iret C rfl rfl dL_low_6 hw
theorem hyS_L_low : yL_low.cls ≠ "java/lang/invoke/MethodHandle" ∧ yL_low.cls ≠ "java/lang/invoke/VarHandle" ∧ (parseMethodDescriptor yL_low.desc).map (fun d => d.parameters.length) = some 2 := by decide +kernel

theorem dL_mild_0 : decode cL_mild 0 = .ok (.iload_n 0, 1) := by decide +kernel
theorem dL_mild_1 : decode cL_mild 1 = .ok (.bipush (-4), 2) := by decide +kernel
theorem dL_mild_3 : decode cL_mild 3 = .ok (.if_icmp .eq 9, 3) := by decide +kernel
theorem dL_mild_6 : decode cL_mild 6 = .ok (.iload_n 0, 1) := by decide +kernel
theorem dL_mild_7 : decode cL_mild 7 = .ok (.bipush (-5), 2) := by decide +kernel
theorem dL_mild_9 : decode cL_mild 9 = .ok (.if_icmp .ne 7, 3) := by decide +kernel
theorem dL_mild_12 : decode cL_mild 12 = .ok (.iconst 0, 1) := by decide +kernel
theorem dL_mild_13 : decode cL_mild 13 = .ok (.goto 4, 3) := by decide +kernel
theorem dL_mild_16 : decode cL_mild 16 = .ok (.iload_n 0, 1) := by decide +kernel
theorem dL_mild_17 : decode cL_mild 17 = .ok (.ireturn, 1) := by decide +kernel
def wp_L_mild_b12 (x0 : Int32) (Q : Int32 → Sg → Prop) (σ : Sg) : Prop := Q (0 : Int32) σ
set_option maxRecDepth 100000 in
set_option maxHeartbeats 4000000 in
theorem g_L_mild_b12 {X : Tx} {Q : Int32 → Sg → Prop} (C : Cx X cL_mild "SweetWrapsLaw" (some .int) 0 0 1 (QI (tE X) Q)) {x0 : Int32} {σ : Sg} (hw : wp_L_mild_b12 x0 Q σ) : G X σ [] [] 12 := by
  unfold wp_L_mild_b12 at hw
  refine gx_iconst (v := (0 : Int32)) C dL_mild_12 (by decide) ?_
  refine gx_goto (tgt := 17) C dL_mild_13 (by decide) ?_
  exact gx_iret C rfl rfl dL_mild_17 hw
def wp_L_mild (x0 : Int32) (σ : Sg) (Q : Int32 → Sg → Prop) : Prop := ((x0 = (-4 : Int32) → wp_L_mild_b12 x0 Q σ) ∧ (¬ x0 = (-4 : Int32) → ((¬ x0 = (-5 : Int32) → Q x0 σ) ∧ (x0 = (-5 : Int32) → wp_L_mild_b12 x0 Q σ))))
set_option maxRecDepth 100000 in
set_option maxHeartbeats 4000000 in
theorem c_L_mild (l : Launch) (E : Ev) {x0 : Int32} {σ : Sg} {Q : Int32 → Sg → Prop} (hw : wp_L_mild x0 σ Q) : CT l E yL_mild cL_mild 1 (some .int) 0 0 [.int x0] σ (QI E Q) := by
  refine CT_of (by decide) (Nat.le_of_ble_eq_true rfl) (fun X h1 h2 C => ?_)
  subst h1; subst h2
  have C : Cx X cL_mild "SweetWrapsLaw" (some .int) 0 0 1 (QI (tE X) Q) := C
  show G X σ [(0, .int x0)] [] 0
  unfold wp_L_mild at hw
  refine gx_iload_n C dL_mild_0 0 rfl ?_
  refine gx_bipush (v := (-4 : Int32)) C dL_mild_1 (by decide) ?_
  refine gx_icmp_eq (tgt := 12) C dL_mild_3 (by decide) (fun c1 => ?_) (fun c1 => ?_)
  · replace hw := hw.1 c1
    refine gx_sub (lv' := []) [] rfl ?_
    exact g_L_mild_b12 C hw
  · replace hw := hw.2 c1
    refine gx_iload_n C dL_mild_6 0 rfl ?_
    refine gx_bipush (v := (-5 : Int32)) C dL_mild_7 (by decide) ?_
    refine gx_icmp_ne (tgt := 16) C dL_mild_9 (by decide) (fun c2 => ?_) (fun c2 => ?_)
    · replace hw := hw.1 c2
      refine gx_iload_n C dL_mild_16 0 rfl ?_
      exact gx_iret C rfl rfl dL_mild_17 hw
    · replace hw := hw.2 c2
      refine gx_sub (lv' := []) [] rfl ?_
      exact g_L_mild_b12 C hw
theorem hyS_L_mild : yL_mild.cls ≠ "java/lang/invoke/MethodHandle" ∧ yL_mild.cls ≠ "java/lang/invoke/VarHandle" ∧ (parseMethodDescriptor yL_mild.desc).map (fun d => d.parameters.length) = some 1 := by decide +kernel

theorem dL_does_0 : decode cL_does 0 = .ok (.iload_n 1, 1) := by decide +kernel
theorem dL_does_1 : decode cL_does 1 = .ok (.bipush 15, 2) := by decide +kernel
theorem dL_does_3 : decode cL_does 3 = .ok (.iand, 1) := by decide +kernel
theorem dL_does_4 : decode cL_does 4 = .ok (.tableswitch 278 0 11 #[64, 64, 64, 64, 99, 99, 125, 125, 125, 133, 162, 195], 64) := by decide +kernel
theorem dL_does_68 : decode cL_does 68 = .ok (.aload_n 0, 1) := by decide +kernel
theorem dL_does_69 : decode cL_does 69 = .ok (.iload_n 1, 1) := by decide +kernel
theorem dL_does_70 : decode cL_does 70 = .ok (.iconst 4, 1) := by decide +kernel
theorem dL_does_71 : decode cL_does 71 = .ok (.ishr, 1) := by decide +kernel
theorem dL_does_72 : decode cL_does 72 = .ok (.iconst 4, 1) := by decide +kernel
theorem dL_does_73 : decode cL_does 73 = .ok (.invokestatic 10, 3) := by decide +kernel
theorem dL_does_76 : decode cL_does 76 = .ok (.iload_n 1, 1) := by decide +kernel
theorem dL_does_77 : decode cL_does 77 = .ok (.bipush 6, 2) := by decide +kernel
theorem dL_does_79 : decode cL_does 79 = .ok (.ishr, 1) := by decide +kernel
theorem dL_does_80 : decode cL_does 80 = .ok (.bipush 6, 2) := by decide +kernel
theorem dL_does_82 : decode cL_does 82 = .ok (.invokestatic 10, 3) := by decide +kernel
theorem dL_does_85 : decode cL_does 85 = .ok (.iconst 1, 1) := by decide +kernel
theorem dL_does_86 : decode cL_does 86 = .ok (.iload_n 1, 1) := by decide +kernel
theorem dL_does_87 : decode cL_does 87 = .ok (.bipush 8, 2) := by decide +kernel
theorem dL_does_89 : decode cL_does 89 = .ok (.ishr, 1) := by decide +kernel
theorem dL_does_90 : decode cL_does 90 = .ok (.bipush 30, 2) := by decide +kernel
theorem dL_does_92 : decode cL_does 92 = .ok (.invokestatic 10, 3) := by decide +kernel
theorem dL_does_95 : decode cL_does 95 = .ok (.iadd, 1) := by decide +kernel
theorem dL_does_96 : decode cL_does 96 = .ok (.invokevirtual 16, 3) := by decide +kernel
theorem dL_does_99 : decode cL_does 99 = .ok (.invokestatic 20, 3) := by decide +kernel
theorem dL_does_102 : decode cL_does 102 = .ok (.ireturn, 1) := by decide +kernel
theorem dL_does_103 : decode cL_does 103 = .ok (.aload_n 0, 1) := by decide +kernel
theorem dL_does_104 : decode cL_does 104 = .ok (.iload_n 1, 1) := by decide +kernel
theorem dL_does_105 : decode cL_does 105 = .ok (.iconst 4, 1) := by decide +kernel
theorem dL_does_106 : decode cL_does 106 = .ok (.ishr, 1) := by decide +kernel
theorem dL_does_107 : decode cL_does 107 = .ok (.iconst 4, 1) := by decide +kernel
theorem dL_does_108 : decode cL_does 108 = .ok (.invokestatic 10, 3) := by decide +kernel
theorem dL_does_111 : decode cL_does 111 = .ok (.iconst 1, 1) := by decide +kernel
theorem dL_does_112 : decode cL_does 112 = .ok (.iload_n 1, 1) := by decide +kernel
theorem dL_does_113 : decode cL_does 113 = .ok (.bipush 6, 2) := by decide +kernel
theorem dL_does_115 : decode cL_does 115 = .ok (.ishr, 1) := by decide +kernel
theorem dL_does_116 : decode cL_does 116 = .ok (.bipush 120, 2) := by decide +kernel
theorem dL_does_118 : decode cL_does 118 = .ok (.invokestatic 10, 3) := by decide +kernel
theorem dL_does_121 : decode cL_does 121 = .ok (.iadd, 1) := by decide +kernel
theorem dL_does_122 : decode cL_does 122 = .ok (.invokevirtual 24, 3) := by decide +kernel
theorem dL_does_125 : decode cL_does 125 = .ok (.invokestatic 20, 3) := by decide +kernel
theorem dL_does_128 : decode cL_does 128 = .ok (.ireturn, 1) := by decide +kernel
theorem dL_does_129 : decode cL_does 129 = .ok (.aload_n 0, 1) := by decide +kernel
theorem dL_does_130 : decode cL_does 130 = .ok (.invokevirtual 27, 3) := by decide +kernel
theorem dL_does_133 : decode cL_does 133 = .ok (.invokestatic 20, 3) := by decide +kernel
theorem dL_does_136 : decode cL_does 136 = .ok (.ireturn, 1) := by decide +kernel
theorem dL_does_137 : decode cL_does 137 = .ok (.aload_n 0, 1) := by decide +kernel
theorem dL_does_138 : decode cL_does 138 = .ok (.iconst 1, 1) := by decide +kernel
theorem dL_does_139 : decode cL_does 139 = .ok (.invokevirtual 31, 3) := by decide +kernel
theorem dL_does_142 : decode cL_does 142 = .ok (.istore_n 2, 1) := by decide +kernel
theorem dL_does_143 : decode cL_does 143 = .ok (.iload_n 2, 1) := by decide +kernel
theorem dL_does_144 : decode cL_does 144 = .ok (.ifCond .ne 7, 3) := by decide +kernel
theorem dL_does_147 : decode cL_does 147 = .ok (.iconst 0, 1) := by decide +kernel
theorem dL_does_148 : decode cL_does 148 = .ok (.goto 17, 3) := by decide +kernel
theorem dL_does_151 : decode cL_does 151 = .ok (.aload_n 0, 1) := by decide +kernel
theorem dL_does_152 : decode cL_does 152 = .ok (.iload_n 1, 1) := by decide +kernel
theorem dL_does_153 : decode cL_does 153 = .ok (.iconst 4, 1) := by decide +kernel
theorem dL_does_154 : decode cL_does 154 = .ok (.ishr, 1) := by decide +kernel
theorem dL_does_155 : decode cL_does 155 = .ok (.iload_n 2, 1) := by decide +kernel
theorem dL_does_156 : decode cL_does 156 = .ok (.invokestatic 10, 3) := by decide +kernel
theorem dL_does_159 : decode cL_does 159 = .ok (.invokevirtual 34, 3) := by decide +kernel
theorem dL_does_162 : decode cL_does 162 = .ok (.invokestatic 20, 3) := by decide +kernel
theorem dL_does_165 : decode cL_does 165 = .ok (.ireturn, 1) := by decide +kernel
theorem dL_does_166 : decode cL_does 166 = .ok (.iload_n 1, 1) := by decide +kernel
theorem dL_does_167 : decode cL_does 167 = .ok (.iconst 4, 1) := by decide +kernel
theorem dL_does_168 : decode cL_does 168 = .ok (.ishr, 1) := by decide +kernel
theorem dL_does_169 : decode cL_does 169 = .ok (.bipush 6, 2) := by decide +kernel
theorem dL_does_171 : decode cL_does 171 = .ok (.invokestatic 10, 3) := by decide +kernel
theorem dL_does_174 : decode cL_does 174 = .ok (.istore_n 3, 1) := by decide +kernel
theorem dL_does_175 : decode cL_does 175 = .ok (.aload_n 0, 1) := by decide +kernel
theorem dL_does_176 : decode cL_does 176 = .ok (.iload_n 3, 1) := by decide +kernel
theorem dL_does_177 : decode cL_does 177 = .ok (.iload_n 3, 1) := by decide +kernel
theorem dL_does_178 : decode cL_does 178 = .ok (.iconst 1, 1) := by decide +kernel
theorem dL_does_179 : decode cL_does 179 = .ok (.iadd, 1) := by decide +kernel
theorem dL_does_180 : decode cL_does 180 = .ok (.iload_n 1, 1) := by decide +kernel
theorem dL_does_181 : decode cL_does 181 = .ok (.bipush 7, 2) := by decide +kernel
theorem dL_does_183 : decode cL_does 183 = .ok (.ishr, 1) := by decide +kernel
theorem dL_does_184 : decode cL_does 184 = .ok (.iconst 5, 1) := by decide +kernel
theorem dL_does_185 : decode cL_does 185 = .ok (.invokestatic 10, 3) := by decide +kernel
theorem dL_does_188 : decode cL_does 188 = .ok (.iadd, 1) := by decide +kernel
theorem dL_does_189 : decode cL_does 189 = .ok (.bipush 6, 2) := by decide +kernel
theorem dL_does_191 : decode cL_does 191 = .ok (.irem, 1) := by decide +kernel
theorem dL_does_192 : decode cL_does 192 = .ok (.invokevirtual 37, 3) := by decide +kernel
theorem dL_does_195 : decode cL_does 195 = .ok (.invokestatic 20, 3) := by decide +kernel
theorem dL_does_198 : decode cL_does 198 = .ok (.ireturn, 1) := by decide +kernel
theorem dL_does_199 : decode cL_does 199 = .ok (.iload_n 1, 1) := by decide +kernel
theorem dL_does_200 : decode cL_does 200 = .ok (.iconst 4, 1) := by decide +kernel
theorem dL_does_201 : decode cL_does 201 = .ok (.ishr, 1) := by decide +kernel
theorem dL_does_202 : decode cL_does 202 = .ok (.iconst 4, 1) := by decide +kernel
theorem dL_does_203 : decode cL_does 203 = .ok (.invokestatic 10, 3) := by decide +kernel
theorem dL_does_206 : decode cL_does 206 = .ok (.istore 4, 2) := by decide +kernel
theorem dL_does_208 : decode cL_does 208 = .ok (.aload_n 0, 1) := by decide +kernel
theorem dL_does_209 : decode cL_does 209 = .ok (.iload 4, 2) := by decide +kernel
theorem dL_does_211 : decode cL_does 211 = .ok (.iload 4, 2) := by decide +kernel
theorem dL_does_213 : decode cL_does 213 = .ok (.ifCond .ne 17, 3) := by decide +kernel
theorem dL_does_216 : decode cL_does 216 = .ok (.iconst 1, 1) := by decide +kernel
theorem dL_does_217 : decode cL_does 217 = .ok (.iload_n 1, 1) := by decide +kernel
theorem dL_does_218 : decode cL_does 218 = .ok (.bipush 6, 2) := by decide +kernel
theorem dL_does_220 : decode cL_does 220 = .ok (.ishr, 1) := by decide +kernel
theorem dL_does_221 : decode cL_does 221 = .ok (.bipush 9, 2) := by decide +kernel
theorem dL_does_223 : decode cL_does 223 = .ok (.invokestatic 10, 3) := by decide +kernel
theorem dL_does_226 : decode cL_does 226 = .ok (.iadd, 1) := by decide +kernel
theorem dL_does_227 : decode cL_does 227 = .ok (.goto 51, 3) := by decide +kernel
theorem dL_does_230 : decode cL_does 230 = .ok (.iload 4, 2) := by decide +kernel
theorem dL_does_232 : decode cL_does 232 = .ok (.iconst 1, 1) := by decide +kernel
theorem dL_does_233 : decode cL_does 233 = .ok (.if_icmp .ne 17, 3) := by decide +kernel
theorem dL_does_236 : decode cL_does 236 = .ok (.iconst 4, 1) := by decide +kernel
theorem dL_does_237 : decode cL_does 237 = .ok (.iload_n 1, 1) := by decide +kernel
theorem dL_does_238 : decode cL_does 238 = .ok (.bipush 6, 2) := by decide +kernel
theorem dL_does_240 : decode cL_does 240 = .ok (.ishr, 1) := by decide +kernel
theorem dL_does_241 : decode cL_does 241 = .ok (.bipush 57, 2) := by decide +kernel
theorem dL_does_243 : decode cL_does 243 = .ok (.invokestatic 10, 3) := by decide +kernel
theorem dL_does_246 : decode cL_does 246 = .ok (.iadd, 1) := by decide +kernel
theorem dL_does_247 : decode cL_does 247 = .ok (.goto 31, 3) := by decide +kernel
theorem dL_does_250 : decode cL_does 250 = .ok (.iload 4, 2) := by decide +kernel
theorem dL_does_252 : decode cL_does 252 = .ok (.iconst 2, 1) := by decide +kernel
theorem dL_does_253 : decode cL_does 253 = .ok (.if_icmp .ne 17, 3) := by decide +kernel
theorem dL_does_256 : decode cL_does 256 = .ok (.iconst 1, 1) := by decide +kernel
theorem dL_does_257 : decode cL_does 257 = .ok (.iload_n 1, 1) := by decide +kernel
theorem dL_does_258 : decode cL_does 258 = .ok (.bipush 6, 2) := by decide +kernel
theorem dL_does_260 : decode cL_does 260 = .ok (.ishr, 1) := by decide +kernel
theorem dL_does_261 : decode cL_does 261 = .ok (.bipush 30, 2) := by decide +kernel
theorem dL_does_263 : decode cL_does 263 = .ok (.invokestatic 10, 3) := by decide +kernel
theorem dL_does_266 : decode cL_does 266 = .ok (.iadd, 1) := by decide +kernel
theorem dL_does_267 : decode cL_does 267 = .ok (.goto 11, 3) := by decide +kernel
theorem dL_does_270 : decode cL_does 270 = .ok (.iconst 1, 1) := by decide +kernel
theorem dL_does_271 : decode cL_does 271 = .ok (.iload_n 1, 1) := by decide +kernel
theorem dL_does_272 : decode cL_does 272 = .ok (.bipush 6, 2) := by decide +kernel
theorem dL_does_274 : decode cL_does 274 = .ok (.ishr, 1) := by decide +kernel
theorem dL_does_275 : decode cL_does 275 = .ok (.iconst 1, 1) := by decide +kernel
theorem dL_does_276 : decode cL_does 276 = .ok (.iand, 1) := by decide +kernel
theorem dL_does_277 : decode cL_does 277 = .ok (.iadd, 1) := by decide +kernel
theorem dL_does_278 : decode cL_does 278 = .ok (.invokevirtual 40, 3) := by decide +kernel
theorem dL_does_281 : decode cL_does 281 = .ok (.ireturn, 1) := by decide +kernel
theorem dL_does_282 : decode cL_does 282 = .ok (.aload_n 0, 1) := by decide +kernel
theorem dL_does_283 : decode cL_does 283 = .ok (.iconst 1, 1) := by decide +kernel
theorem dL_does_284 : decode cL_does 284 = .ok (.iload_n 1, 1) := by decide +kernel
theorem dL_does_285 : decode cL_does 285 = .ok (.iconst 4, 1) := by decide +kernel
theorem dL_does_286 : decode cL_does 286 = .ok (.ishr, 1) := by decide +kernel
theorem dL_does_287 : decode cL_does 287 = .ok (.iconst 4, 1) := by decide +kernel
theorem dL_does_288 : decode cL_does 288 = .ok (.invokestatic 10, 3) := by decide +kernel
theorem dL_does_291 : decode cL_does 291 = .ok (.iadd, 1) := by decide +kernel
theorem dL_does_292 : decode cL_does 292 = .ok (.invokevirtual 43, 3) := by decide +kernel
theorem dL_does_295 : decode cL_does 295 = .ok (.invokestatic 20, 3) := by decide +kernel
theorem dL_does_298 : decode cL_does 298 = .ok (.ireturn, 1) := by decide +kernel
def wp_L_does_b278 (x1 : Int32) (Q : Int32 → Sg → Prop) (s0 : Int32) (s1 : Int32) (σ : Sg) : Prop := wp_X5_set s1 s0 σ (fun r115 σ116 => Q r115 σ116)
set_option maxRecDepth 100000 in
set_option maxHeartbeats 4000000 in
theorem g_L_does_b278 {X : Tx} {Q : Int32 → Sg → Prop} (C : Cx X cL_does "SweetWrapsLaw" (some .int) 7 168 5 (QI (tE X) Q)) {x1 : Int32} {s0 : Int32} {s1 : Int32} {σ : Sg} (hw : wp_L_does_b278 x1 Q s0 s1 σ) : G X σ [] [.int s0, .int s1, .ref (ad (tE X) 11 10 0)] 278 := by
  unfold wp_L_does_b278 at hw
  refine gx_vcalli (As := [.int s1, .int s0]) (rest := []) C (c_X5_set _ _ hw) okg_10 rfl rfl bw_359 bw_360 bw_361 bw_1 bw_362 hy_X5_set ⟨by decide, by decide⟩ rfl (Nat.le_of_ble_eq_true rfl) dL_does_278 (fun r115 σ116 hw => ?_)
  exact gx_iret C rfl rfl dL_does_281 hw
def wp_L_does (x1 : Int32) (σ : Sg) (Q : Int32 → Sg → Prop) : Prop := (((x1 &&& (15 : Int32)) = (0 : Int32) → wp_L_low (x1 >>> ((4 : Int32) &&& 31)) (4 : Int32) σ (fun r13 σ14 => wp_L_low (x1 >>> ((6 : Int32) &&& 31)) (6 : Int32) σ14 (fun r15 σ16 => wp_L_low (x1 >>> ((8 : Int32) &&& 31)) (30 : Int32) σ16 (fun r17 σ18 => wp_X5_heap r13 r15 ((1 : Int32) + r17) σ18 (fun r19 σ20 => wp_L_mild r19 σ20 (fun r21 σ22 => Q r21 σ22)))))) ∧ (¬ (x1 &&& (15 : Int32)) = (0 : Int32) → (((x1 &&& (15 : Int32)) = (1 : Int32) → wp_L_low (x1 >>> ((4 : Int32) &&& 31)) (4 : Int32) σ (fun r23 σ24 => wp_L_low (x1 >>> ((6 : Int32) &&& 31)) (6 : Int32) σ24 (fun r25 σ26 => wp_L_low (x1 >>> ((8 : Int32) &&& 31)) (30 : Int32) σ26 (fun r27 σ28 => wp_X5_heap r23 r25 ((1 : Int32) + r27) σ28 (fun r29 σ30 => wp_L_mild r29 σ30 (fun r31 σ32 => Q r31 σ32)))))) ∧ (¬ (x1 &&& (15 : Int32)) = (1 : Int32) → (((x1 &&& (15 : Int32)) = (2 : Int32) → wp_L_low (x1 >>> ((4 : Int32) &&& 31)) (4 : Int32) σ (fun r33 σ34 => wp_L_low (x1 >>> ((6 : Int32) &&& 31)) (6 : Int32) σ34 (fun r35 σ36 => wp_L_low (x1 >>> ((8 : Int32) &&& 31)) (30 : Int32) σ36 (fun r37 σ38 => wp_X5_heap r33 r35 ((1 : Int32) + r37) σ38 (fun r39 σ40 => wp_L_mild r39 σ40 (fun r41 σ42 => Q r41 σ42)))))) ∧ (¬ (x1 &&& (15 : Int32)) = (2 : Int32) → (((x1 &&& (15 : Int32)) = (3 : Int32) → wp_L_low (x1 >>> ((4 : Int32) &&& 31)) (4 : Int32) σ (fun r43 σ44 => wp_L_low (x1 >>> ((6 : Int32) &&& 31)) (6 : Int32) σ44 (fun r45 σ46 => wp_L_low (x1 >>> ((8 : Int32) &&& 31)) (30 : Int32) σ46 (fun r47 σ48 => wp_X5_heap r43 r45 ((1 : Int32) + r47) σ48 (fun r49 σ50 => wp_L_mild r49 σ50 (fun r51 σ52 => Q r51 σ52)))))) ∧ (¬ (x1 &&& (15 : Int32)) = (3 : Int32) → (((x1 &&& (15 : Int32)) = (4 : Int32) → wp_L_low (x1 >>> ((4 : Int32) &&& 31)) (4 : Int32) σ (fun r53 σ54 => wp_L_low (x1 >>> ((6 : Int32) &&& 31)) (120 : Int32) σ54 (fun r55 σ56 => wp_X5_foil r53 ((1 : Int32) + r55) σ56 (fun r57 σ58 => wp_L_mild r57 σ58 (fun r59 σ60 => Q r59 σ60))))) ∧ (¬ (x1 &&& (15 : Int32)) = (4 : Int32) → (((x1 &&& (15 : Int32)) = (5 : Int32) → wp_L_low (x1 >>> ((4 : Int32) &&& 31)) (4 : Int32) σ (fun r61 σ62 => wp_L_low (x1 >>> ((6 : Int32) &&& 31)) (120 : Int32) σ62 (fun r63 σ64 => wp_X5_foil r61 ((1 : Int32) + r63) σ64 (fun r65 σ66 => wp_L_mild r65 σ66 (fun r67 σ68 => Q r67 σ68))))) ∧ (¬ (x1 &&& (15 : Int32)) = (5 : Int32) → (((x1 &&& (15 : Int32)) = (6 : Int32) → wp_X5_tin σ (fun r69 σ70 => wp_L_mild r69 σ70 (fun r71 σ72 => Q r71 σ72))) ∧ (¬ (x1 &&& (15 : Int32)) = (6 : Int32) → (((x1 &&& (15 : Int32)) = (7 : Int32) → wp_X5_tin σ (fun r73 σ74 => wp_L_mild r73 σ74 (fun r75 σ76 => Q r75 σ76))) ∧ (¬ (x1 &&& (15 : Int32)) = (7 : Int32) → (((x1 &&& (15 : Int32)) = (8 : Int32) → wp_X5_tin σ (fun r77 σ78 => wp_L_mild r77 σ78 (fun r79 σ80 => Q r79 σ80))) ∧ (¬ (x1 &&& (15 : Int32)) = (8 : Int32) → (((x1 &&& (15 : Int32)) = (9 : Int32) → wp_X5_count (1 : Int32) σ (fun r81 σ82 => ((¬ r81 = 0 → wp_L_low (x1 >>> ((4 : Int32) &&& 31)) r81 σ82 (fun r84 σ85 => wp_X5_ship r84 σ85 (fun r86 σ87 => wp_L_mild r86 σ87 (fun r88 σ89 => Q r88 σ89)))) ∧ (r81 = 0 → Q (0 : Int32) σ82)))) ∧ (¬ (x1 &&& (15 : Int32)) = (9 : Int32) → (((x1 &&& (15 : Int32)) = (10 : Int32) → wp_L_low (x1 >>> ((4 : Int32) &&& 31)) (6 : Int32) σ (fun r90 σ91 => wp_L_low (x1 >>> ((7 : Int32) &&& 31)) (5 : Int32) σ91 (fun r92 σ93 => wp_X5_apart r90 (((r90 + (1 : Int32)) + r92) - ((r90 + (1 : Int32)) + r92) / (6 : Int32) * (6 : Int32)) σ93 (fun r94 σ95 => wp_L_mild r94 σ95 (fun r96 σ97 => Q r96 σ97))))) ∧ (¬ (x1 &&& (15 : Int32)) = (10 : Int32) → (((x1 &&& (15 : Int32)) = (11 : Int32) → wp_L_low (x1 >>> ((4 : Int32) &&& 31)) (4 : Int32) σ (fun r98 σ99 => ((¬ r98 = 0 → ((¬ r98 = (1 : Int32) → ((¬ r98 = (2 : Int32) → wp_L_does_b278 x1 Q ((1 : Int32) + ((x1 >>> ((6 : Int32) &&& 31)) &&& (1 : Int32))) r98 σ99) ∧ (r98 = (2 : Int32) → wp_L_low (x1 >>> ((6 : Int32) &&& 31)) (30 : Int32) σ99 (fun r103 σ104 => wp_L_does_b278 x1 Q ((1 : Int32) + r103) r98 σ104)))) ∧ (r98 = (1 : Int32) → wp_L_low (x1 >>> ((6 : Int32) &&& 31)) (57 : Int32) σ99 (fun r105 σ106 => wp_L_does_b278 x1 Q ((4 : Int32) + r105) r98 σ106)))) ∧ (r98 = 0 → wp_L_low (x1 >>> ((6 : Int32) &&& 31)) (9 : Int32) σ99 (fun r107 σ108 => wp_L_does_b278 x1 Q ((1 : Int32) + r107) r98 σ108))))) ∧ (¬ (x1 &&& (15 : Int32)) = (11 : Int32) → wp_L_low (x1 >>> ((4 : Int32) &&& 31)) (4 : Int32) σ (fun r109 σ110 => wp_X5_run ((1 : Int32) + r109) σ110 (fun r111 σ112 => wp_L_mild r111 σ112 (fun r113 σ114 => Q r113 σ114)))))))))))))))))))))))))))
set_option maxRecDepth 100000 in
set_option maxHeartbeats 4000000 in
theorem c_L_does (l : Launch) (E : Ev) {x1 : Int32} {σ : Sg} {Q : Int32 → Sg → Prop} (hw : wp_L_does x1 σ Q) : CT l E yL_does cL_does 5 (some .int) 7 168 [.ref (ad E 11 10 0), .int x1] σ (QI E Q) := by
  refine CT_of (by decide) (Nat.le_of_ble_eq_true rfl) (fun X h1 h2 C => ?_)
  subst h1; subst h2
  have C : Cx X cL_does "SweetWrapsLaw" (some .int) 7 168 5 (QI (tE X) Q) := C
  show G X σ [(0, .ref (ad (tE X) 11 10 0)), (1, .int x1)] [] 0
  unfold wp_L_does at hw
  refine gx_iload_n C dL_does_0 1 rfl ?_
  refine gx_bipush (v := (15 : Int32)) C dL_does_1 (by decide) ?_
  refine gx_iand C dL_does_3 ?_
  by_cases c1 : (x1 &&& (15 : Int32)) = (0 : Int32)
  · replace hw := hw.1 c1
    refine gx_table (tgt := 68) (off := 64) C dL_does_4 (0 : Int32) c1 (by decide) (by decide) rfl (by decide) ?_
    refine gx_aload_n C dL_does_68 0 rfl ?_
    refine gx_iload_n C dL_does_69 1 rfl ?_
    refine gx_iconst (v := (4 : Int32)) C dL_does_70 (by decide) ?_
    refine gx_ishr C dL_does_71 ?_
    refine gx_iconst (v := (4 : Int32)) C dL_does_72 (by decide) ?_
    refine gx_scalli (As := [.int (x1 >>> ((4 : Int32) &&& 31)), .int (4 : Int32)]) (rest := [.ref (ad (tE X) 11 10 0)]) C (c_L_low _ _ hw) bw_181 bw_182 bw_0 bw_183 hyS_L_low ⟨by decide, by decide⟩ rfl (Nat.le_of_ble_eq_true rfl) dL_does_73 (fun r13 σ14 hw => ?_)
    refine gx_iload_n C dL_does_76 1 rfl ?_
    refine gx_bipush (v := (6 : Int32)) C dL_does_77 (by decide) ?_
    refine gx_ishr C dL_does_79 ?_
    refine gx_bipush (v := (6 : Int32)) C dL_does_80 (by decide) ?_
    refine gx_scalli (As := [.int (x1 >>> ((6 : Int32) &&& 31)), .int (6 : Int32)]) (rest := [.int r13, .ref (ad (tE X) 11 10 0)]) C (c_L_low _ _ hw) bw_181 bw_182 bw_0 bw_183 hyS_L_low ⟨by decide, by decide⟩ rfl (Nat.le_of_ble_eq_true rfl) dL_does_82 (fun r15 σ16 hw => ?_)
    refine gx_iconst (v := (1 : Int32)) C dL_does_85 (by decide) ?_
    refine gx_iload_n C dL_does_86 1 rfl ?_
    refine gx_bipush (v := (8 : Int32)) C dL_does_87 (by decide) ?_
    refine gx_ishr C dL_does_89 ?_
    refine gx_bipush (v := (30 : Int32)) C dL_does_90 (by decide) ?_
    refine gx_scalli (As := [.int (x1 >>> ((8 : Int32) &&& 31)), .int (30 : Int32)]) (rest := [.int (1 : Int32), .int r15, .int r13, .ref (ad (tE X) 11 10 0)]) C (c_L_low _ _ hw) bw_181 bw_182 bw_0 bw_183 hyS_L_low ⟨by decide, by decide⟩ rfl (Nat.le_of_ble_eq_true rfl) dL_does_92 (fun r17 σ18 hw => ?_)
    refine gx_iadd C dL_does_95 ?_
    refine gx_vcalli (As := [.int r13, .int r15, .int ((1 : Int32) + r17)]) (rest := []) C (c_X5_heap _ _ hw) okg_10 rfl rfl bw_188 bw_189 bw_190 bw_1 bw_191 hy_X5_heap ⟨by decide, by decide⟩ rfl (Nat.le_of_ble_eq_true rfl) dL_does_96 (fun r19 σ20 hw => ?_)
    refine gx_scalli (As := [.int r19]) (rest := []) C (c_L_mild _ _ hw) bw_251 bw_252 bw_0 bw_253 hyS_L_mild ⟨by decide, by decide⟩ rfl (Nat.le_of_ble_eq_true rfl) dL_does_99 (fun r21 σ22 hw => ?_)
    exact gx_iret C rfl rfl dL_does_102 hw
  · replace hw := hw.2 c1
    by_cases c2 : (x1 &&& (15 : Int32)) = (1 : Int32)
    · replace hw := hw.1 c2
      refine gx_table (tgt := 68) (off := 64) C dL_does_4 (1 : Int32) c2 (by decide) (by decide) rfl (by decide) ?_
      refine gx_aload_n C dL_does_68 0 rfl ?_
      refine gx_iload_n C dL_does_69 1 rfl ?_
      refine gx_iconst (v := (4 : Int32)) C dL_does_70 (by decide) ?_
      refine gx_ishr C dL_does_71 ?_
      refine gx_iconst (v := (4 : Int32)) C dL_does_72 (by decide) ?_
      refine gx_scalli (As := [.int (x1 >>> ((4 : Int32) &&& 31)), .int (4 : Int32)]) (rest := [.ref (ad (tE X) 11 10 0)]) C (c_L_low _ _ hw) bw_181 bw_182 bw_0 bw_183 hyS_L_low ⟨by decide, by decide⟩ rfl (Nat.le_of_ble_eq_true rfl) dL_does_73 (fun r23 σ24 hw => ?_)
      refine gx_iload_n C dL_does_76 1 rfl ?_
      refine gx_bipush (v := (6 : Int32)) C dL_does_77 (by decide) ?_
      refine gx_ishr C dL_does_79 ?_
      refine gx_bipush (v := (6 : Int32)) C dL_does_80 (by decide) ?_
      refine gx_scalli (As := [.int (x1 >>> ((6 : Int32) &&& 31)), .int (6 : Int32)]) (rest := [.int r23, .ref (ad (tE X) 11 10 0)]) C (c_L_low _ _ hw) bw_181 bw_182 bw_0 bw_183 hyS_L_low ⟨by decide, by decide⟩ rfl (Nat.le_of_ble_eq_true rfl) dL_does_82 (fun r25 σ26 hw => ?_)
      refine gx_iconst (v := (1 : Int32)) C dL_does_85 (by decide) ?_
      refine gx_iload_n C dL_does_86 1 rfl ?_
      refine gx_bipush (v := (8 : Int32)) C dL_does_87 (by decide) ?_
      refine gx_ishr C dL_does_89 ?_
      refine gx_bipush (v := (30 : Int32)) C dL_does_90 (by decide) ?_
      refine gx_scalli (As := [.int (x1 >>> ((8 : Int32) &&& 31)), .int (30 : Int32)]) (rest := [.int (1 : Int32), .int r25, .int r23, .ref (ad (tE X) 11 10 0)]) C (c_L_low _ _ hw) bw_181 bw_182 bw_0 bw_183 hyS_L_low ⟨by decide, by decide⟩ rfl (Nat.le_of_ble_eq_true rfl) dL_does_92 (fun r27 σ28 hw => ?_)
      refine gx_iadd C dL_does_95 ?_
      refine gx_vcalli (As := [.int r23, .int r25, .int ((1 : Int32) + r27)]) (rest := []) C (c_X5_heap _ _ hw) okg_10 rfl rfl bw_188 bw_189 bw_190 bw_1 bw_191 hy_X5_heap ⟨by decide, by decide⟩ rfl (Nat.le_of_ble_eq_true rfl) dL_does_96 (fun r29 σ30 hw => ?_)
      refine gx_scalli (As := [.int r29]) (rest := []) C (c_L_mild _ _ hw) bw_251 bw_252 bw_0 bw_253 hyS_L_mild ⟨by decide, by decide⟩ rfl (Nat.le_of_ble_eq_true rfl) dL_does_99 (fun r31 σ32 hw => ?_)
      exact gx_iret C rfl rfl dL_does_102 hw
    · replace hw := hw.2 c2
      by_cases c3 : (x1 &&& (15 : Int32)) = (2 : Int32)
      · replace hw := hw.1 c3
        refine gx_table (tgt := 68) (off := 64) C dL_does_4 (2 : Int32) c3 (by decide) (by decide) rfl (by decide) ?_
        refine gx_aload_n C dL_does_68 0 rfl ?_
        refine gx_iload_n C dL_does_69 1 rfl ?_
        refine gx_iconst (v := (4 : Int32)) C dL_does_70 (by decide) ?_
        refine gx_ishr C dL_does_71 ?_
        refine gx_iconst (v := (4 : Int32)) C dL_does_72 (by decide) ?_
        refine gx_scalli (As := [.int (x1 >>> ((4 : Int32) &&& 31)), .int (4 : Int32)]) (rest := [.ref (ad (tE X) 11 10 0)]) C (c_L_low _ _ hw) bw_181 bw_182 bw_0 bw_183 hyS_L_low ⟨by decide, by decide⟩ rfl (Nat.le_of_ble_eq_true rfl) dL_does_73 (fun r33 σ34 hw => ?_)
        refine gx_iload_n C dL_does_76 1 rfl ?_
        refine gx_bipush (v := (6 : Int32)) C dL_does_77 (by decide) ?_
        refine gx_ishr C dL_does_79 ?_
        refine gx_bipush (v := (6 : Int32)) C dL_does_80 (by decide) ?_
        refine gx_scalli (As := [.int (x1 >>> ((6 : Int32) &&& 31)), .int (6 : Int32)]) (rest := [.int r33, .ref (ad (tE X) 11 10 0)]) C (c_L_low _ _ hw) bw_181 bw_182 bw_0 bw_183 hyS_L_low ⟨by decide, by decide⟩ rfl (Nat.le_of_ble_eq_true rfl) dL_does_82 (fun r35 σ36 hw => ?_)
        refine gx_iconst (v := (1 : Int32)) C dL_does_85 (by decide) ?_
        refine gx_iload_n C dL_does_86 1 rfl ?_
        refine gx_bipush (v := (8 : Int32)) C dL_does_87 (by decide) ?_
        refine gx_ishr C dL_does_89 ?_
        refine gx_bipush (v := (30 : Int32)) C dL_does_90 (by decide) ?_
        refine gx_scalli (As := [.int (x1 >>> ((8 : Int32) &&& 31)), .int (30 : Int32)]) (rest := [.int (1 : Int32), .int r35, .int r33, .ref (ad (tE X) 11 10 0)]) C (c_L_low _ _ hw) bw_181 bw_182 bw_0 bw_183 hyS_L_low ⟨by decide, by decide⟩ rfl (Nat.le_of_ble_eq_true rfl) dL_does_92 (fun r37 σ38 hw => ?_)
        refine gx_iadd C dL_does_95 ?_
        refine gx_vcalli (As := [.int r33, .int r35, .int ((1 : Int32) + r37)]) (rest := []) C (c_X5_heap _ _ hw) okg_10 rfl rfl bw_188 bw_189 bw_190 bw_1 bw_191 hy_X5_heap ⟨by decide, by decide⟩ rfl (Nat.le_of_ble_eq_true rfl) dL_does_96 (fun r39 σ40 hw => ?_)
        refine gx_scalli (As := [.int r39]) (rest := []) C (c_L_mild _ _ hw) bw_251 bw_252 bw_0 bw_253 hyS_L_mild ⟨by decide, by decide⟩ rfl (Nat.le_of_ble_eq_true rfl) dL_does_99 (fun r41 σ42 hw => ?_)
        exact gx_iret C rfl rfl dL_does_102 hw
      · replace hw := hw.2 c3
        by_cases c4 : (x1 &&& (15 : Int32)) = (3 : Int32)
        · replace hw := hw.1 c4
          refine gx_table (tgt := 68) (off := 64) C dL_does_4 (3 : Int32) c4 (by decide) (by decide) rfl (by decide) ?_
          refine gx_aload_n C dL_does_68 0 rfl ?_
          refine gx_iload_n C dL_does_69 1 rfl ?_
          refine gx_iconst (v := (4 : Int32)) C dL_does_70 (by decide) ?_
          refine gx_ishr C dL_does_71 ?_
          refine gx_iconst (v := (4 : Int32)) C dL_does_72 (by decide) ?_
          refine gx_scalli (As := [.int (x1 >>> ((4 : Int32) &&& 31)), .int (4 : Int32)]) (rest := [.ref (ad (tE X) 11 10 0)]) C (c_L_low _ _ hw) bw_181 bw_182 bw_0 bw_183 hyS_L_low ⟨by decide, by decide⟩ rfl (Nat.le_of_ble_eq_true rfl) dL_does_73 (fun r43 σ44 hw => ?_)
          refine gx_iload_n C dL_does_76 1 rfl ?_
          refine gx_bipush (v := (6 : Int32)) C dL_does_77 (by decide) ?_
          refine gx_ishr C dL_does_79 ?_
          refine gx_bipush (v := (6 : Int32)) C dL_does_80 (by decide) ?_
          refine gx_scalli (As := [.int (x1 >>> ((6 : Int32) &&& 31)), .int (6 : Int32)]) (rest := [.int r43, .ref (ad (tE X) 11 10 0)]) C (c_L_low _ _ hw) bw_181 bw_182 bw_0 bw_183 hyS_L_low ⟨by decide, by decide⟩ rfl (Nat.le_of_ble_eq_true rfl) dL_does_82 (fun r45 σ46 hw => ?_)
          refine gx_iconst (v := (1 : Int32)) C dL_does_85 (by decide) ?_
          refine gx_iload_n C dL_does_86 1 rfl ?_
          refine gx_bipush (v := (8 : Int32)) C dL_does_87 (by decide) ?_
          refine gx_ishr C dL_does_89 ?_
          refine gx_bipush (v := (30 : Int32)) C dL_does_90 (by decide) ?_
          refine gx_scalli (As := [.int (x1 >>> ((8 : Int32) &&& 31)), .int (30 : Int32)]) (rest := [.int (1 : Int32), .int r45, .int r43, .ref (ad (tE X) 11 10 0)]) C (c_L_low _ _ hw) bw_181 bw_182 bw_0 bw_183 hyS_L_low ⟨by decide, by decide⟩ rfl (Nat.le_of_ble_eq_true rfl) dL_does_92 (fun r47 σ48 hw => ?_)
          refine gx_iadd C dL_does_95 ?_
          refine gx_vcalli (As := [.int r43, .int r45, .int ((1 : Int32) + r47)]) (rest := []) C (c_X5_heap _ _ hw) okg_10 rfl rfl bw_188 bw_189 bw_190 bw_1 bw_191 hy_X5_heap ⟨by decide, by decide⟩ rfl (Nat.le_of_ble_eq_true rfl) dL_does_96 (fun r49 σ50 hw => ?_)
          refine gx_scalli (As := [.int r49]) (rest := []) C (c_L_mild _ _ hw) bw_251 bw_252 bw_0 bw_253 hyS_L_mild ⟨by decide, by decide⟩ rfl (Nat.le_of_ble_eq_true rfl) dL_does_99 (fun r51 σ52 hw => ?_)
          exact gx_iret C rfl rfl dL_does_102 hw
        · replace hw := hw.2 c4
          by_cases c5 : (x1 &&& (15 : Int32)) = (4 : Int32)
          · replace hw := hw.1 c5
            refine gx_table (tgt := 103) (off := 99) C dL_does_4 (4 : Int32) c5 (by decide) (by decide) rfl (by decide) ?_
            refine gx_aload_n C dL_does_103 0 rfl ?_
            refine gx_iload_n C dL_does_104 1 rfl ?_
            refine gx_iconst (v := (4 : Int32)) C dL_does_105 (by decide) ?_
            refine gx_ishr C dL_does_106 ?_
            refine gx_iconst (v := (4 : Int32)) C dL_does_107 (by decide) ?_
            refine gx_scalli (As := [.int (x1 >>> ((4 : Int32) &&& 31)), .int (4 : Int32)]) (rest := [.ref (ad (tE X) 11 10 0)]) C (c_L_low _ _ hw) bw_181 bw_182 bw_0 bw_183 hyS_L_low ⟨by decide, by decide⟩ rfl (Nat.le_of_ble_eq_true rfl) dL_does_108 (fun r53 σ54 hw => ?_)
            refine gx_iconst (v := (1 : Int32)) C dL_does_111 (by decide) ?_
            refine gx_iload_n C dL_does_112 1 rfl ?_
            refine gx_bipush (v := (6 : Int32)) C dL_does_113 (by decide) ?_
            refine gx_ishr C dL_does_115 ?_
            refine gx_bipush (v := (120 : Int32)) C dL_does_116 (by decide) ?_
            refine gx_scalli (As := [.int (x1 >>> ((6 : Int32) &&& 31)), .int (120 : Int32)]) (rest := [.int (1 : Int32), .int r53, .ref (ad (tE X) 11 10 0)]) C (c_L_low _ _ hw) bw_181 bw_182 bw_0 bw_183 hyS_L_low ⟨by decide, by decide⟩ rfl (Nat.le_of_ble_eq_true rfl) dL_does_118 (fun r55 σ56 hw => ?_)
            refine gx_iadd C dL_does_121 ?_
            refine gx_vcalli (As := [.int r53, .int ((1 : Int32) + r55)]) (rest := []) C (c_X5_foil _ _ hw) okg_10 rfl rfl bw_254 bw_255 bw_256 bw_1 bw_257 hy_X5_foil ⟨by decide, by decide⟩ rfl (Nat.le_of_ble_eq_true rfl) dL_does_122 (fun r57 σ58 hw => ?_)
            refine gx_scalli (As := [.int r57]) (rest := []) C (c_L_mild _ _ hw) bw_251 bw_252 bw_0 bw_253 hyS_L_mild ⟨by decide, by decide⟩ rfl (Nat.le_of_ble_eq_true rfl) dL_does_125 (fun r59 σ60 hw => ?_)
            exact gx_iret C rfl rfl dL_does_128 hw
          · replace hw := hw.2 c5
            by_cases c6 : (x1 &&& (15 : Int32)) = (5 : Int32)
            · replace hw := hw.1 c6
              refine gx_table (tgt := 103) (off := 99) C dL_does_4 (5 : Int32) c6 (by decide) (by decide) rfl (by decide) ?_
              refine gx_aload_n C dL_does_103 0 rfl ?_
              refine gx_iload_n C dL_does_104 1 rfl ?_
              refine gx_iconst (v := (4 : Int32)) C dL_does_105 (by decide) ?_
              refine gx_ishr C dL_does_106 ?_
              refine gx_iconst (v := (4 : Int32)) C dL_does_107 (by decide) ?_
              refine gx_scalli (As := [.int (x1 >>> ((4 : Int32) &&& 31)), .int (4 : Int32)]) (rest := [.ref (ad (tE X) 11 10 0)]) C (c_L_low _ _ hw) bw_181 bw_182 bw_0 bw_183 hyS_L_low ⟨by decide, by decide⟩ rfl (Nat.le_of_ble_eq_true rfl) dL_does_108 (fun r61 σ62 hw => ?_)
              refine gx_iconst (v := (1 : Int32)) C dL_does_111 (by decide) ?_
              refine gx_iload_n C dL_does_112 1 rfl ?_
              refine gx_bipush (v := (6 : Int32)) C dL_does_113 (by decide) ?_
              refine gx_ishr C dL_does_115 ?_
              refine gx_bipush (v := (120 : Int32)) C dL_does_116 (by decide) ?_
              refine gx_scalli (As := [.int (x1 >>> ((6 : Int32) &&& 31)), .int (120 : Int32)]) (rest := [.int (1 : Int32), .int r61, .ref (ad (tE X) 11 10 0)]) C (c_L_low _ _ hw) bw_181 bw_182 bw_0 bw_183 hyS_L_low ⟨by decide, by decide⟩ rfl (Nat.le_of_ble_eq_true rfl) dL_does_118 (fun r63 σ64 hw => ?_)
              refine gx_iadd C dL_does_121 ?_
              refine gx_vcalli (As := [.int r61, .int ((1 : Int32) + r63)]) (rest := []) C (c_X5_foil _ _ hw) okg_10 rfl rfl bw_254 bw_255 bw_256 bw_1 bw_257 hy_X5_foil ⟨by decide, by decide⟩ rfl (Nat.le_of_ble_eq_true rfl) dL_does_122 (fun r65 σ66 hw => ?_)
              refine gx_scalli (As := [.int r65]) (rest := []) C (c_L_mild _ _ hw) bw_251 bw_252 bw_0 bw_253 hyS_L_mild ⟨by decide, by decide⟩ rfl (Nat.le_of_ble_eq_true rfl) dL_does_125 (fun r67 σ68 hw => ?_)
              exact gx_iret C rfl rfl dL_does_128 hw
            · replace hw := hw.2 c6
              by_cases c7 : (x1 &&& (15 : Int32)) = (6 : Int32)
              · replace hw := hw.1 c7
                refine gx_table (tgt := 129) (off := 125) C dL_does_4 (6 : Int32) c7 (by decide) (by decide) rfl (by decide) ?_
                refine gx_aload_n C dL_does_129 0 rfl ?_
                refine gx_vcalli (As := []) (rest := []) C (c_X5_tin _ _ hw) okg_10 rfl rfl bw_262 bw_263 bw_264 bw_1 bw_265 hy_X5_tin ⟨by decide, by decide⟩ rfl (Nat.le_of_ble_eq_true rfl) dL_does_130 (fun r69 σ70 hw => ?_)
                refine gx_scalli (As := [.int r69]) (rest := []) C (c_L_mild _ _ hw) bw_251 bw_252 bw_0 bw_253 hyS_L_mild ⟨by decide, by decide⟩ rfl (Nat.le_of_ble_eq_true rfl) dL_does_133 (fun r71 σ72 hw => ?_)
                exact gx_iret C rfl rfl dL_does_136 hw
              · replace hw := hw.2 c7
                by_cases c8 : (x1 &&& (15 : Int32)) = (7 : Int32)
                · replace hw := hw.1 c8
                  refine gx_table (tgt := 129) (off := 125) C dL_does_4 (7 : Int32) c8 (by decide) (by decide) rfl (by decide) ?_
                  refine gx_aload_n C dL_does_129 0 rfl ?_
                  refine gx_vcalli (As := []) (rest := []) C (c_X5_tin _ _ hw) okg_10 rfl rfl bw_262 bw_263 bw_264 bw_1 bw_265 hy_X5_tin ⟨by decide, by decide⟩ rfl (Nat.le_of_ble_eq_true rfl) dL_does_130 (fun r73 σ74 hw => ?_)
                  refine gx_scalli (As := [.int r73]) (rest := []) C (c_L_mild _ _ hw) bw_251 bw_252 bw_0 bw_253 hyS_L_mild ⟨by decide, by decide⟩ rfl (Nat.le_of_ble_eq_true rfl) dL_does_133 (fun r75 σ76 hw => ?_)
                  exact gx_iret C rfl rfl dL_does_136 hw
                · replace hw := hw.2 c8
                  by_cases c9 : (x1 &&& (15 : Int32)) = (8 : Int32)
                  · replace hw := hw.1 c9
                    refine gx_table (tgt := 129) (off := 125) C dL_does_4 (8 : Int32) c9 (by decide) (by decide) rfl (by decide) ?_
                    refine gx_aload_n C dL_does_129 0 rfl ?_
                    refine gx_vcalli (As := []) (rest := []) C (c_X5_tin _ _ hw) okg_10 rfl rfl bw_262 bw_263 bw_264 bw_1 bw_265 hy_X5_tin ⟨by decide, by decide⟩ rfl (Nat.le_of_ble_eq_true rfl) dL_does_130 (fun r77 σ78 hw => ?_)
                    refine gx_scalli (As := [.int r77]) (rest := []) C (c_L_mild _ _ hw) bw_251 bw_252 bw_0 bw_253 hyS_L_mild ⟨by decide, by decide⟩ rfl (Nat.le_of_ble_eq_true rfl) dL_does_133 (fun r79 σ80 hw => ?_)
                    exact gx_iret C rfl rfl dL_does_136 hw
                  · replace hw := hw.2 c9
                    by_cases c10 : (x1 &&& (15 : Int32)) = (9 : Int32)
                    · replace hw := hw.1 c10
                      refine gx_table (tgt := 137) (off := 133) C dL_does_4 (9 : Int32) c10 (by decide) (by decide) rfl (by decide) ?_
                      refine gx_aload_n C dL_does_137 0 rfl ?_
                      refine gx_iconst (v := (1 : Int32)) C dL_does_138 (by decide) ?_
                      refine gx_vcalli (As := [.int (1 : Int32)]) (rest := []) C (c_X5_count _ _ hw) okg_10 rfl rfl bw_270 bw_271 bw_272 bw_1 bw_273 hy_X5_count ⟨by decide, by decide⟩ rfl (Nat.le_of_ble_eq_true rfl) dL_does_139 (fun r81 σ82 hw => ?_)
                      refine gx_istore_n (lv' := [(2, .int r81), (0, .ref (ad (tE X) 11 10 0)), (1, .int x1)]) C dL_does_142 (by decide) rfl ?_
                      refine gx_iload_n C dL_does_143 0 rfl ?_
                      refine gx_if_ne (tgt := 151) C dL_does_144 (by decide) (fun c83 => ?_) (fun c83 => ?_)
                      · replace hw := hw.1 c83
                        refine gx_aload_n C dL_does_151 1 rfl ?_
                        refine gx_iload_n C dL_does_152 2 rfl ?_
                        refine gx_iconst (v := (4 : Int32)) C dL_does_153 (by decide) ?_
                        refine gx_ishr C dL_does_154 ?_
                        refine gx_iload_n C dL_does_155 0 rfl ?_
                        refine gx_scalli (As := [.int (x1 >>> ((4 : Int32) &&& 31)), .int r81]) (rest := [.ref (ad (tE X) 11 10 0)]) C (c_L_low _ _ hw) bw_181 bw_182 bw_0 bw_183 hyS_L_low ⟨by decide, by decide⟩ rfl (Nat.le_of_ble_eq_true rfl) dL_does_156 (fun r84 σ85 hw => ?_)
                        refine gx_vcalli (As := [.int r84]) (rest := []) C (c_X5_ship _ _ hw) okg_10 rfl rfl bw_331 bw_332 bw_333 bw_1 bw_334 hy_X5_ship ⟨by decide, by decide⟩ rfl (Nat.le_of_ble_eq_true rfl) dL_does_159 (fun r86 σ87 hw => ?_)
                        refine gx_scalli (As := [.int r86]) (rest := []) C (c_L_mild _ _ hw) bw_251 bw_252 bw_0 bw_253 hyS_L_mild ⟨by decide, by decide⟩ rfl (Nat.le_of_ble_eq_true rfl) dL_does_162 (fun r88 σ89 hw => ?_)
                        exact gx_iret C rfl rfl dL_does_165 hw
                      · replace hw := hw.2 c83
                        refine gx_iconst (v := (0 : Int32)) C dL_does_147 (by decide) ?_
                        refine gx_goto (tgt := 165) C dL_does_148 (by decide) ?_
                        exact gx_iret C rfl rfl dL_does_165 hw
                    · replace hw := hw.2 c10
                      by_cases c11 : (x1 &&& (15 : Int32)) = (10 : Int32)
                      · replace hw := hw.1 c11
                        refine gx_table (tgt := 166) (off := 162) C dL_does_4 (10 : Int32) c11 (by decide) (by decide) rfl (by decide) ?_
                        refine gx_iload_n C dL_does_166 1 rfl ?_
                        refine gx_iconst (v := (4 : Int32)) C dL_does_167 (by decide) ?_
                        refine gx_ishr C dL_does_168 ?_
                        refine gx_bipush (v := (6 : Int32)) C dL_does_169 (by decide) ?_
                        refine gx_scalli (As := [.int (x1 >>> ((4 : Int32) &&& 31)), .int (6 : Int32)]) (rest := []) C (c_L_low _ _ hw) bw_181 bw_182 bw_0 bw_183 hyS_L_low ⟨by decide, by decide⟩ rfl (Nat.le_of_ble_eq_true rfl) dL_does_171 (fun r90 σ91 hw => ?_)
                        refine gx_istore_n (lv' := [(3, .int r90), (0, .ref (ad (tE X) 11 10 0)), (1, .int x1)]) C dL_does_174 (by decide) rfl ?_
                        refine gx_aload_n C dL_does_175 1 rfl ?_
                        refine gx_iload_n C dL_does_176 0 rfl ?_
                        refine gx_iload_n C dL_does_177 0 rfl ?_
                        refine gx_iconst (v := (1 : Int32)) C dL_does_178 (by decide) ?_
                        refine gx_iadd C dL_does_179 ?_
                        refine gx_iload_n C dL_does_180 2 rfl ?_
                        refine gx_bipush (v := (7 : Int32)) C dL_does_181 (by decide) ?_
                        refine gx_ishr C dL_does_183 ?_
                        refine gx_iconst (v := (5 : Int32)) C dL_does_184 (by decide) ?_
                        refine gx_scalli (As := [.int (x1 >>> ((7 : Int32) &&& 31)), .int (5 : Int32)]) (rest := [.int (r90 + (1 : Int32)), .int r90, .ref (ad (tE X) 11 10 0)]) C (c_L_low _ _ hw) bw_181 bw_182 bw_0 bw_183 hyS_L_low ⟨by decide, by decide⟩ rfl (Nat.le_of_ble_eq_true rfl) dL_does_185 (fun r92 σ93 hw => ?_)
                        refine gx_iadd C dL_does_188 ?_
                        refine gx_bipush (v := (6 : Int32)) C dL_does_189 (by decide) ?_
                        refine gx_irem C dL_does_191 (by decide) ?_
                        refine gx_vcalli (As := [.int r90, .int (((r90 + (1 : Int32)) + r92) - ((r90 + (1 : Int32)) + r92) / (6 : Int32) * (6 : Int32))]) (rest := []) C (c_X5_apart _ _ hw) okg_10 rfl rfl bw_339 bw_340 bw_341 bw_1 bw_342 hy_X5_apart ⟨by decide, by decide⟩ rfl (Nat.le_of_ble_eq_true rfl) dL_does_192 (fun r94 σ95 hw => ?_)
                        refine gx_scalli (As := [.int r94]) (rest := []) C (c_L_mild _ _ hw) bw_251 bw_252 bw_0 bw_253 hyS_L_mild ⟨by decide, by decide⟩ rfl (Nat.le_of_ble_eq_true rfl) dL_does_195 (fun r96 σ97 hw => ?_)
                        exact gx_iret C rfl rfl dL_does_198 hw
                      · replace hw := hw.2 c11
                        by_cases c12 : (x1 &&& (15 : Int32)) = (11 : Int32)
                        · replace hw := hw.1 c12
                          refine gx_table (tgt := 199) (off := 195) C dL_does_4 (11 : Int32) c12 (by decide) (by decide) rfl (by decide) ?_
                          refine gx_iload_n C dL_does_199 1 rfl ?_
                          refine gx_iconst (v := (4 : Int32)) C dL_does_200 (by decide) ?_
                          refine gx_ishr C dL_does_201 ?_
                          refine gx_iconst (v := (4 : Int32)) C dL_does_202 (by decide) ?_
                          refine gx_scalli (As := [.int (x1 >>> ((4 : Int32) &&& 31)), .int (4 : Int32)]) (rest := []) C (c_L_low _ _ hw) bw_181 bw_182 bw_0 bw_183 hyS_L_low ⟨by decide, by decide⟩ rfl (Nat.le_of_ble_eq_true rfl) dL_does_203 (fun r98 σ99 hw => ?_)
                          refine gx_istore (lv' := [(4, .int r98), (0, .ref (ad (tE X) 11 10 0)), (1, .int x1)]) C dL_does_206 (by decide) rfl ?_
                          refine gx_aload_n C dL_does_208 1 rfl ?_
                          refine gx_iload C dL_does_209 0 rfl ?_
                          refine gx_iload C dL_does_211 0 rfl ?_
                          refine gx_if_ne (tgt := 230) C dL_does_213 (by decide) (fun c100 => ?_) (fun c100 => ?_)
                          · replace hw := hw.1 c100
                            refine gx_iload C dL_does_230 0 rfl ?_
                            refine gx_iconst (v := (1 : Int32)) C dL_does_232 (by decide) ?_
                            refine gx_icmp_ne (tgt := 250) C dL_does_233 (by decide) (fun c101 => ?_) (fun c101 => ?_)
                            · replace hw := hw.1 c101
                              refine gx_iload C dL_does_250 0 rfl ?_
                              refine gx_iconst (v := (2 : Int32)) C dL_does_252 (by decide) ?_
                              refine gx_icmp_ne (tgt := 270) C dL_does_253 (by decide) (fun c102 => ?_) (fun c102 => ?_)
                              · replace hw := hw.1 c102
                                refine gx_iconst (v := (1 : Int32)) C dL_does_270 (by decide) ?_
                                refine gx_iload_n C dL_does_271 2 rfl ?_
                                refine gx_bipush (v := (6 : Int32)) C dL_does_272 (by decide) ?_
                                refine gx_ishr C dL_does_274 ?_
                                refine gx_iconst (v := (1 : Int32)) C dL_does_275 (by decide) ?_
                                refine gx_iand C dL_does_276 ?_
                                refine gx_iadd C dL_does_277 ?_
                                refine gx_sub (lv' := []) [] rfl ?_
                                exact g_L_does_b278 C hw
                              · replace hw := hw.2 c102
                                refine gx_iconst (v := (1 : Int32)) C dL_does_256 (by decide) ?_
                                refine gx_iload_n C dL_does_257 2 rfl ?_
                                refine gx_bipush (v := (6 : Int32)) C dL_does_258 (by decide) ?_
                                refine gx_ishr C dL_does_260 ?_
                                refine gx_bipush (v := (30 : Int32)) C dL_does_261 (by decide) ?_
                                refine gx_scalli (As := [.int (x1 >>> ((6 : Int32) &&& 31)), .int (30 : Int32)]) (rest := [.int (1 : Int32), .int r98, .ref (ad (tE X) 11 10 0)]) C (c_L_low _ _ hw) bw_181 bw_182 bw_0 bw_183 hyS_L_low ⟨by decide, by decide⟩ rfl (Nat.le_of_ble_eq_true rfl) dL_does_263 (fun r103 σ104 hw => ?_)
                                refine gx_iadd C dL_does_266 ?_
                                refine gx_goto (tgt := 278) C dL_does_267 (by decide) ?_
                                refine gx_sub (lv' := []) [] rfl ?_
                                exact g_L_does_b278 C hw
                            · replace hw := hw.2 c101
                              refine gx_iconst (v := (4 : Int32)) C dL_does_236 (by decide) ?_
                              refine gx_iload_n C dL_does_237 2 rfl ?_
                              refine gx_bipush (v := (6 : Int32)) C dL_does_238 (by decide) ?_
                              refine gx_ishr C dL_does_240 ?_
                              refine gx_bipush (v := (57 : Int32)) C dL_does_241 (by decide) ?_
                              refine gx_scalli (As := [.int (x1 >>> ((6 : Int32) &&& 31)), .int (57 : Int32)]) (rest := [.int (4 : Int32), .int r98, .ref (ad (tE X) 11 10 0)]) C (c_L_low _ _ hw) bw_181 bw_182 bw_0 bw_183 hyS_L_low ⟨by decide, by decide⟩ rfl (Nat.le_of_ble_eq_true rfl) dL_does_243 (fun r105 σ106 hw => ?_)
                              refine gx_iadd C dL_does_246 ?_
                              refine gx_goto (tgt := 278) C dL_does_247 (by decide) ?_
                              refine gx_sub (lv' := []) [] rfl ?_
                              exact g_L_does_b278 C hw
                          · replace hw := hw.2 c100
                            refine gx_iconst (v := (1 : Int32)) C dL_does_216 (by decide) ?_
                            refine gx_iload_n C dL_does_217 2 rfl ?_
                            refine gx_bipush (v := (6 : Int32)) C dL_does_218 (by decide) ?_
                            refine gx_ishr C dL_does_220 ?_
                            refine gx_bipush (v := (9 : Int32)) C dL_does_221 (by decide) ?_
                            refine gx_scalli (As := [.int (x1 >>> ((6 : Int32) &&& 31)), .int (9 : Int32)]) (rest := [.int (1 : Int32), .int r98, .ref (ad (tE X) 11 10 0)]) C (c_L_low _ _ hw) bw_181 bw_182 bw_0 bw_183 hyS_L_low ⟨by decide, by decide⟩ rfl (Nat.le_of_ble_eq_true rfl) dL_does_223 (fun r107 σ108 hw => ?_)
                            refine gx_iadd C dL_does_226 ?_
                            refine gx_goto (tgt := 278) C dL_does_227 (by decide) ?_
                            refine gx_sub (lv' := []) [] rfl ?_
                            exact g_L_does_b278 C hw
                        · replace hw := hw.2 c12
                          refine gx_tableD (tgt := 282) C dL_does_4 (by decide) [((64 : Int), (0 : Nat)), ((64 : Int), (1 : Nat)), ((64 : Int), (2 : Nat)), ((64 : Int), (3 : Nat)), ((99 : Int), (4 : Nat)), ((99 : Int), (5 : Nat)), ((125 : Int), (6 : Nat)), ((125 : Int), (7 : Nat)), ((125 : Int), (8 : Nat)), ((133 : Int), (9 : Nat)), ((162 : Int), (10 : Nat)), ((195 : Int), (11 : Nat))] rfl (List.forall_mem_cons.mpr ⟨Or.inr ⟨(0 : Int32), c1, by decide⟩, List.forall_mem_cons.mpr ⟨Or.inr ⟨(1 : Int32), c2, by decide⟩, List.forall_mem_cons.mpr ⟨Or.inr ⟨(2 : Int32), c3, by decide⟩, List.forall_mem_cons.mpr ⟨Or.inr ⟨(3 : Int32), c4, by decide⟩, List.forall_mem_cons.mpr ⟨Or.inr ⟨(4 : Int32), c5, by decide⟩, List.forall_mem_cons.mpr ⟨Or.inr ⟨(5 : Int32), c6, by decide⟩, List.forall_mem_cons.mpr ⟨Or.inr ⟨(6 : Int32), c7, by decide⟩, List.forall_mem_cons.mpr ⟨Or.inr ⟨(7 : Int32), c8, by decide⟩, List.forall_mem_cons.mpr ⟨Or.inr ⟨(8 : Int32), c9, by decide⟩, List.forall_mem_cons.mpr ⟨Or.inr ⟨(9 : Int32), c10, by decide⟩, List.forall_mem_cons.mpr ⟨Or.inr ⟨(10 : Int32), c11, by decide⟩, List.forall_mem_cons.mpr ⟨Or.inr ⟨(11 : Int32), c12, by decide⟩, fun _ h => absurd h List.not_mem_nil⟩⟩⟩⟩⟩⟩⟩⟩⟩⟩⟩⟩) (by decide) ?_
                          refine gx_aload_n C dL_does_282 0 rfl ?_
                          refine gx_iconst (v := (1 : Int32)) C dL_does_283 (by decide) ?_
                          refine gx_iload_n C dL_does_284 1 rfl ?_
                          refine gx_iconst (v := (4 : Int32)) C dL_does_285 (by decide) ?_
                          refine gx_ishr C dL_does_286 ?_
                          refine gx_iconst (v := (4 : Int32)) C dL_does_287 (by decide) ?_
                          refine gx_scalli (As := [.int (x1 >>> ((4 : Int32) &&& 31)), .int (4 : Int32)]) (rest := [.int (1 : Int32), .ref (ad (tE X) 11 10 0)]) C (c_L_low _ _ hw) bw_181 bw_182 bw_0 bw_183 hyS_L_low ⟨by decide, by decide⟩ rfl (Nat.le_of_ble_eq_true rfl) dL_does_288 (fun r109 σ110 hw => ?_)
                          refine gx_iadd C dL_does_291 ?_
                          refine gx_vcalli (As := [.int ((1 : Int32) + r109)]) (rest := []) C (c_X5_run _ _ hw) okg_10 rfl rfl bw_371 bw_372 bw_373 bw_1 bw_374 hy_X5_run ⟨by decide, by decide⟩ rfl (Nat.le_of_ble_eq_true rfl) dL_does_292 (fun r111 σ112 hw => ?_)
                          refine gx_scalli (As := [.int r111]) (rest := []) C (c_L_mild _ _ hw) bw_251 bw_252 bw_0 bw_253 hyS_L_mild ⟨by decide, by decide⟩ rfl (Nat.le_of_ble_eq_true rfl) dL_does_295 (fun r113 σ114 hw => ?_)
                          exact gx_iret C rfl rfl dL_does_298 hw
theorem hyS_L_does : yL_does.cls ≠ "java/lang/invoke/MethodHandle" ∧ yL_does.cls ≠ "java/lang/invoke/VarHandle" ∧ (parseMethodDescriptor yL_does.desc).map (fun d => d.parameters.length) = some 2 := by decide +kernel

theorem dL_areTinsSo_0 : decode cL_areTinsSo 0 = .ok (.iconst 0, 1) := by decide +kernel
theorem dL_areTinsSo_1 : decode cL_areTinsSo 1 = .ok (.istore_n 1, 1) := by decide +kernel
theorem dL_areTinsSo_2 : decode cL_areTinsSo 2 = .ok (.iconst 0, 1) := by decide +kernel
theorem dL_areTinsSo_3 : decode cL_areTinsSo 3 = .ok (.istore_n 2, 1) := by decide +kernel
theorem dL_areTinsSo_4 : decode cL_areTinsSo 4 = .ok (.iconst 0, 1) := by decide +kernel
theorem dL_areTinsSo_5 : decode cL_areTinsSo 5 = .ok (.istore_n 3, 1) := by decide +kernel
theorem dL_areTinsSo_6 : decode cL_areTinsSo 6 = .ok (.iconst 1, 1) := by decide +kernel
theorem dL_areTinsSo_7 : decode cL_areTinsSo 7 = .ok (.istore 4, 2) := by decide +kernel
theorem dL_areTinsSo_9 : decode cL_areTinsSo 9 = .ok (.iconst 0, 1) := by decide +kernel
theorem dL_areTinsSo_10 : decode cL_areTinsSo 10 = .ok (.istore 5, 2) := by decide +kernel
theorem dL_areTinsSo_12 : decode cL_areTinsSo 12 = .ok (.iload 5, 2) := by decide +kernel
theorem dL_areTinsSo_14 : decode cL_areTinsSo 14 = .ok (.aload_n 0, 1) := by decide +kernel
theorem dL_areTinsSo_15 : decode cL_areTinsSo 15 = .ok (.iconst 1, 1) := by decide +kernel
theorem dL_areTinsSo_16 : decode cL_areTinsSo 16 = .ok (.invokevirtual 31, 3) := by decide +kernel
theorem dL_areTinsSo_19 : decode cL_areTinsSo 19 = .ok (.if_icmp .ge 290, 3) := by decide +kernel
theorem dL_areTinsSo_22 : decode cL_areTinsSo 22 = .ok (.iconst 0, 1) := by decide +kernel
theorem dL_areTinsSo_23 : decode cL_areTinsSo 23 = .ok (.istore 6, 2) := by decide +kernel
theorem dL_areTinsSo_25 : decode cL_areTinsSo 25 = .ok (.iconst 0, 1) := by decide +kernel
theorem dL_areTinsSo_26 : decode cL_areTinsSo 26 = .ok (.istore 7, 2) := by decide +kernel
theorem dL_areTinsSo_28 : decode cL_areTinsSo 28 = .ok (.aload_n 0, 1) := by decide +kernel
theorem dL_areTinsSo_29 : decode cL_areTinsSo 29 = .ok (.iload 5, 2) := by decide +kernel
theorem dL_areTinsSo_31 : decode cL_areTinsSo 31 = .ok (.iconst 1, 1) := by decide +kernel
theorem dL_areTinsSo_32 : decode cL_areTinsSo 32 = .ok (.invokevirtual 46, 3) := by decide +kernel
theorem dL_areTinsSo_35 : decode cL_areTinsSo 35 = .ok (.ifCond .ne 7, 3) := by decide +kernel
theorem dL_areTinsSo_38 : decode cL_areTinsSo 38 = .ok (.iconst 1, 1) := by decide +kernel
theorem dL_areTinsSo_39 : decode cL_areTinsSo 39 = .ok (.goto 4, 3) := by decide +kernel
theorem dL_areTinsSo_42 : decode cL_areTinsSo 42 = .ok (.iconst 0, 1) := by decide +kernel
theorem dL_areTinsSo_43 : decode cL_areTinsSo 43 = .ok (.istore 8, 2) := by decide +kernel
theorem dL_areTinsSo_45 : decode cL_areTinsSo 45 = .ok (.iconst 0, 1) := by decide +kernel
theorem dL_areTinsSo_46 : decode cL_areTinsSo 46 = .ok (.istore 9, 2) := by decide +kernel
theorem dL_areTinsSo_48 : decode cL_areTinsSo 48 = .ok (.iload 9, 2) := by decide +kernel
theorem dL_areTinsSo_50 : decode cL_areTinsSo 50 = .ok (.bipush 6, 2) := by decide +kernel
theorem dL_areTinsSo_52 : decode cL_areTinsSo 52 = .ok (.if_icmp .ge 44, 3) := by decide +kernel
theorem dL_areTinsSo_55 : decode cL_areTinsSo 55 = .ok (.aload_n 0, 1) := by decide +kernel
theorem dL_areTinsSo_56 : decode cL_areTinsSo 56 = .ok (.iload 5, 2) := by decide +kernel
theorem dL_areTinsSo_58 : decode cL_areTinsSo 58 = .ok (.iload 9, 2) := by decide +kernel
theorem dL_areTinsSo_60 : decode cL_areTinsSo 60 = .ok (.invokevirtual 49, 3) := by decide +kernel
theorem dL_areTinsSo_63 : decode cL_areTinsSo 63 = .ok (.istore 10, 2) := by decide +kernel
theorem dL_areTinsSo_65 : decode cL_areTinsSo 65 = .ok (.iload 6, 2) := by decide +kernel
theorem dL_areTinsSo_67 : decode cL_areTinsSo 67 = .ok (.iload 10, 2) := by decide +kernel
theorem dL_areTinsSo_69 : decode cL_areTinsSo 69 = .ok (.iadd, 1) := by decide +kernel
theorem dL_areTinsSo_70 : decode cL_areTinsSo 70 = .ok (.istore 6, 2) := by decide +kernel
theorem dL_areTinsSo_72 : decode cL_areTinsSo 72 = .ok (.iload 7, 2) := by decide +kernel
theorem dL_areTinsSo_74 : decode cL_areTinsSo 74 = .ok (.iload 10, 2) := by decide +kernel
theorem dL_areTinsSo_76 : decode cL_areTinsSo 76 = .ok (.ifCond .le 10, 3) := by decide +kernel
theorem dL_areTinsSo_79 : decode cL_areTinsSo 79 = .ok (.iconst 1, 1) := by decide +kernel
theorem dL_areTinsSo_80 : decode cL_areTinsSo 80 = .ok (.iload 9, 2) := by decide +kernel
theorem dL_areTinsSo_82 : decode cL_areTinsSo 82 = .ok (.ishl, 1) := by decide +kernel
theorem dL_areTinsSo_83 : decode cL_areTinsSo 83 = .ok (.goto 4, 3) := by decide +kernel
theorem dL_areTinsSo_86 : decode cL_areTinsSo 86 = .ok (.iconst 0, 1) := by decide +kernel
theorem dL_areTinsSo_87 : decode cL_areTinsSo 87 = .ok (.ior, 1) := by decide +kernel
theorem dL_areTinsSo_88 : decode cL_areTinsSo 88 = .ok (.istore 7, 2) := by decide +kernel
theorem dL_areTinsSo_90 : decode cL_areTinsSo 90 = .ok (.iinc 9 1, 3) := by decide +kernel
theorem dL_areTinsSo_93 : decode cL_areTinsSo 93 = .ok (.goto (-45), 3) := by decide +kernel
theorem dL_areTinsSo_96 : decode cL_areTinsSo 96 = .ok (.iconst 0, 1) := by decide +kernel
theorem dL_areTinsSo_97 : decode cL_areTinsSo 97 = .ok (.istore 9, 2) := by decide +kernel
theorem dL_areTinsSo_99 : decode cL_areTinsSo 99 = .ok (.iconst 0, 1) := by decide +kernel
theorem dL_areTinsSo_100 : decode cL_areTinsSo 100 = .ok (.istore 10, 2) := by decide +kernel
theorem dL_areTinsSo_102 : decode cL_areTinsSo 102 = .ok (.iload 10, 2) := by decide +kernel
theorem dL_areTinsSo_104 : decode cL_areTinsSo 104 = .ok (.bipush 6, 2) := by decide +kernel
theorem dL_areTinsSo_106 : decode cL_areTinsSo 106 = .ok (.if_icmp .ge 104, 3) := by decide +kernel
theorem dL_areTinsSo_109 : decode cL_areTinsSo 109 = .ok (.iload 7, 2) := by decide +kernel
theorem dL_areTinsSo_111 : decode cL_areTinsSo 111 = .ok (.iload 10, 2) := by decide +kernel
theorem dL_areTinsSo_113 : decode cL_areTinsSo 113 = .ok (.ishr, 1) := by decide +kernel
theorem dL_areTinsSo_114 : decode cL_areTinsSo 114 = .ok (.iconst 1, 1) := by decide +kernel
theorem dL_areTinsSo_115 : decode cL_areTinsSo 115 = .ok (.iand, 1) := by decide +kernel
theorem dL_areTinsSo_116 : decode cL_areTinsSo 116 = .ok (.iconst 1, 1) := by decide +kernel
theorem dL_areTinsSo_117 : decode cL_areTinsSo 117 = .ok (.if_icmp .ne 20, 3) := by decide +kernel
theorem dL_areTinsSo_120 : decode cL_areTinsSo 120 = .ok (.aload_n 0, 1) := by decide +kernel
theorem dL_areTinsSo_121 : decode cL_areTinsSo 121 = .ok (.iload 10, 2) := by decide +kernel
theorem dL_areTinsSo_123 : decode cL_areTinsSo 123 = .ok (.iconst 3, 1) := by decide +kernel
theorem dL_areTinsSo_124 : decode cL_areTinsSo 124 = .ok (.invokevirtual 52, 3) := by decide +kernel
theorem dL_areTinsSo_127 : decode cL_areTinsSo 127 = .ok (.iload 7, 2) := by decide +kernel
theorem dL_areTinsSo_129 : decode cL_areTinsSo 129 = .ok (.iand, 1) := by decide +kernel
theorem dL_areTinsSo_130 : decode cL_areTinsSo 130 = .ok (.ifCond .eq 7, 3) := by decide +kernel
theorem dL_areTinsSo_133 : decode cL_areTinsSo 133 = .ok (.iconst 1, 1) := by decide +kernel
theorem dL_areTinsSo_134 : decode cL_areTinsSo 134 = .ok (.goto 4, 3) := by decide +kernel
theorem dL_areTinsSo_137 : decode cL_areTinsSo 137 = .ok (.iconst 0, 1) := by decide +kernel
theorem dL_areTinsSo_138 : decode cL_areTinsSo 138 = .ok (.istore 11, 2) := by decide +kernel
theorem dL_areTinsSo_140 : decode cL_areTinsSo 140 = .ok (.iload 4, 2) := by decide +kernel
theorem dL_areTinsSo_142 : decode cL_areTinsSo 142 = .ok (.ifCond .eq 17, 3) := by decide +kernel
theorem dL_areTinsSo_145 : decode cL_areTinsSo 145 = .ok (.iload 8, 2) := by decide +kernel
theorem dL_areTinsSo_147 : decode cL_areTinsSo 147 = .ok (.ifCond .eq 8, 3) := by decide +kernel
theorem dL_areTinsSo_150 : decode cL_areTinsSo 150 = .ok (.iload 11, 2) := by decide +kernel
theorem dL_areTinsSo_152 : decode cL_areTinsSo 152 = .ok (.ifCond .ne 7, 3) := by decide +kernel
theorem dL_areTinsSo_155 : decode cL_areTinsSo 155 = .ok (.iconst 1, 1) := by decide +kernel
theorem dL_areTinsSo_156 : decode cL_areTinsSo 156 = .ok (.goto 4, 3) := by decide +kernel
theorem dL_areTinsSo_159 : decode cL_areTinsSo 159 = .ok (.iconst 0, 1) := by decide +kernel
theorem dL_areTinsSo_160 : decode cL_areTinsSo 160 = .ok (.istore 4, 2) := by decide +kernel
theorem dL_areTinsSo_162 : decode cL_areTinsSo 162 = .ok (.iload 9, 2) := by decide +kernel
theorem dL_areTinsSo_164 : decode cL_areTinsSo 164 = .ok (.iload 8, 2) := by decide +kernel
theorem dL_areTinsSo_166 : decode cL_areTinsSo 166 = .ok (.ifCond .eq 34, 3) := by decide +kernel
theorem dL_areTinsSo_169 : decode cL_areTinsSo 169 = .ok (.iload 6, 2) := by decide +kernel
theorem dL_areTinsSo_171 : decode cL_areTinsSo 171 = .ok (.aload_n 0, 1) := by decide +kernel
theorem dL_areTinsSo_172 : decode cL_areTinsSo 172 = .ok (.bipush 13, 2) := by decide +kernel
theorem dL_areTinsSo_174 : decode cL_areTinsSo 174 = .ok (.invokevirtual 31, 3) := by decide +kernel
theorem dL_areTinsSo_177 : decode cL_areTinsSo 177 = .ok (.if_icmp .ge 23, 3) := by decide +kernel
theorem dL_areTinsSo_180 : decode cL_areTinsSo 180 = .ok (.aload_n 0, 1) := by decide +kernel
theorem dL_areTinsSo_181 : decode cL_areTinsSo 181 = .ok (.iload 10, 2) := by decide +kernel
theorem dL_areTinsSo_183 : decode cL_areTinsSo 183 = .ok (.iconst 3, 1) := by decide +kernel
theorem dL_areTinsSo_184 : decode cL_areTinsSo 184 = .ok (.invokevirtual 52, 3) := by decide +kernel
theorem dL_areTinsSo_187 : decode cL_areTinsSo 187 = .ok (.iload 7, 2) := by decide +kernel
theorem dL_areTinsSo_189 : decode cL_areTinsSo 189 = .ok (.iand, 1) := by decide +kernel
theorem dL_areTinsSo_190 : decode cL_areTinsSo 190 = .ok (.ifCond .ne 10, 3) := by decide +kernel
theorem dL_areTinsSo_193 : decode cL_areTinsSo 193 = .ok (.iconst 1, 1) := by decide +kernel
theorem dL_areTinsSo_194 : decode cL_areTinsSo 194 = .ok (.iload 10, 2) := by decide +kernel
theorem dL_areTinsSo_196 : decode cL_areTinsSo 196 = .ok (.ishl, 1) := by decide +kernel
theorem dL_areTinsSo_197 : decode cL_areTinsSo 197 = .ok (.goto 4, 3) := by decide +kernel
theorem dL_areTinsSo_200 : decode cL_areTinsSo 200 = .ok (.iconst 0, 1) := by decide +kernel
theorem dL_areTinsSo_201 : decode cL_areTinsSo 201 = .ok (.ior, 1) := by decide +kernel
theorem dL_areTinsSo_202 : decode cL_areTinsSo 202 = .ok (.istore 9, 2) := by decide +kernel
theorem dL_areTinsSo_204 : decode cL_areTinsSo 204 = .ok (.iinc 10 1, 3) := by decide +kernel
theorem dL_areTinsSo_207 : decode cL_areTinsSo 207 = .ok (.goto (-105), 3) := by decide +kernel
theorem dL_areTinsSo_210 : decode cL_areTinsSo 210 = .ok (.iload_n 1, 1) := by decide +kernel
theorem dL_areTinsSo_211 : decode cL_areTinsSo 211 = .ok (.iload 6, 2) := by decide +kernel
theorem dL_areTinsSo_213 : decode cL_areTinsSo 213 = .ok (.iadd, 1) := by decide +kernel
theorem dL_areTinsSo_214 : decode cL_areTinsSo 214 = .ok (.istore_n 1, 1) := by decide +kernel
theorem dL_areTinsSo_215 : decode cL_areTinsSo 215 = .ok (.iload_n 2, 1) := by decide +kernel
theorem dL_areTinsSo_216 : decode cL_areTinsSo 216 = .ok (.iload 8, 2) := by decide +kernel
theorem dL_areTinsSo_218 : decode cL_areTinsSo 218 = .ok (.ifCond .eq 7, 3) := by decide +kernel
theorem dL_areTinsSo_221 : decode cL_areTinsSo 221 = .ok (.iconst 0, 1) := by decide +kernel
theorem dL_areTinsSo_222 : decode cL_areTinsSo 222 = .ok (.goto 5, 3) := by decide +kernel
theorem dL_areTinsSo_225 : decode cL_areTinsSo 225 = .ok (.iload 6, 2) := by decide +kernel
theorem dL_areTinsSo_227 : decode cL_areTinsSo 227 = .ok (.iadd, 1) := by decide +kernel
theorem dL_areTinsSo_228 : decode cL_areTinsSo 228 = .ok (.istore_n 2, 1) := by decide +kernel
theorem dL_areTinsSo_229 : decode cL_areTinsSo 229 = .ok (.iload_n 3, 1) := by decide +kernel
theorem dL_areTinsSo_230 : decode cL_areTinsSo 230 = .ok (.iload 8, 2) := by decide +kernel
theorem dL_areTinsSo_232 : decode cL_areTinsSo 232 = .ok (.ifCond .eq 10, 3) := by decide +kernel
theorem dL_areTinsSo_235 : decode cL_areTinsSo 235 = .ok (.iconst 1, 1) := by decide +kernel
theorem dL_areTinsSo_236 : decode cL_areTinsSo 236 = .ok (.iload 5, 2) := by decide +kernel
theorem dL_areTinsSo_238 : decode cL_areTinsSo 238 = .ok (.ishl, 1) := by decide +kernel
theorem dL_areTinsSo_239 : decode cL_areTinsSo 239 = .ok (.goto 4, 3) := by decide +kernel
theorem dL_areTinsSo_242 : decode cL_areTinsSo 242 = .ok (.iconst 0, 1) := by decide +kernel
theorem dL_areTinsSo_243 : decode cL_areTinsSo 243 = .ok (.ior, 1) := by decide +kernel
theorem dL_areTinsSo_244 : decode cL_areTinsSo 244 = .ok (.istore_n 3, 1) := by decide +kernel
theorem dL_areTinsSo_245 : decode cL_areTinsSo 245 = .ok (.iload 4, 2) := by decide +kernel
theorem dL_areTinsSo_247 : decode cL_areTinsSo 247 = .ok (.ifCond .eq 53, 3) := by decide +kernel
theorem dL_areTinsSo_250 : decode cL_areTinsSo 250 = .ok (.aload_n 0, 1) := by decide +kernel
theorem dL_areTinsSo_251 : decode cL_areTinsSo 251 = .ok (.iload 5, 2) := by decide +kernel
theorem dL_areTinsSo_253 : decode cL_areTinsSo 253 = .ok (.iconst 0, 1) := by decide +kernel
theorem dL_areTinsSo_254 : decode cL_areTinsSo 254 = .ok (.invokevirtual 46, 3) := by decide +kernel
theorem dL_areTinsSo_257 : decode cL_areTinsSo 257 = .ok (.iload 6, 2) := by decide +kernel
theorem dL_areTinsSo_259 : decode cL_areTinsSo 259 = .ok (.if_icmp .ne 41, 3) := by decide +kernel
theorem dL_areTinsSo_262 : decode cL_areTinsSo 262 = .ok (.aload_n 0, 1) := by decide +kernel
theorem dL_areTinsSo_263 : decode cL_areTinsSo 263 = .ok (.iload 5, 2) := by decide +kernel
theorem dL_areTinsSo_265 : decode cL_areTinsSo 265 = .ok (.iconst 2, 1) := by decide +kernel
theorem dL_areTinsSo_266 : decode cL_areTinsSo 266 = .ok (.invokevirtual 46, 3) := by decide +kernel
theorem dL_areTinsSo_269 : decode cL_areTinsSo 269 = .ok (.iload 7, 2) := by decide +kernel
theorem dL_areTinsSo_271 : decode cL_areTinsSo 271 = .ok (.if_icmp .ne 29, 3) := by decide +kernel
theorem dL_areTinsSo_274 : decode cL_areTinsSo 274 = .ok (.aload_n 0, 1) := by decide +kernel
theorem dL_areTinsSo_275 : decode cL_areTinsSo 275 = .ok (.iload 5, 2) := by decide +kernel
theorem dL_areTinsSo_277 : decode cL_areTinsSo 277 = .ok (.iconst 3, 1) := by decide +kernel
theorem dL_areTinsSo_278 : decode cL_areTinsSo 278 = .ok (.invokevirtual 46, 3) := by decide +kernel
theorem dL_areTinsSo_281 : decode cL_areTinsSo 281 = .ok (.iload 9, 2) := by decide +kernel
theorem dL_areTinsSo_283 : decode cL_areTinsSo 283 = .ok (.if_icmp .ne 17, 3) := by decide +kernel
theorem dL_areTinsSo_286 : decode cL_areTinsSo 286 = .ok (.iload 8, 2) := by decide +kernel
theorem dL_areTinsSo_288 : decode cL_areTinsSo 288 = .ok (.ifCond .ne 8, 3) := by decide +kernel
theorem dL_areTinsSo_291 : decode cL_areTinsSo 291 = .ok (.iload 6, 2) := by decide +kernel
theorem dL_areTinsSo_293 : decode cL_areTinsSo 293 = .ok (.ifCond .le 7, 3) := by decide +kernel
theorem dL_areTinsSo_296 : decode cL_areTinsSo 296 = .ok (.iconst 1, 1) := by decide +kernel
theorem dL_areTinsSo_297 : decode cL_areTinsSo 297 = .ok (.goto 4, 3) := by decide +kernel
theorem dL_areTinsSo_300 : decode cL_areTinsSo 300 = .ok (.iconst 0, 1) := by decide +kernel
theorem dL_areTinsSo_301 : decode cL_areTinsSo 301 = .ok (.istore 4, 2) := by decide +kernel
theorem dL_areTinsSo_303 : decode cL_areTinsSo 303 = .ok (.iinc 5 1, 3) := by decide +kernel
theorem dL_areTinsSo_306 : decode cL_areTinsSo 306 = .ok (.goto (-294), 3) := by decide +kernel
theorem dL_areTinsSo_309 : decode cL_areTinsSo 309 = .ok (.iload 4, 2) := by decide +kernel
theorem dL_areTinsSo_311 : decode cL_areTinsSo 311 = .ok (.ifCond .eq 45, 3) := by decide +kernel
theorem dL_areTinsSo_314 : decode cL_areTinsSo 314 = .ok (.iload_n 1, 1) := by decide +kernel
theorem dL_areTinsSo_315 : decode cL_areTinsSo 315 = .ok (.aload_n 0, 1) := by decide +kernel
theorem dL_areTinsSo_316 : decode cL_areTinsSo 316 = .ok (.iconst 5, 1) := by decide +kernel
theorem dL_areTinsSo_317 : decode cL_areTinsSo 317 = .ok (.invokevirtual 31, 3) := by decide +kernel
theorem dL_areTinsSo_320 : decode cL_areTinsSo 320 = .ok (.if_icmp .ne 36, 3) := by decide +kernel
theorem dL_areTinsSo_323 : decode cL_areTinsSo 323 = .ok (.iload_n 2, 1) := by decide +kernel
theorem dL_areTinsSo_324 : decode cL_areTinsSo 324 = .ok (.aload_n 0, 1) := by decide +kernel
theorem dL_areTinsSo_325 : decode cL_areTinsSo 325 = .ok (.bipush 6, 2) := by decide +kernel
theorem dL_areTinsSo_327 : decode cL_areTinsSo 327 = .ok (.invokevirtual 31, 3) := by decide +kernel
theorem dL_areTinsSo_330 : decode cL_areTinsSo 330 = .ok (.if_icmp .ne 26, 3) := by decide +kernel
theorem dL_areTinsSo_333 : decode cL_areTinsSo 333 = .ok (.aload_n 0, 1) := by decide +kernel
theorem dL_areTinsSo_334 : decode cL_areTinsSo 334 = .ok (.iconst 2, 1) := by decide +kernel
theorem dL_areTinsSo_335 : decode cL_areTinsSo 335 = .ok (.invokevirtual 31, 3) := by decide +kernel
theorem dL_areTinsSo_338 : decode cL_areTinsSo 338 = .ok (.iload_n 3, 1) := by decide +kernel
theorem dL_areTinsSo_339 : decode cL_areTinsSo 339 = .ok (.if_icmp .ne 17, 3) := by decide +kernel
theorem dL_areTinsSo_342 : decode cL_areTinsSo 342 = .ok (.aload_n 0, 1) := by decide +kernel
theorem dL_areTinsSo_343 : decode cL_areTinsSo 343 = .ok (.iconst 3, 1) := by decide +kernel
theorem dL_areTinsSo_344 : decode cL_areTinsSo 344 = .ok (.invokevirtual 31, 3) := by decide +kernel
theorem dL_areTinsSo_347 : decode cL_areTinsSo 347 = .ok (.iload_n 3, 1) := by decide +kernel
theorem dL_areTinsSo_348 : decode cL_areTinsSo 348 = .ok (.iand, 1) := by decide +kernel
theorem dL_areTinsSo_349 : decode cL_areTinsSo 349 = .ok (.ifCond .ne 7, 3) := by decide +kernel
theorem dL_areTinsSo_352 : decode cL_areTinsSo 352 = .ok (.iconst 1, 1) := by decide +kernel
theorem dL_areTinsSo_353 : decode cL_areTinsSo 353 = .ok (.goto 4, 3) := by decide +kernel
theorem dL_areTinsSo_356 : decode cL_areTinsSo 356 = .ok (.iconst 0, 1) := by decide +kernel
theorem dL_areTinsSo_357 : decode cL_areTinsSo 357 = .ok (.ireturn, 1) := by decide +kernel
def wp_L_areTinsSo_b301 (K12 : Int32 → Int32 → Int32 → Int32 → Int32 → Sg → Prop) (Q : Int32 → Sg → Prop) (v1 : Int32) (v2 : Int32) (v3 : Int32) (v5 : Int32) (s0 : Int32) (σ : Sg) : Prop := ∀ z47 : Int32, z47 = v5 + (1 : Int32) → K12 v1 v2 v3 s0 z47 σ
set_option maxRecDepth 100000 in
set_option maxHeartbeats 4000000 in
theorem g_L_areTinsSo_b301 {X : Tx} {Q : Int32 → Sg → Prop} (C : Cx X cL_areTinsSo "SweetWrapsLaw" (some .boolean) 7 153 12 (QI (tE X) Q)) {K12 : Int32 → Int32 → Int32 → Int32 → Int32 → Sg → Prop} (hK12 : ∀ (v1 : Int32) (v2 : Int32) (v3 : Int32) (v4 : Int32) (v5 : Int32) (σ : Sg), K12 v1 v2 v3 v4 v5 σ → G X σ [(0, .ref (ad (tE X) 11 10 0)), (1, .int v1), (2, .int v2), (3, .int v3), (4, .int v4), (5, .int v5)] [] 12) {v1 : Int32} {v2 : Int32} {v3 : Int32} {v5 : Int32} {s0 : Int32} {σ : Sg} (hw : wp_L_areTinsSo_b301 K12 Q v1 v2 v3 v5 s0 σ) : G X σ [(0, .ref (ad (tE X) 11 10 0)), (1, .int v1), (2, .int v2), (3, .int v3), (5, .int v5)] [.int s0] 301 := by
  unfold wp_L_areTinsSo_b301 at hw
  refine gx_istore (lv' := [(4, .int s0), (0, .ref (ad (tE X) 11 10 0)), (1, .int v1), (2, .int v2), (3, .int v3), (5, .int v5)]) C dL_areTinsSo_301 (by decide) rfl ?_
  obtain ⟨z47, e_z47⟩ : ∃ z : Int32, z = v5 + (1 : Int32) := ⟨_, rfl⟩
  replace hw := hw z47 e_z47
  refine gx_iinc (v := z47) (lv' := [(5, .int z47), (4, .int s0), (0, .ref (ad (tE X) 11 10 0)), (1, .int v1), (2, .int v2), (3, .int v3)]) C dL_areTinsSo_303 5 rfl (by rw [e_z47]; rfl) (by decide) rfl ?_
  refine gx_goto (tgt := 12) C dL_areTinsSo_306 (by decide) ?_
  refine gx_sub (lv' := [(0, .ref (ad (tE X) 11 10 0)), (1, .int v1), (2, .int v2), (3, .int v3), (4, .int s0), (5, .int z47)]) [2, 3, 4, 5, 1, 0] rfl ?_
  exact hK12 _ _ _ _ _ _ hw
def wp_L_areTinsSo_b300 (K12 : Int32 → Int32 → Int32 → Int32 → Int32 → Sg → Prop) (Q : Int32 → Sg → Prop) (v1 : Int32) (v2 : Int32) (v3 : Int32) (v5 : Int32) (σ : Sg) : Prop := wp_L_areTinsSo_b301 K12 Q v1 v2 v3 v5 (0 : Int32) σ
set_option maxRecDepth 100000 in
set_option maxHeartbeats 4000000 in
theorem g_L_areTinsSo_b300 {X : Tx} {Q : Int32 → Sg → Prop} (C : Cx X cL_areTinsSo "SweetWrapsLaw" (some .boolean) 7 153 12 (QI (tE X) Q)) {K12 : Int32 → Int32 → Int32 → Int32 → Int32 → Sg → Prop} (hK12 : ∀ (v1 : Int32) (v2 : Int32) (v3 : Int32) (v4 : Int32) (v5 : Int32) (σ : Sg), K12 v1 v2 v3 v4 v5 σ → G X σ [(0, .ref (ad (tE X) 11 10 0)), (1, .int v1), (2, .int v2), (3, .int v3), (4, .int v4), (5, .int v5)] [] 12) {v1 : Int32} {v2 : Int32} {v3 : Int32} {v5 : Int32} {σ : Sg} (hw : wp_L_areTinsSo_b300 K12 Q v1 v2 v3 v5 σ) : G X σ [(0, .ref (ad (tE X) 11 10 0)), (1, .int v1), (2, .int v2), (3, .int v3), (5, .int v5)] [] 300 := by
  unfold wp_L_areTinsSo_b300 at hw
  refine gx_iconst (v := (0 : Int32)) C dL_areTinsSo_300 (by decide) ?_
  exact g_L_areTinsSo_b301 C hK12 hw
def wp_L_areTinsSo_b296 (K12 : Int32 → Int32 → Int32 → Int32 → Int32 → Sg → Prop) (Q : Int32 → Sg → Prop) (v1 : Int32) (v2 : Int32) (v3 : Int32) (v5 : Int32) (σ : Sg) : Prop := wp_L_areTinsSo_b301 K12 Q v1 v2 v3 v5 (1 : Int32) σ
set_option maxRecDepth 100000 in
set_option maxHeartbeats 4000000 in
theorem g_L_areTinsSo_b296 {X : Tx} {Q : Int32 → Sg → Prop} (C : Cx X cL_areTinsSo "SweetWrapsLaw" (some .boolean) 7 153 12 (QI (tE X) Q)) {K12 : Int32 → Int32 → Int32 → Int32 → Int32 → Sg → Prop} (hK12 : ∀ (v1 : Int32) (v2 : Int32) (v3 : Int32) (v4 : Int32) (v5 : Int32) (σ : Sg), K12 v1 v2 v3 v4 v5 σ → G X σ [(0, .ref (ad (tE X) 11 10 0)), (1, .int v1), (2, .int v2), (3, .int v3), (4, .int v4), (5, .int v5)] [] 12) {v1 : Int32} {v2 : Int32} {v3 : Int32} {v5 : Int32} {σ : Sg} (hw : wp_L_areTinsSo_b296 K12 Q v1 v2 v3 v5 σ) : G X σ [(0, .ref (ad (tE X) 11 10 0)), (1, .int v1), (2, .int v2), (3, .int v3), (5, .int v5)] [] 296 := by
  unfold wp_L_areTinsSo_b296 at hw
  refine gx_iconst (v := (1 : Int32)) C dL_areTinsSo_296 (by decide) ?_
  refine gx_goto (tgt := 301) C dL_areTinsSo_297 (by decide) ?_
  exact g_L_areTinsSo_b301 C hK12 hw
def wp_L_areTinsSo_b243 (K12 : Int32 → Int32 → Int32 → Int32 → Int32 → Sg → Prop) (Q : Int32 → Sg → Prop) (v1 : Int32) (v2 : Int32) (v4 : Int32) (v5 : Int32) (v6 : Int32) (v7 : Int32) (v8 : Int32) (v9 : Int32) (s0 : Int32) (s1 : Int32) (σ : Sg) : Prop := ∀ z34 : Int32, z34 = (s1 ||| s0) → ((v4 = 0 → wp_L_areTinsSo_b300 K12 Q v1 v2 z34 v5 σ) ∧ (¬ v4 = 0 → wp_X5_ofTin v5 (0 : Int32) σ (fun r36 σ37 => ((¬ r36 = v6 → wp_L_areTinsSo_b300 K12 Q v1 v2 z34 v5 σ37) ∧ (r36 = v6 → wp_X5_ofTin v5 (2 : Int32) σ37 (fun r39 σ40 => ((¬ r39 = v7 → wp_L_areTinsSo_b300 K12 Q v1 v2 z34 v5 σ40) ∧ (r39 = v7 → wp_X5_ofTin v5 (3 : Int32) σ40 (fun r42 σ43 => ((¬ r42 = v9 → wp_L_areTinsSo_b300 K12 Q v1 v2 z34 v5 σ43) ∧ (r42 = v9 → ((¬ v8 = 0 → wp_L_areTinsSo_b296 K12 Q v1 v2 z34 v5 σ43) ∧ (v8 = 0 → ((v6 ≤ 0 → wp_L_areTinsSo_b300 K12 Q v1 v2 z34 v5 σ43) ∧ (¬ v6 ≤ 0 → wp_L_areTinsSo_b296 K12 Q v1 v2 z34 v5 σ43)))))))))))))))
set_option maxRecDepth 100000 in
set_option maxHeartbeats 4000000 in
theorem g_L_areTinsSo_b243 {X : Tx} {Q : Int32 → Sg → Prop} (C : Cx X cL_areTinsSo "SweetWrapsLaw" (some .boolean) 7 153 12 (QI (tE X) Q)) {K12 : Int32 → Int32 → Int32 → Int32 → Int32 → Sg → Prop} (hK12 : ∀ (v1 : Int32) (v2 : Int32) (v3 : Int32) (v4 : Int32) (v5 : Int32) (σ : Sg), K12 v1 v2 v3 v4 v5 σ → G X σ [(0, .ref (ad (tE X) 11 10 0)), (1, .int v1), (2, .int v2), (3, .int v3), (4, .int v4), (5, .int v5)] [] 12) {v1 : Int32} {v2 : Int32} {v4 : Int32} {v5 : Int32} {v6 : Int32} {v7 : Int32} {v8 : Int32} {v9 : Int32} {s0 : Int32} {s1 : Int32} {σ : Sg} (hw : wp_L_areTinsSo_b243 K12 Q v1 v2 v4 v5 v6 v7 v8 v9 s0 s1 σ) : G X σ [(0, .ref (ad (tE X) 11 10 0)), (1, .int v1), (2, .int v2), (4, .int v4), (5, .int v5), (6, .int v6), (7, .int v7), (8, .int v8), (9, .int v9)] [.int s0, .int s1] 243 := by
  unfold wp_L_areTinsSo_b243 at hw
  refine gx_ior C dL_areTinsSo_243 ?_
  obtain ⟨z34, e_z34⟩ : ∃ z : Int32, z = (s1 ||| s0) := ⟨_, rfl⟩
  replace hw := hw z34 e_z34
  refine gx_top e_z34 ?_
  refine gx_istore_n (lv' := [(3, .int z34), (0, .ref (ad (tE X) 11 10 0)), (1, .int v1), (2, .int v2), (4, .int v4), (5, .int v5), (6, .int v6), (7, .int v7), (8, .int v8), (9, .int v9)]) C dL_areTinsSo_244 (by decide) rfl ?_
  refine gx_iload C dL_areTinsSo_245 4 rfl ?_
  refine gx_if_eq (tgt := 300) C dL_areTinsSo_247 (by decide) (fun c35 => ?_) (fun c35 => ?_)
  · replace hw := hw.1 c35
    refine gx_sub (lv' := [(0, .ref (ad (tE X) 11 10 0)), (1, .int v1), (2, .int v2), (3, .int z34), (5, .int v5)]) [1, 2, 3, 0, 5] rfl ?_
    exact g_L_areTinsSo_b300 C hK12 hw
  · replace hw := hw.2 c35
    refine gx_aload_n C dL_areTinsSo_250 1 rfl ?_
    refine gx_iload C dL_areTinsSo_251 5 rfl ?_
    refine gx_iconst (v := (0 : Int32)) C dL_areTinsSo_253 (by decide) ?_
    refine gx_vcalli (As := [.int v5, .int (0 : Int32)]) (rest := []) C (c_X5_ofTin _ _ hw) okg_10 rfl rfl bw_410 bw_411 bw_412 bw_1 bw_413 hy_X5_ofTin ⟨by decide, by decide⟩ rfl (Nat.le_of_ble_eq_true rfl) dL_areTinsSo_254 (fun r36 σ37 hw => ?_)
    refine gx_iload C dL_areTinsSo_257 6 rfl ?_
    refine gx_icmp_ne (tgt := 300) C dL_areTinsSo_259 (by decide) (fun c38 => ?_) (fun c38 => ?_)
    · replace hw := hw.1 c38
      refine gx_sub (lv' := [(0, .ref (ad (tE X) 11 10 0)), (1, .int v1), (2, .int v2), (3, .int z34), (5, .int v5)]) [1, 2, 3, 0, 5] rfl ?_
      exact g_L_areTinsSo_b300 C hK12 hw
    · replace hw := hw.2 c38
      refine gx_aload_n C dL_areTinsSo_262 1 rfl ?_
      refine gx_iload C dL_areTinsSo_263 5 rfl ?_
      refine gx_iconst (v := (2 : Int32)) C dL_areTinsSo_265 (by decide) ?_
      refine gx_vcalli (As := [.int v5, .int (2 : Int32)]) (rest := []) C (c_X5_ofTin _ _ hw) okg_10 rfl rfl bw_410 bw_411 bw_412 bw_1 bw_413 hy_X5_ofTin ⟨by decide, by decide⟩ rfl (Nat.le_of_ble_eq_true rfl) dL_areTinsSo_266 (fun r39 σ40 hw => ?_)
      refine gx_iload C dL_areTinsSo_269 7 rfl ?_
      refine gx_icmp_ne (tgt := 300) C dL_areTinsSo_271 (by decide) (fun c41 => ?_) (fun c41 => ?_)
      · replace hw := hw.1 c41
        refine gx_sub (lv' := [(0, .ref (ad (tE X) 11 10 0)), (1, .int v1), (2, .int v2), (3, .int z34), (5, .int v5)]) [1, 2, 3, 0, 5] rfl ?_
        exact g_L_areTinsSo_b300 C hK12 hw
      · replace hw := hw.2 c41
        refine gx_aload_n C dL_areTinsSo_274 1 rfl ?_
        refine gx_iload C dL_areTinsSo_275 5 rfl ?_
        refine gx_iconst (v := (3 : Int32)) C dL_areTinsSo_277 (by decide) ?_
        refine gx_vcalli (As := [.int v5, .int (3 : Int32)]) (rest := []) C (c_X5_ofTin _ _ hw) okg_10 rfl rfl bw_410 bw_411 bw_412 bw_1 bw_413 hy_X5_ofTin ⟨by decide, by decide⟩ rfl (Nat.le_of_ble_eq_true rfl) dL_areTinsSo_278 (fun r42 σ43 hw => ?_)
        refine gx_iload C dL_areTinsSo_281 9 rfl ?_
        refine gx_icmp_ne (tgt := 300) C dL_areTinsSo_283 (by decide) (fun c44 => ?_) (fun c44 => ?_)
        · replace hw := hw.1 c44
          refine gx_sub (lv' := [(0, .ref (ad (tE X) 11 10 0)), (1, .int v1), (2, .int v2), (3, .int z34), (5, .int v5)]) [1, 2, 3, 0, 5] rfl ?_
          exact g_L_areTinsSo_b300 C hK12 hw
        · replace hw := hw.2 c44
          refine gx_iload C dL_areTinsSo_286 8 rfl ?_
          refine gx_if_ne (tgt := 296) C dL_areTinsSo_288 (by decide) (fun c45 => ?_) (fun c45 => ?_)
          · replace hw := hw.1 c45
            refine gx_sub (lv' := [(0, .ref (ad (tE X) 11 10 0)), (1, .int v1), (2, .int v2), (3, .int z34), (5, .int v5)]) [1, 2, 3, 0, 5] rfl ?_
            exact g_L_areTinsSo_b296 C hK12 hw
          · replace hw := hw.2 c45
            refine gx_iload C dL_areTinsSo_291 6 rfl ?_
            refine gx_if_le (tgt := 300) C dL_areTinsSo_293 (by decide) (fun c46 => ?_) (fun c46 => ?_)
            · replace hw := hw.1 c46
              refine gx_sub (lv' := [(0, .ref (ad (tE X) 11 10 0)), (1, .int v1), (2, .int v2), (3, .int z34), (5, .int v5)]) [1, 2, 3, 0, 5] rfl ?_
              exact g_L_areTinsSo_b300 C hK12 hw
            · replace hw := hw.2 c46
              refine gx_sub (lv' := [(0, .ref (ad (tE X) 11 10 0)), (1, .int v1), (2, .int v2), (3, .int z34), (5, .int v5)]) [1, 2, 3, 0, 5] rfl ?_
              exact g_L_areTinsSo_b296 C hK12 hw
def wp_L_areTinsSo_b227 (K12 : Int32 → Int32 → Int32 → Int32 → Int32 → Sg → Prop) (Q : Int32 → Sg → Prop) (v1 : Int32) (v3 : Int32) (v4 : Int32) (v5 : Int32) (v6 : Int32) (v7 : Int32) (v8 : Int32) (v9 : Int32) (s0 : Int32) (s1 : Int32) (σ : Sg) : Prop := ∀ z32 : Int32, z32 = (s1 + s0) → ((v8 = 0 → wp_L_areTinsSo_b243 K12 Q v1 z32 v4 v5 v6 v7 v8 v9 (0 : Int32) v3 σ) ∧ (¬ v8 = 0 → wp_L_areTinsSo_b243 K12 Q v1 z32 v4 v5 v6 v7 v8 v9 ((1 : Int32) <<< (v5 &&& 31)) v3 σ))
set_option maxRecDepth 100000 in
set_option maxHeartbeats 4000000 in
theorem g_L_areTinsSo_b227 {X : Tx} {Q : Int32 → Sg → Prop} (C : Cx X cL_areTinsSo "SweetWrapsLaw" (some .boolean) 7 153 12 (QI (tE X) Q)) {K12 : Int32 → Int32 → Int32 → Int32 → Int32 → Sg → Prop} (hK12 : ∀ (v1 : Int32) (v2 : Int32) (v3 : Int32) (v4 : Int32) (v5 : Int32) (σ : Sg), K12 v1 v2 v3 v4 v5 σ → G X σ [(0, .ref (ad (tE X) 11 10 0)), (1, .int v1), (2, .int v2), (3, .int v3), (4, .int v4), (5, .int v5)] [] 12) {v1 : Int32} {v3 : Int32} {v4 : Int32} {v5 : Int32} {v6 : Int32} {v7 : Int32} {v8 : Int32} {v9 : Int32} {s0 : Int32} {s1 : Int32} {σ : Sg} (hw : wp_L_areTinsSo_b227 K12 Q v1 v3 v4 v5 v6 v7 v8 v9 s0 s1 σ) : G X σ [(0, .ref (ad (tE X) 11 10 0)), (1, .int v1), (3, .int v3), (4, .int v4), (5, .int v5), (6, .int v6), (7, .int v7), (8, .int v8), (9, .int v9)] [.int s0, .int s1] 227 := by
  unfold wp_L_areTinsSo_b227 at hw
  refine gx_iadd C dL_areTinsSo_227 ?_
  obtain ⟨z32, e_z32⟩ : ∃ z : Int32, z = (s1 + s0) := ⟨_, rfl⟩
  replace hw := hw z32 e_z32
  refine gx_top e_z32 ?_
  refine gx_istore_n (lv' := [(2, .int z32), (0, .ref (ad (tE X) 11 10 0)), (1, .int v1), (3, .int v3), (4, .int v4), (5, .int v5), (6, .int v6), (7, .int v7), (8, .int v8), (9, .int v9)]) C dL_areTinsSo_228 (by decide) rfl ?_
  refine gx_iload_n C dL_areTinsSo_229 3 rfl ?_
  refine gx_iload C dL_areTinsSo_230 8 rfl ?_
  refine gx_if_eq (tgt := 242) C dL_areTinsSo_232 (by decide) (fun c33 => ?_) (fun c33 => ?_)
  · replace hw := hw.1 c33
    refine gx_iconst (v := (0 : Int32)) C dL_areTinsSo_242 (by decide) ?_
    refine gx_sub (lv' := [(0, .ref (ad (tE X) 11 10 0)), (1, .int v1), (2, .int z32), (4, .int v4), (5, .int v5), (6, .int v6), (7, .int v7), (8, .int v8), (9, .int v9)]) [1, 2, 0, 4, 5, 6, 7, 8, 9] rfl ?_
    exact g_L_areTinsSo_b243 C hK12 hw
  · replace hw := hw.2 c33
    refine gx_iconst (v := (1 : Int32)) C dL_areTinsSo_235 (by decide) ?_
    refine gx_iload C dL_areTinsSo_236 5 rfl ?_
    refine gx_ishl C dL_areTinsSo_238 ?_
    refine gx_goto (tgt := 243) C dL_areTinsSo_239 (by decide) ?_
    refine gx_sub (lv' := [(0, .ref (ad (tE X) 11 10 0)), (1, .int v1), (2, .int z32), (4, .int v4), (5, .int v5), (6, .int v6), (7, .int v7), (8, .int v8), (9, .int v9)]) [1, 2, 0, 4, 5, 6, 7, 8, 9] rfl ?_
    exact g_L_areTinsSo_b243 C hK12 hw
def wp_L_areTinsSo_b201 (K12 : Int32 → Int32 → Int32 → Int32 → Int32 → Sg → Prop) (K102 : Int32 → Int32 → Int32 → Int32 → Int32 → Int32 → Int32 → Int32 → Int32 → Int32 → Sg → Prop) (Q : Int32 → Sg → Prop) (v1 : Int32) (v2 : Int32) (v3 : Int32) (v4 : Int32) (v5 : Int32) (v6 : Int32) (v7 : Int32) (v8 : Int32) (v10 : Int32) (s0 : Int32) (s1 : Int32) (σ : Sg) : Prop := ∀ z58 : Int32, z58 = (s1 ||| s0) → ∀ z59 : Int32, z59 = v10 + (1 : Int32) → K102 v1 v2 v3 v4 v5 v6 v7 v8 z58 z59 σ
set_option maxRecDepth 100000 in
set_option maxHeartbeats 4000000 in
theorem g_L_areTinsSo_b201 {X : Tx} {Q : Int32 → Sg → Prop} (C : Cx X cL_areTinsSo "SweetWrapsLaw" (some .boolean) 7 153 12 (QI (tE X) Q)) {K12 : Int32 → Int32 → Int32 → Int32 → Int32 → Sg → Prop} {K102 : Int32 → Int32 → Int32 → Int32 → Int32 → Int32 → Int32 → Int32 → Int32 → Int32 → Sg → Prop} (hK12 : ∀ (v1 : Int32) (v2 : Int32) (v3 : Int32) (v4 : Int32) (v5 : Int32) (σ : Sg), K12 v1 v2 v3 v4 v5 σ → G X σ [(0, .ref (ad (tE X) 11 10 0)), (1, .int v1), (2, .int v2), (3, .int v3), (4, .int v4), (5, .int v5)] [] 12) (hK102 : ∀ (v1 : Int32) (v2 : Int32) (v3 : Int32) (v4 : Int32) (v5 : Int32) (v6 : Int32) (v7 : Int32) (v8 : Int32) (v9 : Int32) (v10 : Int32) (σ : Sg), K102 v1 v2 v3 v4 v5 v6 v7 v8 v9 v10 σ → G X σ [(0, .ref (ad (tE X) 11 10 0)), (1, .int v1), (2, .int v2), (3, .int v3), (4, .int v4), (5, .int v5), (6, .int v6), (7, .int v7), (8, .int v8), (9, .int v9), (10, .int v10)] [] 102) {v1 : Int32} {v2 : Int32} {v3 : Int32} {v4 : Int32} {v5 : Int32} {v6 : Int32} {v7 : Int32} {v8 : Int32} {v10 : Int32} {s0 : Int32} {s1 : Int32} {σ : Sg} (hw : wp_L_areTinsSo_b201 K12 K102 Q v1 v2 v3 v4 v5 v6 v7 v8 v10 s0 s1 σ) : G X σ [(0, .ref (ad (tE X) 11 10 0)), (1, .int v1), (2, .int v2), (3, .int v3), (4, .int v4), (5, .int v5), (6, .int v6), (7, .int v7), (8, .int v8), (10, .int v10)] [.int s0, .int s1] 201 := by
  unfold wp_L_areTinsSo_b201 at hw
  refine gx_ior C dL_areTinsSo_201 ?_
  obtain ⟨z58, e_z58⟩ : ∃ z : Int32, z = (s1 ||| s0) := ⟨_, rfl⟩
  replace hw := hw z58 e_z58
  refine gx_top e_z58 ?_
  refine gx_istore (lv' := [(9, .int z58), (0, .ref (ad (tE X) 11 10 0)), (1, .int v1), (2, .int v2), (3, .int v3), (4, .int v4), (5, .int v5), (6, .int v6), (7, .int v7), (8, .int v8), (10, .int v10)]) C dL_areTinsSo_202 (by decide) rfl ?_
  obtain ⟨z59, e_z59⟩ : ∃ z : Int32, z = v10 + (1 : Int32) := ⟨_, rfl⟩
  replace hw := hw z59 e_z59
  refine gx_iinc (v := z59) (lv' := [(10, .int z59), (9, .int z58), (0, .ref (ad (tE X) 11 10 0)), (1, .int v1), (2, .int v2), (3, .int v3), (4, .int v4), (5, .int v5), (6, .int v6), (7, .int v7), (8, .int v8)]) C dL_areTinsSo_204 10 rfl (by rw [e_z59]; rfl) (by decide) rfl ?_
  refine gx_goto (tgt := 102) C dL_areTinsSo_207 (by decide) ?_
  refine gx_sub (lv' := [(0, .ref (ad (tE X) 11 10 0)), (1, .int v1), (2, .int v2), (3, .int v3), (4, .int v4), (5, .int v5), (6, .int v6), (7, .int v7), (8, .int v8), (9, .int z58), (10, .int z59)]) [2, 3, 4, 5, 6, 7, 8, 9, 10, 1, 0] rfl ?_
  exact hK102 _ _ _ _ _ _ _ _ _ _ _ hw
def wp_L_areTinsSo_b200 (K12 : Int32 → Int32 → Int32 → Int32 → Int32 → Sg → Prop) (K102 : Int32 → Int32 → Int32 → Int32 → Int32 → Int32 → Int32 → Int32 → Int32 → Int32 → Sg → Prop) (Q : Int32 → Sg → Prop) (v1 : Int32) (v2 : Int32) (v3 : Int32) (v4 : Int32) (v5 : Int32) (v6 : Int32) (v7 : Int32) (v8 : Int32) (v10 : Int32) (s0 : Int32) (σ : Sg) : Prop := wp_L_areTinsSo_b201 K12 K102 Q v1 v2 v3 v4 v5 v6 v7 v8 v10 (0 : Int32) s0 σ
set_option maxRecDepth 100000 in
set_option maxHeartbeats 4000000 in
theorem g_L_areTinsSo_b200 {X : Tx} {Q : Int32 → Sg → Prop} (C : Cx X cL_areTinsSo "SweetWrapsLaw" (some .boolean) 7 153 12 (QI (tE X) Q)) {K12 : Int32 → Int32 → Int32 → Int32 → Int32 → Sg → Prop} {K102 : Int32 → Int32 → Int32 → Int32 → Int32 → Int32 → Int32 → Int32 → Int32 → Int32 → Sg → Prop} (hK12 : ∀ (v1 : Int32) (v2 : Int32) (v3 : Int32) (v4 : Int32) (v5 : Int32) (σ : Sg), K12 v1 v2 v3 v4 v5 σ → G X σ [(0, .ref (ad (tE X) 11 10 0)), (1, .int v1), (2, .int v2), (3, .int v3), (4, .int v4), (5, .int v5)] [] 12) (hK102 : ∀ (v1 : Int32) (v2 : Int32) (v3 : Int32) (v4 : Int32) (v5 : Int32) (v6 : Int32) (v7 : Int32) (v8 : Int32) (v9 : Int32) (v10 : Int32) (σ : Sg), K102 v1 v2 v3 v4 v5 v6 v7 v8 v9 v10 σ → G X σ [(0, .ref (ad (tE X) 11 10 0)), (1, .int v1), (2, .int v2), (3, .int v3), (4, .int v4), (5, .int v5), (6, .int v6), (7, .int v7), (8, .int v8), (9, .int v9), (10, .int v10)] [] 102) {v1 : Int32} {v2 : Int32} {v3 : Int32} {v4 : Int32} {v5 : Int32} {v6 : Int32} {v7 : Int32} {v8 : Int32} {v10 : Int32} {s0 : Int32} {σ : Sg} (hw : wp_L_areTinsSo_b200 K12 K102 Q v1 v2 v3 v4 v5 v6 v7 v8 v10 s0 σ) : G X σ [(0, .ref (ad (tE X) 11 10 0)), (1, .int v1), (2, .int v2), (3, .int v3), (4, .int v4), (5, .int v5), (6, .int v6), (7, .int v7), (8, .int v8), (10, .int v10)] [.int s0] 200 := by
  unfold wp_L_areTinsSo_b200 at hw
  refine gx_iconst (v := (0 : Int32)) C dL_areTinsSo_200 (by decide) ?_
  exact g_L_areTinsSo_b201 C hK12 hK102 hw
def wp_L_areTinsSo_b160 (K12 : Int32 → Int32 → Int32 → Int32 → Int32 → Sg → Prop) (K102 : Int32 → Int32 → Int32 → Int32 → Int32 → Int32 → Int32 → Int32 → Int32 → Int32 → Sg → Prop) (Q : Int32 → Sg → Prop) (v1 : Int32) (v2 : Int32) (v3 : Int32) (v5 : Int32) (v6 : Int32) (v7 : Int32) (v8 : Int32) (v9 : Int32) (v10 : Int32) (s0 : Int32) (σ : Sg) : Prop := ((v8 = 0 → wp_L_areTinsSo_b200 K12 K102 Q v1 v2 v3 s0 v5 v6 v7 v8 v10 v9 σ) ∧ (¬ v8 = 0 → wp_X5_count (13 : Int32) σ (fun r52 σ53 => ((r52 ≤ v6 → wp_L_areTinsSo_b200 K12 K102 Q v1 v2 v3 s0 v5 v6 v7 v8 v10 v9 σ53) ∧ (¬ r52 ≤ v6 → wp_X5_flavour v10 (3 : Int32) σ53 (fun r55 σ56 => ((¬ (r55 &&& v7) = 0 → wp_L_areTinsSo_b200 K12 K102 Q v1 v2 v3 s0 v5 v6 v7 v8 v10 v9 σ56) ∧ ((r55 &&& v7) = 0 → wp_L_areTinsSo_b201 K12 K102 Q v1 v2 v3 s0 v5 v6 v7 v8 v10 ((1 : Int32) <<< (v10 &&& 31)) v9 σ56))))))))
set_option maxRecDepth 100000 in
set_option maxHeartbeats 4000000 in
theorem g_L_areTinsSo_b160 {X : Tx} {Q : Int32 → Sg → Prop} (C : Cx X cL_areTinsSo "SweetWrapsLaw" (some .boolean) 7 153 12 (QI (tE X) Q)) {K12 : Int32 → Int32 → Int32 → Int32 → Int32 → Sg → Prop} {K102 : Int32 → Int32 → Int32 → Int32 → Int32 → Int32 → Int32 → Int32 → Int32 → Int32 → Sg → Prop} (hK12 : ∀ (v1 : Int32) (v2 : Int32) (v3 : Int32) (v4 : Int32) (v5 : Int32) (σ : Sg), K12 v1 v2 v3 v4 v5 σ → G X σ [(0, .ref (ad (tE X) 11 10 0)), (1, .int v1), (2, .int v2), (3, .int v3), (4, .int v4), (5, .int v5)] [] 12) (hK102 : ∀ (v1 : Int32) (v2 : Int32) (v3 : Int32) (v4 : Int32) (v5 : Int32) (v6 : Int32) (v7 : Int32) (v8 : Int32) (v9 : Int32) (v10 : Int32) (σ : Sg), K102 v1 v2 v3 v4 v5 v6 v7 v8 v9 v10 σ → G X σ [(0, .ref (ad (tE X) 11 10 0)), (1, .int v1), (2, .int v2), (3, .int v3), (4, .int v4), (5, .int v5), (6, .int v6), (7, .int v7), (8, .int v8), (9, .int v9), (10, .int v10)] [] 102) {v1 : Int32} {v2 : Int32} {v3 : Int32} {v5 : Int32} {v6 : Int32} {v7 : Int32} {v8 : Int32} {v9 : Int32} {v10 : Int32} {s0 : Int32} {σ : Sg} (hw : wp_L_areTinsSo_b160 K12 K102 Q v1 v2 v3 v5 v6 v7 v8 v9 v10 s0 σ) : G X σ [(0, .ref (ad (tE X) 11 10 0)), (1, .int v1), (2, .int v2), (3, .int v3), (5, .int v5), (6, .int v6), (7, .int v7), (8, .int v8), (9, .int v9), (10, .int v10)] [.int s0] 160 := by
  unfold wp_L_areTinsSo_b160 at hw
  refine gx_istore (lv' := [(4, .int s0), (0, .ref (ad (tE X) 11 10 0)), (1, .int v1), (2, .int v2), (3, .int v3), (5, .int v5), (6, .int v6), (7, .int v7), (8, .int v8), (9, .int v9), (10, .int v10)]) C dL_areTinsSo_160 (by decide) rfl ?_
  refine gx_iload C dL_areTinsSo_162 9 rfl ?_
  refine gx_iload C dL_areTinsSo_164 8 rfl ?_
  refine gx_if_eq (tgt := 200) C dL_areTinsSo_166 (by decide) (fun c51 => ?_) (fun c51 => ?_)
  · replace hw := hw.1 c51
    refine gx_sub (lv' := [(0, .ref (ad (tE X) 11 10 0)), (1, .int v1), (2, .int v2), (3, .int v3), (4, .int s0), (5, .int v5), (6, .int v6), (7, .int v7), (8, .int v8), (10, .int v10)]) [1, 2, 3, 4, 0, 5, 6, 7, 8, 10] rfl ?_
    exact g_L_areTinsSo_b200 C hK12 hK102 hw
  · replace hw := hw.2 c51
    refine gx_iload C dL_areTinsSo_169 6 rfl ?_
    refine gx_aload_n C dL_areTinsSo_171 1 rfl ?_
    refine gx_bipush (v := (13 : Int32)) C dL_areTinsSo_172 (by decide) ?_
    refine gx_vcalli (As := [.int (13 : Int32)]) (rest := [.int v6, .int v9]) C (c_X5_count _ _ hw) okg_10 rfl rfl bw_270 bw_271 bw_272 bw_1 bw_273 hy_X5_count ⟨by decide, by decide⟩ rfl (Nat.le_of_ble_eq_true rfl) dL_areTinsSo_174 (fun r52 σ53 hw => ?_)
    refine gx_icmp_ge (tgt := 200) C dL_areTinsSo_177 (by decide) (fun c54 => ?_) (fun c54 => ?_)
    · replace hw := hw.1 c54
      refine gx_sub (lv' := [(0, .ref (ad (tE X) 11 10 0)), (1, .int v1), (2, .int v2), (3, .int v3), (4, .int s0), (5, .int v5), (6, .int v6), (7, .int v7), (8, .int v8), (10, .int v10)]) [1, 2, 3, 4, 0, 5, 6, 7, 8, 10] rfl ?_
      exact g_L_areTinsSo_b200 C hK12 hK102 hw
    · replace hw := hw.2 c54
      refine gx_aload_n C dL_areTinsSo_180 1 rfl ?_
      refine gx_iload C dL_areTinsSo_181 10 rfl ?_
      refine gx_iconst (v := (3 : Int32)) C dL_areTinsSo_183 (by decide) ?_
      refine gx_vcalli (As := [.int v10, .int (3 : Int32)]) (rest := [.int v9]) C (c_X5_flavour _ _ hw) okg_10 rfl rfl bw_430 bw_431 bw_432 bw_1 bw_433 hy_X5_flavour ⟨by decide, by decide⟩ rfl (Nat.le_of_ble_eq_true rfl) dL_areTinsSo_184 (fun r55 σ56 hw => ?_)
      refine gx_iload C dL_areTinsSo_187 7 rfl ?_
      refine gx_iand C dL_areTinsSo_189 ?_
      refine gx_if_ne (tgt := 200) C dL_areTinsSo_190 (by decide) (fun c57 => ?_) (fun c57 => ?_)
      · replace hw := hw.1 c57
        refine gx_sub (lv' := [(0, .ref (ad (tE X) 11 10 0)), (1, .int v1), (2, .int v2), (3, .int v3), (4, .int s0), (5, .int v5), (6, .int v6), (7, .int v7), (8, .int v8), (10, .int v10)]) [1, 2, 3, 4, 0, 5, 6, 7, 8, 10] rfl ?_
        exact g_L_areTinsSo_b200 C hK12 hK102 hw
      · replace hw := hw.2 c57
        refine gx_iconst (v := (1 : Int32)) C dL_areTinsSo_193 (by decide) ?_
        refine gx_iload C dL_areTinsSo_194 10 rfl ?_
        refine gx_ishl C dL_areTinsSo_196 ?_
        refine gx_goto (tgt := 201) C dL_areTinsSo_197 (by decide) ?_
        refine gx_sub (lv' := [(0, .ref (ad (tE X) 11 10 0)), (1, .int v1), (2, .int v2), (3, .int v3), (4, .int s0), (5, .int v5), (6, .int v6), (7, .int v7), (8, .int v8), (10, .int v10)]) [1, 2, 3, 4, 0, 5, 6, 7, 8, 10] rfl ?_
        exact g_L_areTinsSo_b201 C hK12 hK102 hw
def wp_L_areTinsSo_b159 (K12 : Int32 → Int32 → Int32 → Int32 → Int32 → Sg → Prop) (K102 : Int32 → Int32 → Int32 → Int32 → Int32 → Int32 → Int32 → Int32 → Int32 → Int32 → Sg → Prop) (Q : Int32 → Sg → Prop) (v1 : Int32) (v2 : Int32) (v3 : Int32) (v5 : Int32) (v6 : Int32) (v7 : Int32) (v8 : Int32) (v9 : Int32) (v10 : Int32) (σ : Sg) : Prop := wp_L_areTinsSo_b160 K12 K102 Q v1 v2 v3 v5 v6 v7 v8 v9 v10 (0 : Int32) σ
set_option maxRecDepth 100000 in
set_option maxHeartbeats 4000000 in
theorem g_L_areTinsSo_b159 {X : Tx} {Q : Int32 → Sg → Prop} (C : Cx X cL_areTinsSo "SweetWrapsLaw" (some .boolean) 7 153 12 (QI (tE X) Q)) {K12 : Int32 → Int32 → Int32 → Int32 → Int32 → Sg → Prop} {K102 : Int32 → Int32 → Int32 → Int32 → Int32 → Int32 → Int32 → Int32 → Int32 → Int32 → Sg → Prop} (hK12 : ∀ (v1 : Int32) (v2 : Int32) (v3 : Int32) (v4 : Int32) (v5 : Int32) (σ : Sg), K12 v1 v2 v3 v4 v5 σ → G X σ [(0, .ref (ad (tE X) 11 10 0)), (1, .int v1), (2, .int v2), (3, .int v3), (4, .int v4), (5, .int v5)] [] 12) (hK102 : ∀ (v1 : Int32) (v2 : Int32) (v3 : Int32) (v4 : Int32) (v5 : Int32) (v6 : Int32) (v7 : Int32) (v8 : Int32) (v9 : Int32) (v10 : Int32) (σ : Sg), K102 v1 v2 v3 v4 v5 v6 v7 v8 v9 v10 σ → G X σ [(0, .ref (ad (tE X) 11 10 0)), (1, .int v1), (2, .int v2), (3, .int v3), (4, .int v4), (5, .int v5), (6, .int v6), (7, .int v7), (8, .int v8), (9, .int v9), (10, .int v10)] [] 102) {v1 : Int32} {v2 : Int32} {v3 : Int32} {v5 : Int32} {v6 : Int32} {v7 : Int32} {v8 : Int32} {v9 : Int32} {v10 : Int32} {σ : Sg} (hw : wp_L_areTinsSo_b159 K12 K102 Q v1 v2 v3 v5 v6 v7 v8 v9 v10 σ) : G X σ [(0, .ref (ad (tE X) 11 10 0)), (1, .int v1), (2, .int v2), (3, .int v3), (5, .int v5), (6, .int v6), (7, .int v7), (8, .int v8), (9, .int v9), (10, .int v10)] [] 159 := by
  unfold wp_L_areTinsSo_b159 at hw
  refine gx_iconst (v := (0 : Int32)) C dL_areTinsSo_159 (by decide) ?_
  exact g_L_areTinsSo_b160 C hK12 hK102 hw
def wp_L_areTinsSo_b155 (K12 : Int32 → Int32 → Int32 → Int32 → Int32 → Sg → Prop) (K102 : Int32 → Int32 → Int32 → Int32 → Int32 → Int32 → Int32 → Int32 → Int32 → Int32 → Sg → Prop) (Q : Int32 → Sg → Prop) (v1 : Int32) (v2 : Int32) (v3 : Int32) (v5 : Int32) (v6 : Int32) (v7 : Int32) (v8 : Int32) (v9 : Int32) (v10 : Int32) (σ : Sg) : Prop := wp_L_areTinsSo_b160 K12 K102 Q v1 v2 v3 v5 v6 v7 v8 v9 v10 (1 : Int32) σ
set_option maxRecDepth 100000 in
set_option maxHeartbeats 4000000 in
theorem g_L_areTinsSo_b155 {X : Tx} {Q : Int32 → Sg → Prop} (C : Cx X cL_areTinsSo "SweetWrapsLaw" (some .boolean) 7 153 12 (QI (tE X) Q)) {K12 : Int32 → Int32 → Int32 → Int32 → Int32 → Sg → Prop} {K102 : Int32 → Int32 → Int32 → Int32 → Int32 → Int32 → Int32 → Int32 → Int32 → Int32 → Sg → Prop} (hK12 : ∀ (v1 : Int32) (v2 : Int32) (v3 : Int32) (v4 : Int32) (v5 : Int32) (σ : Sg), K12 v1 v2 v3 v4 v5 σ → G X σ [(0, .ref (ad (tE X) 11 10 0)), (1, .int v1), (2, .int v2), (3, .int v3), (4, .int v4), (5, .int v5)] [] 12) (hK102 : ∀ (v1 : Int32) (v2 : Int32) (v3 : Int32) (v4 : Int32) (v5 : Int32) (v6 : Int32) (v7 : Int32) (v8 : Int32) (v9 : Int32) (v10 : Int32) (σ : Sg), K102 v1 v2 v3 v4 v5 v6 v7 v8 v9 v10 σ → G X σ [(0, .ref (ad (tE X) 11 10 0)), (1, .int v1), (2, .int v2), (3, .int v3), (4, .int v4), (5, .int v5), (6, .int v6), (7, .int v7), (8, .int v8), (9, .int v9), (10, .int v10)] [] 102) {v1 : Int32} {v2 : Int32} {v3 : Int32} {v5 : Int32} {v6 : Int32} {v7 : Int32} {v8 : Int32} {v9 : Int32} {v10 : Int32} {σ : Sg} (hw : wp_L_areTinsSo_b155 K12 K102 Q v1 v2 v3 v5 v6 v7 v8 v9 v10 σ) : G X σ [(0, .ref (ad (tE X) 11 10 0)), (1, .int v1), (2, .int v2), (3, .int v3), (5, .int v5), (6, .int v6), (7, .int v7), (8, .int v8), (9, .int v9), (10, .int v10)] [] 155 := by
  unfold wp_L_areTinsSo_b155 at hw
  refine gx_iconst (v := (1 : Int32)) C dL_areTinsSo_155 (by decide) ?_
  refine gx_goto (tgt := 160) C dL_areTinsSo_156 (by decide) ?_
  exact g_L_areTinsSo_b160 C hK12 hK102 hw
def wp_L_areTinsSo_b138 (K12 : Int32 → Int32 → Int32 → Int32 → Int32 → Sg → Prop) (K102 : Int32 → Int32 → Int32 → Int32 → Int32 → Int32 → Int32 → Int32 → Int32 → Int32 → Sg → Prop) (Q : Int32 → Sg → Prop) (v1 : Int32) (v2 : Int32) (v3 : Int32) (v4 : Int32) (v5 : Int32) (v6 : Int32) (v7 : Int32) (v8 : Int32) (v9 : Int32) (v10 : Int32) (s0 : Int32) (σ : Sg) : Prop := ((v4 = 0 → wp_L_areTinsSo_b159 K12 K102 Q v1 v2 v3 v5 v6 v7 v8 v9 v10 σ) ∧ (¬ v4 = 0 → ((v8 = 0 → wp_L_areTinsSo_b155 K12 K102 Q v1 v2 v3 v5 v6 v7 v8 v9 v10 σ) ∧ (¬ v8 = 0 → ((¬ s0 = 0 → wp_L_areTinsSo_b159 K12 K102 Q v1 v2 v3 v5 v6 v7 v8 v9 v10 σ) ∧ (s0 = 0 → wp_L_areTinsSo_b155 K12 K102 Q v1 v2 v3 v5 v6 v7 v8 v9 v10 σ))))))
set_option maxRecDepth 100000 in
set_option maxHeartbeats 4000000 in
theorem g_L_areTinsSo_b138 {X : Tx} {Q : Int32 → Sg → Prop} (C : Cx X cL_areTinsSo "SweetWrapsLaw" (some .boolean) 7 153 12 (QI (tE X) Q)) {K12 : Int32 → Int32 → Int32 → Int32 → Int32 → Sg → Prop} {K102 : Int32 → Int32 → Int32 → Int32 → Int32 → Int32 → Int32 → Int32 → Int32 → Int32 → Sg → Prop} (hK12 : ∀ (v1 : Int32) (v2 : Int32) (v3 : Int32) (v4 : Int32) (v5 : Int32) (σ : Sg), K12 v1 v2 v3 v4 v5 σ → G X σ [(0, .ref (ad (tE X) 11 10 0)), (1, .int v1), (2, .int v2), (3, .int v3), (4, .int v4), (5, .int v5)] [] 12) (hK102 : ∀ (v1 : Int32) (v2 : Int32) (v3 : Int32) (v4 : Int32) (v5 : Int32) (v6 : Int32) (v7 : Int32) (v8 : Int32) (v9 : Int32) (v10 : Int32) (σ : Sg), K102 v1 v2 v3 v4 v5 v6 v7 v8 v9 v10 σ → G X σ [(0, .ref (ad (tE X) 11 10 0)), (1, .int v1), (2, .int v2), (3, .int v3), (4, .int v4), (5, .int v5), (6, .int v6), (7, .int v7), (8, .int v8), (9, .int v9), (10, .int v10)] [] 102) {v1 : Int32} {v2 : Int32} {v3 : Int32} {v4 : Int32} {v5 : Int32} {v6 : Int32} {v7 : Int32} {v8 : Int32} {v9 : Int32} {v10 : Int32} {s0 : Int32} {σ : Sg} (hw : wp_L_areTinsSo_b138 K12 K102 Q v1 v2 v3 v4 v5 v6 v7 v8 v9 v10 s0 σ) : G X σ [(0, .ref (ad (tE X) 11 10 0)), (1, .int v1), (2, .int v2), (3, .int v3), (4, .int v4), (5, .int v5), (6, .int v6), (7, .int v7), (8, .int v8), (9, .int v9), (10, .int v10)] [.int s0] 138 := by
  unfold wp_L_areTinsSo_b138 at hw
  refine gx_istore (lv' := [(11, .int s0), (0, .ref (ad (tE X) 11 10 0)), (1, .int v1), (2, .int v2), (3, .int v3), (4, .int v4), (5, .int v5), (6, .int v6), (7, .int v7), (8, .int v8), (9, .int v9), (10, .int v10)]) C dL_areTinsSo_138 (by decide) rfl ?_
  refine gx_iload C dL_areTinsSo_140 5 rfl ?_
  refine gx_if_eq (tgt := 159) C dL_areTinsSo_142 (by decide) (fun c48 => ?_) (fun c48 => ?_)
  · replace hw := hw.1 c48
    refine gx_sub (lv' := [(0, .ref (ad (tE X) 11 10 0)), (1, .int v1), (2, .int v2), (3, .int v3), (5, .int v5), (6, .int v6), (7, .int v7), (8, .int v8), (9, .int v9), (10, .int v10)]) [1, 2, 3, 4, 6, 7, 8, 9, 10, 11] rfl ?_
    exact g_L_areTinsSo_b159 C hK12 hK102 hw
  · replace hw := hw.2 c48
    refine gx_iload C dL_areTinsSo_145 9 rfl ?_
    refine gx_if_eq (tgt := 155) C dL_areTinsSo_147 (by decide) (fun c49 => ?_) (fun c49 => ?_)
    · replace hw := hw.1 c49
      refine gx_sub (lv' := [(0, .ref (ad (tE X) 11 10 0)), (1, .int v1), (2, .int v2), (3, .int v3), (5, .int v5), (6, .int v6), (7, .int v7), (8, .int v8), (9, .int v9), (10, .int v10)]) [1, 2, 3, 4, 6, 7, 8, 9, 10, 11] rfl ?_
      exact g_L_areTinsSo_b155 C hK12 hK102 hw
    · replace hw := hw.2 c49
      refine gx_iload C dL_areTinsSo_150 0 rfl ?_
      refine gx_if_ne (tgt := 159) C dL_areTinsSo_152 (by decide) (fun c50 => ?_) (fun c50 => ?_)
      · replace hw := hw.1 c50
        refine gx_sub (lv' := [(0, .ref (ad (tE X) 11 10 0)), (1, .int v1), (2, .int v2), (3, .int v3), (5, .int v5), (6, .int v6), (7, .int v7), (8, .int v8), (9, .int v9), (10, .int v10)]) [1, 2, 3, 4, 6, 7, 8, 9, 10, 11] rfl ?_
        exact g_L_areTinsSo_b159 C hK12 hK102 hw
      · replace hw := hw.2 c50
        refine gx_sub (lv' := [(0, .ref (ad (tE X) 11 10 0)), (1, .int v1), (2, .int v2), (3, .int v3), (5, .int v5), (6, .int v6), (7, .int v7), (8, .int v8), (9, .int v9), (10, .int v10)]) [1, 2, 3, 4, 6, 7, 8, 9, 10, 11] rfl ?_
        exact g_L_areTinsSo_b155 C hK12 hK102 hw
def wp_L_areTinsSo_b137 (K12 : Int32 → Int32 → Int32 → Int32 → Int32 → Sg → Prop) (K102 : Int32 → Int32 → Int32 → Int32 → Int32 → Int32 → Int32 → Int32 → Int32 → Int32 → Sg → Prop) (Q : Int32 → Sg → Prop) (v1 : Int32) (v2 : Int32) (v3 : Int32) (v4 : Int32) (v5 : Int32) (v6 : Int32) (v7 : Int32) (v8 : Int32) (v9 : Int32) (v10 : Int32) (σ : Sg) : Prop := wp_L_areTinsSo_b138 K12 K102 Q v1 v2 v3 v4 v5 v6 v7 v8 v9 v10 (0 : Int32) σ
set_option maxRecDepth 100000 in
set_option maxHeartbeats 4000000 in
theorem g_L_areTinsSo_b137 {X : Tx} {Q : Int32 → Sg → Prop} (C : Cx X cL_areTinsSo "SweetWrapsLaw" (some .boolean) 7 153 12 (QI (tE X) Q)) {K12 : Int32 → Int32 → Int32 → Int32 → Int32 → Sg → Prop} {K102 : Int32 → Int32 → Int32 → Int32 → Int32 → Int32 → Int32 → Int32 → Int32 → Int32 → Sg → Prop} (hK12 : ∀ (v1 : Int32) (v2 : Int32) (v3 : Int32) (v4 : Int32) (v5 : Int32) (σ : Sg), K12 v1 v2 v3 v4 v5 σ → G X σ [(0, .ref (ad (tE X) 11 10 0)), (1, .int v1), (2, .int v2), (3, .int v3), (4, .int v4), (5, .int v5)] [] 12) (hK102 : ∀ (v1 : Int32) (v2 : Int32) (v3 : Int32) (v4 : Int32) (v5 : Int32) (v6 : Int32) (v7 : Int32) (v8 : Int32) (v9 : Int32) (v10 : Int32) (σ : Sg), K102 v1 v2 v3 v4 v5 v6 v7 v8 v9 v10 σ → G X σ [(0, .ref (ad (tE X) 11 10 0)), (1, .int v1), (2, .int v2), (3, .int v3), (4, .int v4), (5, .int v5), (6, .int v6), (7, .int v7), (8, .int v8), (9, .int v9), (10, .int v10)] [] 102) {v1 : Int32} {v2 : Int32} {v3 : Int32} {v4 : Int32} {v5 : Int32} {v6 : Int32} {v7 : Int32} {v8 : Int32} {v9 : Int32} {v10 : Int32} {σ : Sg} (hw : wp_L_areTinsSo_b137 K12 K102 Q v1 v2 v3 v4 v5 v6 v7 v8 v9 v10 σ) : G X σ [(0, .ref (ad (tE X) 11 10 0)), (1, .int v1), (2, .int v2), (3, .int v3), (4, .int v4), (5, .int v5), (6, .int v6), (7, .int v7), (8, .int v8), (9, .int v9), (10, .int v10)] [] 137 := by
  unfold wp_L_areTinsSo_b137 at hw
  refine gx_iconst (v := (0 : Int32)) C dL_areTinsSo_137 (by decide) ?_
  exact g_L_areTinsSo_b138 C hK12 hK102 hw
def st_L_areTinsSo_L102 (K12 : Int32 → Int32 → Int32 → Int32 → Int32 → Sg → Prop) (Q : Int32 → Sg → Prop) (K102 : Int32 → Int32 → Int32 → Int32 → Int32 → Int32 → Int32 → Int32 → Int32 → Int32 → Sg → Prop) (v1 : Int32) (v2 : Int32) (v3 : Int32) (v4 : Int32) (v5 : Int32) (v6 : Int32) (v7 : Int32) (v8 : Int32) (v9 : Int32) (v10 : Int32) (σ : Sg) : Prop := (((6 : Int32) ≤ v10 → ∀ z26 : Int32, z26 = (v1 + v6) → ((v8 = 0 → wp_L_areTinsSo_b227 K12 Q z26 v3 v4 v5 v6 v7 v8 v9 v6 v2 σ) ∧ (¬ v8 = 0 → wp_L_areTinsSo_b227 K12 Q z26 v3 v4 v5 v6 v7 v8 v9 (0 : Int32) v2 σ))) ∧ (¬ (6 : Int32) ≤ v10 → ((¬ ((v7 >>> (v10 &&& 31)) &&& (1 : Int32)) = (1 : Int32) → wp_L_areTinsSo_b137 K12 K102 Q v1 v2 v3 v4 v5 v6 v7 v8 v9 v10 σ) ∧ (((v7 >>> (v10 &&& 31)) &&& (1 : Int32)) = (1 : Int32) → wp_X5_flavour v10 (3 : Int32) σ (fun r29 σ30 => (((r29 &&& v7) = 0 → wp_L_areTinsSo_b137 K12 K102 Q v1 v2 v3 v4 v5 v6 v7 v8 v9 v10 σ30) ∧ (¬ (r29 &&& v7) = 0 → wp_L_areTinsSo_b138 K12 K102 Q v1 v2 v3 v4 v5 v6 v7 v8 v9 v10 (1 : Int32) σ30)))))))
def wp_L_areTinsSo_L102 (K12 : Int32 → Int32 → Int32 → Int32 → Int32 → Sg → Prop) (Q : Int32 → Sg → Prop) (v1 : Int32) (v2 : Int32) (v3 : Int32) (v4 : Int32) (v5 : Int32) (v6 : Int32) (v7 : Int32) (v8 : Int32) (v9 : Int32) (v10 : Int32) (σ : Sg) : Prop := ∃ n : Nat, lpN (fun (K : Int32 × Int32 × Int32 × Int32 × Int32 × Int32 × Int32 × Int32 × Int32 × Int32 × Sg → Prop) (a : Int32 × Int32 × Int32 × Int32 × Int32 × Int32 × Int32 × Int32 × Int32 × Int32 × Sg) => st_L_areTinsSo_L102 K12 Q (fun v1 v2 v3 v4 v5 v6 v7 v8 v9 v10 σ => K (v1, v2, v3, v4, v5, v6, v7, v8, v9, v10, σ)) (a.1) (a.2.1) (a.2.2.1) (a.2.2.2.1) (a.2.2.2.2.1) (a.2.2.2.2.2.1) (a.2.2.2.2.2.2.1) (a.2.2.2.2.2.2.2.1) (a.2.2.2.2.2.2.2.2.1) (a.2.2.2.2.2.2.2.2.2.1) (a.2.2.2.2.2.2.2.2.2.2)) n (v1, v2, v3, v4, v5, v6, v7, v8, v9, v10, σ)
set_option maxRecDepth 100000 in
set_option maxHeartbeats 4000000 in
theorem gs_L_areTinsSo_L102 {X : Tx} {Q : Int32 → Sg → Prop} (C : Cx X cL_areTinsSo "SweetWrapsLaw" (some .boolean) 7 153 12 (QI (tE X) Q)) {K12 : Int32 → Int32 → Int32 → Int32 → Int32 → Sg → Prop} (hK12 : ∀ (v1 : Int32) (v2 : Int32) (v3 : Int32) (v4 : Int32) (v5 : Int32) (σ : Sg), K12 v1 v2 v3 v4 v5 σ → G X σ [(0, .ref (ad (tE X) 11 10 0)), (1, .int v1), (2, .int v2), (3, .int v3), (4, .int v4), (5, .int v5)] [] 12) {K102 : Int32 → Int32 → Int32 → Int32 → Int32 → Int32 → Int32 → Int32 → Int32 → Int32 → Sg → Prop} (hK102 : ∀ (v1 : Int32) (v2 : Int32) (v3 : Int32) (v4 : Int32) (v5 : Int32) (v6 : Int32) (v7 : Int32) (v8 : Int32) (v9 : Int32) (v10 : Int32) (σ : Sg), K102 v1 v2 v3 v4 v5 v6 v7 v8 v9 v10 σ → G X σ [(0, .ref (ad (tE X) 11 10 0)), (1, .int v1), (2, .int v2), (3, .int v3), (4, .int v4), (5, .int v5), (6, .int v6), (7, .int v7), (8, .int v8), (9, .int v9), (10, .int v10)] [] 102) {v1 : Int32} {v2 : Int32} {v3 : Int32} {v4 : Int32} {v5 : Int32} {v6 : Int32} {v7 : Int32} {v8 : Int32} {v9 : Int32} {v10 : Int32} {σ : Sg} (hw : st_L_areTinsSo_L102 K12 Q K102 v1 v2 v3 v4 v5 v6 v7 v8 v9 v10 σ) : G X σ [(0, .ref (ad (tE X) 11 10 0)), (1, .int v1), (2, .int v2), (3, .int v3), (4, .int v4), (5, .int v5), (6, .int v6), (7, .int v7), (8, .int v8), (9, .int v9), (10, .int v10)] [] 102 := by
  unfold st_L_areTinsSo_L102 at hw
  refine gx_iload C dL_areTinsSo_102 10 rfl ?_
  refine gx_bipush (v := (6 : Int32)) C dL_areTinsSo_104 (by decide) ?_
  refine gx_icmp_ge (tgt := 210) C dL_areTinsSo_106 (by decide) (fun c25 => ?_) (fun c25 => ?_)
  · replace hw := hw.1 c25
    refine gx_iload_n C dL_areTinsSo_210 1 rfl ?_
    refine gx_iload C dL_areTinsSo_211 6 rfl ?_
    refine gx_iadd C dL_areTinsSo_213 ?_
    obtain ⟨z26, e_z26⟩ : ∃ z : Int32, z = (v1 + v6) := ⟨_, rfl⟩
    replace hw := hw z26 e_z26
    refine gx_top e_z26 ?_
    refine gx_istore_n (lv' := [(1, .int z26), (0, .ref (ad (tE X) 11 10 0)), (2, .int v2), (3, .int v3), (4, .int v4), (5, .int v5), (6, .int v6), (7, .int v7), (8, .int v8), (9, .int v9), (10, .int v10)]) C dL_areTinsSo_214 (by decide) rfl ?_
    refine gx_iload_n C dL_areTinsSo_215 2 rfl ?_
    refine gx_iload C dL_areTinsSo_216 8 rfl ?_
    refine gx_if_eq (tgt := 225) C dL_areTinsSo_218 (by decide) (fun c27 => ?_) (fun c27 => ?_)
    · replace hw := hw.1 c27
      refine gx_iload C dL_areTinsSo_225 6 rfl ?_
      refine gx_sub (lv' := [(0, .ref (ad (tE X) 11 10 0)), (1, .int z26), (3, .int v3), (4, .int v4), (5, .int v5), (6, .int v6), (7, .int v7), (8, .int v8), (9, .int v9)]) [1, 0, 3, 4, 5, 6, 7, 8, 9] rfl ?_
      exact g_L_areTinsSo_b227 C hK12 hw
    · replace hw := hw.2 c27
      refine gx_iconst (v := (0 : Int32)) C dL_areTinsSo_221 (by decide) ?_
      refine gx_goto (tgt := 227) C dL_areTinsSo_222 (by decide) ?_
      refine gx_sub (lv' := [(0, .ref (ad (tE X) 11 10 0)), (1, .int z26), (3, .int v3), (4, .int v4), (5, .int v5), (6, .int v6), (7, .int v7), (8, .int v8), (9, .int v9)]) [1, 0, 3, 4, 5, 6, 7, 8, 9] rfl ?_
      exact g_L_areTinsSo_b227 C hK12 hw
  · replace hw := hw.2 c25
    refine gx_iload C dL_areTinsSo_109 7 rfl ?_
    refine gx_iload C dL_areTinsSo_111 10 rfl ?_
    refine gx_ishr C dL_areTinsSo_113 ?_
    refine gx_iconst (v := (1 : Int32)) C dL_areTinsSo_114 (by decide) ?_
    refine gx_iand C dL_areTinsSo_115 ?_
    refine gx_iconst (v := (1 : Int32)) C dL_areTinsSo_116 (by decide) ?_
    refine gx_icmp_ne (tgt := 137) C dL_areTinsSo_117 (by decide) (fun c28 => ?_) (fun c28 => ?_)
    · replace hw := hw.1 c28
      exact g_L_areTinsSo_b137 C hK12 hK102 hw
    · replace hw := hw.2 c28
      refine gx_aload_n C dL_areTinsSo_120 0 rfl ?_
      refine gx_iload C dL_areTinsSo_121 10 rfl ?_
      refine gx_iconst (v := (3 : Int32)) C dL_areTinsSo_123 (by decide) ?_
      refine gx_vcalli (As := [.int v10, .int (3 : Int32)]) (rest := []) C (c_X5_flavour _ _ hw) okg_10 rfl rfl bw_430 bw_431 bw_432 bw_1 bw_433 hy_X5_flavour ⟨by decide, by decide⟩ rfl (Nat.le_of_ble_eq_true rfl) dL_areTinsSo_124 (fun r29 σ30 hw => ?_)
      refine gx_iload C dL_areTinsSo_127 7 rfl ?_
      refine gx_iand C dL_areTinsSo_129 ?_
      refine gx_if_eq (tgt := 137) C dL_areTinsSo_130 (by decide) (fun c31 => ?_) (fun c31 => ?_)
      · replace hw := hw.1 c31
        exact g_L_areTinsSo_b137 C hK12 hK102 hw
      · replace hw := hw.2 c31
        refine gx_iconst (v := (1 : Int32)) C dL_areTinsSo_133 (by decide) ?_
        refine gx_goto (tgt := 138) C dL_areTinsSo_134 (by decide) ?_
        exact g_L_areTinsSo_b138 C hK12 hK102 hw
set_option maxRecDepth 100000 in
set_option maxHeartbeats 4000000 in
theorem g_L_areTinsSo_L102 {X : Tx} {Q : Int32 → Sg → Prop} (C : Cx X cL_areTinsSo "SweetWrapsLaw" (some .boolean) 7 153 12 (QI (tE X) Q)) {K12 : Int32 → Int32 → Int32 → Int32 → Int32 → Sg → Prop} (hK12 : ∀ (v1 : Int32) (v2 : Int32) (v3 : Int32) (v4 : Int32) (v5 : Int32) (σ : Sg), K12 v1 v2 v3 v4 v5 σ → G X σ [(0, .ref (ad (tE X) 11 10 0)), (1, .int v1), (2, .int v2), (3, .int v3), (4, .int v4), (5, .int v5)] [] 12) {v1 : Int32} {v2 : Int32} {v3 : Int32} {v4 : Int32} {v5 : Int32} {v6 : Int32} {v7 : Int32} {v8 : Int32} {v9 : Int32} {v10 : Int32} {σ : Sg} (hw : wp_L_areTinsSo_L102 K12 Q v1 v2 v3 v4 v5 v6 v7 v8 v9 v10 σ) : G X σ [(0, .ref (ad (tE X) 11 10 0)), (1, .int v1), (2, .int v2), (3, .int v3), (4, .int v4), (5, .int v5), (6, .int v6), (7, .int v7), (8, .int v8), (9, .int v9), (10, .int v10)] [] 102 := by
  obtain ⟨n, hw⟩ := hw
  exact lpN_G (P := (fun (a : Int32 × Int32 × Int32 × Int32 × Int32 × Int32 × Int32 × Int32 × Int32 × Int32 × Sg) => G X (a.2.2.2.2.2.2.2.2.2.2) [(0, .ref (ad (tE X) 11 10 0)), (1, .int (a.1)), (2, .int (a.2.1)), (3, .int (a.2.2.1)), (4, .int (a.2.2.2.1)), (5, .int (a.2.2.2.2.1)), (6, .int (a.2.2.2.2.2.1)), (7, .int (a.2.2.2.2.2.2.1)), (8, .int (a.2.2.2.2.2.2.2.1)), (9, .int (a.2.2.2.2.2.2.2.2.1)), (10, .int (a.2.2.2.2.2.2.2.2.2.1))] [] 102)) (fun K a hK h => gs_L_areTinsSo_L102 C hK12 (fun v1 v2 v3 v4 v5 v6 v7 v8 v9 v10 σ h => hK (v1, v2, v3, v4, v5, v6, v7, v8, v9, v10, σ) h) h) n _ hw
def wp_L_areTinsSo_b87 (K12 : Int32 → Int32 → Int32 → Int32 → Int32 → Sg → Prop) (K48 : Int32 → Int32 → Int32 → Int32 → Int32 → Int32 → Int32 → Int32 → Int32 → Sg → Prop) (Q : Int32 → Sg → Prop) (v1 : Int32) (v2 : Int32) (v3 : Int32) (v4 : Int32) (v5 : Int32) (v6 : Int32) (v8 : Int32) (v9 : Int32) (s0 : Int32) (s1 : Int32) (σ : Sg) : Prop := ∀ z60 : Int32, z60 = (s1 ||| s0) → ∀ z61 : Int32, z61 = v9 + (1 : Int32) → K48 v1 v2 v3 v4 v5 v6 z60 v8 z61 σ
set_option maxRecDepth 100000 in
set_option maxHeartbeats 4000000 in
theorem g_L_areTinsSo_b87 {X : Tx} {Q : Int32 → Sg → Prop} (C : Cx X cL_areTinsSo "SweetWrapsLaw" (some .boolean) 7 153 12 (QI (tE X) Q)) {K12 : Int32 → Int32 → Int32 → Int32 → Int32 → Sg → Prop} {K48 : Int32 → Int32 → Int32 → Int32 → Int32 → Int32 → Int32 → Int32 → Int32 → Sg → Prop} (hK12 : ∀ (v1 : Int32) (v2 : Int32) (v3 : Int32) (v4 : Int32) (v5 : Int32) (σ : Sg), K12 v1 v2 v3 v4 v5 σ → G X σ [(0, .ref (ad (tE X) 11 10 0)), (1, .int v1), (2, .int v2), (3, .int v3), (4, .int v4), (5, .int v5)] [] 12) (hK48 : ∀ (v1 : Int32) (v2 : Int32) (v3 : Int32) (v4 : Int32) (v5 : Int32) (v6 : Int32) (v7 : Int32) (v8 : Int32) (v9 : Int32) (σ : Sg), K48 v1 v2 v3 v4 v5 v6 v7 v8 v9 σ → G X σ [(0, .ref (ad (tE X) 11 10 0)), (1, .int v1), (2, .int v2), (3, .int v3), (4, .int v4), (5, .int v5), (6, .int v6), (7, .int v7), (8, .int v8), (9, .int v9)] [] 48) {v1 : Int32} {v2 : Int32} {v3 : Int32} {v4 : Int32} {v5 : Int32} {v6 : Int32} {v8 : Int32} {v9 : Int32} {s0 : Int32} {s1 : Int32} {σ : Sg} (hw : wp_L_areTinsSo_b87 K12 K48 Q v1 v2 v3 v4 v5 v6 v8 v9 s0 s1 σ) : G X σ [(0, .ref (ad (tE X) 11 10 0)), (1, .int v1), (2, .int v2), (3, .int v3), (4, .int v4), (5, .int v5), (6, .int v6), (8, .int v8), (9, .int v9)] [.int s0, .int s1] 87 := by
  unfold wp_L_areTinsSo_b87 at hw
  refine gx_ior C dL_areTinsSo_87 ?_
  obtain ⟨z60, e_z60⟩ : ∃ z : Int32, z = (s1 ||| s0) := ⟨_, rfl⟩
  replace hw := hw z60 e_z60
  refine gx_top e_z60 ?_
  refine gx_istore (lv' := [(7, .int z60), (0, .ref (ad (tE X) 11 10 0)), (1, .int v1), (2, .int v2), (3, .int v3), (4, .int v4), (5, .int v5), (6, .int v6), (8, .int v8), (9, .int v9)]) C dL_areTinsSo_88 (by decide) rfl ?_
  obtain ⟨z61, e_z61⟩ : ∃ z : Int32, z = v9 + (1 : Int32) := ⟨_, rfl⟩
  replace hw := hw z61 e_z61
  refine gx_iinc (v := z61) (lv' := [(9, .int z61), (7, .int z60), (0, .ref (ad (tE X) 11 10 0)), (1, .int v1), (2, .int v2), (3, .int v3), (4, .int v4), (5, .int v5), (6, .int v6), (8, .int v8)]) C dL_areTinsSo_90 9 rfl (by rw [e_z61]; rfl) (by decide) rfl ?_
  refine gx_goto (tgt := 48) C dL_areTinsSo_93 (by decide) ?_
  refine gx_sub (lv' := [(0, .ref (ad (tE X) 11 10 0)), (1, .int v1), (2, .int v2), (3, .int v3), (4, .int v4), (5, .int v5), (6, .int v6), (7, .int z60), (8, .int v8), (9, .int z61)]) [2, 3, 4, 5, 6, 7, 8, 1, 9, 0] rfl ?_
  exact hK48 _ _ _ _ _ _ _ _ _ _ hw
def st_L_areTinsSo_L48 (K12 : Int32 → Int32 → Int32 → Int32 → Int32 → Sg → Prop) (Q : Int32 → Sg → Prop) (K48 : Int32 → Int32 → Int32 → Int32 → Int32 → Int32 → Int32 → Int32 → Int32 → Sg → Prop) (v1 : Int32) (v2 : Int32) (v3 : Int32) (v4 : Int32) (v5 : Int32) (v6 : Int32) (v7 : Int32) (v8 : Int32) (v9 : Int32) (σ : Sg) : Prop := (((6 : Int32) ≤ v9 → wp_L_areTinsSo_L102 K12 Q v1 v2 v3 v4 v5 v6 v7 v8 (0 : Int32) (0 : Int32) σ) ∧ (¬ (6 : Int32) ≤ v9 → wp_X5_inTin v5 v9 σ (fun r21 σ22 => ∀ z23 : Int32, z23 = (v6 + r21) → ((r21 ≤ 0 → wp_L_areTinsSo_b87 K12 K48 Q v1 v2 v3 v4 v5 z23 v8 v9 (0 : Int32) v7 σ22) ∧ (¬ r21 ≤ 0 → wp_L_areTinsSo_b87 K12 K48 Q v1 v2 v3 v4 v5 z23 v8 v9 ((1 : Int32) <<< (v9 &&& 31)) v7 σ22)))))
def wp_L_areTinsSo_L48 (K12 : Int32 → Int32 → Int32 → Int32 → Int32 → Sg → Prop) (Q : Int32 → Sg → Prop) (v1 : Int32) (v2 : Int32) (v3 : Int32) (v4 : Int32) (v5 : Int32) (v6 : Int32) (v7 : Int32) (v8 : Int32) (v9 : Int32) (σ : Sg) : Prop := ∃ n : Nat, lpN (fun (K : Int32 × Int32 × Int32 × Int32 × Int32 × Int32 × Int32 × Int32 × Int32 × Sg → Prop) (a : Int32 × Int32 × Int32 × Int32 × Int32 × Int32 × Int32 × Int32 × Int32 × Sg) => st_L_areTinsSo_L48 K12 Q (fun v1 v2 v3 v4 v5 v6 v7 v8 v9 σ => K (v1, v2, v3, v4, v5, v6, v7, v8, v9, σ)) (a.1) (a.2.1) (a.2.2.1) (a.2.2.2.1) (a.2.2.2.2.1) (a.2.2.2.2.2.1) (a.2.2.2.2.2.2.1) (a.2.2.2.2.2.2.2.1) (a.2.2.2.2.2.2.2.2.1) (a.2.2.2.2.2.2.2.2.2)) n (v1, v2, v3, v4, v5, v6, v7, v8, v9, σ)
set_option maxRecDepth 100000 in
set_option maxHeartbeats 4000000 in
theorem gs_L_areTinsSo_L48 {X : Tx} {Q : Int32 → Sg → Prop} (C : Cx X cL_areTinsSo "SweetWrapsLaw" (some .boolean) 7 153 12 (QI (tE X) Q)) {K12 : Int32 → Int32 → Int32 → Int32 → Int32 → Sg → Prop} (hK12 : ∀ (v1 : Int32) (v2 : Int32) (v3 : Int32) (v4 : Int32) (v5 : Int32) (σ : Sg), K12 v1 v2 v3 v4 v5 σ → G X σ [(0, .ref (ad (tE X) 11 10 0)), (1, .int v1), (2, .int v2), (3, .int v3), (4, .int v4), (5, .int v5)] [] 12) {K48 : Int32 → Int32 → Int32 → Int32 → Int32 → Int32 → Int32 → Int32 → Int32 → Sg → Prop} (hK48 : ∀ (v1 : Int32) (v2 : Int32) (v3 : Int32) (v4 : Int32) (v5 : Int32) (v6 : Int32) (v7 : Int32) (v8 : Int32) (v9 : Int32) (σ : Sg), K48 v1 v2 v3 v4 v5 v6 v7 v8 v9 σ → G X σ [(0, .ref (ad (tE X) 11 10 0)), (1, .int v1), (2, .int v2), (3, .int v3), (4, .int v4), (5, .int v5), (6, .int v6), (7, .int v7), (8, .int v8), (9, .int v9)] [] 48) {v1 : Int32} {v2 : Int32} {v3 : Int32} {v4 : Int32} {v5 : Int32} {v6 : Int32} {v7 : Int32} {v8 : Int32} {v9 : Int32} {σ : Sg} (hw : st_L_areTinsSo_L48 K12 Q K48 v1 v2 v3 v4 v5 v6 v7 v8 v9 σ) : G X σ [(0, .ref (ad (tE X) 11 10 0)), (1, .int v1), (2, .int v2), (3, .int v3), (4, .int v4), (5, .int v5), (6, .int v6), (7, .int v7), (8, .int v8), (9, .int v9)] [] 48 := by
  unfold st_L_areTinsSo_L48 at hw
  refine gx_iload C dL_areTinsSo_48 9 rfl ?_
  refine gx_bipush (v := (6 : Int32)) C dL_areTinsSo_50 (by decide) ?_
  refine gx_icmp_ge (tgt := 96) C dL_areTinsSo_52 (by decide) (fun c20 => ?_) (fun c20 => ?_)
  · replace hw := hw.1 c20
    refine gx_iconst (v := (0 : Int32)) C dL_areTinsSo_96 (by decide) ?_
    refine gx_istore (lv' := [(9, .int (0 : Int32)), (0, .ref (ad (tE X) 11 10 0)), (1, .int v1), (2, .int v2), (3, .int v3), (4, .int v4), (5, .int v5), (6, .int v6), (7, .int v7), (8, .int v8)]) C dL_areTinsSo_97 (by decide) rfl ?_
    refine gx_iconst (v := (0 : Int32)) C dL_areTinsSo_99 (by decide) ?_
    refine gx_istore (lv' := [(10, .int (0 : Int32)), (9, .int (0 : Int32)), (0, .ref (ad (tE X) 11 10 0)), (1, .int v1), (2, .int v2), (3, .int v3), (4, .int v4), (5, .int v5), (6, .int v6), (7, .int v7), (8, .int v8)]) C dL_areTinsSo_100 (by decide) rfl ?_
    refine gx_sub (lv' := [(0, .ref (ad (tE X) 11 10 0)), (1, .int v1), (2, .int v2), (3, .int v3), (4, .int v4), (5, .int v5), (6, .int v6), (7, .int v7), (8, .int v8), (9, .int (0 : Int32)), (10, .int (0 : Int32))]) [2, 3, 4, 5, 6, 7, 8, 9, 10, 1, 0] rfl ?_
    exact g_L_areTinsSo_L102 C hK12 hw
  · replace hw := hw.2 c20
    refine gx_aload_n C dL_areTinsSo_55 0 rfl ?_
    refine gx_iload C dL_areTinsSo_56 5 rfl ?_
    refine gx_iload C dL_areTinsSo_58 9 rfl ?_
    refine gx_vcalli (As := [.int v5, .int v9]) (rest := []) C (c_X5_inTin _ _ hw) okg_10 rfl rfl bw_422 bw_423 bw_424 bw_1 bw_425 hy_X5_inTin ⟨by decide, by decide⟩ rfl (Nat.le_of_ble_eq_true rfl) dL_areTinsSo_60 (fun r21 σ22 hw => ?_)
    refine gx_istore (lv' := [(10, .int r21), (0, .ref (ad (tE X) 11 10 0)), (1, .int v1), (2, .int v2), (3, .int v3), (4, .int v4), (5, .int v5), (6, .int v6), (7, .int v7), (8, .int v8), (9, .int v9)]) C dL_areTinsSo_63 (by decide) rfl ?_
    refine gx_iload C dL_areTinsSo_65 7 rfl ?_
    refine gx_iload C dL_areTinsSo_67 0 rfl ?_
    refine gx_iadd C dL_areTinsSo_69 ?_
    obtain ⟨z23, e_z23⟩ : ∃ z : Int32, z = (v6 + r21) := ⟨_, rfl⟩
    replace hw := hw z23 e_z23
    refine gx_top e_z23 ?_
    refine gx_istore (lv' := [(6, .int z23), (10, .int r21), (0, .ref (ad (tE X) 11 10 0)), (1, .int v1), (2, .int v2), (3, .int v3), (4, .int v4), (5, .int v5), (7, .int v7), (8, .int v8), (9, .int v9)]) C dL_areTinsSo_70 (by decide) rfl ?_
    refine gx_iload C dL_areTinsSo_72 8 rfl ?_
    refine gx_iload C dL_areTinsSo_74 1 rfl ?_
    refine gx_if_le (tgt := 86) C dL_areTinsSo_76 (by decide) (fun c24 => ?_) (fun c24 => ?_)
    · replace hw := hw.1 c24
      refine gx_iconst (v := (0 : Int32)) C dL_areTinsSo_86 (by decide) ?_
      refine gx_sub (lv' := [(0, .ref (ad (tE X) 11 10 0)), (1, .int v1), (2, .int v2), (3, .int v3), (4, .int v4), (5, .int v5), (6, .int z23), (8, .int v8), (9, .int v9)]) [2, 3, 4, 5, 6, 7, 0, 9, 10] rfl ?_
      exact g_L_areTinsSo_b87 C hK12 hK48 hw
    · replace hw := hw.2 c24
      refine gx_iconst (v := (1 : Int32)) C dL_areTinsSo_79 (by decide) ?_
      refine gx_iload C dL_areTinsSo_80 10 rfl ?_
      refine gx_ishl C dL_areTinsSo_82 ?_
      refine gx_goto (tgt := 87) C dL_areTinsSo_83 (by decide) ?_
      refine gx_sub (lv' := [(0, .ref (ad (tE X) 11 10 0)), (1, .int v1), (2, .int v2), (3, .int v3), (4, .int v4), (5, .int v5), (6, .int z23), (8, .int v8), (9, .int v9)]) [2, 3, 4, 5, 6, 7, 0, 9, 10] rfl ?_
      exact g_L_areTinsSo_b87 C hK12 hK48 hw
set_option maxRecDepth 100000 in
set_option maxHeartbeats 4000000 in
theorem g_L_areTinsSo_L48 {X : Tx} {Q : Int32 → Sg → Prop} (C : Cx X cL_areTinsSo "SweetWrapsLaw" (some .boolean) 7 153 12 (QI (tE X) Q)) {K12 : Int32 → Int32 → Int32 → Int32 → Int32 → Sg → Prop} (hK12 : ∀ (v1 : Int32) (v2 : Int32) (v3 : Int32) (v4 : Int32) (v5 : Int32) (σ : Sg), K12 v1 v2 v3 v4 v5 σ → G X σ [(0, .ref (ad (tE X) 11 10 0)), (1, .int v1), (2, .int v2), (3, .int v3), (4, .int v4), (5, .int v5)] [] 12) {v1 : Int32} {v2 : Int32} {v3 : Int32} {v4 : Int32} {v5 : Int32} {v6 : Int32} {v7 : Int32} {v8 : Int32} {v9 : Int32} {σ : Sg} (hw : wp_L_areTinsSo_L48 K12 Q v1 v2 v3 v4 v5 v6 v7 v8 v9 σ) : G X σ [(0, .ref (ad (tE X) 11 10 0)), (1, .int v1), (2, .int v2), (3, .int v3), (4, .int v4), (5, .int v5), (6, .int v6), (7, .int v7), (8, .int v8), (9, .int v9)] [] 48 := by
  obtain ⟨n, hw⟩ := hw
  exact lpN_G (P := (fun (a : Int32 × Int32 × Int32 × Int32 × Int32 × Int32 × Int32 × Int32 × Int32 × Sg) => G X (a.2.2.2.2.2.2.2.2.2) [(0, .ref (ad (tE X) 11 10 0)), (1, .int (a.1)), (2, .int (a.2.1)), (3, .int (a.2.2.1)), (4, .int (a.2.2.2.1)), (5, .int (a.2.2.2.2.1)), (6, .int (a.2.2.2.2.2.1)), (7, .int (a.2.2.2.2.2.2.1)), (8, .int (a.2.2.2.2.2.2.2.1)), (9, .int (a.2.2.2.2.2.2.2.2.1))] [] 48)) (fun K a hK h => gs_L_areTinsSo_L48 C hK12 (fun v1 v2 v3 v4 v5 v6 v7 v8 v9 σ h => hK (v1, v2, v3, v4, v5, v6, v7, v8, v9, σ) h) h) n _ hw
def wp_L_areTinsSo_b43 (K12 : Int32 → Int32 → Int32 → Int32 → Int32 → Sg → Prop) (Q : Int32 → Sg → Prop) (v1 : Int32) (v2 : Int32) (v3 : Int32) (v4 : Int32) (v5 : Int32) (v6 : Int32) (v7 : Int32) (s0 : Int32) (σ : Sg) : Prop := wp_L_areTinsSo_L48 K12 Q v1 v2 v3 v4 v5 v6 v7 s0 (0 : Int32) σ
set_option maxRecDepth 100000 in
set_option maxHeartbeats 4000000 in
theorem g_L_areTinsSo_b43 {X : Tx} {Q : Int32 → Sg → Prop} (C : Cx X cL_areTinsSo "SweetWrapsLaw" (some .boolean) 7 153 12 (QI (tE X) Q)) {K12 : Int32 → Int32 → Int32 → Int32 → Int32 → Sg → Prop} (hK12 : ∀ (v1 : Int32) (v2 : Int32) (v3 : Int32) (v4 : Int32) (v5 : Int32) (σ : Sg), K12 v1 v2 v3 v4 v5 σ → G X σ [(0, .ref (ad (tE X) 11 10 0)), (1, .int v1), (2, .int v2), (3, .int v3), (4, .int v4), (5, .int v5)] [] 12) {v1 : Int32} {v2 : Int32} {v3 : Int32} {v4 : Int32} {v5 : Int32} {v6 : Int32} {v7 : Int32} {s0 : Int32} {σ : Sg} (hw : wp_L_areTinsSo_b43 K12 Q v1 v2 v3 v4 v5 v6 v7 s0 σ) : G X σ [(0, .ref (ad (tE X) 11 10 0)), (1, .int v1), (2, .int v2), (3, .int v3), (4, .int v4), (5, .int v5), (6, .int v6), (7, .int v7)] [.int s0] 43 := by
  unfold wp_L_areTinsSo_b43 at hw
  refine gx_istore (lv' := [(8, .int s0), (0, .ref (ad (tE X) 11 10 0)), (1, .int v1), (2, .int v2), (3, .int v3), (4, .int v4), (5, .int v5), (6, .int v6), (7, .int v7)]) C dL_areTinsSo_43 (by decide) rfl ?_
  refine gx_iconst (v := (0 : Int32)) C dL_areTinsSo_45 (by decide) ?_
  refine gx_istore (lv' := [(9, .int (0 : Int32)), (8, .int s0), (0, .ref (ad (tE X) 11 10 0)), (1, .int v1), (2, .int v2), (3, .int v3), (4, .int v4), (5, .int v5), (6, .int v6), (7, .int v7)]) C dL_areTinsSo_46 (by decide) rfl ?_
  refine gx_sub (lv' := [(0, .ref (ad (tE X) 11 10 0)), (1, .int v1), (2, .int v2), (3, .int v3), (4, .int v4), (5, .int v5), (6, .int v6), (7, .int v7), (8, .int s0), (9, .int (0 : Int32))]) [2, 3, 4, 5, 6, 7, 8, 9, 1, 0] rfl ?_
  exact g_L_areTinsSo_L48 C hK12 hw
def st_L_areTinsSo_L12 (Q : Int32 → Sg → Prop) (K12 : Int32 → Int32 → Int32 → Int32 → Int32 → Sg → Prop) (v1 : Int32) (v2 : Int32) (v3 : Int32) (v4 : Int32) (v5 : Int32) (σ : Sg) : Prop := wp_X5_count (1 : Int32) σ (fun r1 σ2 => ((r1 ≤ v5 → ((v4 = 0 → Q (0 : Int32) σ2) ∧ (¬ v4 = 0 → wp_X5_count (5 : Int32) σ2 (fun r5 σ6 => ((¬ v1 = r5 → Q (0 : Int32) σ6) ∧ (v1 = r5 → wp_X5_count (6 : Int32) σ6 (fun r8 σ9 => ((¬ v2 = r8 → Q (0 : Int32) σ9) ∧ (v2 = r8 → wp_X5_count (2 : Int32) σ9 (fun r11 σ12 => ((¬ r11 = v3 → Q (0 : Int32) σ12) ∧ (r11 = v3 → wp_X5_count (3 : Int32) σ12 (fun r14 σ15 => ((¬ (r14 &&& v3) = 0 → Q (0 : Int32) σ15) ∧ ((r14 &&& v3) = 0 → Q (1 : Int32) σ15))))))))))))))) ∧ (¬ r1 ≤ v5 → wp_X5_ofTin v5 (1 : Int32) σ2 (fun r17 σ18 => ((¬ r17 = 0 → wp_L_areTinsSo_b43 K12 Q v1 v2 v3 v4 v5 (0 : Int32) (0 : Int32) (0 : Int32) σ18) ∧ (r17 = 0 → wp_L_areTinsSo_b43 K12 Q v1 v2 v3 v4 v5 (0 : Int32) (0 : Int32) (1 : Int32) σ18))))))
def wp_L_areTinsSo_L12 (Q : Int32 → Sg → Prop) (v1 : Int32) (v2 : Int32) (v3 : Int32) (v4 : Int32) (v5 : Int32) (σ : Sg) : Prop := ∃ n : Nat, lpN (fun (K : Int32 × Int32 × Int32 × Int32 × Int32 × Sg → Prop) (a : Int32 × Int32 × Int32 × Int32 × Int32 × Sg) => st_L_areTinsSo_L12 Q (fun v1 v2 v3 v4 v5 σ => K (v1, v2, v3, v4, v5, σ)) (a.1) (a.2.1) (a.2.2.1) (a.2.2.2.1) (a.2.2.2.2.1) (a.2.2.2.2.2)) n (v1, v2, v3, v4, v5, σ)
set_option maxRecDepth 100000 in
set_option maxHeartbeats 4000000 in
theorem gs_L_areTinsSo_L12 {X : Tx} {Q : Int32 → Sg → Prop} (C : Cx X cL_areTinsSo "SweetWrapsLaw" (some .boolean) 7 153 12 (QI (tE X) Q)) {K12 : Int32 → Int32 → Int32 → Int32 → Int32 → Sg → Prop} (hK12 : ∀ (v1 : Int32) (v2 : Int32) (v3 : Int32) (v4 : Int32) (v5 : Int32) (σ : Sg), K12 v1 v2 v3 v4 v5 σ → G X σ [(0, .ref (ad (tE X) 11 10 0)), (1, .int v1), (2, .int v2), (3, .int v3), (4, .int v4), (5, .int v5)] [] 12) {v1 : Int32} {v2 : Int32} {v3 : Int32} {v4 : Int32} {v5 : Int32} {σ : Sg} (hw : st_L_areTinsSo_L12 Q K12 v1 v2 v3 v4 v5 σ) : G X σ [(0, .ref (ad (tE X) 11 10 0)), (1, .int v1), (2, .int v2), (3, .int v3), (4, .int v4), (5, .int v5)] [] 12 := by
  unfold st_L_areTinsSo_L12 at hw
  refine gx_iload C dL_areTinsSo_12 5 rfl ?_
  refine gx_aload_n C dL_areTinsSo_14 0 rfl ?_
  refine gx_iconst (v := (1 : Int32)) C dL_areTinsSo_15 (by decide) ?_
  refine gx_vcalli (As := [.int (1 : Int32)]) (rest := [.int v5]) C (c_X5_count _ _ hw) okg_10 rfl rfl bw_270 bw_271 bw_272 bw_1 bw_273 hy_X5_count ⟨by decide, by decide⟩ rfl (Nat.le_of_ble_eq_true rfl) dL_areTinsSo_16 (fun r1 σ2 hw => ?_)
  refine gx_icmp_ge (tgt := 309) C dL_areTinsSo_19 (by decide) (fun c3 => ?_) (fun c3 => ?_)
  · replace hw := hw.1 c3
    refine gx_iload C dL_areTinsSo_309 4 rfl ?_
    refine gx_if_eq (tgt := 356) C dL_areTinsSo_311 (by decide) (fun c4 => ?_) (fun c4 => ?_)
    · replace hw := hw.1 c4
      refine gx_iconst (v := (0 : Int32)) C dL_areTinsSo_356 (by decide) ?_
      exact gx_iret C rfl rfl dL_areTinsSo_357 hw
    · replace hw := hw.2 c4
      refine gx_iload_n C dL_areTinsSo_314 1 rfl ?_
      refine gx_aload_n C dL_areTinsSo_315 0 rfl ?_
      refine gx_iconst (v := (5 : Int32)) C dL_areTinsSo_316 (by decide) ?_
      refine gx_vcalli (As := [.int (5 : Int32)]) (rest := [.int v1]) C (c_X5_count _ _ hw) okg_10 rfl rfl bw_270 bw_271 bw_272 bw_1 bw_273 hy_X5_count ⟨by decide, by decide⟩ rfl (Nat.le_of_ble_eq_true rfl) dL_areTinsSo_317 (fun r5 σ6 hw => ?_)
      refine gx_icmp_ne (tgt := 356) C dL_areTinsSo_320 (by decide) (fun c7 => ?_) (fun c7 => ?_)
      · replace hw := hw.1 c7
        refine gx_iconst (v := (0 : Int32)) C dL_areTinsSo_356 (by decide) ?_
        exact gx_iret C rfl rfl dL_areTinsSo_357 hw
      · replace hw := hw.2 c7
        refine gx_iload_n C dL_areTinsSo_323 2 rfl ?_
        refine gx_aload_n C dL_areTinsSo_324 0 rfl ?_
        refine gx_bipush (v := (6 : Int32)) C dL_areTinsSo_325 (by decide) ?_
        refine gx_vcalli (As := [.int (6 : Int32)]) (rest := [.int v2]) C (c_X5_count _ _ hw) okg_10 rfl rfl bw_270 bw_271 bw_272 bw_1 bw_273 hy_X5_count ⟨by decide, by decide⟩ rfl (Nat.le_of_ble_eq_true rfl) dL_areTinsSo_327 (fun r8 σ9 hw => ?_)
        refine gx_icmp_ne (tgt := 356) C dL_areTinsSo_330 (by decide) (fun c10 => ?_) (fun c10 => ?_)
        · replace hw := hw.1 c10
          refine gx_iconst (v := (0 : Int32)) C dL_areTinsSo_356 (by decide) ?_
          exact gx_iret C rfl rfl dL_areTinsSo_357 hw
        · replace hw := hw.2 c10
          refine gx_aload_n C dL_areTinsSo_333 0 rfl ?_
          refine gx_iconst (v := (2 : Int32)) C dL_areTinsSo_334 (by decide) ?_
          refine gx_vcalli (As := [.int (2 : Int32)]) (rest := []) C (c_X5_count _ _ hw) okg_10 rfl rfl bw_270 bw_271 bw_272 bw_1 bw_273 hy_X5_count ⟨by decide, by decide⟩ rfl (Nat.le_of_ble_eq_true rfl) dL_areTinsSo_335 (fun r11 σ12 hw => ?_)
          refine gx_iload_n C dL_areTinsSo_338 3 rfl ?_
          refine gx_icmp_ne (tgt := 356) C dL_areTinsSo_339 (by decide) (fun c13 => ?_) (fun c13 => ?_)
          · replace hw := hw.1 c13
            refine gx_iconst (v := (0 : Int32)) C dL_areTinsSo_356 (by decide) ?_
            exact gx_iret C rfl rfl dL_areTinsSo_357 hw
          · replace hw := hw.2 c13
            refine gx_aload_n C dL_areTinsSo_342 0 rfl ?_
            refine gx_iconst (v := (3 : Int32)) C dL_areTinsSo_343 (by decide) ?_
            refine gx_vcalli (As := [.int (3 : Int32)]) (rest := []) C (c_X5_count _ _ hw) okg_10 rfl rfl bw_270 bw_271 bw_272 bw_1 bw_273 hy_X5_count ⟨by decide, by decide⟩ rfl (Nat.le_of_ble_eq_true rfl) dL_areTinsSo_344 (fun r14 σ15 hw => ?_)
            refine gx_iload_n C dL_areTinsSo_347 3 rfl ?_
            refine gx_iand C dL_areTinsSo_348 ?_
            refine gx_if_ne (tgt := 356) C dL_areTinsSo_349 (by decide) (fun c16 => ?_) (fun c16 => ?_)
            · replace hw := hw.1 c16
              refine gx_iconst (v := (0 : Int32)) C dL_areTinsSo_356 (by decide) ?_
              exact gx_iret C rfl rfl dL_areTinsSo_357 hw
            · replace hw := hw.2 c16
              refine gx_iconst (v := (1 : Int32)) C dL_areTinsSo_352 (by decide) ?_
              refine gx_goto (tgt := 357) C dL_areTinsSo_353 (by decide) ?_
              exact gx_iret C rfl rfl dL_areTinsSo_357 hw
  · replace hw := hw.2 c3
    refine gx_iconst (v := (0 : Int32)) C dL_areTinsSo_22 (by decide) ?_
    refine gx_istore (lv' := [(6, .int (0 : Int32)), (0, .ref (ad (tE X) 11 10 0)), (1, .int v1), (2, .int v2), (3, .int v3), (4, .int v4), (5, .int v5)]) C dL_areTinsSo_23 (by decide) rfl ?_
    refine gx_iconst (v := (0 : Int32)) C dL_areTinsSo_25 (by decide) ?_
    refine gx_istore (lv' := [(7, .int (0 : Int32)), (6, .int (0 : Int32)), (0, .ref (ad (tE X) 11 10 0)), (1, .int v1), (2, .int v2), (3, .int v3), (4, .int v4), (5, .int v5)]) C dL_areTinsSo_26 (by decide) rfl ?_
    refine gx_aload_n C dL_areTinsSo_28 2 rfl ?_
    refine gx_iload C dL_areTinsSo_29 7 rfl ?_
    refine gx_iconst (v := (1 : Int32)) C dL_areTinsSo_31 (by decide) ?_
    refine gx_vcalli (As := [.int v5, .int (1 : Int32)]) (rest := []) C (c_X5_ofTin _ _ hw) okg_10 rfl rfl bw_410 bw_411 bw_412 bw_1 bw_413 hy_X5_ofTin ⟨by decide, by decide⟩ rfl (Nat.le_of_ble_eq_true rfl) dL_areTinsSo_32 (fun r17 σ18 hw => ?_)
    refine gx_if_ne (tgt := 42) C dL_areTinsSo_35 (by decide) (fun c19 => ?_) (fun c19 => ?_)
    · replace hw := hw.1 c19
      refine gx_iconst (v := (0 : Int32)) C dL_areTinsSo_42 (by decide) ?_
      refine gx_sub (lv' := [(0, .ref (ad (tE X) 11 10 0)), (1, .int v1), (2, .int v2), (3, .int v3), (4, .int v4), (5, .int v5), (6, .int (0 : Int32)), (7, .int (0 : Int32))]) [2, 3, 4, 5, 6, 7, 1, 0] rfl ?_
      exact g_L_areTinsSo_b43 C hK12 hw
    · replace hw := hw.2 c19
      refine gx_iconst (v := (1 : Int32)) C dL_areTinsSo_38 (by decide) ?_
      refine gx_goto (tgt := 43) C dL_areTinsSo_39 (by decide) ?_
      refine gx_sub (lv' := [(0, .ref (ad (tE X) 11 10 0)), (1, .int v1), (2, .int v2), (3, .int v3), (4, .int v4), (5, .int v5), (6, .int (0 : Int32)), (7, .int (0 : Int32))]) [2, 3, 4, 5, 6, 7, 1, 0] rfl ?_
      exact g_L_areTinsSo_b43 C hK12 hw
set_option maxRecDepth 100000 in
set_option maxHeartbeats 4000000 in
theorem g_L_areTinsSo_L12 {X : Tx} {Q : Int32 → Sg → Prop} (C : Cx X cL_areTinsSo "SweetWrapsLaw" (some .boolean) 7 153 12 (QI (tE X) Q)) {v1 : Int32} {v2 : Int32} {v3 : Int32} {v4 : Int32} {v5 : Int32} {σ : Sg} (hw : wp_L_areTinsSo_L12 Q v1 v2 v3 v4 v5 σ) : G X σ [(0, .ref (ad (tE X) 11 10 0)), (1, .int v1), (2, .int v2), (3, .int v3), (4, .int v4), (5, .int v5)] [] 12 := by
  obtain ⟨n, hw⟩ := hw
  exact lpN_G (P := (fun (a : Int32 × Int32 × Int32 × Int32 × Int32 × Sg) => G X (a.2.2.2.2.2) [(0, .ref (ad (tE X) 11 10 0)), (1, .int (a.1)), (2, .int (a.2.1)), (3, .int (a.2.2.1)), (4, .int (a.2.2.2.1)), (5, .int (a.2.2.2.2.1))] [] 12)) (fun K a hK h => gs_L_areTinsSo_L12 C (fun v1 v2 v3 v4 v5 σ h => hK (v1, v2, v3, v4, v5, σ) h) h) n _ hw
def wp_L_areTinsSo (σ : Sg) (Q : Int32 → Sg → Prop) : Prop := wp_L_areTinsSo_L12 Q (0 : Int32) (0 : Int32) (0 : Int32) (1 : Int32) (0 : Int32) σ
set_option maxRecDepth 100000 in
set_option maxHeartbeats 4000000 in
theorem c_L_areTinsSo (l : Launch) (E : Ev) {σ : Sg} {Q : Int32 → Sg → Prop} (hw : wp_L_areTinsSo σ Q) : CT l E yL_areTinsSo cL_areTinsSo 12 (some .boolean) 7 153 [.ref (ad E 11 10 0)] σ (QI E Q) := by
  refine CT_of (by decide) (Nat.le_of_ble_eq_true rfl) (fun X h1 h2 C => ?_)
  subst h1; subst h2
  have C : Cx X cL_areTinsSo "SweetWrapsLaw" (some .boolean) 7 153 12 (QI (tE X) Q) := C
  show G X σ [(0, .ref (ad (tE X) 11 10 0))] [] 0
  unfold wp_L_areTinsSo at hw
  refine gx_iconst (v := (0 : Int32)) C dL_areTinsSo_0 (by decide) ?_
  refine gx_istore_n (lv' := [(1, .int (0 : Int32)), (0, .ref (ad (tE X) 11 10 0))]) C dL_areTinsSo_1 (by decide) rfl ?_
  refine gx_iconst (v := (0 : Int32)) C dL_areTinsSo_2 (by decide) ?_
  refine gx_istore_n (lv' := [(2, .int (0 : Int32)), (1, .int (0 : Int32)), (0, .ref (ad (tE X) 11 10 0))]) C dL_areTinsSo_3 (by decide) rfl ?_
  refine gx_iconst (v := (0 : Int32)) C dL_areTinsSo_4 (by decide) ?_
  refine gx_istore_n (lv' := [(3, .int (0 : Int32)), (2, .int (0 : Int32)), (1, .int (0 : Int32)), (0, .ref (ad (tE X) 11 10 0))]) C dL_areTinsSo_5 (by decide) rfl ?_
  refine gx_iconst (v := (1 : Int32)) C dL_areTinsSo_6 (by decide) ?_
  refine gx_istore (lv' := [(4, .int (1 : Int32)), (3, .int (0 : Int32)), (2, .int (0 : Int32)), (1, .int (0 : Int32)), (0, .ref (ad (tE X) 11 10 0))]) C dL_areTinsSo_7 (by decide) rfl ?_
  refine gx_iconst (v := (0 : Int32)) C dL_areTinsSo_9 (by decide) ?_
  refine gx_istore (lv' := [(5, .int (0 : Int32)), (4, .int (1 : Int32)), (3, .int (0 : Int32)), (2, .int (0 : Int32)), (1, .int (0 : Int32)), (0, .ref (ad (tE X) 11 10 0))]) C dL_areTinsSo_10 (by decide) rfl ?_
  refine gx_sub (lv' := [(0, .ref (ad (tE X) 11 10 0)), (1, .int (0 : Int32)), (2, .int (0 : Int32)), (3, .int (0 : Int32)), (4, .int (1 : Int32)), (5, .int (0 : Int32))]) [5, 4, 3, 2, 1, 0] rfl ?_
  exact g_L_areTinsSo_L12 C hw
theorem hyS_L_areTinsSo : yL_areTinsSo.cls ≠ "java/lang/invoke/MethodHandle" ∧ yL_areTinsSo.cls ≠ "java/lang/invoke/VarHandle" ∧ (parseMethodDescriptor yL_areTinsSo.desc).map (fun d => d.parameters.length) = some 1 := by decide +kernel

theorem dL_areLanesSo_0 : decode cL_areLanesSo 0 = .ok (.iconst 0, 1) := by decide +kernel
theorem dL_areLanesSo_1 : decode cL_areLanesSo 1 = .ok (.istore_n 1, 1) := by decide +kernel
theorem dL_areLanesSo_2 : decode cL_areLanesSo 2 = .ok (.iconst 0, 1) := by decide +kernel
theorem dL_areLanesSo_3 : decode cL_areLanesSo 3 = .ok (.istore_n 2, 1) := by decide +kernel
theorem dL_areLanesSo_4 : decode cL_areLanesSo 4 = .ok (.iconst 0, 1) := by decide +kernel
theorem dL_areLanesSo_5 : decode cL_areLanesSo 5 = .ok (.istore_n 3, 1) := by decide +kernel
theorem dL_areLanesSo_6 : decode cL_areLanesSo 6 = .ok (.iconst 0, 1) := by decide +kernel
theorem dL_areLanesSo_7 : decode cL_areLanesSo 7 = .ok (.istore 4, 2) := by decide +kernel
theorem dL_areLanesSo_9 : decode cL_areLanesSo 9 = .ok (.iconst 1, 1) := by decide +kernel
theorem dL_areLanesSo_10 : decode cL_areLanesSo 10 = .ok (.istore 5, 2) := by decide +kernel
theorem dL_areLanesSo_12 : decode cL_areLanesSo 12 = .ok (.iconst 0, 1) := by decide +kernel
theorem dL_areLanesSo_13 : decode cL_areLanesSo 13 = .ok (.istore 6, 2) := by decide +kernel
theorem dL_areLanesSo_15 : decode cL_areLanesSo 15 = .ok (.iload 6, 2) := by decide +kernel
theorem dL_areLanesSo_17 : decode cL_areLanesSo 17 = .ok (.iconst 4, 1) := by decide +kernel
theorem dL_areLanesSo_18 : decode cL_areLanesSo 18 = .ok (.if_icmp .ge 349, 3) := by decide +kernel
theorem dL_areLanesSo_21 : decode cL_areLanesSo 21 = .ok (.aload_n 0, 1) := by decide +kernel
theorem dL_areLanesSo_22 : decode cL_areLanesSo 22 = .ok (.iload 6, 2) := by decide +kernel
theorem dL_areLanesSo_24 : decode cL_areLanesSo 24 = .ok (.iconst 1, 1) := by decide +kernel
theorem dL_areLanesSo_25 : decode cL_areLanesSo 25 = .ok (.invokevirtual 55, 3) := by decide +kernel
theorem dL_areLanesSo_28 : decode cL_areLanesSo 28 = .ok (.istore 7, 2) := by decide +kernel
theorem dL_areLanesSo_30 : decode cL_areLanesSo 30 = .ok (.iconst 0, 1) := by decide +kernel
theorem dL_areLanesSo_31 : decode cL_areLanesSo 31 = .ok (.istore 8, 2) := by decide +kernel
theorem dL_areLanesSo_33 : decode cL_areLanesSo 33 = .ok (.iconst 0, 1) := by decide +kernel
theorem dL_areLanesSo_34 : decode cL_areLanesSo 34 = .ok (.istore 9, 2) := by decide +kernel
theorem dL_areLanesSo_36 : decode cL_areLanesSo 36 = .ok (.iload 9, 2) := by decide +kernel
theorem dL_areLanesSo_38 : decode cL_areLanesSo 38 = .ok (.iload 7, 2) := by decide +kernel
theorem dL_areLanesSo_40 : decode cL_areLanesSo 40 = .ok (.if_icmp .ge 75, 3) := by decide +kernel
theorem dL_areLanesSo_43 : decode cL_areLanesSo 43 = .ok (.iload 8, 2) := by decide +kernel
theorem dL_areLanesSo_45 : decode cL_areLanesSo 45 = .ok (.aload_n 0, 1) := by decide +kernel
theorem dL_areLanesSo_46 : decode cL_areLanesSo 46 = .ok (.iload 6, 2) := by decide +kernel
theorem dL_areLanesSo_48 : decode cL_areLanesSo 48 = .ok (.iload 9, 2) := by decide +kernel
theorem dL_areLanesSo_50 : decode cL_areLanesSo 50 = .ok (.iconst 1, 1) := by decide +kernel
theorem dL_areLanesSo_51 : decode cL_areLanesSo 51 = .ok (.invokevirtual 58, 3) := by decide +kernel
theorem dL_areLanesSo_54 : decode cL_areLanesSo 54 = .ok (.iadd, 1) := by decide +kernel
theorem dL_areLanesSo_55 : decode cL_areLanesSo 55 = .ok (.istore 8, 2) := by decide +kernel
theorem dL_areLanesSo_57 : decode cL_areLanesSo 57 = .ok (.iload 5, 2) := by decide +kernel
theorem dL_areLanesSo_59 : decode cL_areLanesSo 59 = .ok (.ifCond .eq 47, 3) := by decide +kernel
theorem dL_areLanesSo_62 : decode cL_areLanesSo 62 = .ok (.aload_n 0, 1) := by decide +kernel
theorem dL_areLanesSo_63 : decode cL_areLanesSo 63 = .ok (.iload 6, 2) := by decide +kernel
theorem dL_areLanesSo_65 : decode cL_areLanesSo 65 = .ok (.iload 9, 2) := by decide +kernel
theorem dL_areLanesSo_67 : decode cL_areLanesSo 67 = .ok (.iconst 1, 1) := by decide +kernel
theorem dL_areLanesSo_68 : decode cL_areLanesSo 68 = .ok (.invokevirtual 58, 3) := by decide +kernel
theorem dL_areLanesSo_71 : decode cL_areLanesSo 71 = .ok (.ifCond .le 35, 3) := by decide +kernel
theorem dL_areLanesSo_74 : decode cL_areLanesSo 74 = .ok (.iload 9, 2) := by decide +kernel
theorem dL_areLanesSo_76 : decode cL_areLanesSo 76 = .ok (.ifCond .eq 26, 3) := by decide +kernel
theorem dL_areLanesSo_79 : decode cL_areLanesSo 79 = .ok (.aload_n 0, 1) := by decide +kernel
theorem dL_areLanesSo_80 : decode cL_areLanesSo 80 = .ok (.iload 6, 2) := by decide +kernel
theorem dL_areLanesSo_82 : decode cL_areLanesSo 82 = .ok (.iload 9, 2) := by decide +kernel
theorem dL_areLanesSo_84 : decode cL_areLanesSo 84 = .ok (.iconst 0, 1) := by decide +kernel
theorem dL_areLanesSo_85 : decode cL_areLanesSo 85 = .ok (.invokevirtual 58, 3) := by decide +kernel
theorem dL_areLanesSo_88 : decode cL_areLanesSo 88 = .ok (.aload_n 0, 1) := by decide +kernel
theorem dL_areLanesSo_89 : decode cL_areLanesSo 89 = .ok (.iload 6, 2) := by decide +kernel
theorem dL_areLanesSo_91 : decode cL_areLanesSo 91 = .ok (.iload 9, 2) := by decide +kernel
theorem dL_areLanesSo_93 : decode cL_areLanesSo 93 = .ok (.iconst 1, 1) := by decide +kernel
theorem dL_areLanesSo_94 : decode cL_areLanesSo 94 = .ok (.isub, 1) := by decide +kernel
theorem dL_areLanesSo_95 : decode cL_areLanesSo 95 = .ok (.iconst 0, 1) := by decide +kernel
theorem dL_areLanesSo_96 : decode cL_areLanesSo 96 = .ok (.invokevirtual 58, 3) := by decide +kernel
theorem dL_areLanesSo_99 : decode cL_areLanesSo 99 = .ok (.if_icmp .eq 7, 3) := by decide +kernel
theorem dL_areLanesSo_102 : decode cL_areLanesSo 102 = .ok (.iconst 1, 1) := by decide +kernel
theorem dL_areLanesSo_103 : decode cL_areLanesSo 103 = .ok (.goto 4, 3) := by decide +kernel
theorem dL_areLanesSo_106 : decode cL_areLanesSo 106 = .ok (.iconst 0, 1) := by decide +kernel
theorem dL_areLanesSo_107 : decode cL_areLanesSo 107 = .ok (.istore 5, 2) := by decide +kernel
theorem dL_areLanesSo_109 : decode cL_areLanesSo 109 = .ok (.iinc 9 1, 3) := by decide +kernel
theorem dL_areLanesSo_112 : decode cL_areLanesSo 112 = .ok (.goto (-76), 3) := by decide +kernel
theorem dL_areLanesSo_115 : decode cL_areLanesSo 115 = .ok (.iconst (-1), 1) := by decide +kernel
theorem dL_areLanesSo_116 : decode cL_areLanesSo 116 = .ok (.istore 9, 2) := by decide +kernel
theorem dL_areLanesSo_118 : decode cL_areLanesSo 118 = .ok (.aload_n 0, 1) := by decide +kernel
theorem dL_areLanesSo_119 : decode cL_areLanesSo 119 = .ok (.iconst 1, 1) := by decide +kernel
theorem dL_areLanesSo_120 : decode cL_areLanesSo 120 = .ok (.invokevirtual 31, 3) := by decide +kernel
theorem dL_areLanesSo_123 : decode cL_areLanesSo 123 = .ok (.iconst 1, 1) := by decide +kernel
theorem dL_areLanesSo_124 : decode cL_areLanesSo 124 = .ok (.isub, 1) := by decide +kernel
theorem dL_areLanesSo_125 : decode cL_areLanesSo 125 = .ok (.istore 10, 2) := by decide +kernel
theorem dL_areLanesSo_127 : decode cL_areLanesSo 127 = .ok (.iload 10, 2) := by decide +kernel
theorem dL_areLanesSo_129 : decode cL_areLanesSo 129 = .ok (.ifCond .lt 44, 3) := by decide +kernel
theorem dL_areLanesSo_132 : decode cL_areLanesSo 132 = .ok (.iload 7, 2) := by decide +kernel
theorem dL_areLanesSo_134 : decode cL_areLanesSo 134 = .ok (.ifCond .le 39, 3) := by decide +kernel
theorem dL_areLanesSo_137 : decode cL_areLanesSo 137 = .ok (.aload_n 0, 1) := by decide +kernel
theorem dL_areLanesSo_138 : decode cL_areLanesSo 138 = .ok (.iload 10, 2) := by decide +kernel
theorem dL_areLanesSo_140 : decode cL_areLanesSo 140 = .ok (.iconst 3, 1) := by decide +kernel
theorem dL_areLanesSo_141 : decode cL_areLanesSo 141 = .ok (.invokevirtual 46, 3) := by decide +kernel
theorem dL_areLanesSo_144 : decode cL_areLanesSo 144 = .ok (.aload_n 0, 1) := by decide +kernel
theorem dL_areLanesSo_145 : decode cL_areLanesSo 145 = .ok (.iload 6, 2) := by decide +kernel
theorem dL_areLanesSo_147 : decode cL_areLanesSo 147 = .ok (.iconst 2, 1) := by decide +kernel
theorem dL_areLanesSo_148 : decode cL_areLanesSo 148 = .ok (.invokevirtual 55, 3) := by decide +kernel
theorem dL_areLanesSo_151 : decode cL_areLanesSo 151 = .ok (.ishr, 1) := by decide +kernel
theorem dL_areLanesSo_152 : decode cL_areLanesSo 152 = .ok (.iconst 1, 1) := by decide +kernel
theorem dL_areLanesSo_153 : decode cL_areLanesSo 153 = .ok (.iand, 1) := by decide +kernel
theorem dL_areLanesSo_154 : decode cL_areLanesSo 154 = .ok (.iconst 1, 1) := by decide +kernel
theorem dL_areLanesSo_155 : decode cL_areLanesSo 155 = .ok (.if_icmp .ne 8, 3) := by decide +kernel
theorem dL_areLanesSo_158 : decode cL_areLanesSo 158 = .ok (.iload 10, 2) := by decide +kernel
theorem dL_areLanesSo_160 : decode cL_areLanesSo 160 = .ok (.goto 5, 3) := by decide +kernel
theorem dL_areLanesSo_163 : decode cL_areLanesSo 163 = .ok (.iload 9, 2) := by decide +kernel
theorem dL_areLanesSo_165 : decode cL_areLanesSo 165 = .ok (.istore 9, 2) := by decide +kernel
theorem dL_areLanesSo_167 : decode cL_areLanesSo 167 = .ok (.iinc 10 (-1), 3) := by decide +kernel
theorem dL_areLanesSo_170 : decode cL_areLanesSo 170 = .ok (.goto (-43), 3) := by decide +kernel
theorem dL_areLanesSo_173 : decode cL_areLanesSo 173 = .ok (.iload 7, 2) := by decide +kernel
theorem dL_areLanesSo_175 : decode cL_areLanesSo 175 = .ok (.ifCond .ne 7, 3) := by decide +kernel
theorem dL_areLanesSo_178 : decode cL_areLanesSo 178 = .ok (.iconst 1, 1) := by decide +kernel
theorem dL_areLanesSo_179 : decode cL_areLanesSo 179 = .ok (.goto 35, 3) := by decide +kernel
theorem dL_areLanesSo_182 : decode cL_areLanesSo 182 = .ok (.iload 9, 2) := by decide +kernel
theorem dL_areLanesSo_184 : decode cL_areLanesSo 184 = .ok (.ifCond .ge 7, 3) := by decide +kernel
theorem dL_areLanesSo_187 : decode cL_areLanesSo 187 = .ok (.iconst 2, 1) := by decide +kernel
theorem dL_areLanesSo_188 : decode cL_areLanesSo 188 = .ok (.goto 26, 3) := by decide +kernel
theorem dL_areLanesSo_191 : decode cL_areLanesSo 191 = .ok (.aload_n 0, 1) := by decide +kernel
theorem dL_areLanesSo_192 : decode cL_areLanesSo 192 = .ok (.iload 6, 2) := by decide +kernel
theorem dL_areLanesSo_194 : decode cL_areLanesSo 194 = .ok (.iconst 3, 1) := by decide +kernel
theorem dL_areLanesSo_195 : decode cL_areLanesSo 195 = .ok (.invokevirtual 55, 3) := by decide +kernel
theorem dL_areLanesSo_198 : decode cL_areLanesSo 198 = .ok (.iconst 2, 1) := by decide +kernel
theorem dL_areLanesSo_199 : decode cL_areLanesSo 199 = .ok (.aload_n 0, 1) := by decide +kernel
theorem dL_areLanesSo_200 : decode cL_areLanesSo 200 = .ok (.bipush 14, 2) := by decide +kernel
theorem dL_areLanesSo_202 : decode cL_areLanesSo 202 = .ok (.invokevirtual 31, 3) := by decide +kernel
theorem dL_areLanesSo_205 : decode cL_areLanesSo 205 = .ok (.iadd, 1) := by decide +kernel
theorem dL_areLanesSo_206 : decode cL_areLanesSo 206 = .ok (.if_icmp .ge 7, 3) := by decide +kernel
theorem dL_areLanesSo_209 : decode cL_areLanesSo 209 = .ok (.iconst 3, 1) := by decide +kernel
theorem dL_areLanesSo_210 : decode cL_areLanesSo 210 = .ok (.goto 4, 3) := by decide +kernel
theorem dL_areLanesSo_213 : decode cL_areLanesSo 213 = .ok (.iconst 0, 1) := by decide +kernel
theorem dL_areLanesSo_214 : decode cL_areLanesSo 214 = .ok (.istore 10, 2) := by decide +kernel
theorem dL_areLanesSo_216 : decode cL_areLanesSo 216 = .ok (.iload 4, 2) := by decide +kernel
theorem dL_areLanesSo_218 : decode cL_areLanesSo 218 = .ok (.iload 10, 2) := by decide +kernel
theorem dL_areLanesSo_220 : decode cL_areLanesSo 220 = .ok (.ifCond .le 10, 3) := by decide +kernel
theorem dL_areLanesSo_223 : decode cL_areLanesSo 223 = .ok (.iconst 1, 1) := by decide +kernel
theorem dL_areLanesSo_224 : decode cL_areLanesSo 224 = .ok (.iload 6, 2) := by decide +kernel
theorem dL_areLanesSo_226 : decode cL_areLanesSo 226 = .ok (.ishl, 1) := by decide +kernel
theorem dL_areLanesSo_227 : decode cL_areLanesSo 227 = .ok (.goto 4, 3) := by decide +kernel
theorem dL_areLanesSo_230 : decode cL_areLanesSo 230 = .ok (.iconst 0, 1) := by decide +kernel
theorem dL_areLanesSo_231 : decode cL_areLanesSo 231 = .ok (.ior, 1) := by decide +kernel
theorem dL_areLanesSo_232 : decode cL_areLanesSo 232 = .ok (.istore 4, 2) := by decide +kernel
theorem dL_areLanesSo_234 : decode cL_areLanesSo 234 = .ok (.iload_n 1, 1) := by decide +kernel
theorem dL_areLanesSo_235 : decode cL_areLanesSo 235 = .ok (.iload 8, 2) := by decide +kernel
theorem dL_areLanesSo_237 : decode cL_areLanesSo 237 = .ok (.iadd, 1) := by decide +kernel
theorem dL_areLanesSo_238 : decode cL_areLanesSo 238 = .ok (.istore_n 1, 1) := by decide +kernel
theorem dL_areLanesSo_239 : decode cL_areLanesSo 239 = .ok (.iload_n 2, 1) := by decide +kernel
theorem dL_areLanesSo_240 : decode cL_areLanesSo 240 = .ok (.aload_n 0, 1) := by decide +kernel
theorem dL_areLanesSo_241 : decode cL_areLanesSo 241 = .ok (.iload 6, 2) := by decide +kernel
theorem dL_areLanesSo_243 : decode cL_areLanesSo 243 = .ok (.iconst 3, 1) := by decide +kernel
theorem dL_areLanesSo_244 : decode cL_areLanesSo 244 = .ok (.invokevirtual 55, 3) := by decide +kernel
theorem dL_areLanesSo_247 : decode cL_areLanesSo 247 = .ok (.iadd, 1) := by decide +kernel
theorem dL_areLanesSo_248 : decode cL_areLanesSo 248 = .ok (.istore_n 2, 1) := by decide +kernel
theorem dL_areLanesSo_249 : decode cL_areLanesSo 249 = .ok (.iload_n 3, 1) := by decide +kernel
theorem dL_areLanesSo_250 : decode cL_areLanesSo 250 = .ok (.aload_n 0, 1) := by decide +kernel
theorem dL_areLanesSo_251 : decode cL_areLanesSo 251 = .ok (.iload 6, 2) := by decide +kernel
theorem dL_areLanesSo_253 : decode cL_areLanesSo 253 = .ok (.bipush 6, 2) := by decide +kernel
theorem dL_areLanesSo_255 : decode cL_areLanesSo 255 = .ok (.invokevirtual 55, 3) := by decide +kernel
theorem dL_areLanesSo_258 : decode cL_areLanesSo 258 = .ok (.iadd, 1) := by decide +kernel
theorem dL_areLanesSo_259 : decode cL_areLanesSo 259 = .ok (.istore_n 3, 1) := by decide +kernel
theorem dL_areLanesSo_260 : decode cL_areLanesSo 260 = .ok (.iload 5, 2) := by decide +kernel
theorem dL_areLanesSo_262 : decode cL_areLanesSo 262 = .ok (.ifCond .eq 96, 3) := by decide +kernel
theorem dL_areLanesSo_265 : decode cL_areLanesSo 265 = .ok (.aload_n 0, 1) := by decide +kernel
theorem dL_areLanesSo_266 : decode cL_areLanesSo 266 = .ok (.iload 6, 2) := by decide +kernel
theorem dL_areLanesSo_268 : decode cL_areLanesSo 268 = .ok (.iconst 0, 1) := by decide +kernel
theorem dL_areLanesSo_269 : decode cL_areLanesSo 269 = .ok (.invokevirtual 55, 3) := by decide +kernel
theorem dL_areLanesSo_272 : decode cL_areLanesSo 272 = .ok (.iload 8, 2) := by decide +kernel
theorem dL_areLanesSo_274 : decode cL_areLanesSo 274 = .ok (.if_icmp .ne 84, 3) := by decide +kernel
theorem dL_areLanesSo_277 : decode cL_areLanesSo 277 = .ok (.aload_n 0, 1) := by decide +kernel
theorem dL_areLanesSo_278 : decode cL_areLanesSo 278 = .ok (.iload 6, 2) := by decide +kernel
theorem dL_areLanesSo_280 : decode cL_areLanesSo 280 = .ok (.bipush 7, 2) := by decide +kernel
theorem dL_areLanesSo_282 : decode cL_areLanesSo 282 = .ok (.invokevirtual 55, 3) := by decide +kernel
theorem dL_areLanesSo_285 : decode cL_areLanesSo 285 = .ok (.iload 10, 2) := by decide +kernel
theorem dL_areLanesSo_287 : decode cL_areLanesSo 287 = .ok (.if_icmp .ne 71, 3) := by decide +kernel
theorem dL_areLanesSo_290 : decode cL_areLanesSo 290 = .ok (.aload_n 0, 1) := by decide +kernel
theorem dL_areLanesSo_291 : decode cL_areLanesSo 291 = .ok (.iload 6, 2) := by decide +kernel
theorem dL_areLanesSo_293 : decode cL_areLanesSo 293 = .ok (.bipush 6, 2) := by decide +kernel
theorem dL_areLanesSo_295 : decode cL_areLanesSo 295 = .ok (.invokevirtual 55, 3) := by decide +kernel
theorem dL_areLanesSo_298 : decode cL_areLanesSo 298 = .ok (.aload_n 0, 1) := by decide +kernel
theorem dL_areLanesSo_299 : decode cL_areLanesSo 299 = .ok (.iload 6, 2) := by decide +kernel
theorem dL_areLanesSo_301 : decode cL_areLanesSo 301 = .ok (.iconst 4, 1) := by decide +kernel
theorem dL_areLanesSo_302 : decode cL_areLanesSo 302 = .ok (.invokevirtual 55, 3) := by decide +kernel
theorem dL_areLanesSo_305 : decode cL_areLanesSo 305 = .ok (.aload_n 0, 1) := by decide +kernel
theorem dL_areLanesSo_306 : decode cL_areLanesSo 306 = .ok (.iload 6, 2) := by decide +kernel
theorem dL_areLanesSo_308 : decode cL_areLanesSo 308 = .ok (.iconst 5, 1) := by decide +kernel
theorem dL_areLanesSo_309 : decode cL_areLanesSo 309 = .ok (.invokevirtual 55, 3) := by decide +kernel
theorem dL_areLanesSo_312 : decode cL_areLanesSo 312 = .ok (.isub, 1) := by decide +kernel
theorem dL_areLanesSo_313 : decode cL_areLanesSo 313 = .ok (.if_icmp .ne 45, 3) := by decide +kernel
theorem dL_areLanesSo_316 : decode cL_areLanesSo 316 = .ok (.iload 7, 2) := by decide +kernel
theorem dL_areLanesSo_318 : decode cL_areLanesSo 318 = .ok (.ifCond .ne 18, 3) := by decide +kernel
theorem dL_areLanesSo_321 : decode cL_areLanesSo 321 = .ok (.aload_n 0, 1) := by decide +kernel
theorem dL_areLanesSo_322 : decode cL_areLanesSo 322 = .ok (.iload 6, 2) := by decide +kernel
theorem dL_areLanesSo_324 : decode cL_areLanesSo 324 = .ok (.iconst 2, 1) := by decide +kernel
theorem dL_areLanesSo_325 : decode cL_areLanesSo 325 = .ok (.invokevirtual 55, 3) := by decide +kernel
theorem dL_areLanesSo_328 : decode cL_areLanesSo 328 = .ok (.bipush (-6), 2) := by decide +kernel
theorem dL_areLanesSo_330 : decode cL_areLanesSo 330 = .ok (.if_icmp .ne 28, 3) := by decide +kernel
theorem dL_areLanesSo_333 : decode cL_areLanesSo 333 = .ok (.goto 21, 3) := by decide +kernel
theorem dL_areLanesSo_336 : decode cL_areLanesSo 336 = .ok (.aload_n 0, 1) := by decide +kernel
theorem dL_areLanesSo_337 : decode cL_areLanesSo 337 = .ok (.iload 6, 2) := by decide +kernel
theorem dL_areLanesSo_339 : decode cL_areLanesSo 339 = .ok (.iconst 2, 1) := by decide +kernel
theorem dL_areLanesSo_340 : decode cL_areLanesSo 340 = .ok (.invokevirtual 55, 3) := by decide +kernel
theorem dL_areLanesSo_343 : decode cL_areLanesSo 343 = .ok (.aload_n 0, 1) := by decide +kernel
theorem dL_areLanesSo_344 : decode cL_areLanesSo 344 = .ok (.iload 6, 2) := by decide +kernel
theorem dL_areLanesSo_346 : decode cL_areLanesSo 346 = .ok (.iconst 0, 1) := by decide +kernel
theorem dL_areLanesSo_347 : decode cL_areLanesSo 347 = .ok (.iconst 0, 1) := by decide +kernel
theorem dL_areLanesSo_348 : decode cL_areLanesSo 348 = .ok (.invokevirtual 58, 3) := by decide +kernel
theorem dL_areLanesSo_351 : decode cL_areLanesSo 351 = .ok (.if_icmp .ne 7, 3) := by decide +kernel
theorem dL_areLanesSo_354 : decode cL_areLanesSo 354 = .ok (.iconst 1, 1) := by decide +kernel
theorem dL_areLanesSo_355 : decode cL_areLanesSo 355 = .ok (.goto 4, 3) := by decide +kernel
theorem dL_areLanesSo_358 : decode cL_areLanesSo 358 = .ok (.iconst 0, 1) := by decide +kernel
theorem dL_areLanesSo_359 : decode cL_areLanesSo 359 = .ok (.istore 5, 2) := by decide +kernel
theorem dL_areLanesSo_361 : decode cL_areLanesSo 361 = .ok (.iinc 6 1, 3) := by decide +kernel
theorem dL_areLanesSo_364 : decode cL_areLanesSo 364 = .ok (.goto (-349), 3) := by decide +kernel
theorem dL_areLanesSo_367 : decode cL_areLanesSo 367 = .ok (.iconst 0, 1) := by decide +kernel
theorem dL_areLanesSo_368 : decode cL_areLanesSo 368 = .ok (.istore 6, 2) := by decide +kernel
theorem dL_areLanesSo_370 : decode cL_areLanesSo 370 = .ok (.iconst 0, 1) := by decide +kernel
theorem dL_areLanesSo_371 : decode cL_areLanesSo 371 = .ok (.istore 7, 2) := by decide +kernel
theorem dL_areLanesSo_373 : decode cL_areLanesSo 373 = .ok (.iconst 0, 1) := by decide +kernel
theorem dL_areLanesSo_374 : decode cL_areLanesSo 374 = .ok (.istore 8, 2) := by decide +kernel
theorem dL_areLanesSo_376 : decode cL_areLanesSo 376 = .ok (.iload 8, 2) := by decide +kernel
theorem dL_areLanesSo_378 : decode cL_areLanesSo 378 = .ok (.bipush 6, 2) := by decide +kernel
theorem dL_areLanesSo_380 : decode cL_areLanesSo 380 = .ok (.if_icmp .ge 126, 3) := by decide +kernel
theorem dL_areLanesSo_383 : decode cL_areLanesSo 383 = .ok (.iload 6, 2) := by decide +kernel
theorem dL_areLanesSo_385 : decode cL_areLanesSo 385 = .ok (.aload_n 0, 1) := by decide +kernel
theorem dL_areLanesSo_386 : decode cL_areLanesSo 386 = .ok (.iload 8, 2) := by decide +kernel
theorem dL_areLanesSo_388 : decode cL_areLanesSo 388 = .ok (.iconst 0, 1) := by decide +kernel
theorem dL_areLanesSo_389 : decode cL_areLanesSo 389 = .ok (.invokevirtual 52, 3) := by decide +kernel
theorem dL_areLanesSo_392 : decode cL_areLanesSo 392 = .ok (.aload_n 0, 1) := by decide +kernel
theorem dL_areLanesSo_393 : decode cL_areLanesSo 393 = .ok (.bipush 13, 2) := by decide +kernel
theorem dL_areLanesSo_395 : decode cL_areLanesSo 395 = .ok (.invokevirtual 31, 3) := by decide +kernel
theorem dL_areLanesSo_398 : decode cL_areLanesSo 398 = .ok (.iadd, 1) := by decide +kernel
theorem dL_areLanesSo_399 : decode cL_areLanesSo 399 = .ok (.iconst 1, 1) := by decide +kernel
theorem dL_areLanesSo_400 : decode cL_areLanesSo 400 = .ok (.isub, 1) := by decide +kernel
theorem dL_areLanesSo_401 : decode cL_areLanesSo 401 = .ok (.aload_n 0, 1) := by decide +kernel
theorem dL_areLanesSo_402 : decode cL_areLanesSo 402 = .ok (.bipush 13, 2) := by decide +kernel
theorem dL_areLanesSo_404 : decode cL_areLanesSo 404 = .ok (.invokevirtual 31, 3) := by decide +kernel
theorem dL_areLanesSo_407 : decode cL_areLanesSo 407 = .ok (.idiv, 1) := by decide +kernel
theorem dL_areLanesSo_408 : decode cL_areLanesSo 408 = .ok (.iadd, 1) := by decide +kernel
theorem dL_areLanesSo_409 : decode cL_areLanesSo 409 = .ok (.istore 6, 2) := by decide +kernel
theorem dL_areLanesSo_411 : decode cL_areLanesSo 411 = .ok (.iload 7, 2) := by decide +kernel
theorem dL_areLanesSo_413 : decode cL_areLanesSo 413 = .ok (.aload_n 0, 1) := by decide +kernel
theorem dL_areLanesSo_414 : decode cL_areLanesSo 414 = .ok (.iload 8, 2) := by decide +kernel
theorem dL_areLanesSo_416 : decode cL_areLanesSo 416 = .ok (.iconst 0, 1) := by decide +kernel
theorem dL_areLanesSo_417 : decode cL_areLanesSo 417 = .ok (.invokevirtual 52, 3) := by decide +kernel
theorem dL_areLanesSo_420 : decode cL_areLanesSo 420 = .ok (.iadd, 1) := by decide +kernel
theorem dL_areLanesSo_421 : decode cL_areLanesSo 421 = .ok (.istore 7, 2) := by decide +kernel
theorem dL_areLanesSo_423 : decode cL_areLanesSo 423 = .ok (.iconst 0, 1) := by decide +kernel
theorem dL_areLanesSo_424 : decode cL_areLanesSo 424 = .ok (.istore 9, 2) := by decide +kernel
theorem dL_areLanesSo_426 : decode cL_areLanesSo 426 = .ok (.iload 9, 2) := by decide +kernel
theorem dL_areLanesSo_428 : decode cL_areLanesSo 428 = .ok (.bipush 6, 2) := by decide +kernel
theorem dL_areLanesSo_430 : decode cL_areLanesSo 430 = .ok (.if_icmp .ge 70, 3) := by decide +kernel
theorem dL_areLanesSo_433 : decode cL_areLanesSo 433 = .ok (.iload 5, 2) := by decide +kernel
theorem dL_areLanesSo_435 : decode cL_areLanesSo 435 = .ok (.ifCond .eq 56, 3) := by decide +kernel
theorem dL_areLanesSo_438 : decode cL_areLanesSo 438 = .ok (.aload_n 0, 1) := by decide +kernel
theorem dL_areLanesSo_439 : decode cL_areLanesSo 439 = .ok (.iload 8, 2) := by decide +kernel
theorem dL_areLanesSo_441 : decode cL_areLanesSo 441 = .ok (.iconst 3, 1) := by decide +kernel
theorem dL_areLanesSo_442 : decode cL_areLanesSo 442 = .ok (.invokevirtual 52, 3) := by decide +kernel
theorem dL_areLanesSo_445 : decode cL_areLanesSo 445 = .ok (.iload 9, 2) := by decide +kernel
theorem dL_areLanesSo_447 : decode cL_areLanesSo 447 = .ok (.ishr, 1) := by decide +kernel
theorem dL_areLanesSo_448 : decode cL_areLanesSo 448 = .ok (.iconst 1, 1) := by decide +kernel
theorem dL_areLanesSo_449 : decode cL_areLanesSo 449 = .ok (.iand, 1) := by decide +kernel
theorem dL_areLanesSo_450 : decode cL_areLanesSo 450 = .ok (.aload_n 0, 1) := by decide +kernel
theorem dL_areLanesSo_451 : decode cL_areLanesSo 451 = .ok (.iload 9, 2) := by decide +kernel
theorem dL_areLanesSo_453 : decode cL_areLanesSo 453 = .ok (.iconst 3, 1) := by decide +kernel
theorem dL_areLanesSo_454 : decode cL_areLanesSo 454 = .ok (.invokevirtual 52, 3) := by decide +kernel
theorem dL_areLanesSo_457 : decode cL_areLanesSo 457 = .ok (.iload 8, 2) := by decide +kernel
theorem dL_areLanesSo_459 : decode cL_areLanesSo 459 = .ok (.ishr, 1) := by decide +kernel
theorem dL_areLanesSo_460 : decode cL_areLanesSo 460 = .ok (.iconst 1, 1) := by decide +kernel
theorem dL_areLanesSo_461 : decode cL_areLanesSo 461 = .ok (.iand, 1) := by decide +kernel
theorem dL_areLanesSo_462 : decode cL_areLanesSo 462 = .ok (.if_icmp .ne 29, 3) := by decide +kernel
theorem dL_areLanesSo_465 : decode cL_areLanesSo 465 = .ok (.iload 8, 2) := by decide +kernel
theorem dL_areLanesSo_467 : decode cL_areLanesSo 467 = .ok (.iload 9, 2) := by decide +kernel
theorem dL_areLanesSo_469 : decode cL_areLanesSo 469 = .ok (.if_icmp .ne 18, 3) := by decide +kernel
theorem dL_areLanesSo_472 : decode cL_areLanesSo 472 = .ok (.aload_n 0, 1) := by decide +kernel
theorem dL_areLanesSo_473 : decode cL_areLanesSo 473 = .ok (.iload 8, 2) := by decide +kernel
theorem dL_areLanesSo_475 : decode cL_areLanesSo 475 = .ok (.iconst 3, 1) := by decide +kernel
theorem dL_areLanesSo_476 : decode cL_areLanesSo 476 = .ok (.invokevirtual 52, 3) := by decide +kernel
theorem dL_areLanesSo_479 : decode cL_areLanesSo 479 = .ok (.iload 9, 2) := by decide +kernel
theorem dL_areLanesSo_481 : decode cL_areLanesSo 481 = .ok (.ishr, 1) := by decide +kernel
theorem dL_areLanesSo_482 : decode cL_areLanesSo 482 = .ok (.iconst 1, 1) := by decide +kernel
theorem dL_areLanesSo_483 : decode cL_areLanesSo 483 = .ok (.iand, 1) := by decide +kernel
theorem dL_areLanesSo_484 : decode cL_areLanesSo 484 = .ok (.ifCond .ne 7, 3) := by decide +kernel
theorem dL_areLanesSo_487 : decode cL_areLanesSo 487 = .ok (.iconst 1, 1) := by decide +kernel
theorem dL_areLanesSo_488 : decode cL_areLanesSo 488 = .ok (.goto 4, 3) := by decide +kernel
theorem dL_areLanesSo_491 : decode cL_areLanesSo 491 = .ok (.iconst 0, 1) := by decide +kernel
theorem dL_areLanesSo_492 : decode cL_areLanesSo 492 = .ok (.istore 5, 2) := by decide +kernel
theorem dL_areLanesSo_494 : decode cL_areLanesSo 494 = .ok (.iinc 9 1, 3) := by decide +kernel
theorem dL_areLanesSo_497 : decode cL_areLanesSo 497 = .ok (.goto (-71), 3) := by decide +kernel
theorem dL_areLanesSo_500 : decode cL_areLanesSo 500 = .ok (.iinc 8 1, 3) := by decide +kernel
theorem dL_areLanesSo_503 : decode cL_areLanesSo 503 = .ok (.goto (-127), 3) := by decide +kernel
theorem dL_areLanesSo_506 : decode cL_areLanesSo 506 = .ok (.iload 5, 2) := by decide +kernel
theorem dL_areLanesSo_508 : decode cL_areLanesSo 508 = .ok (.ifCond .eq 76, 3) := by decide +kernel
theorem dL_areLanesSo_511 : decode cL_areLanesSo 511 = .ok (.iload_n 1, 1) := by decide +kernel
theorem dL_areLanesSo_512 : decode cL_areLanesSo 512 = .ok (.aload_n 0, 1) := by decide +kernel
theorem dL_areLanesSo_513 : decode cL_areLanesSo 513 = .ok (.iconst 4, 1) := by decide +kernel
theorem dL_areLanesSo_514 : decode cL_areLanesSo 514 = .ok (.invokevirtual 31, 3) := by decide +kernel
theorem dL_areLanesSo_517 : decode cL_areLanesSo 517 = .ok (.if_icmp .ne 67, 3) := by decide +kernel
theorem dL_areLanesSo_520 : decode cL_areLanesSo 520 = .ok (.iload 7, 2) := by decide +kernel
theorem dL_areLanesSo_522 : decode cL_areLanesSo 522 = .ok (.iload_n 1, 1) := by decide +kernel
theorem dL_areLanesSo_523 : decode cL_areLanesSo 523 = .ok (.if_icmp .ne 61, 3) := by decide +kernel
theorem dL_areLanesSo_526 : decode cL_areLanesSo 526 = .ok (.iload_n 2, 1) := by decide +kernel
theorem dL_areLanesSo_527 : decode cL_areLanesSo 527 = .ok (.aload_n 0, 1) := by decide +kernel
theorem dL_areLanesSo_528 : decode cL_areLanesSo 528 = .ok (.bipush 7, 2) := by decide +kernel
theorem dL_areLanesSo_530 : decode cL_areLanesSo 530 = .ok (.invokevirtual 31, 3) := by decide +kernel
theorem dL_areLanesSo_533 : decode cL_areLanesSo 533 = .ok (.if_icmp .ne 51, 3) := by decide +kernel
theorem dL_areLanesSo_536 : decode cL_areLanesSo 536 = .ok (.iload_n 3, 1) := by decide +kernel
theorem dL_areLanesSo_537 : decode cL_areLanesSo 537 = .ok (.aload_n 0, 1) := by decide +kernel
theorem dL_areLanesSo_538 : decode cL_areLanesSo 538 = .ok (.iconst 5, 1) := by decide +kernel
theorem dL_areLanesSo_539 : decode cL_areLanesSo 539 = .ok (.invokevirtual 31, 3) := by decide +kernel
theorem dL_areLanesSo_542 : decode cL_areLanesSo 542 = .ok (.if_icmp .ne 42, 3) := by decide +kernel
theorem dL_areLanesSo_545 : decode cL_areLanesSo 545 = .ok (.iload 4, 2) := by decide +kernel
theorem dL_areLanesSo_547 : decode cL_areLanesSo 547 = .ok (.aload_n 0, 1) := by decide +kernel
theorem dL_areLanesSo_548 : decode cL_areLanesSo 548 = .ok (.bipush 10, 2) := by decide +kernel
theorem dL_areLanesSo_550 : decode cL_areLanesSo 550 = .ok (.invokevirtual 31, 3) := by decide +kernel
theorem dL_areLanesSo_553 : decode cL_areLanesSo 553 = .ok (.if_icmp .ne 31, 3) := by decide +kernel
theorem dL_areLanesSo_556 : decode cL_areLanesSo 556 = .ok (.aload_n 0, 1) := by decide +kernel
theorem dL_areLanesSo_557 : decode cL_areLanesSo 557 = .ok (.invokevirtual 61, 3) := by decide +kernel
theorem dL_areLanesSo_560 : decode cL_areLanesSo 560 = .ok (.iload 6, 2) := by decide +kernel
theorem dL_areLanesSo_562 : decode cL_areLanesSo 562 = .ok (.if_icmp .ne 22, 3) := by decide +kernel
theorem dL_areLanesSo_565 : decode cL_areLanesSo 565 = .ok (.aload_n 0, 1) := by decide +kernel
theorem dL_areLanesSo_566 : decode cL_areLanesSo 566 = .ok (.bipush 9, 2) := by decide +kernel
theorem dL_areLanesSo_568 : decode cL_areLanesSo 568 = .ok (.invokevirtual 31, 3) := by decide +kernel
theorem dL_areLanesSo_571 : decode cL_areLanesSo 571 = .ok (.aload_n 0, 1) := by decide +kernel
theorem dL_areLanesSo_572 : decode cL_areLanesSo 572 = .ok (.bipush 8, 2) := by decide +kernel
theorem dL_areLanesSo_574 : decode cL_areLanesSo 574 = .ok (.invokevirtual 31, 3) := by decide +kernel
theorem dL_areLanesSo_577 : decode cL_areLanesSo 577 = .ok (.if_icmp .gt 7, 3) := by decide +kernel
theorem dL_areLanesSo_580 : decode cL_areLanesSo 580 = .ok (.iconst 1, 1) := by decide +kernel
theorem dL_areLanesSo_581 : decode cL_areLanesSo 581 = .ok (.goto 4, 3) := by decide +kernel
theorem dL_areLanesSo_584 : decode cL_areLanesSo 584 = .ok (.iconst 0, 1) := by decide +kernel
theorem dL_areLanesSo_585 : decode cL_areLanesSo 585 = .ok (.ireturn, 1) := by decide +kernel
def wp_L_areLanesSo_b492 (K376 : Int32 → Int32 → Int32 → Int32 → Int32 → Int32 → Int32 → Int32 → Sg → Prop) (K426 : Int32 → Int32 → Int32 → Int32 → Int32 → Int32 → Int32 → Int32 → Int32 → Sg → Prop) (Q : Int32 → Sg → Prop) (v1 : Int32) (v2 : Int32) (v3 : Int32) (v4 : Int32) (v6 : Int32) (v7 : Int32) (v8 : Int32) (v9 : Int32) (s0 : Int32) (σ : Sg) : Prop := ∀ z49 : Int32, z49 = v9 + (1 : Int32) → K426 v1 v2 v3 v4 s0 v6 v7 v8 z49 σ
set_option maxRecDepth 100000 in
set_option maxHeartbeats 4000000 in
theorem g_L_areLanesSo_b492 {X : Tx} {Q : Int32 → Sg → Prop} (C : Cx X cL_areLanesSo "SweetWrapsLaw" (some .boolean) 7 153 11 (QI (tE X) Q)) {K376 : Int32 → Int32 → Int32 → Int32 → Int32 → Int32 → Int32 → Int32 → Sg → Prop} {K426 : Int32 → Int32 → Int32 → Int32 → Int32 → Int32 → Int32 → Int32 → Int32 → Sg → Prop} (hK376 : ∀ (v1 : Int32) (v2 : Int32) (v3 : Int32) (v4 : Int32) (v5 : Int32) (v6 : Int32) (v7 : Int32) (v8 : Int32) (σ : Sg), K376 v1 v2 v3 v4 v5 v6 v7 v8 σ → G X σ [(0, .ref (ad (tE X) 11 10 0)), (1, .int v1), (2, .int v2), (3, .int v3), (4, .int v4), (5, .int v5), (6, .int v6), (7, .int v7), (8, .int v8)] [] 376) (hK426 : ∀ (v1 : Int32) (v2 : Int32) (v3 : Int32) (v4 : Int32) (v5 : Int32) (v6 : Int32) (v7 : Int32) (v8 : Int32) (v9 : Int32) (σ : Sg), K426 v1 v2 v3 v4 v5 v6 v7 v8 v9 σ → G X σ [(0, .ref (ad (tE X) 11 10 0)), (1, .int v1), (2, .int v2), (3, .int v3), (4, .int v4), (5, .int v5), (6, .int v6), (7, .int v7), (8, .int v8), (9, .int v9)] [] 426) {v1 : Int32} {v2 : Int32} {v3 : Int32} {v4 : Int32} {v6 : Int32} {v7 : Int32} {v8 : Int32} {v9 : Int32} {s0 : Int32} {σ : Sg} (hw : wp_L_areLanesSo_b492 K376 K426 Q v1 v2 v3 v4 v6 v7 v8 v9 s0 σ) : G X σ [(0, .ref (ad (tE X) 11 10 0)), (1, .int v1), (2, .int v2), (3, .int v3), (4, .int v4), (6, .int v6), (7, .int v7), (8, .int v8), (9, .int v9)] [.int s0] 492 := by
  unfold wp_L_areLanesSo_b492 at hw
  refine gx_istore (lv' := [(5, .int s0), (0, .ref (ad (tE X) 11 10 0)), (1, .int v1), (2, .int v2), (3, .int v3), (4, .int v4), (6, .int v6), (7, .int v7), (8, .int v8), (9, .int v9)]) C dL_areLanesSo_492 (by decide) rfl ?_
  obtain ⟨z49, e_z49⟩ : ∃ z : Int32, z = v9 + (1 : Int32) := ⟨_, rfl⟩
  replace hw := hw z49 e_z49
  refine gx_iinc (v := z49) (lv' := [(9, .int z49), (5, .int s0), (0, .ref (ad (tE X) 11 10 0)), (1, .int v1), (2, .int v2), (3, .int v3), (4, .int v4), (6, .int v6), (7, .int v7), (8, .int v8)]) C dL_areLanesSo_494 9 rfl (by rw [e_z49]; rfl) (by decide) rfl ?_
  refine gx_goto (tgt := 426) C dL_areLanesSo_497 (by decide) ?_
  refine gx_sub (lv' := [(0, .ref (ad (tE X) 11 10 0)), (1, .int v1), (2, .int v2), (3, .int v3), (4, .int v4), (5, .int s0), (6, .int v6), (7, .int v7), (8, .int v8), (9, .int z49)]) [2, 3, 4, 5, 6, 1, 7, 8, 9, 0] rfl ?_
  exact hK426 _ _ _ _ _ _ _ _ _ _ hw
def wp_L_areLanesSo_b491 (K376 : Int32 → Int32 → Int32 → Int32 → Int32 → Int32 → Int32 → Int32 → Sg → Prop) (K426 : Int32 → Int32 → Int32 → Int32 → Int32 → Int32 → Int32 → Int32 → Int32 → Sg → Prop) (Q : Int32 → Sg → Prop) (v1 : Int32) (v2 : Int32) (v3 : Int32) (v4 : Int32) (v6 : Int32) (v7 : Int32) (v8 : Int32) (v9 : Int32) (σ : Sg) : Prop := wp_L_areLanesSo_b492 K376 K426 Q v1 v2 v3 v4 v6 v7 v8 v9 (0 : Int32) σ
set_option maxRecDepth 100000 in
set_option maxHeartbeats 4000000 in
theorem g_L_areLanesSo_b491 {X : Tx} {Q : Int32 → Sg → Prop} (C : Cx X cL_areLanesSo "SweetWrapsLaw" (some .boolean) 7 153 11 (QI (tE X) Q)) {K376 : Int32 → Int32 → Int32 → Int32 → Int32 → Int32 → Int32 → Int32 → Sg → Prop} {K426 : Int32 → Int32 → Int32 → Int32 → Int32 → Int32 → Int32 → Int32 → Int32 → Sg → Prop} (hK376 : ∀ (v1 : Int32) (v2 : Int32) (v3 : Int32) (v4 : Int32) (v5 : Int32) (v6 : Int32) (v7 : Int32) (v8 : Int32) (σ : Sg), K376 v1 v2 v3 v4 v5 v6 v7 v8 σ → G X σ [(0, .ref (ad (tE X) 11 10 0)), (1, .int v1), (2, .int v2), (3, .int v3), (4, .int v4), (5, .int v5), (6, .int v6), (7, .int v7), (8, .int v8)] [] 376) (hK426 : ∀ (v1 : Int32) (v2 : Int32) (v3 : Int32) (v4 : Int32) (v5 : Int32) (v6 : Int32) (v7 : Int32) (v8 : Int32) (v9 : Int32) (σ : Sg), K426 v1 v2 v3 v4 v5 v6 v7 v8 v9 σ → G X σ [(0, .ref (ad (tE X) 11 10 0)), (1, .int v1), (2, .int v2), (3, .int v3), (4, .int v4), (5, .int v5), (6, .int v6), (7, .int v7), (8, .int v8), (9, .int v9)] [] 426) {v1 : Int32} {v2 : Int32} {v3 : Int32} {v4 : Int32} {v6 : Int32} {v7 : Int32} {v8 : Int32} {v9 : Int32} {σ : Sg} (hw : wp_L_areLanesSo_b491 K376 K426 Q v1 v2 v3 v4 v6 v7 v8 v9 σ) : G X σ [(0, .ref (ad (tE X) 11 10 0)), (1, .int v1), (2, .int v2), (3, .int v3), (4, .int v4), (6, .int v6), (7, .int v7), (8, .int v8), (9, .int v9)] [] 491 := by
  unfold wp_L_areLanesSo_b491 at hw
  refine gx_iconst (v := (0 : Int32)) C dL_areLanesSo_491 (by decide) ?_
  exact g_L_areLanesSo_b492 C hK376 hK426 hw
def wp_L_areLanesSo_b487 (K376 : Int32 → Int32 → Int32 → Int32 → Int32 → Int32 → Int32 → Int32 → Sg → Prop) (K426 : Int32 → Int32 → Int32 → Int32 → Int32 → Int32 → Int32 → Int32 → Int32 → Sg → Prop) (Q : Int32 → Sg → Prop) (v1 : Int32) (v2 : Int32) (v3 : Int32) (v4 : Int32) (v6 : Int32) (v7 : Int32) (v8 : Int32) (v9 : Int32) (σ : Sg) : Prop := wp_L_areLanesSo_b492 K376 K426 Q v1 v2 v3 v4 v6 v7 v8 v9 (1 : Int32) σ
set_option maxRecDepth 100000 in
set_option maxHeartbeats 4000000 in
theorem g_L_areLanesSo_b487 {X : Tx} {Q : Int32 → Sg → Prop} (C : Cx X cL_areLanesSo "SweetWrapsLaw" (some .boolean) 7 153 11 (QI (tE X) Q)) {K376 : Int32 → Int32 → Int32 → Int32 → Int32 → Int32 → Int32 → Int32 → Sg → Prop} {K426 : Int32 → Int32 → Int32 → Int32 → Int32 → Int32 → Int32 → Int32 → Int32 → Sg → Prop} (hK376 : ∀ (v1 : Int32) (v2 : Int32) (v3 : Int32) (v4 : Int32) (v5 : Int32) (v6 : Int32) (v7 : Int32) (v8 : Int32) (σ : Sg), K376 v1 v2 v3 v4 v5 v6 v7 v8 σ → G X σ [(0, .ref (ad (tE X) 11 10 0)), (1, .int v1), (2, .int v2), (3, .int v3), (4, .int v4), (5, .int v5), (6, .int v6), (7, .int v7), (8, .int v8)] [] 376) (hK426 : ∀ (v1 : Int32) (v2 : Int32) (v3 : Int32) (v4 : Int32) (v5 : Int32) (v6 : Int32) (v7 : Int32) (v8 : Int32) (v9 : Int32) (σ : Sg), K426 v1 v2 v3 v4 v5 v6 v7 v8 v9 σ → G X σ [(0, .ref (ad (tE X) 11 10 0)), (1, .int v1), (2, .int v2), (3, .int v3), (4, .int v4), (5, .int v5), (6, .int v6), (7, .int v7), (8, .int v8), (9, .int v9)] [] 426) {v1 : Int32} {v2 : Int32} {v3 : Int32} {v4 : Int32} {v6 : Int32} {v7 : Int32} {v8 : Int32} {v9 : Int32} {σ : Sg} (hw : wp_L_areLanesSo_b487 K376 K426 Q v1 v2 v3 v4 v6 v7 v8 v9 σ) : G X σ [(0, .ref (ad (tE X) 11 10 0)), (1, .int v1), (2, .int v2), (3, .int v3), (4, .int v4), (6, .int v6), (7, .int v7), (8, .int v8), (9, .int v9)] [] 487 := by
  unfold wp_L_areLanesSo_b487 at hw
  refine gx_iconst (v := (1 : Int32)) C dL_areLanesSo_487 (by decide) ?_
  refine gx_goto (tgt := 492) C dL_areLanesSo_488 (by decide) ?_
  exact g_L_areLanesSo_b492 C hK376 hK426 hw
def st_L_areLanesSo_L426 (K376 : Int32 → Int32 → Int32 → Int32 → Int32 → Int32 → Int32 → Int32 → Sg → Prop) (Q : Int32 → Sg → Prop) (K426 : Int32 → Int32 → Int32 → Int32 → Int32 → Int32 → Int32 → Int32 → Int32 → Sg → Prop) (v1 : Int32) (v2 : Int32) (v3 : Int32) (v4 : Int32) (v5 : Int32) (v6 : Int32) (v7 : Int32) (v8 : Int32) (v9 : Int32) (σ : Sg) : Prop := (((6 : Int32) ≤ v9 → ∀ z38 : Int32, z38 = v8 + (1 : Int32) → K376 v1 v2 v3 v4 v5 v6 v7 z38 σ) ∧ (¬ (6 : Int32) ≤ v9 → ((v5 = 0 → wp_L_areLanesSo_b491 K376 K426 Q v1 v2 v3 v4 v6 v7 v8 v9 σ) ∧ (¬ v5 = 0 → wp_X5_flavour v8 (3 : Int32) σ (fun r40 σ41 => wp_X5_flavour v9 (3 : Int32) σ41 (fun r42 σ43 => ((¬ ((r40 >>> (v9 &&& 31)) &&& (1 : Int32)) = ((r42 >>> (v8 &&& 31)) &&& (1 : Int32)) → wp_L_areLanesSo_b491 K376 K426 Q v1 v2 v3 v4 v6 v7 v8 v9 σ43) ∧ (((r40 >>> (v9 &&& 31)) &&& (1 : Int32)) = ((r42 >>> (v8 &&& 31)) &&& (1 : Int32)) → ((¬ v8 = v9 → wp_L_areLanesSo_b487 K376 K426 Q v1 v2 v3 v4 v6 v7 v8 v9 σ43) ∧ (v8 = v9 → wp_X5_flavour v8 (3 : Int32) σ43 (fun r46 σ47 => ((¬ ((r46 >>> (v9 &&& 31)) &&& (1 : Int32)) = 0 → wp_L_areLanesSo_b491 K376 K426 Q v1 v2 v3 v4 v6 v7 v8 v9 σ47) ∧ (((r46 >>> (v9 &&& 31)) &&& (1 : Int32)) = 0 → wp_L_areLanesSo_b487 K376 K426 Q v1 v2 v3 v4 v6 v7 v8 v9 σ47)))))))))))))
def wp_L_areLanesSo_L426 (K376 : Int32 → Int32 → Int32 → Int32 → Int32 → Int32 → Int32 → Int32 → Sg → Prop) (Q : Int32 → Sg → Prop) (v1 : Int32) (v2 : Int32) (v3 : Int32) (v4 : Int32) (v5 : Int32) (v6 : Int32) (v7 : Int32) (v8 : Int32) (v9 : Int32) (σ : Sg) : Prop := ∃ n : Nat, lpN (fun (K : Int32 × Int32 × Int32 × Int32 × Int32 × Int32 × Int32 × Int32 × Int32 × Sg → Prop) (a : Int32 × Int32 × Int32 × Int32 × Int32 × Int32 × Int32 × Int32 × Int32 × Sg) => st_L_areLanesSo_L426 K376 Q (fun v1 v2 v3 v4 v5 v6 v7 v8 v9 σ => K (v1, v2, v3, v4, v5, v6, v7, v8, v9, σ)) (a.1) (a.2.1) (a.2.2.1) (a.2.2.2.1) (a.2.2.2.2.1) (a.2.2.2.2.2.1) (a.2.2.2.2.2.2.1) (a.2.2.2.2.2.2.2.1) (a.2.2.2.2.2.2.2.2.1) (a.2.2.2.2.2.2.2.2.2)) n (v1, v2, v3, v4, v5, v6, v7, v8, v9, σ)
set_option maxRecDepth 100000 in
set_option maxHeartbeats 4000000 in
theorem gs_L_areLanesSo_L426 {X : Tx} {Q : Int32 → Sg → Prop} (C : Cx X cL_areLanesSo "SweetWrapsLaw" (some .boolean) 7 153 11 (QI (tE X) Q)) {K376 : Int32 → Int32 → Int32 → Int32 → Int32 → Int32 → Int32 → Int32 → Sg → Prop} (hK376 : ∀ (v1 : Int32) (v2 : Int32) (v3 : Int32) (v4 : Int32) (v5 : Int32) (v6 : Int32) (v7 : Int32) (v8 : Int32) (σ : Sg), K376 v1 v2 v3 v4 v5 v6 v7 v8 σ → G X σ [(0, .ref (ad (tE X) 11 10 0)), (1, .int v1), (2, .int v2), (3, .int v3), (4, .int v4), (5, .int v5), (6, .int v6), (7, .int v7), (8, .int v8)] [] 376) {K426 : Int32 → Int32 → Int32 → Int32 → Int32 → Int32 → Int32 → Int32 → Int32 → Sg → Prop} (hK426 : ∀ (v1 : Int32) (v2 : Int32) (v3 : Int32) (v4 : Int32) (v5 : Int32) (v6 : Int32) (v7 : Int32) (v8 : Int32) (v9 : Int32) (σ : Sg), K426 v1 v2 v3 v4 v5 v6 v7 v8 v9 σ → G X σ [(0, .ref (ad (tE X) 11 10 0)), (1, .int v1), (2, .int v2), (3, .int v3), (4, .int v4), (5, .int v5), (6, .int v6), (7, .int v7), (8, .int v8), (9, .int v9)] [] 426) {v1 : Int32} {v2 : Int32} {v3 : Int32} {v4 : Int32} {v5 : Int32} {v6 : Int32} {v7 : Int32} {v8 : Int32} {v9 : Int32} {σ : Sg} (hw : st_L_areLanesSo_L426 K376 Q K426 v1 v2 v3 v4 v5 v6 v7 v8 v9 σ) : G X σ [(0, .ref (ad (tE X) 11 10 0)), (1, .int v1), (2, .int v2), (3, .int v3), (4, .int v4), (5, .int v5), (6, .int v6), (7, .int v7), (8, .int v8), (9, .int v9)] [] 426 := by
  unfold st_L_areLanesSo_L426 at hw
  refine gx_iload C dL_areLanesSo_426 9 rfl ?_
  refine gx_bipush (v := (6 : Int32)) C dL_areLanesSo_428 (by decide) ?_
  refine gx_icmp_ge (tgt := 500) C dL_areLanesSo_430 (by decide) (fun c37 => ?_) (fun c37 => ?_)
  · replace hw := hw.1 c37
    obtain ⟨z38, e_z38⟩ : ∃ z : Int32, z = v8 + (1 : Int32) := ⟨_, rfl⟩
    replace hw := hw z38 e_z38
    refine gx_iinc (v := z38) (lv' := [(8, .int z38), (0, .ref (ad (tE X) 11 10 0)), (1, .int v1), (2, .int v2), (3, .int v3), (4, .int v4), (5, .int v5), (6, .int v6), (7, .int v7), (9, .int v9)]) C dL_areLanesSo_500 8 rfl (by rw [e_z38]; rfl) (by decide) rfl ?_
    refine gx_goto (tgt := 376) C dL_areLanesSo_503 (by decide) ?_
    refine gx_sub (lv' := [(0, .ref (ad (tE X) 11 10 0)), (1, .int v1), (2, .int v2), (3, .int v3), (4, .int v4), (5, .int v5), (6, .int v6), (7, .int v7), (8, .int z38)]) [1, 2, 3, 4, 5, 6, 7, 8, 0] rfl ?_
    exact hK376 _ _ _ _ _ _ _ _ _ hw
  · replace hw := hw.2 c37
    refine gx_iload C dL_areLanesSo_433 5 rfl ?_
    refine gx_if_eq (tgt := 491) C dL_areLanesSo_435 (by decide) (fun c39 => ?_) (fun c39 => ?_)
    · replace hw := hw.1 c39
      refine gx_sub (lv' := [(0, .ref (ad (tE X) 11 10 0)), (1, .int v1), (2, .int v2), (3, .int v3), (4, .int v4), (6, .int v6), (7, .int v7), (8, .int v8), (9, .int v9)]) [0, 1, 2, 3, 4, 6, 7, 8, 9] rfl ?_
      exact g_L_areLanesSo_b491 C hK376 hK426 hw
    · replace hw := hw.2 c39
      refine gx_aload_n C dL_areLanesSo_438 0 rfl ?_
      refine gx_iload C dL_areLanesSo_439 8 rfl ?_
      refine gx_iconst (v := (3 : Int32)) C dL_areLanesSo_441 (by decide) ?_
      refine gx_vcalli (As := [.int v8, .int (3 : Int32)]) (rest := []) C (c_X5_flavour _ _ hw) okg_10 rfl rfl bw_430 bw_431 bw_432 bw_1 bw_433 hy_X5_flavour ⟨by decide, by decide⟩ rfl (Nat.le_of_ble_eq_true rfl) dL_areLanesSo_442 (fun r40 σ41 hw => ?_)
      refine gx_iload C dL_areLanesSo_445 9 rfl ?_
      refine gx_ishr C dL_areLanesSo_447 ?_
      refine gx_iconst (v := (1 : Int32)) C dL_areLanesSo_448 (by decide) ?_
      refine gx_iand C dL_areLanesSo_449 ?_
      refine gx_aload_n C dL_areLanesSo_450 0 rfl ?_
      refine gx_iload C dL_areLanesSo_451 9 rfl ?_
      refine gx_iconst (v := (3 : Int32)) C dL_areLanesSo_453 (by decide) ?_
      refine gx_vcalli (As := [.int v9, .int (3 : Int32)]) (rest := [.int ((r40 >>> (v9 &&& 31)) &&& (1 : Int32))]) C (c_X5_flavour _ _ hw) okg_10 rfl rfl bw_430 bw_431 bw_432 bw_1 bw_433 hy_X5_flavour ⟨by decide, by decide⟩ rfl (Nat.le_of_ble_eq_true rfl) dL_areLanesSo_454 (fun r42 σ43 hw => ?_)
      refine gx_iload C dL_areLanesSo_457 8 rfl ?_
      refine gx_ishr C dL_areLanesSo_459 ?_
      refine gx_iconst (v := (1 : Int32)) C dL_areLanesSo_460 (by decide) ?_
      refine gx_iand C dL_areLanesSo_461 ?_
      refine gx_icmp_ne (tgt := 491) C dL_areLanesSo_462 (by decide) (fun c44 => ?_) (fun c44 => ?_)
      · replace hw := hw.1 c44
        refine gx_sub (lv' := [(0, .ref (ad (tE X) 11 10 0)), (1, .int v1), (2, .int v2), (3, .int v3), (4, .int v4), (6, .int v6), (7, .int v7), (8, .int v8), (9, .int v9)]) [0, 1, 2, 3, 4, 6, 7, 8, 9] rfl ?_
        exact g_L_areLanesSo_b491 C hK376 hK426 hw
      · replace hw := hw.2 c44
        refine gx_iload C dL_areLanesSo_465 8 rfl ?_
        refine gx_iload C dL_areLanesSo_467 9 rfl ?_
        refine gx_icmp_ne (tgt := 487) C dL_areLanesSo_469 (by decide) (fun c45 => ?_) (fun c45 => ?_)
        · replace hw := hw.1 c45
          refine gx_sub (lv' := [(0, .ref (ad (tE X) 11 10 0)), (1, .int v1), (2, .int v2), (3, .int v3), (4, .int v4), (6, .int v6), (7, .int v7), (8, .int v8), (9, .int v9)]) [0, 1, 2, 3, 4, 6, 7, 8, 9] rfl ?_
          exact g_L_areLanesSo_b487 C hK376 hK426 hw
        · replace hw := hw.2 c45
          refine gx_aload_n C dL_areLanesSo_472 0 rfl ?_
          refine gx_iload C dL_areLanesSo_473 8 rfl ?_
          refine gx_iconst (v := (3 : Int32)) C dL_areLanesSo_475 (by decide) ?_
          refine gx_vcalli (As := [.int v8, .int (3 : Int32)]) (rest := []) C (c_X5_flavour _ _ hw) okg_10 rfl rfl bw_430 bw_431 bw_432 bw_1 bw_433 hy_X5_flavour ⟨by decide, by decide⟩ rfl (Nat.le_of_ble_eq_true rfl) dL_areLanesSo_476 (fun r46 σ47 hw => ?_)
          refine gx_iload C dL_areLanesSo_479 9 rfl ?_
          refine gx_ishr C dL_areLanesSo_481 ?_
          refine gx_iconst (v := (1 : Int32)) C dL_areLanesSo_482 (by decide) ?_
          refine gx_iand C dL_areLanesSo_483 ?_
          refine gx_if_ne (tgt := 491) C dL_areLanesSo_484 (by decide) (fun c48 => ?_) (fun c48 => ?_)
          · replace hw := hw.1 c48
            refine gx_sub (lv' := [(0, .ref (ad (tE X) 11 10 0)), (1, .int v1), (2, .int v2), (3, .int v3), (4, .int v4), (6, .int v6), (7, .int v7), (8, .int v8), (9, .int v9)]) [0, 1, 2, 3, 4, 6, 7, 8, 9] rfl ?_
            exact g_L_areLanesSo_b491 C hK376 hK426 hw
          · replace hw := hw.2 c48
            refine gx_sub (lv' := [(0, .ref (ad (tE X) 11 10 0)), (1, .int v1), (2, .int v2), (3, .int v3), (4, .int v4), (6, .int v6), (7, .int v7), (8, .int v8), (9, .int v9)]) [0, 1, 2, 3, 4, 6, 7, 8, 9] rfl ?_
            exact g_L_areLanesSo_b487 C hK376 hK426 hw
set_option maxRecDepth 100000 in
set_option maxHeartbeats 4000000 in
theorem g_L_areLanesSo_L426 {X : Tx} {Q : Int32 → Sg → Prop} (C : Cx X cL_areLanesSo "SweetWrapsLaw" (some .boolean) 7 153 11 (QI (tE X) Q)) {K376 : Int32 → Int32 → Int32 → Int32 → Int32 → Int32 → Int32 → Int32 → Sg → Prop} (hK376 : ∀ (v1 : Int32) (v2 : Int32) (v3 : Int32) (v4 : Int32) (v5 : Int32) (v6 : Int32) (v7 : Int32) (v8 : Int32) (σ : Sg), K376 v1 v2 v3 v4 v5 v6 v7 v8 σ → G X σ [(0, .ref (ad (tE X) 11 10 0)), (1, .int v1), (2, .int v2), (3, .int v3), (4, .int v4), (5, .int v5), (6, .int v6), (7, .int v7), (8, .int v8)] [] 376) {v1 : Int32} {v2 : Int32} {v3 : Int32} {v4 : Int32} {v5 : Int32} {v6 : Int32} {v7 : Int32} {v8 : Int32} {v9 : Int32} {σ : Sg} (hw : wp_L_areLanesSo_L426 K376 Q v1 v2 v3 v4 v5 v6 v7 v8 v9 σ) : G X σ [(0, .ref (ad (tE X) 11 10 0)), (1, .int v1), (2, .int v2), (3, .int v3), (4, .int v4), (5, .int v5), (6, .int v6), (7, .int v7), (8, .int v8), (9, .int v9)] [] 426 := by
  obtain ⟨n, hw⟩ := hw
  exact lpN_G (P := (fun (a : Int32 × Int32 × Int32 × Int32 × Int32 × Int32 × Int32 × Int32 × Int32 × Sg) => G X (a.2.2.2.2.2.2.2.2.2) [(0, .ref (ad (tE X) 11 10 0)), (1, .int (a.1)), (2, .int (a.2.1)), (3, .int (a.2.2.1)), (4, .int (a.2.2.2.1)), (5, .int (a.2.2.2.2.1)), (6, .int (a.2.2.2.2.2.1)), (7, .int (a.2.2.2.2.2.2.1)), (8, .int (a.2.2.2.2.2.2.2.1)), (9, .int (a.2.2.2.2.2.2.2.2.1))] [] 426)) (fun K a hK h => gs_L_areLanesSo_L426 C hK376 (fun v1 v2 v3 v4 v5 v6 v7 v8 v9 σ h => hK (v1, v2, v3, v4, v5, v6, v7, v8, v9, σ) h) h) n _ hw
def st_L_areLanesSo_L376 (Q : Int32 → Sg → Prop) (K376 : Int32 → Int32 → Int32 → Int32 → Int32 → Int32 → Int32 → Int32 → Sg → Prop) (v1 : Int32) (v2 : Int32) (v3 : Int32) (v4 : Int32) (v5 : Int32) (v6 : Int32) (v7 : Int32) (v8 : Int32) (σ : Sg) : Prop := (((6 : Int32) ≤ v8 → ((v5 = 0 → Q (0 : Int32) σ) ∧ (¬ v5 = 0 → wp_X5_count (4 : Int32) σ (fun r6 σ7 => ((¬ v1 = r6 → Q (0 : Int32) σ7) ∧ (v1 = r6 → ((¬ v7 = v1 → Q (0 : Int32) σ7) ∧ (v7 = v1 → wp_X5_count (7 : Int32) σ7 (fun r10 σ11 => ((¬ v2 = r10 → Q (0 : Int32) σ11) ∧ (v2 = r10 → wp_X5_count (5 : Int32) σ11 (fun r13 σ14 => ((¬ v3 = r13 → Q (0 : Int32) σ14) ∧ (v3 = r13 → wp_X5_count (10 : Int32) σ14 (fun r16 σ17 => ((¬ v4 = r16 → Q (0 : Int32) σ17) ∧ (v4 = r16 → wp_X5_tinsFor σ17 (fun r19 σ20 => ((¬ r19 = v6 → Q (0 : Int32) σ20) ∧ (r19 = v6 → wp_X5_count (9 : Int32) σ20 (fun r22 σ23 => wp_X5_count (8 : Int32) σ23 (fun r24 σ25 => ((r24 < r22 → Q (0 : Int32) σ25) ∧ (¬ r24 < r22 → Q (1 : Int32) σ25)))))))))))))))))))))))) ∧ (¬ (6 : Int32) ≤ v8 → wp_X5_flavour v8 (0 : Int32) σ (fun r27 σ28 => wp_X5_count (13 : Int32) σ28 (fun r29 σ30 => wp_X5_count (13 : Int32) σ30 (fun r31 σ32 => (¬ r31 = 0 ∧ ∀ z33 : Int32, z33 = (v6 + (((r27 + r29) - (1 : Int32)) / r31)) → wp_X5_flavour v8 (0 : Int32) σ32 (fun r34 σ35 => ∀ z36 : Int32, z36 = (v7 + r34) → wp_L_areLanesSo_L426 K376 Q v1 v2 v3 v4 v5 z33 z36 v8 (0 : Int32) σ35)))))))
def wp_L_areLanesSo_L376 (Q : Int32 → Sg → Prop) (v1 : Int32) (v2 : Int32) (v3 : Int32) (v4 : Int32) (v5 : Int32) (v6 : Int32) (v7 : Int32) (v8 : Int32) (σ : Sg) : Prop := ∃ n : Nat, lpN (fun (K : Int32 × Int32 × Int32 × Int32 × Int32 × Int32 × Int32 × Int32 × Sg → Prop) (a : Int32 × Int32 × Int32 × Int32 × Int32 × Int32 × Int32 × Int32 × Sg) => st_L_areLanesSo_L376 Q (fun v1 v2 v3 v4 v5 v6 v7 v8 σ => K (v1, v2, v3, v4, v5, v6, v7, v8, σ)) (a.1) (a.2.1) (a.2.2.1) (a.2.2.2.1) (a.2.2.2.2.1) (a.2.2.2.2.2.1) (a.2.2.2.2.2.2.1) (a.2.2.2.2.2.2.2.1) (a.2.2.2.2.2.2.2.2)) n (v1, v2, v3, v4, v5, v6, v7, v8, σ)
set_option maxRecDepth 100000 in
set_option maxHeartbeats 4000000 in
theorem gs_L_areLanesSo_L376 {X : Tx} {Q : Int32 → Sg → Prop} (C : Cx X cL_areLanesSo "SweetWrapsLaw" (some .boolean) 7 153 11 (QI (tE X) Q)) {K376 : Int32 → Int32 → Int32 → Int32 → Int32 → Int32 → Int32 → Int32 → Sg → Prop} (hK376 : ∀ (v1 : Int32) (v2 : Int32) (v3 : Int32) (v4 : Int32) (v5 : Int32) (v6 : Int32) (v7 : Int32) (v8 : Int32) (σ : Sg), K376 v1 v2 v3 v4 v5 v6 v7 v8 σ → G X σ [(0, .ref (ad (tE X) 11 10 0)), (1, .int v1), (2, .int v2), (3, .int v3), (4, .int v4), (5, .int v5), (6, .int v6), (7, .int v7), (8, .int v8)] [] 376) {v1 : Int32} {v2 : Int32} {v3 : Int32} {v4 : Int32} {v5 : Int32} {v6 : Int32} {v7 : Int32} {v8 : Int32} {σ : Sg} (hw : st_L_areLanesSo_L376 Q K376 v1 v2 v3 v4 v5 v6 v7 v8 σ) : G X σ [(0, .ref (ad (tE X) 11 10 0)), (1, .int v1), (2, .int v2), (3, .int v3), (4, .int v4), (5, .int v5), (6, .int v6), (7, .int v7), (8, .int v8)] [] 376 := by
  unfold st_L_areLanesSo_L376 at hw
  refine gx_iload C dL_areLanesSo_376 8 rfl ?_
  refine gx_bipush (v := (6 : Int32)) C dL_areLanesSo_378 (by decide) ?_
  refine gx_icmp_ge (tgt := 506) C dL_areLanesSo_380 (by decide) (fun c4 => ?_) (fun c4 => ?_)
  · replace hw := hw.1 c4
    refine gx_iload C dL_areLanesSo_506 5 rfl ?_
    refine gx_if_eq (tgt := 584) C dL_areLanesSo_508 (by decide) (fun c5 => ?_) (fun c5 => ?_)
    · replace hw := hw.1 c5
      refine gx_iconst (v := (0 : Int32)) C dL_areLanesSo_584 (by decide) ?_
      exact gx_iret C rfl rfl dL_areLanesSo_585 hw
    · replace hw := hw.2 c5
      refine gx_iload_n C dL_areLanesSo_511 1 rfl ?_
      refine gx_aload_n C dL_areLanesSo_512 0 rfl ?_
      refine gx_iconst (v := (4 : Int32)) C dL_areLanesSo_513 (by decide) ?_
      refine gx_vcalli (As := [.int (4 : Int32)]) (rest := [.int v1]) C (c_X5_count _ _ hw) okg_10 rfl rfl bw_270 bw_271 bw_272 bw_1 bw_273 hy_X5_count ⟨by decide, by decide⟩ rfl (Nat.le_of_ble_eq_true rfl) dL_areLanesSo_514 (fun r6 σ7 hw => ?_)
      refine gx_icmp_ne (tgt := 584) C dL_areLanesSo_517 (by decide) (fun c8 => ?_) (fun c8 => ?_)
      · replace hw := hw.1 c8
        refine gx_iconst (v := (0 : Int32)) C dL_areLanesSo_584 (by decide) ?_
        exact gx_iret C rfl rfl dL_areLanesSo_585 hw
      · replace hw := hw.2 c8
        refine gx_iload C dL_areLanesSo_520 7 rfl ?_
        refine gx_iload_n C dL_areLanesSo_522 1 rfl ?_
        refine gx_icmp_ne (tgt := 584) C dL_areLanesSo_523 (by decide) (fun c9 => ?_) (fun c9 => ?_)
        · replace hw := hw.1 c9
          refine gx_iconst (v := (0 : Int32)) C dL_areLanesSo_584 (by decide) ?_
          exact gx_iret C rfl rfl dL_areLanesSo_585 hw
        · replace hw := hw.2 c9
          refine gx_iload_n C dL_areLanesSo_526 2 rfl ?_
          refine gx_aload_n C dL_areLanesSo_527 0 rfl ?_
          refine gx_bipush (v := (7 : Int32)) C dL_areLanesSo_528 (by decide) ?_
          refine gx_vcalli (As := [.int (7 : Int32)]) (rest := [.int v2]) C (c_X5_count _ _ hw) okg_10 rfl rfl bw_270 bw_271 bw_272 bw_1 bw_273 hy_X5_count ⟨by decide, by decide⟩ rfl (Nat.le_of_ble_eq_true rfl) dL_areLanesSo_530 (fun r10 σ11 hw => ?_)
          refine gx_icmp_ne (tgt := 584) C dL_areLanesSo_533 (by decide) (fun c12 => ?_) (fun c12 => ?_)
          · replace hw := hw.1 c12
            refine gx_iconst (v := (0 : Int32)) C dL_areLanesSo_584 (by decide) ?_
            exact gx_iret C rfl rfl dL_areLanesSo_585 hw
          · replace hw := hw.2 c12
            refine gx_iload_n C dL_areLanesSo_536 3 rfl ?_
            refine gx_aload_n C dL_areLanesSo_537 0 rfl ?_
            refine gx_iconst (v := (5 : Int32)) C dL_areLanesSo_538 (by decide) ?_
            refine gx_vcalli (As := [.int (5 : Int32)]) (rest := [.int v3]) C (c_X5_count _ _ hw) okg_10 rfl rfl bw_270 bw_271 bw_272 bw_1 bw_273 hy_X5_count ⟨by decide, by decide⟩ rfl (Nat.le_of_ble_eq_true rfl) dL_areLanesSo_539 (fun r13 σ14 hw => ?_)
            refine gx_icmp_ne (tgt := 584) C dL_areLanesSo_542 (by decide) (fun c15 => ?_) (fun c15 => ?_)
            · replace hw := hw.1 c15
              refine gx_iconst (v := (0 : Int32)) C dL_areLanesSo_584 (by decide) ?_
              exact gx_iret C rfl rfl dL_areLanesSo_585 hw
            · replace hw := hw.2 c15
              refine gx_iload C dL_areLanesSo_545 4 rfl ?_
              refine gx_aload_n C dL_areLanesSo_547 0 rfl ?_
              refine gx_bipush (v := (10 : Int32)) C dL_areLanesSo_548 (by decide) ?_
              refine gx_vcalli (As := [.int (10 : Int32)]) (rest := [.int v4]) C (c_X5_count _ _ hw) okg_10 rfl rfl bw_270 bw_271 bw_272 bw_1 bw_273 hy_X5_count ⟨by decide, by decide⟩ rfl (Nat.le_of_ble_eq_true rfl) dL_areLanesSo_550 (fun r16 σ17 hw => ?_)
              refine gx_icmp_ne (tgt := 584) C dL_areLanesSo_553 (by decide) (fun c18 => ?_) (fun c18 => ?_)
              · replace hw := hw.1 c18
                refine gx_iconst (v := (0 : Int32)) C dL_areLanesSo_584 (by decide) ?_
                exact gx_iret C rfl rfl dL_areLanesSo_585 hw
              · replace hw := hw.2 c18
                refine gx_aload_n C dL_areLanesSo_556 0 rfl ?_
                refine gx_vcalli (As := []) (rest := []) C (c_X5_tinsFor _ _ hw) okg_10 rfl rfl bw_463 bw_464 bw_465 bw_1 bw_466 hy_X5_tinsFor ⟨by decide, by decide⟩ rfl (Nat.le_of_ble_eq_true rfl) dL_areLanesSo_557 (fun r19 σ20 hw => ?_)
                refine gx_iload C dL_areLanesSo_560 6 rfl ?_
                refine gx_icmp_ne (tgt := 584) C dL_areLanesSo_562 (by decide) (fun c21 => ?_) (fun c21 => ?_)
                · replace hw := hw.1 c21
                  refine gx_iconst (v := (0 : Int32)) C dL_areLanesSo_584 (by decide) ?_
                  exact gx_iret C rfl rfl dL_areLanesSo_585 hw
                · replace hw := hw.2 c21
                  refine gx_aload_n C dL_areLanesSo_565 0 rfl ?_
                  refine gx_bipush (v := (9 : Int32)) C dL_areLanesSo_566 (by decide) ?_
                  refine gx_vcalli (As := [.int (9 : Int32)]) (rest := []) C (c_X5_count _ _ hw) okg_10 rfl rfl bw_270 bw_271 bw_272 bw_1 bw_273 hy_X5_count ⟨by decide, by decide⟩ rfl (Nat.le_of_ble_eq_true rfl) dL_areLanesSo_568 (fun r22 σ23 hw => ?_)
                  refine gx_aload_n C dL_areLanesSo_571 0 rfl ?_
                  refine gx_bipush (v := (8 : Int32)) C dL_areLanesSo_572 (by decide) ?_
                  refine gx_vcalli (As := [.int (8 : Int32)]) (rest := [.int r22]) C (c_X5_count _ _ hw) okg_10 rfl rfl bw_270 bw_271 bw_272 bw_1 bw_273 hy_X5_count ⟨by decide, by decide⟩ rfl (Nat.le_of_ble_eq_true rfl) dL_areLanesSo_574 (fun r24 σ25 hw => ?_)
                  refine gx_icmp_gt (tgt := 584) C dL_areLanesSo_577 (by decide) (fun c26 => ?_) (fun c26 => ?_)
                  · replace hw := hw.1 c26
                    refine gx_iconst (v := (0 : Int32)) C dL_areLanesSo_584 (by decide) ?_
                    exact gx_iret C rfl rfl dL_areLanesSo_585 hw
                  · replace hw := hw.2 c26
                    refine gx_iconst (v := (1 : Int32)) C dL_areLanesSo_580 (by decide) ?_
                    refine gx_goto (tgt := 585) C dL_areLanesSo_581 (by decide) ?_
                    exact gx_iret C rfl rfl dL_areLanesSo_585 hw
  · replace hw := hw.2 c4
    refine gx_iload C dL_areLanesSo_383 6 rfl ?_
    refine gx_aload_n C dL_areLanesSo_385 0 rfl ?_
    refine gx_iload C dL_areLanesSo_386 8 rfl ?_
    refine gx_iconst (v := (0 : Int32)) C dL_areLanesSo_388 (by decide) ?_
    refine gx_vcalli (As := [.int v8, .int (0 : Int32)]) (rest := [.int v6]) C (c_X5_flavour _ _ hw) okg_10 rfl rfl bw_430 bw_431 bw_432 bw_1 bw_433 hy_X5_flavour ⟨by decide, by decide⟩ rfl (Nat.le_of_ble_eq_true rfl) dL_areLanesSo_389 (fun r27 σ28 hw => ?_)
    refine gx_aload_n C dL_areLanesSo_392 0 rfl ?_
    refine gx_bipush (v := (13 : Int32)) C dL_areLanesSo_393 (by decide) ?_
    refine gx_vcalli (As := [.int (13 : Int32)]) (rest := [.int r27, .int v6]) C (c_X5_count _ _ hw) okg_10 rfl rfl bw_270 bw_271 bw_272 bw_1 bw_273 hy_X5_count ⟨by decide, by decide⟩ rfl (Nat.le_of_ble_eq_true rfl) dL_areLanesSo_395 (fun r29 σ30 hw => ?_)
    refine gx_iadd C dL_areLanesSo_398 ?_
    refine gx_iconst (v := (1 : Int32)) C dL_areLanesSo_399 (by decide) ?_
    refine gx_isub C dL_areLanesSo_400 ?_
    refine gx_aload_n C dL_areLanesSo_401 0 rfl ?_
    refine gx_bipush (v := (13 : Int32)) C dL_areLanesSo_402 (by decide) ?_
    refine gx_vcalli (As := [.int (13 : Int32)]) (rest := [.int ((r27 + r29) - (1 : Int32)), .int v6]) C (c_X5_count _ _ hw) okg_10 rfl rfl bw_270 bw_271 bw_272 bw_1 bw_273 hy_X5_count ⟨by decide, by decide⟩ rfl (Nat.le_of_ble_eq_true rfl) dL_areLanesSo_404 (fun r31 σ32 hw => ?_)
    refine gx_idiv C dL_areLanesSo_407 hw.1 ?_
    replace hw := hw.2
    refine gx_iadd C dL_areLanesSo_408 ?_
    obtain ⟨z33, e_z33⟩ : ∃ z : Int32, z = (v6 + (((r27 + r29) - (1 : Int32)) / r31)) := ⟨_, rfl⟩
    replace hw := hw z33 e_z33
    refine gx_top e_z33 ?_
    refine gx_istore (lv' := [(6, .int z33), (0, .ref (ad (tE X) 11 10 0)), (1, .int v1), (2, .int v2), (3, .int v3), (4, .int v4), (5, .int v5), (7, .int v7), (8, .int v8)]) C dL_areLanesSo_409 (by decide) rfl ?_
    refine gx_iload C dL_areLanesSo_411 7 rfl ?_
    refine gx_aload_n C dL_areLanesSo_413 1 rfl ?_
    refine gx_iload C dL_areLanesSo_414 8 rfl ?_
    refine gx_iconst (v := (0 : Int32)) C dL_areLanesSo_416 (by decide) ?_
    refine gx_vcalli (As := [.int v8, .int (0 : Int32)]) (rest := [.int v7]) C (c_X5_flavour _ _ hw) okg_10 rfl rfl bw_430 bw_431 bw_432 bw_1 bw_433 hy_X5_flavour ⟨by decide, by decide⟩ rfl (Nat.le_of_ble_eq_true rfl) dL_areLanesSo_417 (fun r34 σ35 hw => ?_)
    refine gx_iadd C dL_areLanesSo_420 ?_
    obtain ⟨z36, e_z36⟩ : ∃ z : Int32, z = (v7 + r34) := ⟨_, rfl⟩
    replace hw := hw z36 e_z36
    refine gx_top e_z36 ?_
    refine gx_istore (lv' := [(7, .int z36), (6, .int z33), (0, .ref (ad (tE X) 11 10 0)), (1, .int v1), (2, .int v2), (3, .int v3), (4, .int v4), (5, .int v5), (8, .int v8)]) C dL_areLanesSo_421 (by decide) rfl ?_
    refine gx_iconst (v := (0 : Int32)) C dL_areLanesSo_423 (by decide) ?_
    refine gx_istore (lv' := [(9, .int (0 : Int32)), (7, .int z36), (6, .int z33), (0, .ref (ad (tE X) 11 10 0)), (1, .int v1), (2, .int v2), (3, .int v3), (4, .int v4), (5, .int v5), (8, .int v8)]) C dL_areLanesSo_424 (by decide) rfl ?_
    refine gx_sub (lv' := [(0, .ref (ad (tE X) 11 10 0)), (1, .int v1), (2, .int v2), (3, .int v3), (4, .int v4), (5, .int v5), (6, .int z33), (7, .int z36), (8, .int v8), (9, .int (0 : Int32))]) [3, 4, 5, 6, 7, 8, 2, 1, 9, 0] rfl ?_
    exact g_L_areLanesSo_L426 C hK376 hw
set_option maxRecDepth 100000 in
set_option maxHeartbeats 4000000 in
theorem g_L_areLanesSo_L376 {X : Tx} {Q : Int32 → Sg → Prop} (C : Cx X cL_areLanesSo "SweetWrapsLaw" (some .boolean) 7 153 11 (QI (tE X) Q)) {v1 : Int32} {v2 : Int32} {v3 : Int32} {v4 : Int32} {v5 : Int32} {v6 : Int32} {v7 : Int32} {v8 : Int32} {σ : Sg} (hw : wp_L_areLanesSo_L376 Q v1 v2 v3 v4 v5 v6 v7 v8 σ) : G X σ [(0, .ref (ad (tE X) 11 10 0)), (1, .int v1), (2, .int v2), (3, .int v3), (4, .int v4), (5, .int v5), (6, .int v6), (7, .int v7), (8, .int v8)] [] 376 := by
  obtain ⟨n, hw⟩ := hw
  exact lpN_G (P := (fun (a : Int32 × Int32 × Int32 × Int32 × Int32 × Int32 × Int32 × Int32 × Sg) => G X (a.2.2.2.2.2.2.2.2) [(0, .ref (ad (tE X) 11 10 0)), (1, .int (a.1)), (2, .int (a.2.1)), (3, .int (a.2.2.1)), (4, .int (a.2.2.2.1)), (5, .int (a.2.2.2.2.1)), (6, .int (a.2.2.2.2.2.1)), (7, .int (a.2.2.2.2.2.2.1)), (8, .int (a.2.2.2.2.2.2.2.1))] [] 376)) (fun K a hK h => gs_L_areLanesSo_L376 C (fun v1 v2 v3 v4 v5 v6 v7 v8 σ h => hK (v1, v2, v3, v4, v5, v6, v7, v8, σ) h) h) n _ hw
def wp_L_areLanesSo_b359 (K15 : Int32 → Int32 → Int32 → Int32 → Int32 → Int32 → Sg → Prop) (Q : Int32 → Sg → Prop) (v1 : Int32) (v2 : Int32) (v3 : Int32) (v4 : Int32) (v6 : Int32) (s0 : Int32) (σ : Sg) : Prop := ∀ z113 : Int32, z113 = v6 + (1 : Int32) → K15 v1 v2 v3 v4 s0 z113 σ
set_option maxRecDepth 100000 in
set_option maxHeartbeats 4000000 in
theorem g_L_areLanesSo_b359 {X : Tx} {Q : Int32 → Sg → Prop} (C : Cx X cL_areLanesSo "SweetWrapsLaw" (some .boolean) 7 153 11 (QI (tE X) Q)) {K15 : Int32 → Int32 → Int32 → Int32 → Int32 → Int32 → Sg → Prop} (hK15 : ∀ (v1 : Int32) (v2 : Int32) (v3 : Int32) (v4 : Int32) (v5 : Int32) (v6 : Int32) (σ : Sg), K15 v1 v2 v3 v4 v5 v6 σ → G X σ [(0, .ref (ad (tE X) 11 10 0)), (1, .int v1), (2, .int v2), (3, .int v3), (4, .int v4), (5, .int v5), (6, .int v6)] [] 15) {v1 : Int32} {v2 : Int32} {v3 : Int32} {v4 : Int32} {v6 : Int32} {s0 : Int32} {σ : Sg} (hw : wp_L_areLanesSo_b359 K15 Q v1 v2 v3 v4 v6 s0 σ) : G X σ [(0, .ref (ad (tE X) 11 10 0)), (1, .int v1), (2, .int v2), (3, .int v3), (4, .int v4), (6, .int v6)] [.int s0] 359 := by
  unfold wp_L_areLanesSo_b359 at hw
  refine gx_istore (lv' := [(5, .int s0), (0, .ref (ad (tE X) 11 10 0)), (1, .int v1), (2, .int v2), (3, .int v3), (4, .int v4), (6, .int v6)]) C dL_areLanesSo_359 (by decide) rfl ?_
  obtain ⟨z113, e_z113⟩ : ∃ z : Int32, z = v6 + (1 : Int32) := ⟨_, rfl⟩
  replace hw := hw z113 e_z113
  refine gx_iinc (v := z113) (lv' := [(6, .int z113), (5, .int s0), (0, .ref (ad (tE X) 11 10 0)), (1, .int v1), (2, .int v2), (3, .int v3), (4, .int v4)]) C dL_areLanesSo_361 6 rfl (by rw [e_z113]; rfl) (by decide) rfl ?_
  refine gx_goto (tgt := 15) C dL_areLanesSo_364 (by decide) ?_
  refine gx_sub (lv' := [(0, .ref (ad (tE X) 11 10 0)), (1, .int v1), (2, .int v2), (3, .int v3), (4, .int v4), (5, .int s0), (6, .int z113)]) [2, 3, 4, 5, 6, 1, 0] rfl ?_
  exact hK15 _ _ _ _ _ _ _ hw
def wp_L_areLanesSo_b358 (K15 : Int32 → Int32 → Int32 → Int32 → Int32 → Int32 → Sg → Prop) (Q : Int32 → Sg → Prop) (v1 : Int32) (v2 : Int32) (v3 : Int32) (v4 : Int32) (v6 : Int32) (σ : Sg) : Prop := wp_L_areLanesSo_b359 K15 Q v1 v2 v3 v4 v6 (0 : Int32) σ
set_option maxRecDepth 100000 in
set_option maxHeartbeats 4000000 in
theorem g_L_areLanesSo_b358 {X : Tx} {Q : Int32 → Sg → Prop} (C : Cx X cL_areLanesSo "SweetWrapsLaw" (some .boolean) 7 153 11 (QI (tE X) Q)) {K15 : Int32 → Int32 → Int32 → Int32 → Int32 → Int32 → Sg → Prop} (hK15 : ∀ (v1 : Int32) (v2 : Int32) (v3 : Int32) (v4 : Int32) (v5 : Int32) (v6 : Int32) (σ : Sg), K15 v1 v2 v3 v4 v5 v6 σ → G X σ [(0, .ref (ad (tE X) 11 10 0)), (1, .int v1), (2, .int v2), (3, .int v3), (4, .int v4), (5, .int v5), (6, .int v6)] [] 15) {v1 : Int32} {v2 : Int32} {v3 : Int32} {v4 : Int32} {v6 : Int32} {σ : Sg} (hw : wp_L_areLanesSo_b358 K15 Q v1 v2 v3 v4 v6 σ) : G X σ [(0, .ref (ad (tE X) 11 10 0)), (1, .int v1), (2, .int v2), (3, .int v3), (4, .int v4), (6, .int v6)] [] 358 := by
  unfold wp_L_areLanesSo_b358 at hw
  refine gx_iconst (v := (0 : Int32)) C dL_areLanesSo_358 (by decide) ?_
  exact g_L_areLanesSo_b359 C hK15 hw
def wp_L_areLanesSo_b354 (K15 : Int32 → Int32 → Int32 → Int32 → Int32 → Int32 → Sg → Prop) (Q : Int32 → Sg → Prop) (v1 : Int32) (v2 : Int32) (v3 : Int32) (v4 : Int32) (v6 : Int32) (σ : Sg) : Prop := wp_L_areLanesSo_b359 K15 Q v1 v2 v3 v4 v6 (1 : Int32) σ
set_option maxRecDepth 100000 in
set_option maxHeartbeats 4000000 in
theorem g_L_areLanesSo_b354 {X : Tx} {Q : Int32 → Sg → Prop} (C : Cx X cL_areLanesSo "SweetWrapsLaw" (some .boolean) 7 153 11 (QI (tE X) Q)) {K15 : Int32 → Int32 → Int32 → Int32 → Int32 → Int32 → Sg → Prop} (hK15 : ∀ (v1 : Int32) (v2 : Int32) (v3 : Int32) (v4 : Int32) (v5 : Int32) (v6 : Int32) (σ : Sg), K15 v1 v2 v3 v4 v5 v6 σ → G X σ [(0, .ref (ad (tE X) 11 10 0)), (1, .int v1), (2, .int v2), (3, .int v3), (4, .int v4), (5, .int v5), (6, .int v6)] [] 15) {v1 : Int32} {v2 : Int32} {v3 : Int32} {v4 : Int32} {v6 : Int32} {σ : Sg} (hw : wp_L_areLanesSo_b354 K15 Q v1 v2 v3 v4 v6 σ) : G X σ [(0, .ref (ad (tE X) 11 10 0)), (1, .int v1), (2, .int v2), (3, .int v3), (4, .int v4), (6, .int v6)] [] 354 := by
  unfold wp_L_areLanesSo_b354 at hw
  refine gx_iconst (v := (1 : Int32)) C dL_areLanesSo_354 (by decide) ?_
  refine gx_goto (tgt := 359) C dL_areLanesSo_355 (by decide) ?_
  exact g_L_areLanesSo_b359 C hK15 hw
def wp_L_areLanesSo_b231 (K15 : Int32 → Int32 → Int32 → Int32 → Int32 → Int32 → Sg → Prop) (Q : Int32 → Sg → Prop) (v1 : Int32) (v2 : Int32) (v3 : Int32) (v5 : Int32) (v6 : Int32) (v7 : Int32) (v8 : Int32) (v10 : Int32) (s0 : Int32) (s1 : Int32) (σ : Sg) : Prop := ∀ z82 : Int32, z82 = (s1 ||| s0) → ∀ z83 : Int32, z83 = (v1 + v8) → wp_X5_of v6 (3 : Int32) σ (fun r84 σ85 => ∀ z86 : Int32, z86 = (v2 + r84) → wp_X5_of v6 (6 : Int32) σ85 (fun r87 σ88 => ∀ z89 : Int32, z89 = (v3 + r87) → ((v5 = 0 → wp_L_areLanesSo_b358 K15 Q z83 z86 z89 z82 v6 σ88) ∧ (¬ v5 = 0 → wp_X5_of v6 (0 : Int32) σ88 (fun r91 σ92 => ((¬ r91 = v8 → wp_L_areLanesSo_b358 K15 Q z83 z86 z89 z82 v6 σ92) ∧ (r91 = v8 → wp_X5_of v6 (7 : Int32) σ92 (fun r94 σ95 => ((¬ r94 = v10 → wp_L_areLanesSo_b358 K15 Q z83 z86 z89 z82 v6 σ95) ∧ (r94 = v10 → wp_X5_of v6 (6 : Int32) σ95 (fun r97 σ98 => wp_X5_of v6 (4 : Int32) σ98 (fun r99 σ100 => wp_X5_of v6 (5 : Int32) σ100 (fun r101 σ102 => ((¬ r97 = (r99 - r101) → wp_L_areLanesSo_b358 K15 Q z83 z86 z89 z82 v6 σ102) ∧ (r97 = (r99 - r101) → ((¬ v7 = 0 → wp_X5_of v6 (2 : Int32) σ102 (fun r105 σ106 => wp_X5_ofHeap v6 (0 : Int32) (0 : Int32) σ106 (fun r107 σ108 => ((¬ r105 = r107 → wp_L_areLanesSo_b358 K15 Q z83 z86 z89 z82 v6 σ108) ∧ (r105 = r107 → wp_L_areLanesSo_b354 K15 Q z83 z86 z89 z82 v6 σ108))))) ∧ (v7 = 0 → wp_X5_of v6 (2 : Int32) σ102 (fun r110 σ111 => ((¬ r110 = (-6 : Int32) → wp_L_areLanesSo_b358 K15 Q z83 z86 z89 z82 v6 σ111) ∧ (r110 = (-6 : Int32) → wp_L_areLanesSo_b354 K15 Q z83 z86 z89 z82 v6 σ111))))))))))))))))))))
set_option maxRecDepth 100000 in
set_option maxHeartbeats 4000000 in
theorem g_L_areLanesSo_b231 {X : Tx} {Q : Int32 → Sg → Prop} (C : Cx X cL_areLanesSo "SweetWrapsLaw" (some .boolean) 7 153 11 (QI (tE X) Q)) {K15 : Int32 → Int32 → Int32 → Int32 → Int32 → Int32 → Sg → Prop} (hK15 : ∀ (v1 : Int32) (v2 : Int32) (v3 : Int32) (v4 : Int32) (v5 : Int32) (v6 : Int32) (σ : Sg), K15 v1 v2 v3 v4 v5 v6 σ → G X σ [(0, .ref (ad (tE X) 11 10 0)), (1, .int v1), (2, .int v2), (3, .int v3), (4, .int v4), (5, .int v5), (6, .int v6)] [] 15) {v1 : Int32} {v2 : Int32} {v3 : Int32} {v5 : Int32} {v6 : Int32} {v7 : Int32} {v8 : Int32} {v10 : Int32} {s0 : Int32} {s1 : Int32} {σ : Sg} (hw : wp_L_areLanesSo_b231 K15 Q v1 v2 v3 v5 v6 v7 v8 v10 s0 s1 σ) : G X σ [(0, .ref (ad (tE X) 11 10 0)), (1, .int v1), (2, .int v2), (3, .int v3), (5, .int v5), (6, .int v6), (7, .int v7), (8, .int v8), (10, .int v10)] [.int s0, .int s1] 231 := by
  unfold wp_L_areLanesSo_b231 at hw
  refine gx_ior C dL_areLanesSo_231 ?_
  obtain ⟨z82, e_z82⟩ : ∃ z : Int32, z = (s1 ||| s0) := ⟨_, rfl⟩
  replace hw := hw z82 e_z82
  refine gx_top e_z82 ?_
  refine gx_istore (lv' := [(4, .int z82), (0, .ref (ad (tE X) 11 10 0)), (1, .int v1), (2, .int v2), (3, .int v3), (5, .int v5), (6, .int v6), (7, .int v7), (8, .int v8), (10, .int v10)]) C dL_areLanesSo_232 (by decide) rfl ?_
  refine gx_iload_n C dL_areLanesSo_234 2 rfl ?_
  refine gx_iload C dL_areLanesSo_235 8 rfl ?_
  refine gx_iadd C dL_areLanesSo_237 ?_
  obtain ⟨z83, e_z83⟩ : ∃ z : Int32, z = (v1 + v8) := ⟨_, rfl⟩
  replace hw := hw z83 e_z83
  refine gx_top e_z83 ?_
  refine gx_istore_n (lv' := [(1, .int z83), (4, .int z82), (0, .ref (ad (tE X) 11 10 0)), (2, .int v2), (3, .int v3), (5, .int v5), (6, .int v6), (7, .int v7), (8, .int v8), (10, .int v10)]) C dL_areLanesSo_238 (by decide) rfl ?_
  refine gx_iload_n C dL_areLanesSo_239 3 rfl ?_
  refine gx_aload_n C dL_areLanesSo_240 2 rfl ?_
  refine gx_iload C dL_areLanesSo_241 6 rfl ?_
  refine gx_iconst (v := (3 : Int32)) C dL_areLanesSo_243 (by decide) ?_
  refine gx_vcalli (As := [.int v6, .int (3 : Int32)]) (rest := [.int v2]) C (c_X5_of _ _ hw) okg_10 rfl rfl bw_449 bw_450 bw_451 bw_1 bw_452 hy_X5_of ⟨by decide, by decide⟩ rfl (Nat.le_of_ble_eq_true rfl) dL_areLanesSo_244 (fun r84 σ85 hw => ?_)
  refine gx_iadd C dL_areLanesSo_247 ?_
  obtain ⟨z86, e_z86⟩ : ∃ z : Int32, z = (v2 + r84) := ⟨_, rfl⟩
  replace hw := hw z86 e_z86
  refine gx_top e_z86 ?_
  refine gx_istore_n (lv' := [(2, .int z86), (1, .int z83), (4, .int z82), (0, .ref (ad (tE X) 11 10 0)), (3, .int v3), (5, .int v5), (6, .int v6), (7, .int v7), (8, .int v8), (10, .int v10)]) C dL_areLanesSo_248 (by decide) rfl ?_
  refine gx_iload_n C dL_areLanesSo_249 4 rfl ?_
  refine gx_aload_n C dL_areLanesSo_250 3 rfl ?_
  refine gx_iload C dL_areLanesSo_251 6 rfl ?_
  refine gx_bipush (v := (6 : Int32)) C dL_areLanesSo_253 (by decide) ?_
  refine gx_vcalli (As := [.int v6, .int (6 : Int32)]) (rest := [.int v3]) C (c_X5_of _ _ hw) okg_10 rfl rfl bw_449 bw_450 bw_451 bw_1 bw_452 hy_X5_of ⟨by decide, by decide⟩ rfl (Nat.le_of_ble_eq_true rfl) dL_areLanesSo_255 (fun r87 σ88 hw => ?_)
  refine gx_iadd C dL_areLanesSo_258 ?_
  obtain ⟨z89, e_z89⟩ : ∃ z : Int32, z = (v3 + r87) := ⟨_, rfl⟩
  replace hw := hw z89 e_z89
  refine gx_top e_z89 ?_
  refine gx_istore_n (lv' := [(3, .int z89), (2, .int z86), (1, .int z83), (4, .int z82), (0, .ref (ad (tE X) 11 10 0)), (5, .int v5), (6, .int v6), (7, .int v7), (8, .int v8), (10, .int v10)]) C dL_areLanesSo_259 (by decide) rfl ?_
  refine gx_iload C dL_areLanesSo_260 5 rfl ?_
  refine gx_if_eq (tgt := 358) C dL_areLanesSo_262 (by decide) (fun c90 => ?_) (fun c90 => ?_)
  · replace hw := hw.1 c90
    refine gx_sub (lv' := [(0, .ref (ad (tE X) 11 10 0)), (1, .int z83), (2, .int z86), (3, .int z89), (4, .int z82), (6, .int v6)]) [4, 2, 1, 0, 3, 6] rfl ?_
    exact g_L_areLanesSo_b358 C hK15 hw
  · replace hw := hw.2 c90
    refine gx_aload_n C dL_areLanesSo_265 4 rfl ?_
    refine gx_iload C dL_areLanesSo_266 6 rfl ?_
    refine gx_iconst (v := (0 : Int32)) C dL_areLanesSo_268 (by decide) ?_
    refine gx_vcalli (As := [.int v6, .int (0 : Int32)]) (rest := []) C (c_X5_of _ _ hw) okg_10 rfl rfl bw_449 bw_450 bw_451 bw_1 bw_452 hy_X5_of ⟨by decide, by decide⟩ rfl (Nat.le_of_ble_eq_true rfl) dL_areLanesSo_269 (fun r91 σ92 hw => ?_)
    refine gx_iload C dL_areLanesSo_272 8 rfl ?_
    refine gx_icmp_ne (tgt := 358) C dL_areLanesSo_274 (by decide) (fun c93 => ?_) (fun c93 => ?_)
    · replace hw := hw.1 c93
      refine gx_sub (lv' := [(0, .ref (ad (tE X) 11 10 0)), (1, .int z83), (2, .int z86), (3, .int z89), (4, .int z82), (6, .int v6)]) [4, 2, 1, 0, 3, 6] rfl ?_
      exact g_L_areLanesSo_b358 C hK15 hw
    · replace hw := hw.2 c93
      refine gx_aload_n C dL_areLanesSo_277 4 rfl ?_
      refine gx_iload C dL_areLanesSo_278 6 rfl ?_
      refine gx_bipush (v := (7 : Int32)) C dL_areLanesSo_280 (by decide) ?_
      refine gx_vcalli (As := [.int v6, .int (7 : Int32)]) (rest := []) C (c_X5_of _ _ hw) okg_10 rfl rfl bw_449 bw_450 bw_451 bw_1 bw_452 hy_X5_of ⟨by decide, by decide⟩ rfl (Nat.le_of_ble_eq_true rfl) dL_areLanesSo_282 (fun r94 σ95 hw => ?_)
      refine gx_iload C dL_areLanesSo_285 9 rfl ?_
      refine gx_icmp_ne (tgt := 358) C dL_areLanesSo_287 (by decide) (fun c96 => ?_) (fun c96 => ?_)
      · replace hw := hw.1 c96
        refine gx_sub (lv' := [(0, .ref (ad (tE X) 11 10 0)), (1, .int z83), (2, .int z86), (3, .int z89), (4, .int z82), (6, .int v6)]) [4, 2, 1, 0, 3, 6] rfl ?_
        exact g_L_areLanesSo_b358 C hK15 hw
      · replace hw := hw.2 c96
        refine gx_aload_n C dL_areLanesSo_290 4 rfl ?_
        refine gx_iload C dL_areLanesSo_291 6 rfl ?_
        refine gx_bipush (v := (6 : Int32)) C dL_areLanesSo_293 (by decide) ?_
        refine gx_vcalli (As := [.int v6, .int (6 : Int32)]) (rest := []) C (c_X5_of _ _ hw) okg_10 rfl rfl bw_449 bw_450 bw_451 bw_1 bw_452 hy_X5_of ⟨by decide, by decide⟩ rfl (Nat.le_of_ble_eq_true rfl) dL_areLanesSo_295 (fun r97 σ98 hw => ?_)
        refine gx_aload_n C dL_areLanesSo_298 4 rfl ?_
        refine gx_iload C dL_areLanesSo_299 6 rfl ?_
        refine gx_iconst (v := (4 : Int32)) C dL_areLanesSo_301 (by decide) ?_
        refine gx_vcalli (As := [.int v6, .int (4 : Int32)]) (rest := [.int r97]) C (c_X5_of _ _ hw) okg_10 rfl rfl bw_449 bw_450 bw_451 bw_1 bw_452 hy_X5_of ⟨by decide, by decide⟩ rfl (Nat.le_of_ble_eq_true rfl) dL_areLanesSo_302 (fun r99 σ100 hw => ?_)
        refine gx_aload_n C dL_areLanesSo_305 4 rfl ?_
        refine gx_iload C dL_areLanesSo_306 6 rfl ?_
        refine gx_iconst (v := (5 : Int32)) C dL_areLanesSo_308 (by decide) ?_
        refine gx_vcalli (As := [.int v6, .int (5 : Int32)]) (rest := [.int r99, .int r97]) C (c_X5_of _ _ hw) okg_10 rfl rfl bw_449 bw_450 bw_451 bw_1 bw_452 hy_X5_of ⟨by decide, by decide⟩ rfl (Nat.le_of_ble_eq_true rfl) dL_areLanesSo_309 (fun r101 σ102 hw => ?_)
        refine gx_isub C dL_areLanesSo_312 ?_
        refine gx_icmp_ne (tgt := 358) C dL_areLanesSo_313 (by decide) (fun c103 => ?_) (fun c103 => ?_)
        · replace hw := hw.1 c103
          refine gx_sub (lv' := [(0, .ref (ad (tE X) 11 10 0)), (1, .int z83), (2, .int z86), (3, .int z89), (4, .int z82), (6, .int v6)]) [4, 2, 1, 0, 3, 6] rfl ?_
          exact g_L_areLanesSo_b358 C hK15 hw
        · replace hw := hw.2 c103
          refine gx_iload C dL_areLanesSo_316 7 rfl ?_
          refine gx_if_ne (tgt := 336) C dL_areLanesSo_318 (by decide) (fun c104 => ?_) (fun c104 => ?_)
          · replace hw := hw.1 c104
            refine gx_aload_n C dL_areLanesSo_336 4 rfl ?_
            refine gx_iload C dL_areLanesSo_337 6 rfl ?_
            refine gx_iconst (v := (2 : Int32)) C dL_areLanesSo_339 (by decide) ?_
            refine gx_vcalli (As := [.int v6, .int (2 : Int32)]) (rest := []) C (c_X5_of _ _ hw) okg_10 rfl rfl bw_449 bw_450 bw_451 bw_1 bw_452 hy_X5_of ⟨by decide, by decide⟩ rfl (Nat.le_of_ble_eq_true rfl) dL_areLanesSo_340 (fun r105 σ106 hw => ?_)
            refine gx_aload_n C dL_areLanesSo_343 4 rfl ?_
            refine gx_iload C dL_areLanesSo_344 6 rfl ?_
            refine gx_iconst (v := (0 : Int32)) C dL_areLanesSo_346 (by decide) ?_
            refine gx_iconst (v := (0 : Int32)) C dL_areLanesSo_347 (by decide) ?_
            refine gx_vcalli (As := [.int v6, .int (0 : Int32), .int (0 : Int32)]) (rest := [.int r105]) C (c_X5_ofHeap _ _ hw) okg_10 rfl rfl bw_454 bw_455 bw_456 bw_1 bw_457 hy_X5_ofHeap ⟨by decide, by decide⟩ rfl (Nat.le_of_ble_eq_true rfl) dL_areLanesSo_348 (fun r107 σ108 hw => ?_)
            refine gx_icmp_ne (tgt := 358) C dL_areLanesSo_351 (by decide) (fun c109 => ?_) (fun c109 => ?_)
            · replace hw := hw.1 c109
              refine gx_sub (lv' := [(0, .ref (ad (tE X) 11 10 0)), (1, .int z83), (2, .int z86), (3, .int z89), (4, .int z82), (6, .int v6)]) [4, 2, 1, 0, 3, 6] rfl ?_
              exact g_L_areLanesSo_b358 C hK15 hw
            · replace hw := hw.2 c109
              refine gx_sub (lv' := [(0, .ref (ad (tE X) 11 10 0)), (1, .int z83), (2, .int z86), (3, .int z89), (4, .int z82), (6, .int v6)]) [4, 2, 1, 0, 3, 6] rfl ?_
              exact g_L_areLanesSo_b354 C hK15 hw
          · replace hw := hw.2 c104
            refine gx_aload_n C dL_areLanesSo_321 4 rfl ?_
            refine gx_iload C dL_areLanesSo_322 6 rfl ?_
            refine gx_iconst (v := (2 : Int32)) C dL_areLanesSo_324 (by decide) ?_
            refine gx_vcalli (As := [.int v6, .int (2 : Int32)]) (rest := []) C (c_X5_of _ _ hw) okg_10 rfl rfl bw_449 bw_450 bw_451 bw_1 bw_452 hy_X5_of ⟨by decide, by decide⟩ rfl (Nat.le_of_ble_eq_true rfl) dL_areLanesSo_325 (fun r110 σ111 hw => ?_)
            refine gx_bipush (v := (-6 : Int32)) C dL_areLanesSo_328 (by decide) ?_
            refine gx_icmp_ne (tgt := 358) C dL_areLanesSo_330 (by decide) (fun c112 => ?_) (fun c112 => ?_)
            · replace hw := hw.1 c112
              refine gx_sub (lv' := [(0, .ref (ad (tE X) 11 10 0)), (1, .int z83), (2, .int z86), (3, .int z89), (4, .int z82), (6, .int v6)]) [4, 2, 1, 0, 3, 6] rfl ?_
              exact g_L_areLanesSo_b358 C hK15 hw
            · replace hw := hw.2 c112
              refine gx_goto (tgt := 354) C dL_areLanesSo_333 (by decide) ?_
              refine gx_sub (lv' := [(0, .ref (ad (tE X) 11 10 0)), (1, .int z83), (2, .int z86), (3, .int z89), (4, .int z82), (6, .int v6)]) [4, 2, 1, 0, 3, 6] rfl ?_
              exact g_L_areLanesSo_b354 C hK15 hw
def wp_L_areLanesSo_b214 (K15 : Int32 → Int32 → Int32 → Int32 → Int32 → Int32 → Sg → Prop) (Q : Int32 → Sg → Prop) (v1 : Int32) (v2 : Int32) (v3 : Int32) (v4 : Int32) (v5 : Int32) (v6 : Int32) (v7 : Int32) (v8 : Int32) (s0 : Int32) (σ : Sg) : Prop := ((s0 ≤ 0 → wp_L_areLanesSo_b231 K15 Q v1 v2 v3 v5 v6 v7 v8 s0 (0 : Int32) v4 σ) ∧ (¬ s0 ≤ 0 → wp_L_areLanesSo_b231 K15 Q v1 v2 v3 v5 v6 v7 v8 s0 ((1 : Int32) <<< (v6 &&& 31)) v4 σ))
set_option maxRecDepth 100000 in
set_option maxHeartbeats 4000000 in
theorem g_L_areLanesSo_b214 {X : Tx} {Q : Int32 → Sg → Prop} (C : Cx X cL_areLanesSo "SweetWrapsLaw" (some .boolean) 7 153 11 (QI (tE X) Q)) {K15 : Int32 → Int32 → Int32 → Int32 → Int32 → Int32 → Sg → Prop} (hK15 : ∀ (v1 : Int32) (v2 : Int32) (v3 : Int32) (v4 : Int32) (v5 : Int32) (v6 : Int32) (σ : Sg), K15 v1 v2 v3 v4 v5 v6 σ → G X σ [(0, .ref (ad (tE X) 11 10 0)), (1, .int v1), (2, .int v2), (3, .int v3), (4, .int v4), (5, .int v5), (6, .int v6)] [] 15) {v1 : Int32} {v2 : Int32} {v3 : Int32} {v4 : Int32} {v5 : Int32} {v6 : Int32} {v7 : Int32} {v8 : Int32} {s0 : Int32} {σ : Sg} (hw : wp_L_areLanesSo_b214 K15 Q v1 v2 v3 v4 v5 v6 v7 v8 s0 σ) : G X σ [(0, .ref (ad (tE X) 11 10 0)), (1, .int v1), (2, .int v2), (3, .int v3), (4, .int v4), (5, .int v5), (6, .int v6), (7, .int v7), (8, .int v8)] [.int s0] 214 := by
  unfold wp_L_areLanesSo_b214 at hw
  refine gx_istore (lv' := [(10, .int s0), (0, .ref (ad (tE X) 11 10 0)), (1, .int v1), (2, .int v2), (3, .int v3), (4, .int v4), (5, .int v5), (6, .int v6), (7, .int v7), (8, .int v8)]) C dL_areLanesSo_214 (by decide) rfl ?_
  refine gx_iload C dL_areLanesSo_216 5 rfl ?_
  refine gx_iload C dL_areLanesSo_218 0 rfl ?_
  refine gx_if_le (tgt := 230) C dL_areLanesSo_220 (by decide) (fun c81 => ?_) (fun c81 => ?_)
  · replace hw := hw.1 c81
    refine gx_iconst (v := (0 : Int32)) C dL_areLanesSo_230 (by decide) ?_
    refine gx_sub (lv' := [(0, .ref (ad (tE X) 11 10 0)), (1, .int v1), (2, .int v2), (3, .int v3), (5, .int v5), (6, .int v6), (7, .int v7), (8, .int v8), (10, .int s0)]) [1, 2, 3, 4, 6, 7, 8, 9, 0] rfl ?_
    exact g_L_areLanesSo_b231 C hK15 hw
  · replace hw := hw.2 c81
    refine gx_iconst (v := (1 : Int32)) C dL_areLanesSo_223 (by decide) ?_
    refine gx_iload C dL_areLanesSo_224 7 rfl ?_
    refine gx_ishl C dL_areLanesSo_226 ?_
    refine gx_goto (tgt := 231) C dL_areLanesSo_227 (by decide) ?_
    refine gx_sub (lv' := [(0, .ref (ad (tE X) 11 10 0)), (1, .int v1), (2, .int v2), (3, .int v3), (5, .int v5), (6, .int v6), (7, .int v7), (8, .int v8), (10, .int s0)]) [1, 2, 3, 4, 6, 7, 8, 9, 0] rfl ?_
    exact g_L_areLanesSo_b231 C hK15 hw
def wp_L_areLanesSo_b173 (K15 : Int32 → Int32 → Int32 → Int32 → Int32 → Int32 → Sg → Prop) (Q : Int32 → Sg → Prop) (v1 : Int32) (v2 : Int32) (v3 : Int32) (v4 : Int32) (v5 : Int32) (v6 : Int32) (v7 : Int32) (v8 : Int32) (v9 : Int32) (σ : Sg) : Prop := ((¬ v7 = 0 → ((0 ≤ v9 → wp_X5_of v6 (3 : Int32) σ (fun r76 σ77 => wp_X5_count (14 : Int32) σ77 (fun r78 σ79 => ((((2 : Int32) + r78) ≤ r76 → wp_L_areLanesSo_b214 K15 Q v1 v2 v3 v4 v5 v6 v7 v8 (0 : Int32) σ79) ∧ (¬ ((2 : Int32) + r78) ≤ r76 → wp_L_areLanesSo_b214 K15 Q v1 v2 v3 v4 v5 v6 v7 v8 (3 : Int32) σ79))))) ∧ (¬ 0 ≤ v9 → wp_L_areLanesSo_b214 K15 Q v1 v2 v3 v4 v5 v6 v7 v8 (2 : Int32) σ))) ∧ (v7 = 0 → wp_L_areLanesSo_b214 K15 Q v1 v2 v3 v4 v5 v6 v7 v8 (1 : Int32) σ))
set_option maxRecDepth 100000 in
set_option maxHeartbeats 4000000 in
theorem g_L_areLanesSo_b173 {X : Tx} {Q : Int32 → Sg → Prop} (C : Cx X cL_areLanesSo "SweetWrapsLaw" (some .boolean) 7 153 11 (QI (tE X) Q)) {K15 : Int32 → Int32 → Int32 → Int32 → Int32 → Int32 → Sg → Prop} (hK15 : ∀ (v1 : Int32) (v2 : Int32) (v3 : Int32) (v4 : Int32) (v5 : Int32) (v6 : Int32) (σ : Sg), K15 v1 v2 v3 v4 v5 v6 σ → G X σ [(0, .ref (ad (tE X) 11 10 0)), (1, .int v1), (2, .int v2), (3, .int v3), (4, .int v4), (5, .int v5), (6, .int v6)] [] 15) {v1 : Int32} {v2 : Int32} {v3 : Int32} {v4 : Int32} {v5 : Int32} {v6 : Int32} {v7 : Int32} {v8 : Int32} {v9 : Int32} {σ : Sg} (hw : wp_L_areLanesSo_b173 K15 Q v1 v2 v3 v4 v5 v6 v7 v8 v9 σ) : G X σ [(0, .ref (ad (tE X) 11 10 0)), (1, .int v1), (2, .int v2), (3, .int v3), (4, .int v4), (5, .int v5), (6, .int v6), (7, .int v7), (8, .int v8), (9, .int v9)] [] 173 := by
  unfold wp_L_areLanesSo_b173 at hw
  refine gx_iload C dL_areLanesSo_173 7 rfl ?_
  refine gx_if_ne (tgt := 182) C dL_areLanesSo_175 (by decide) (fun c74 => ?_) (fun c74 => ?_)
  · replace hw := hw.1 c74
    refine gx_iload C dL_areLanesSo_182 9 rfl ?_
    refine gx_if_ge (tgt := 191) C dL_areLanesSo_184 (by decide) (fun c75 => ?_) (fun c75 => ?_)
    · replace hw := hw.1 c75
      refine gx_aload_n C dL_areLanesSo_191 0 rfl ?_
      refine gx_iload C dL_areLanesSo_192 6 rfl ?_
      refine gx_iconst (v := (3 : Int32)) C dL_areLanesSo_194 (by decide) ?_
      refine gx_vcalli (As := [.int v6, .int (3 : Int32)]) (rest := []) C (c_X5_of _ _ hw) okg_10 rfl rfl bw_449 bw_450 bw_451 bw_1 bw_452 hy_X5_of ⟨by decide, by decide⟩ rfl (Nat.le_of_ble_eq_true rfl) dL_areLanesSo_195 (fun r76 σ77 hw => ?_)
      refine gx_iconst (v := (2 : Int32)) C dL_areLanesSo_198 (by decide) ?_
      refine gx_aload_n C dL_areLanesSo_199 0 rfl ?_
      refine gx_bipush (v := (14 : Int32)) C dL_areLanesSo_200 (by decide) ?_
      refine gx_vcalli (As := [.int (14 : Int32)]) (rest := [.int (2 : Int32), .int r76]) C (c_X5_count _ _ hw) okg_10 rfl rfl bw_270 bw_271 bw_272 bw_1 bw_273 hy_X5_count ⟨by decide, by decide⟩ rfl (Nat.le_of_ble_eq_true rfl) dL_areLanesSo_202 (fun r78 σ79 hw => ?_)
      refine gx_iadd C dL_areLanesSo_205 ?_
      refine gx_icmp_ge (tgt := 213) C dL_areLanesSo_206 (by decide) (fun c80 => ?_) (fun c80 => ?_)
      · replace hw := hw.1 c80
        refine gx_iconst (v := (0 : Int32)) C dL_areLanesSo_213 (by decide) ?_
        refine gx_sub (lv' := [(0, .ref (ad (tE X) 11 10 0)), (1, .int v1), (2, .int v2), (3, .int v3), (4, .int v4), (5, .int v5), (6, .int v6), (7, .int v7), (8, .int v8)]) [0, 1, 2, 3, 4, 5, 6, 7, 8] rfl ?_
        exact g_L_areLanesSo_b214 C hK15 hw
      · replace hw := hw.2 c80
        refine gx_iconst (v := (3 : Int32)) C dL_areLanesSo_209 (by decide) ?_
        refine gx_goto (tgt := 214) C dL_areLanesSo_210 (by decide) ?_
        refine gx_sub (lv' := [(0, .ref (ad (tE X) 11 10 0)), (1, .int v1), (2, .int v2), (3, .int v3), (4, .int v4), (5, .int v5), (6, .int v6), (7, .int v7), (8, .int v8)]) [0, 1, 2, 3, 4, 5, 6, 7, 8] rfl ?_
        exact g_L_areLanesSo_b214 C hK15 hw
    · replace hw := hw.2 c75
      refine gx_iconst (v := (2 : Int32)) C dL_areLanesSo_187 (by decide) ?_
      refine gx_goto (tgt := 214) C dL_areLanesSo_188 (by decide) ?_
      refine gx_sub (lv' := [(0, .ref (ad (tE X) 11 10 0)), (1, .int v1), (2, .int v2), (3, .int v3), (4, .int v4), (5, .int v5), (6, .int v6), (7, .int v7), (8, .int v8)]) [0, 1, 2, 3, 4, 5, 6, 7, 8] rfl ?_
      exact g_L_areLanesSo_b214 C hK15 hw
  · replace hw := hw.2 c74
    refine gx_iconst (v := (1 : Int32)) C dL_areLanesSo_178 (by decide) ?_
    refine gx_goto (tgt := 214) C dL_areLanesSo_179 (by decide) ?_
    refine gx_sub (lv' := [(0, .ref (ad (tE X) 11 10 0)), (1, .int v1), (2, .int v2), (3, .int v3), (4, .int v4), (5, .int v5), (6, .int v6), (7, .int v7), (8, .int v8)]) [0, 1, 2, 3, 4, 5, 6, 7, 8] rfl ?_
    exact g_L_areLanesSo_b214 C hK15 hw
def wp_L_areLanesSo_b165 (K15 : Int32 → Int32 → Int32 → Int32 → Int32 → Int32 → Sg → Prop) (K127 : Int32 → Int32 → Int32 → Int32 → Int32 → Int32 → Int32 → Int32 → Int32 → Int32 → Sg → Prop) (Q : Int32 → Sg → Prop) (v1 : Int32) (v2 : Int32) (v3 : Int32) (v4 : Int32) (v5 : Int32) (v6 : Int32) (v7 : Int32) (v8 : Int32) (v10 : Int32) (s0 : Int32) (σ : Sg) : Prop := ∀ z114 : Int32, z114 = v10 + (-1 : Int32) → K127 v1 v2 v3 v4 v5 v6 v7 v8 s0 z114 σ
set_option maxRecDepth 100000 in
set_option maxHeartbeats 4000000 in
theorem g_L_areLanesSo_b165 {X : Tx} {Q : Int32 → Sg → Prop} (C : Cx X cL_areLanesSo "SweetWrapsLaw" (some .boolean) 7 153 11 (QI (tE X) Q)) {K15 : Int32 → Int32 → Int32 → Int32 → Int32 → Int32 → Sg → Prop} {K127 : Int32 → Int32 → Int32 → Int32 → Int32 → Int32 → Int32 → Int32 → Int32 → Int32 → Sg → Prop} (hK15 : ∀ (v1 : Int32) (v2 : Int32) (v3 : Int32) (v4 : Int32) (v5 : Int32) (v6 : Int32) (σ : Sg), K15 v1 v2 v3 v4 v5 v6 σ → G X σ [(0, .ref (ad (tE X) 11 10 0)), (1, .int v1), (2, .int v2), (3, .int v3), (4, .int v4), (5, .int v5), (6, .int v6)] [] 15) (hK127 : ∀ (v1 : Int32) (v2 : Int32) (v3 : Int32) (v4 : Int32) (v5 : Int32) (v6 : Int32) (v7 : Int32) (v8 : Int32) (v9 : Int32) (v10 : Int32) (σ : Sg), K127 v1 v2 v3 v4 v5 v6 v7 v8 v9 v10 σ → G X σ [(0, .ref (ad (tE X) 11 10 0)), (1, .int v1), (2, .int v2), (3, .int v3), (4, .int v4), (5, .int v5), (6, .int v6), (7, .int v7), (8, .int v8), (9, .int v9), (10, .int v10)] [] 127) {v1 : Int32} {v2 : Int32} {v3 : Int32} {v4 : Int32} {v5 : Int32} {v6 : Int32} {v7 : Int32} {v8 : Int32} {v10 : Int32} {s0 : Int32} {σ : Sg} (hw : wp_L_areLanesSo_b165 K15 K127 Q v1 v2 v3 v4 v5 v6 v7 v8 v10 s0 σ) : G X σ [(0, .ref (ad (tE X) 11 10 0)), (1, .int v1), (2, .int v2), (3, .int v3), (4, .int v4), (5, .int v5), (6, .int v6), (7, .int v7), (8, .int v8), (10, .int v10)] [.int s0] 165 := by
  unfold wp_L_areLanesSo_b165 at hw
  refine gx_istore (lv' := [(9, .int s0), (0, .ref (ad (tE X) 11 10 0)), (1, .int v1), (2, .int v2), (3, .int v3), (4, .int v4), (5, .int v5), (6, .int v6), (7, .int v7), (8, .int v8), (10, .int v10)]) C dL_areLanesSo_165 (by decide) rfl ?_
  obtain ⟨z114, e_z114⟩ : ∃ z : Int32, z = v10 + (-1 : Int32) := ⟨_, rfl⟩
  replace hw := hw z114 e_z114
  refine gx_iinc (v := z114) (lv' := [(10, .int z114), (9, .int s0), (0, .ref (ad (tE X) 11 10 0)), (1, .int v1), (2, .int v2), (3, .int v3), (4, .int v4), (5, .int v5), (6, .int v6), (7, .int v7), (8, .int v8)]) C dL_areLanesSo_167 10 rfl (by rw [e_z114]; rfl) (by decide) rfl ?_
  refine gx_goto (tgt := 127) C dL_areLanesSo_170 (by decide) ?_
  refine gx_sub (lv' := [(0, .ref (ad (tE X) 11 10 0)), (1, .int v1), (2, .int v2), (3, .int v3), (4, .int v4), (5, .int v5), (6, .int v6), (7, .int v7), (8, .int v8), (9, .int s0), (10, .int z114)]) [2, 3, 4, 5, 6, 7, 8, 9, 10, 1, 0] rfl ?_
  exact hK127 _ _ _ _ _ _ _ _ _ _ _ hw
def st_L_areLanesSo_L127 (K15 : Int32 → Int32 → Int32 → Int32 → Int32 → Int32 → Sg → Prop) (Q : Int32 → Sg → Prop) (K127 : Int32 → Int32 → Int32 → Int32 → Int32 → Int32 → Int32 → Int32 → Int32 → Int32 → Sg → Prop) (v1 : Int32) (v2 : Int32) (v3 : Int32) (v4 : Int32) (v5 : Int32) (v6 : Int32) (v7 : Int32) (v8 : Int32) (v9 : Int32) (v10 : Int32) (σ : Sg) : Prop := ((v10 < 0 → wp_L_areLanesSo_b173 K15 Q v1 v2 v3 v4 v5 v6 v7 v8 v9 σ) ∧ (¬ v10 < 0 → ((v7 ≤ 0 → wp_L_areLanesSo_b173 K15 Q v1 v2 v3 v4 v5 v6 v7 v8 v9 σ) ∧ (¬ v7 ≤ 0 → wp_X5_ofTin v10 (3 : Int32) σ (fun r69 σ70 => wp_X5_of v6 (2 : Int32) σ70 (fun r71 σ72 => ((¬ ((r69 >>> (r71 &&& 31)) &&& (1 : Int32)) = (1 : Int32) → wp_L_areLanesSo_b165 K15 K127 Q v1 v2 v3 v4 v5 v6 v7 v8 v10 v9 σ72) ∧ (((r69 >>> (r71 &&& 31)) &&& (1 : Int32)) = (1 : Int32) → wp_L_areLanesSo_b165 K15 K127 Q v1 v2 v3 v4 v5 v6 v7 v8 v10 v10 σ72))))))))
def wp_L_areLanesSo_L127 (K15 : Int32 → Int32 → Int32 → Int32 → Int32 → Int32 → Sg → Prop) (Q : Int32 → Sg → Prop) (v1 : Int32) (v2 : Int32) (v3 : Int32) (v4 : Int32) (v5 : Int32) (v6 : Int32) (v7 : Int32) (v8 : Int32) (v9 : Int32) (v10 : Int32) (σ : Sg) : Prop := ∃ n : Nat, lpN (fun (K : Int32 × Int32 × Int32 × Int32 × Int32 × Int32 × Int32 × Int32 × Int32 × Int32 × Sg → Prop) (a : Int32 × Int32 × Int32 × Int32 × Int32 × Int32 × Int32 × Int32 × Int32 × Int32 × Sg) => st_L_areLanesSo_L127 K15 Q (fun v1 v2 v3 v4 v5 v6 v7 v8 v9 v10 σ => K (v1, v2, v3, v4, v5, v6, v7, v8, v9, v10, σ)) (a.1) (a.2.1) (a.2.2.1) (a.2.2.2.1) (a.2.2.2.2.1) (a.2.2.2.2.2.1) (a.2.2.2.2.2.2.1) (a.2.2.2.2.2.2.2.1) (a.2.2.2.2.2.2.2.2.1) (a.2.2.2.2.2.2.2.2.2.1) (a.2.2.2.2.2.2.2.2.2.2)) n (v1, v2, v3, v4, v5, v6, v7, v8, v9, v10, σ)
set_option maxRecDepth 100000 in
set_option maxHeartbeats 4000000 in
theorem gs_L_areLanesSo_L127 {X : Tx} {Q : Int32 → Sg → Prop} (C : Cx X cL_areLanesSo "SweetWrapsLaw" (some .boolean) 7 153 11 (QI (tE X) Q)) {K15 : Int32 → Int32 → Int32 → Int32 → Int32 → Int32 → Sg → Prop} (hK15 : ∀ (v1 : Int32) (v2 : Int32) (v3 : Int32) (v4 : Int32) (v5 : Int32) (v6 : Int32) (σ : Sg), K15 v1 v2 v3 v4 v5 v6 σ → G X σ [(0, .ref (ad (tE X) 11 10 0)), (1, .int v1), (2, .int v2), (3, .int v3), (4, .int v4), (5, .int v5), (6, .int v6)] [] 15) {K127 : Int32 → Int32 → Int32 → Int32 → Int32 → Int32 → Int32 → Int32 → Int32 → Int32 → Sg → Prop} (hK127 : ∀ (v1 : Int32) (v2 : Int32) (v3 : Int32) (v4 : Int32) (v5 : Int32) (v6 : Int32) (v7 : Int32) (v8 : Int32) (v9 : Int32) (v10 : Int32) (σ : Sg), K127 v1 v2 v3 v4 v5 v6 v7 v8 v9 v10 σ → G X σ [(0, .ref (ad (tE X) 11 10 0)), (1, .int v1), (2, .int v2), (3, .int v3), (4, .int v4), (5, .int v5), (6, .int v6), (7, .int v7), (8, .int v8), (9, .int v9), (10, .int v10)] [] 127) {v1 : Int32} {v2 : Int32} {v3 : Int32} {v4 : Int32} {v5 : Int32} {v6 : Int32} {v7 : Int32} {v8 : Int32} {v9 : Int32} {v10 : Int32} {σ : Sg} (hw : st_L_areLanesSo_L127 K15 Q K127 v1 v2 v3 v4 v5 v6 v7 v8 v9 v10 σ) : G X σ [(0, .ref (ad (tE X) 11 10 0)), (1, .int v1), (2, .int v2), (3, .int v3), (4, .int v4), (5, .int v5), (6, .int v6), (7, .int v7), (8, .int v8), (9, .int v9), (10, .int v10)] [] 127 := by
  unfold st_L_areLanesSo_L127 at hw
  refine gx_iload C dL_areLanesSo_127 10 rfl ?_
  refine gx_if_lt (tgt := 173) C dL_areLanesSo_129 (by decide) (fun c67 => ?_) (fun c67 => ?_)
  · replace hw := hw.1 c67
    refine gx_sub (lv' := [(0, .ref (ad (tE X) 11 10 0)), (1, .int v1), (2, .int v2), (3, .int v3), (4, .int v4), (5, .int v5), (6, .int v6), (7, .int v7), (8, .int v8), (9, .int v9)]) [0, 1, 2, 3, 4, 5, 6, 7, 8, 9] rfl ?_
    exact g_L_areLanesSo_b173 C hK15 hw
  · replace hw := hw.2 c67
    refine gx_iload C dL_areLanesSo_132 7 rfl ?_
    refine gx_if_le (tgt := 173) C dL_areLanesSo_134 (by decide) (fun c68 => ?_) (fun c68 => ?_)
    · replace hw := hw.1 c68
      refine gx_sub (lv' := [(0, .ref (ad (tE X) 11 10 0)), (1, .int v1), (2, .int v2), (3, .int v3), (4, .int v4), (5, .int v5), (6, .int v6), (7, .int v7), (8, .int v8), (9, .int v9)]) [0, 1, 2, 3, 4, 5, 6, 7, 8, 9] rfl ?_
      exact g_L_areLanesSo_b173 C hK15 hw
    · replace hw := hw.2 c68
      refine gx_aload_n C dL_areLanesSo_137 0 rfl ?_
      refine gx_iload C dL_areLanesSo_138 10 rfl ?_
      refine gx_iconst (v := (3 : Int32)) C dL_areLanesSo_140 (by decide) ?_
      refine gx_vcalli (As := [.int v10, .int (3 : Int32)]) (rest := []) C (c_X5_ofTin _ _ hw) okg_10 rfl rfl bw_410 bw_411 bw_412 bw_1 bw_413 hy_X5_ofTin ⟨by decide, by decide⟩ rfl (Nat.le_of_ble_eq_true rfl) dL_areLanesSo_141 (fun r69 σ70 hw => ?_)
      refine gx_aload_n C dL_areLanesSo_144 0 rfl ?_
      refine gx_iload C dL_areLanesSo_145 6 rfl ?_
      refine gx_iconst (v := (2 : Int32)) C dL_areLanesSo_147 (by decide) ?_
      refine gx_vcalli (As := [.int v6, .int (2 : Int32)]) (rest := [.int r69]) C (c_X5_of _ _ hw) okg_10 rfl rfl bw_449 bw_450 bw_451 bw_1 bw_452 hy_X5_of ⟨by decide, by decide⟩ rfl (Nat.le_of_ble_eq_true rfl) dL_areLanesSo_148 (fun r71 σ72 hw => ?_)
      refine gx_ishr C dL_areLanesSo_151 ?_
      refine gx_iconst (v := (1 : Int32)) C dL_areLanesSo_152 (by decide) ?_
      refine gx_iand C dL_areLanesSo_153 ?_
      refine gx_iconst (v := (1 : Int32)) C dL_areLanesSo_154 (by decide) ?_
      refine gx_icmp_ne (tgt := 163) C dL_areLanesSo_155 (by decide) (fun c73 => ?_) (fun c73 => ?_)
      · replace hw := hw.1 c73
        refine gx_iload C dL_areLanesSo_163 9 rfl ?_
        refine gx_sub (lv' := [(0, .ref (ad (tE X) 11 10 0)), (1, .int v1), (2, .int v2), (3, .int v3), (4, .int v4), (5, .int v5), (6, .int v6), (7, .int v7), (8, .int v8), (10, .int v10)]) [0, 1, 2, 3, 4, 5, 6, 7, 8, 10] rfl ?_
        exact g_L_areLanesSo_b165 C hK15 hK127 hw
      · replace hw := hw.2 c73
        refine gx_iload C dL_areLanesSo_158 10 rfl ?_
        refine gx_goto (tgt := 165) C dL_areLanesSo_160 (by decide) ?_
        refine gx_sub (lv' := [(0, .ref (ad (tE X) 11 10 0)), (1, .int v1), (2, .int v2), (3, .int v3), (4, .int v4), (5, .int v5), (6, .int v6), (7, .int v7), (8, .int v8), (10, .int v10)]) [0, 1, 2, 3, 4, 5, 6, 7, 8, 10] rfl ?_
        exact g_L_areLanesSo_b165 C hK15 hK127 hw
set_option maxRecDepth 100000 in
set_option maxHeartbeats 4000000 in
theorem g_L_areLanesSo_L127 {X : Tx} {Q : Int32 → Sg → Prop} (C : Cx X cL_areLanesSo "SweetWrapsLaw" (some .boolean) 7 153 11 (QI (tE X) Q)) {K15 : Int32 → Int32 → Int32 → Int32 → Int32 → Int32 → Sg → Prop} (hK15 : ∀ (v1 : Int32) (v2 : Int32) (v3 : Int32) (v4 : Int32) (v5 : Int32) (v6 : Int32) (σ : Sg), K15 v1 v2 v3 v4 v5 v6 σ → G X σ [(0, .ref (ad (tE X) 11 10 0)), (1, .int v1), (2, .int v2), (3, .int v3), (4, .int v4), (5, .int v5), (6, .int v6)] [] 15) {v1 : Int32} {v2 : Int32} {v3 : Int32} {v4 : Int32} {v5 : Int32} {v6 : Int32} {v7 : Int32} {v8 : Int32} {v9 : Int32} {v10 : Int32} {σ : Sg} (hw : wp_L_areLanesSo_L127 K15 Q v1 v2 v3 v4 v5 v6 v7 v8 v9 v10 σ) : G X σ [(0, .ref (ad (tE X) 11 10 0)), (1, .int v1), (2, .int v2), (3, .int v3), (4, .int v4), (5, .int v5), (6, .int v6), (7, .int v7), (8, .int v8), (9, .int v9), (10, .int v10)] [] 127 := by
  obtain ⟨n, hw⟩ := hw
  exact lpN_G (P := (fun (a : Int32 × Int32 × Int32 × Int32 × Int32 × Int32 × Int32 × Int32 × Int32 × Int32 × Sg) => G X (a.2.2.2.2.2.2.2.2.2.2) [(0, .ref (ad (tE X) 11 10 0)), (1, .int (a.1)), (2, .int (a.2.1)), (3, .int (a.2.2.1)), (4, .int (a.2.2.2.1)), (5, .int (a.2.2.2.2.1)), (6, .int (a.2.2.2.2.2.1)), (7, .int (a.2.2.2.2.2.2.1)), (8, .int (a.2.2.2.2.2.2.2.1)), (9, .int (a.2.2.2.2.2.2.2.2.1)), (10, .int (a.2.2.2.2.2.2.2.2.2.1))] [] 127)) (fun K a hK h => gs_L_areLanesSo_L127 C hK15 (fun v1 v2 v3 v4 v5 v6 v7 v8 v9 v10 σ h => hK (v1, v2, v3, v4, v5, v6, v7, v8, v9, v10, σ) h) h) n _ hw
def wp_L_areLanesSo_b107 (K15 : Int32 → Int32 → Int32 → Int32 → Int32 → Int32 → Sg → Prop) (K36 : Int32 → Int32 → Int32 → Int32 → Int32 → Int32 → Int32 → Int32 → Int32 → Sg → Prop) (Q : Int32 → Sg → Prop) (v1 : Int32) (v2 : Int32) (v3 : Int32) (v4 : Int32) (v6 : Int32) (v7 : Int32) (v8 : Int32) (v9 : Int32) (s0 : Int32) (σ : Sg) : Prop := ∀ z115 : Int32, z115 = v9 + (1 : Int32) → K36 v1 v2 v3 v4 s0 v6 v7 v8 z115 σ
set_option maxRecDepth 100000 in
set_option maxHeartbeats 4000000 in
theorem g_L_areLanesSo_b107 {X : Tx} {Q : Int32 → Sg → Prop} (C : Cx X cL_areLanesSo "SweetWrapsLaw" (some .boolean) 7 153 11 (QI (tE X) Q)) {K15 : Int32 → Int32 → Int32 → Int32 → Int32 → Int32 → Sg → Prop} {K36 : Int32 → Int32 → Int32 → Int32 → Int32 → Int32 → Int32 → Int32 → Int32 → Sg → Prop} (hK15 : ∀ (v1 : Int32) (v2 : Int32) (v3 : Int32) (v4 : Int32) (v5 : Int32) (v6 : Int32) (σ : Sg), K15 v1 v2 v3 v4 v5 v6 σ → G X σ [(0, .ref (ad (tE X) 11 10 0)), (1, .int v1), (2, .int v2), (3, .int v3), (4, .int v4), (5, .int v5), (6, .int v6)] [] 15) (hK36 : ∀ (v1 : Int32) (v2 : Int32) (v3 : Int32) (v4 : Int32) (v5 : Int32) (v6 : Int32) (v7 : Int32) (v8 : Int32) (v9 : Int32) (σ : Sg), K36 v1 v2 v3 v4 v5 v6 v7 v8 v9 σ → G X σ [(0, .ref (ad (tE X) 11 10 0)), (1, .int v1), (2, .int v2), (3, .int v3), (4, .int v4), (5, .int v5), (6, .int v6), (7, .int v7), (8, .int v8), (9, .int v9)] [] 36) {v1 : Int32} {v2 : Int32} {v3 : Int32} {v4 : Int32} {v6 : Int32} {v7 : Int32} {v8 : Int32} {v9 : Int32} {s0 : Int32} {σ : Sg} (hw : wp_L_areLanesSo_b107 K15 K36 Q v1 v2 v3 v4 v6 v7 v8 v9 s0 σ) : G X σ [(0, .ref (ad (tE X) 11 10 0)), (1, .int v1), (2, .int v2), (3, .int v3), (4, .int v4), (6, .int v6), (7, .int v7), (8, .int v8), (9, .int v9)] [.int s0] 107 := by
  unfold wp_L_areLanesSo_b107 at hw
  refine gx_istore (lv' := [(5, .int s0), (0, .ref (ad (tE X) 11 10 0)), (1, .int v1), (2, .int v2), (3, .int v3), (4, .int v4), (6, .int v6), (7, .int v7), (8, .int v8), (9, .int v9)]) C dL_areLanesSo_107 (by decide) rfl ?_
  obtain ⟨z115, e_z115⟩ : ∃ z : Int32, z = v9 + (1 : Int32) := ⟨_, rfl⟩
  replace hw := hw z115 e_z115
  refine gx_iinc (v := z115) (lv' := [(9, .int z115), (5, .int s0), (0, .ref (ad (tE X) 11 10 0)), (1, .int v1), (2, .int v2), (3, .int v3), (4, .int v4), (6, .int v6), (7, .int v7), (8, .int v8)]) C dL_areLanesSo_109 9 rfl (by rw [e_z115]; rfl) (by decide) rfl ?_
  refine gx_goto (tgt := 36) C dL_areLanesSo_112 (by decide) ?_
  refine gx_sub (lv' := [(0, .ref (ad (tE X) 11 10 0)), (1, .int v1), (2, .int v2), (3, .int v3), (4, .int v4), (5, .int s0), (6, .int v6), (7, .int v7), (8, .int v8), (9, .int z115)]) [2, 3, 4, 5, 6, 1, 7, 8, 9, 0] rfl ?_
  exact hK36 _ _ _ _ _ _ _ _ _ _ hw
def wp_L_areLanesSo_b106 (K15 : Int32 → Int32 → Int32 → Int32 → Int32 → Int32 → Sg → Prop) (K36 : Int32 → Int32 → Int32 → Int32 → Int32 → Int32 → Int32 → Int32 → Int32 → Sg → Prop) (Q : Int32 → Sg → Prop) (v1 : Int32) (v2 : Int32) (v3 : Int32) (v4 : Int32) (v6 : Int32) (v7 : Int32) (v8 : Int32) (v9 : Int32) (σ : Sg) : Prop := wp_L_areLanesSo_b107 K15 K36 Q v1 v2 v3 v4 v6 v7 v8 v9 (0 : Int32) σ
set_option maxRecDepth 100000 in
set_option maxHeartbeats 4000000 in
theorem g_L_areLanesSo_b106 {X : Tx} {Q : Int32 → Sg → Prop} (C : Cx X cL_areLanesSo "SweetWrapsLaw" (some .boolean) 7 153 11 (QI (tE X) Q)) {K15 : Int32 → Int32 → Int32 → Int32 → Int32 → Int32 → Sg → Prop} {K36 : Int32 → Int32 → Int32 → Int32 → Int32 → Int32 → Int32 → Int32 → Int32 → Sg → Prop} (hK15 : ∀ (v1 : Int32) (v2 : Int32) (v3 : Int32) (v4 : Int32) (v5 : Int32) (v6 : Int32) (σ : Sg), K15 v1 v2 v3 v4 v5 v6 σ → G X σ [(0, .ref (ad (tE X) 11 10 0)), (1, .int v1), (2, .int v2), (3, .int v3), (4, .int v4), (5, .int v5), (6, .int v6)] [] 15) (hK36 : ∀ (v1 : Int32) (v2 : Int32) (v3 : Int32) (v4 : Int32) (v5 : Int32) (v6 : Int32) (v7 : Int32) (v8 : Int32) (v9 : Int32) (σ : Sg), K36 v1 v2 v3 v4 v5 v6 v7 v8 v9 σ → G X σ [(0, .ref (ad (tE X) 11 10 0)), (1, .int v1), (2, .int v2), (3, .int v3), (4, .int v4), (5, .int v5), (6, .int v6), (7, .int v7), (8, .int v8), (9, .int v9)] [] 36) {v1 : Int32} {v2 : Int32} {v3 : Int32} {v4 : Int32} {v6 : Int32} {v7 : Int32} {v8 : Int32} {v9 : Int32} {σ : Sg} (hw : wp_L_areLanesSo_b106 K15 K36 Q v1 v2 v3 v4 v6 v7 v8 v9 σ) : G X σ [(0, .ref (ad (tE X) 11 10 0)), (1, .int v1), (2, .int v2), (3, .int v3), (4, .int v4), (6, .int v6), (7, .int v7), (8, .int v8), (9, .int v9)] [] 106 := by
  unfold wp_L_areLanesSo_b106 at hw
  refine gx_iconst (v := (0 : Int32)) C dL_areLanesSo_106 (by decide) ?_
  exact g_L_areLanesSo_b107 C hK15 hK36 hw
def wp_L_areLanesSo_b102 (K15 : Int32 → Int32 → Int32 → Int32 → Int32 → Int32 → Sg → Prop) (K36 : Int32 → Int32 → Int32 → Int32 → Int32 → Int32 → Int32 → Int32 → Int32 → Sg → Prop) (Q : Int32 → Sg → Prop) (v1 : Int32) (v2 : Int32) (v3 : Int32) (v4 : Int32) (v6 : Int32) (v7 : Int32) (v8 : Int32) (v9 : Int32) (σ : Sg) : Prop := wp_L_areLanesSo_b107 K15 K36 Q v1 v2 v3 v4 v6 v7 v8 v9 (1 : Int32) σ
set_option maxRecDepth 100000 in
set_option maxHeartbeats 4000000 in
theorem g_L_areLanesSo_b102 {X : Tx} {Q : Int32 → Sg → Prop} (C : Cx X cL_areLanesSo "SweetWrapsLaw" (some .boolean) 7 153 11 (QI (tE X) Q)) {K15 : Int32 → Int32 → Int32 → Int32 → Int32 → Int32 → Sg → Prop} {K36 : Int32 → Int32 → Int32 → Int32 → Int32 → Int32 → Int32 → Int32 → Int32 → Sg → Prop} (hK15 : ∀ (v1 : Int32) (v2 : Int32) (v3 : Int32) (v4 : Int32) (v5 : Int32) (v6 : Int32) (σ : Sg), K15 v1 v2 v3 v4 v5 v6 σ → G X σ [(0, .ref (ad (tE X) 11 10 0)), (1, .int v1), (2, .int v2), (3, .int v3), (4, .int v4), (5, .int v5), (6, .int v6)] [] 15) (hK36 : ∀ (v1 : Int32) (v2 : Int32) (v3 : Int32) (v4 : Int32) (v5 : Int32) (v6 : Int32) (v7 : Int32) (v8 : Int32) (v9 : Int32) (σ : Sg), K36 v1 v2 v3 v4 v5 v6 v7 v8 v9 σ → G X σ [(0, .ref (ad (tE X) 11 10 0)), (1, .int v1), (2, .int v2), (3, .int v3), (4, .int v4), (5, .int v5), (6, .int v6), (7, .int v7), (8, .int v8), (9, .int v9)] [] 36) {v1 : Int32} {v2 : Int32} {v3 : Int32} {v4 : Int32} {v6 : Int32} {v7 : Int32} {v8 : Int32} {v9 : Int32} {σ : Sg} (hw : wp_L_areLanesSo_b102 K15 K36 Q v1 v2 v3 v4 v6 v7 v8 v9 σ) : G X σ [(0, .ref (ad (tE X) 11 10 0)), (1, .int v1), (2, .int v2), (3, .int v3), (4, .int v4), (6, .int v6), (7, .int v7), (8, .int v8), (9, .int v9)] [] 102 := by
  unfold wp_L_areLanesSo_b102 at hw
  refine gx_iconst (v := (1 : Int32)) C dL_areLanesSo_102 (by decide) ?_
  refine gx_goto (tgt := 107) C dL_areLanesSo_103 (by decide) ?_
  exact g_L_areLanesSo_b107 C hK15 hK36 hw
def st_L_areLanesSo_L36 (K15 : Int32 → Int32 → Int32 → Int32 → Int32 → Int32 → Sg → Prop) (Q : Int32 → Sg → Prop) (K36 : Int32 → Int32 → Int32 → Int32 → Int32 → Int32 → Int32 → Int32 → Int32 → Sg → Prop) (v1 : Int32) (v2 : Int32) (v3 : Int32) (v4 : Int32) (v5 : Int32) (v6 : Int32) (v7 : Int32) (v8 : Int32) (v9 : Int32) (σ : Sg) : Prop := ((v7 ≤ v9 → wp_X5_count (1 : Int32) σ (fun r51 σ52 => ∀ z53 : Int32, z53 = (r51 - (1 : Int32)) → wp_L_areLanesSo_L127 K15 Q v1 v2 v3 v4 v5 v6 v7 v8 (-1 : Int32) z53 σ52)) ∧ (¬ v7 ≤ v9 → wp_X5_ofHeap v6 v9 (1 : Int32) σ (fun r54 σ55 => ∀ z56 : Int32, z56 = (v8 + r54) → ((v5 = 0 → wp_L_areLanesSo_b106 K15 K36 Q v1 v2 v3 v4 v6 v7 z56 v9 σ55) ∧ (¬ v5 = 0 → wp_X5_ofHeap v6 v9 (1 : Int32) σ55 (fun r58 σ59 => ((r58 ≤ 0 → wp_L_areLanesSo_b106 K15 K36 Q v1 v2 v3 v4 v6 v7 z56 v9 σ59) ∧ (¬ r58 ≤ 0 → ((v9 = 0 → wp_L_areLanesSo_b102 K15 K36 Q v1 v2 v3 v4 v6 v7 z56 v9 σ59) ∧ (¬ v9 = 0 → wp_X5_ofHeap v6 v9 (0 : Int32) σ59 (fun r62 σ63 => wp_X5_ofHeap v6 (v9 - (1 : Int32)) (0 : Int32) σ63 (fun r64 σ65 => ((r62 = r64 → wp_L_areLanesSo_b106 K15 K36 Q v1 v2 v3 v4 v6 v7 z56 v9 σ65) ∧ (¬ r62 = r64 → wp_L_areLanesSo_b102 K15 K36 Q v1 v2 v3 v4 v6 v7 z56 v9 σ65))))))))))))))
def wp_L_areLanesSo_L36 (K15 : Int32 → Int32 → Int32 → Int32 → Int32 → Int32 → Sg → Prop) (Q : Int32 → Sg → Prop) (v1 : Int32) (v2 : Int32) (v3 : Int32) (v4 : Int32) (v5 : Int32) (v6 : Int32) (v7 : Int32) (v8 : Int32) (v9 : Int32) (σ : Sg) : Prop := ∃ n : Nat, lpN (fun (K : Int32 × Int32 × Int32 × Int32 × Int32 × Int32 × Int32 × Int32 × Int32 × Sg → Prop) (a : Int32 × Int32 × Int32 × Int32 × Int32 × Int32 × Int32 × Int32 × Int32 × Sg) => st_L_areLanesSo_L36 K15 Q (fun v1 v2 v3 v4 v5 v6 v7 v8 v9 σ => K (v1, v2, v3, v4, v5, v6, v7, v8, v9, σ)) (a.1) (a.2.1) (a.2.2.1) (a.2.2.2.1) (a.2.2.2.2.1) (a.2.2.2.2.2.1) (a.2.2.2.2.2.2.1) (a.2.2.2.2.2.2.2.1) (a.2.2.2.2.2.2.2.2.1) (a.2.2.2.2.2.2.2.2.2)) n (v1, v2, v3, v4, v5, v6, v7, v8, v9, σ)
set_option maxRecDepth 100000 in
set_option maxHeartbeats 4000000 in
theorem gs_L_areLanesSo_L36 {X : Tx} {Q : Int32 → Sg → Prop} (C : Cx X cL_areLanesSo "SweetWrapsLaw" (some .boolean) 7 153 11 (QI (tE X) Q)) {K15 : Int32 → Int32 → Int32 → Int32 → Int32 → Int32 → Sg → Prop} (hK15 : ∀ (v1 : Int32) (v2 : Int32) (v3 : Int32) (v4 : Int32) (v5 : Int32) (v6 : Int32) (σ : Sg), K15 v1 v2 v3 v4 v5 v6 σ → G X σ [(0, .ref (ad (tE X) 11 10 0)), (1, .int v1), (2, .int v2), (3, .int v3), (4, .int v4), (5, .int v5), (6, .int v6)] [] 15) {K36 : Int32 → Int32 → Int32 → Int32 → Int32 → Int32 → Int32 → Int32 → Int32 → Sg → Prop} (hK36 : ∀ (v1 : Int32) (v2 : Int32) (v3 : Int32) (v4 : Int32) (v5 : Int32) (v6 : Int32) (v7 : Int32) (v8 : Int32) (v9 : Int32) (σ : Sg), K36 v1 v2 v3 v4 v5 v6 v7 v8 v9 σ → G X σ [(0, .ref (ad (tE X) 11 10 0)), (1, .int v1), (2, .int v2), (3, .int v3), (4, .int v4), (5, .int v5), (6, .int v6), (7, .int v7), (8, .int v8), (9, .int v9)] [] 36) {v1 : Int32} {v2 : Int32} {v3 : Int32} {v4 : Int32} {v5 : Int32} {v6 : Int32} {v7 : Int32} {v8 : Int32} {v9 : Int32} {σ : Sg} (hw : st_L_areLanesSo_L36 K15 Q K36 v1 v2 v3 v4 v5 v6 v7 v8 v9 σ) : G X σ [(0, .ref (ad (tE X) 11 10 0)), (1, .int v1), (2, .int v2), (3, .int v3), (4, .int v4), (5, .int v5), (6, .int v6), (7, .int v7), (8, .int v8), (9, .int v9)] [] 36 := by
  unfold st_L_areLanesSo_L36 at hw
  refine gx_iload C dL_areLanesSo_36 9 rfl ?_
  refine gx_iload C dL_areLanesSo_38 7 rfl ?_
  refine gx_icmp_ge (tgt := 115) C dL_areLanesSo_40 (by decide) (fun c50 => ?_) (fun c50 => ?_)
  · replace hw := hw.1 c50
    refine gx_iconst (v := (-1 : Int32)) C dL_areLanesSo_115 (by decide) ?_
    refine gx_istore (lv' := [(9, .int (-1 : Int32)), (0, .ref (ad (tE X) 11 10 0)), (1, .int v1), (2, .int v2), (3, .int v3), (4, .int v4), (5, .int v5), (6, .int v6), (7, .int v7), (8, .int v8)]) C dL_areLanesSo_116 (by decide) rfl ?_
    refine gx_aload_n C dL_areLanesSo_118 1 rfl ?_
    refine gx_iconst (v := (1 : Int32)) C dL_areLanesSo_119 (by decide) ?_
    refine gx_vcalli (As := [.int (1 : Int32)]) (rest := []) C (c_X5_count _ _ hw) okg_10 rfl rfl bw_270 bw_271 bw_272 bw_1 bw_273 hy_X5_count ⟨by decide, by decide⟩ rfl (Nat.le_of_ble_eq_true rfl) dL_areLanesSo_120 (fun r51 σ52 hw => ?_)
    refine gx_iconst (v := (1 : Int32)) C dL_areLanesSo_123 (by decide) ?_
    refine gx_isub C dL_areLanesSo_124 ?_
    obtain ⟨z53, e_z53⟩ : ∃ z : Int32, z = (r51 - (1 : Int32)) := ⟨_, rfl⟩
    replace hw := hw z53 e_z53
    refine gx_top e_z53 ?_
    refine gx_istore (lv' := [(10, .int z53), (9, .int (-1 : Int32)), (0, .ref (ad (tE X) 11 10 0)), (1, .int v1), (2, .int v2), (3, .int v3), (4, .int v4), (5, .int v5), (6, .int v6), (7, .int v7), (8, .int v8)]) C dL_areLanesSo_125 (by decide) rfl ?_
    refine gx_sub (lv' := [(0, .ref (ad (tE X) 11 10 0)), (1, .int v1), (2, .int v2), (3, .int v3), (4, .int v4), (5, .int v5), (6, .int v6), (7, .int v7), (8, .int v8), (9, .int (-1 : Int32)), (10, .int z53)]) [2, 3, 4, 5, 6, 7, 8, 9, 10, 1, 0] rfl ?_
    exact g_L_areLanesSo_L127 C hK15 hw
  · replace hw := hw.2 c50
    refine gx_iload C dL_areLanesSo_43 8 rfl ?_
    refine gx_aload_n C dL_areLanesSo_45 0 rfl ?_
    refine gx_iload C dL_areLanesSo_46 6 rfl ?_
    refine gx_iload C dL_areLanesSo_48 9 rfl ?_
    refine gx_iconst (v := (1 : Int32)) C dL_areLanesSo_50 (by decide) ?_
    refine gx_vcalli (As := [.int v6, .int v9, .int (1 : Int32)]) (rest := [.int v8]) C (c_X5_ofHeap _ _ hw) okg_10 rfl rfl bw_454 bw_455 bw_456 bw_1 bw_457 hy_X5_ofHeap ⟨by decide, by decide⟩ rfl (Nat.le_of_ble_eq_true rfl) dL_areLanesSo_51 (fun r54 σ55 hw => ?_)
    refine gx_iadd C dL_areLanesSo_54 ?_
    obtain ⟨z56, e_z56⟩ : ∃ z : Int32, z = (v8 + r54) := ⟨_, rfl⟩
    replace hw := hw z56 e_z56
    refine gx_top e_z56 ?_
    refine gx_istore (lv' := [(8, .int z56), (0, .ref (ad (tE X) 11 10 0)), (1, .int v1), (2, .int v2), (3, .int v3), (4, .int v4), (5, .int v5), (6, .int v6), (7, .int v7), (9, .int v9)]) C dL_areLanesSo_55 (by decide) rfl ?_
    refine gx_iload C dL_areLanesSo_57 6 rfl ?_
    refine gx_if_eq (tgt := 106) C dL_areLanesSo_59 (by decide) (fun c57 => ?_) (fun c57 => ?_)
    · replace hw := hw.1 c57
      refine gx_sub (lv' := [(0, .ref (ad (tE X) 11 10 0)), (1, .int v1), (2, .int v2), (3, .int v3), (4, .int v4), (6, .int v6), (7, .int v7), (8, .int z56), (9, .int v9)]) [1, 2, 3, 4, 5, 7, 8, 0, 9] rfl ?_
      exact g_L_areLanesSo_b106 C hK15 hK36 hw
    · replace hw := hw.2 c57
      refine gx_aload_n C dL_areLanesSo_62 1 rfl ?_
      refine gx_iload C dL_areLanesSo_63 7 rfl ?_
      refine gx_iload C dL_areLanesSo_65 9 rfl ?_
      refine gx_iconst (v := (1 : Int32)) C dL_areLanesSo_67 (by decide) ?_
      refine gx_vcalli (As := [.int v6, .int v9, .int (1 : Int32)]) (rest := []) C (c_X5_ofHeap _ _ hw) okg_10 rfl rfl bw_454 bw_455 bw_456 bw_1 bw_457 hy_X5_ofHeap ⟨by decide, by decide⟩ rfl (Nat.le_of_ble_eq_true rfl) dL_areLanesSo_68 (fun r58 σ59 hw => ?_)
      refine gx_if_le (tgt := 106) C dL_areLanesSo_71 (by decide) (fun c60 => ?_) (fun c60 => ?_)
      · replace hw := hw.1 c60
        refine gx_sub (lv' := [(0, .ref (ad (tE X) 11 10 0)), (1, .int v1), (2, .int v2), (3, .int v3), (4, .int v4), (6, .int v6), (7, .int v7), (8, .int z56), (9, .int v9)]) [1, 2, 3, 4, 5, 7, 8, 0, 9] rfl ?_
        exact g_L_areLanesSo_b106 C hK15 hK36 hw
      · replace hw := hw.2 c60
        refine gx_iload C dL_areLanesSo_74 9 rfl ?_
        refine gx_if_eq (tgt := 102) C dL_areLanesSo_76 (by decide) (fun c61 => ?_) (fun c61 => ?_)
        · replace hw := hw.1 c61
          refine gx_sub (lv' := [(0, .ref (ad (tE X) 11 10 0)), (1, .int v1), (2, .int v2), (3, .int v3), (4, .int v4), (6, .int v6), (7, .int v7), (8, .int z56), (9, .int v9)]) [1, 2, 3, 4, 5, 7, 8, 0, 9] rfl ?_
          exact g_L_areLanesSo_b102 C hK15 hK36 hw
        · replace hw := hw.2 c61
          refine gx_aload_n C dL_areLanesSo_79 1 rfl ?_
          refine gx_iload C dL_areLanesSo_80 7 rfl ?_
          refine gx_iload C dL_areLanesSo_82 9 rfl ?_
          refine gx_iconst (v := (0 : Int32)) C dL_areLanesSo_84 (by decide) ?_
          refine gx_vcalli (As := [.int v6, .int v9, .int (0 : Int32)]) (rest := []) C (c_X5_ofHeap _ _ hw) okg_10 rfl rfl bw_454 bw_455 bw_456 bw_1 bw_457 hy_X5_ofHeap ⟨by decide, by decide⟩ rfl (Nat.le_of_ble_eq_true rfl) dL_areLanesSo_85 (fun r62 σ63 hw => ?_)
          refine gx_aload_n C dL_areLanesSo_88 1 rfl ?_
          refine gx_iload C dL_areLanesSo_89 7 rfl ?_
          refine gx_iload C dL_areLanesSo_91 9 rfl ?_
          refine gx_iconst (v := (1 : Int32)) C dL_areLanesSo_93 (by decide) ?_
          refine gx_isub C dL_areLanesSo_94 ?_
          refine gx_iconst (v := (0 : Int32)) C dL_areLanesSo_95 (by decide) ?_
          refine gx_vcalli (As := [.int v6, .int (v9 - (1 : Int32)), .int (0 : Int32)]) (rest := [.int r62]) C (c_X5_ofHeap _ _ hw) okg_10 rfl rfl bw_454 bw_455 bw_456 bw_1 bw_457 hy_X5_ofHeap ⟨by decide, by decide⟩ rfl (Nat.le_of_ble_eq_true rfl) dL_areLanesSo_96 (fun r64 σ65 hw => ?_)
          refine gx_icmp_eq (tgt := 106) C dL_areLanesSo_99 (by decide) (fun c66 => ?_) (fun c66 => ?_)
          · replace hw := hw.1 c66
            refine gx_sub (lv' := [(0, .ref (ad (tE X) 11 10 0)), (1, .int v1), (2, .int v2), (3, .int v3), (4, .int v4), (6, .int v6), (7, .int v7), (8, .int z56), (9, .int v9)]) [1, 2, 3, 4, 5, 7, 8, 0, 9] rfl ?_
            exact g_L_areLanesSo_b106 C hK15 hK36 hw
          · replace hw := hw.2 c66
            refine gx_sub (lv' := [(0, .ref (ad (tE X) 11 10 0)), (1, .int v1), (2, .int v2), (3, .int v3), (4, .int v4), (6, .int v6), (7, .int v7), (8, .int z56), (9, .int v9)]) [1, 2, 3, 4, 5, 7, 8, 0, 9] rfl ?_
            exact g_L_areLanesSo_b102 C hK15 hK36 hw
set_option maxRecDepth 100000 in
set_option maxHeartbeats 4000000 in
theorem g_L_areLanesSo_L36 {X : Tx} {Q : Int32 → Sg → Prop} (C : Cx X cL_areLanesSo "SweetWrapsLaw" (some .boolean) 7 153 11 (QI (tE X) Q)) {K15 : Int32 → Int32 → Int32 → Int32 → Int32 → Int32 → Sg → Prop} (hK15 : ∀ (v1 : Int32) (v2 : Int32) (v3 : Int32) (v4 : Int32) (v5 : Int32) (v6 : Int32) (σ : Sg), K15 v1 v2 v3 v4 v5 v6 σ → G X σ [(0, .ref (ad (tE X) 11 10 0)), (1, .int v1), (2, .int v2), (3, .int v3), (4, .int v4), (5, .int v5), (6, .int v6)] [] 15) {v1 : Int32} {v2 : Int32} {v3 : Int32} {v4 : Int32} {v5 : Int32} {v6 : Int32} {v7 : Int32} {v8 : Int32} {v9 : Int32} {σ : Sg} (hw : wp_L_areLanesSo_L36 K15 Q v1 v2 v3 v4 v5 v6 v7 v8 v9 σ) : G X σ [(0, .ref (ad (tE X) 11 10 0)), (1, .int v1), (2, .int v2), (3, .int v3), (4, .int v4), (5, .int v5), (6, .int v6), (7, .int v7), (8, .int v8), (9, .int v9)] [] 36 := by
  obtain ⟨n, hw⟩ := hw
  exact lpN_G (P := (fun (a : Int32 × Int32 × Int32 × Int32 × Int32 × Int32 × Int32 × Int32 × Int32 × Sg) => G X (a.2.2.2.2.2.2.2.2.2) [(0, .ref (ad (tE X) 11 10 0)), (1, .int (a.1)), (2, .int (a.2.1)), (3, .int (a.2.2.1)), (4, .int (a.2.2.2.1)), (5, .int (a.2.2.2.2.1)), (6, .int (a.2.2.2.2.2.1)), (7, .int (a.2.2.2.2.2.2.1)), (8, .int (a.2.2.2.2.2.2.2.1)), (9, .int (a.2.2.2.2.2.2.2.2.1))] [] 36)) (fun K a hK h => gs_L_areLanesSo_L36 C hK15 (fun v1 v2 v3 v4 v5 v6 v7 v8 v9 σ h => hK (v1, v2, v3, v4, v5, v6, v7, v8, v9, σ) h) h) n _ hw
def st_L_areLanesSo_L15 (Q : Int32 → Sg → Prop) (K15 : Int32 → Int32 → Int32 → Int32 → Int32 → Int32 → Sg → Prop) (v1 : Int32) (v2 : Int32) (v3 : Int32) (v4 : Int32) (v5 : Int32) (v6 : Int32) (σ : Sg) : Prop := (((4 : Int32) ≤ v6 → wp_L_areLanesSo_L376 Q v1 v2 v3 v4 v5 (0 : Int32) (0 : Int32) (0 : Int32) σ) ∧ (¬ (4 : Int32) ≤ v6 → wp_X5_of v6 (1 : Int32) σ (fun r2 σ3 => wp_L_areLanesSo_L36 K15 Q v1 v2 v3 v4 v5 v6 r2 (0 : Int32) (0 : Int32) σ3)))
def wp_L_areLanesSo_L15 (Q : Int32 → Sg → Prop) (v1 : Int32) (v2 : Int32) (v3 : Int32) (v4 : Int32) (v5 : Int32) (v6 : Int32) (σ : Sg) : Prop := ∃ n : Nat, lpN (fun (K : Int32 × Int32 × Int32 × Int32 × Int32 × Int32 × Sg → Prop) (a : Int32 × Int32 × Int32 × Int32 × Int32 × Int32 × Sg) => st_L_areLanesSo_L15 Q (fun v1 v2 v3 v4 v5 v6 σ => K (v1, v2, v3, v4, v5, v6, σ)) (a.1) (a.2.1) (a.2.2.1) (a.2.2.2.1) (a.2.2.2.2.1) (a.2.2.2.2.2.1) (a.2.2.2.2.2.2)) n (v1, v2, v3, v4, v5, v6, σ)
set_option maxRecDepth 100000 in
set_option maxHeartbeats 4000000 in
theorem gs_L_areLanesSo_L15 {X : Tx} {Q : Int32 → Sg → Prop} (C : Cx X cL_areLanesSo "SweetWrapsLaw" (some .boolean) 7 153 11 (QI (tE X) Q)) {K15 : Int32 → Int32 → Int32 → Int32 → Int32 → Int32 → Sg → Prop} (hK15 : ∀ (v1 : Int32) (v2 : Int32) (v3 : Int32) (v4 : Int32) (v5 : Int32) (v6 : Int32) (σ : Sg), K15 v1 v2 v3 v4 v5 v6 σ → G X σ [(0, .ref (ad (tE X) 11 10 0)), (1, .int v1), (2, .int v2), (3, .int v3), (4, .int v4), (5, .int v5), (6, .int v6)] [] 15) {v1 : Int32} {v2 : Int32} {v3 : Int32} {v4 : Int32} {v5 : Int32} {v6 : Int32} {σ : Sg} (hw : st_L_areLanesSo_L15 Q K15 v1 v2 v3 v4 v5 v6 σ) : G X σ [(0, .ref (ad (tE X) 11 10 0)), (1, .int v1), (2, .int v2), (3, .int v3), (4, .int v4), (5, .int v5), (6, .int v6)] [] 15 := by
  unfold st_L_areLanesSo_L15 at hw
  refine gx_iload C dL_areLanesSo_15 6 rfl ?_
  refine gx_iconst (v := (4 : Int32)) C dL_areLanesSo_17 (by decide) ?_
  refine gx_icmp_ge (tgt := 367) C dL_areLanesSo_18 (by decide) (fun c1 => ?_) (fun c1 => ?_)
  · replace hw := hw.1 c1
    refine gx_iconst (v := (0 : Int32)) C dL_areLanesSo_367 (by decide) ?_
    refine gx_istore (lv' := [(6, .int (0 : Int32)), (0, .ref (ad (tE X) 11 10 0)), (1, .int v1), (2, .int v2), (3, .int v3), (4, .int v4), (5, .int v5)]) C dL_areLanesSo_368 (by decide) rfl ?_
    refine gx_iconst (v := (0 : Int32)) C dL_areLanesSo_370 (by decide) ?_
    refine gx_istore (lv' := [(7, .int (0 : Int32)), (6, .int (0 : Int32)), (0, .ref (ad (tE X) 11 10 0)), (1, .int v1), (2, .int v2), (3, .int v3), (4, .int v4), (5, .int v5)]) C dL_areLanesSo_371 (by decide) rfl ?_
    refine gx_iconst (v := (0 : Int32)) C dL_areLanesSo_373 (by decide) ?_
    refine gx_istore (lv' := [(8, .int (0 : Int32)), (7, .int (0 : Int32)), (6, .int (0 : Int32)), (0, .ref (ad (tE X) 11 10 0)), (1, .int v1), (2, .int v2), (3, .int v3), (4, .int v4), (5, .int v5)]) C dL_areLanesSo_374 (by decide) rfl ?_
    refine gx_sub (lv' := [(0, .ref (ad (tE X) 11 10 0)), (1, .int v1), (2, .int v2), (3, .int v3), (4, .int v4), (5, .int v5), (6, .int (0 : Int32)), (7, .int (0 : Int32)), (8, .int (0 : Int32))]) [3, 4, 5, 6, 7, 8, 2, 1, 0] rfl ?_
    exact g_L_areLanesSo_L376 C hw
  · replace hw := hw.2 c1
    refine gx_aload_n C dL_areLanesSo_21 0 rfl ?_
    refine gx_iload C dL_areLanesSo_22 6 rfl ?_
    refine gx_iconst (v := (1 : Int32)) C dL_areLanesSo_24 (by decide) ?_
    refine gx_vcalli (As := [.int v6, .int (1 : Int32)]) (rest := []) C (c_X5_of _ _ hw) okg_10 rfl rfl bw_449 bw_450 bw_451 bw_1 bw_452 hy_X5_of ⟨by decide, by decide⟩ rfl (Nat.le_of_ble_eq_true rfl) dL_areLanesSo_25 (fun r2 σ3 hw => ?_)
    refine gx_istore (lv' := [(7, .int r2), (0, .ref (ad (tE X) 11 10 0)), (1, .int v1), (2, .int v2), (3, .int v3), (4, .int v4), (5, .int v5), (6, .int v6)]) C dL_areLanesSo_28 (by decide) rfl ?_
    refine gx_iconst (v := (0 : Int32)) C dL_areLanesSo_30 (by decide) ?_
    refine gx_istore (lv' := [(8, .int (0 : Int32)), (7, .int r2), (0, .ref (ad (tE X) 11 10 0)), (1, .int v1), (2, .int v2), (3, .int v3), (4, .int v4), (5, .int v5), (6, .int v6)]) C dL_areLanesSo_31 (by decide) rfl ?_
    refine gx_iconst (v := (0 : Int32)) C dL_areLanesSo_33 (by decide) ?_
    refine gx_istore (lv' := [(9, .int (0 : Int32)), (8, .int (0 : Int32)), (7, .int r2), (0, .ref (ad (tE X) 11 10 0)), (1, .int v1), (2, .int v2), (3, .int v3), (4, .int v4), (5, .int v5), (6, .int v6)]) C dL_areLanesSo_34 (by decide) rfl ?_
    refine gx_sub (lv' := [(0, .ref (ad (tE X) 11 10 0)), (1, .int v1), (2, .int v2), (3, .int v3), (4, .int v4), (5, .int v5), (6, .int v6), (7, .int r2), (8, .int (0 : Int32)), (9, .int (0 : Int32))]) [3, 4, 5, 6, 7, 8, 9, 2, 1, 0] rfl ?_
    exact g_L_areLanesSo_L36 C hK15 hw
set_option maxRecDepth 100000 in
set_option maxHeartbeats 4000000 in
theorem g_L_areLanesSo_L15 {X : Tx} {Q : Int32 → Sg → Prop} (C : Cx X cL_areLanesSo "SweetWrapsLaw" (some .boolean) 7 153 11 (QI (tE X) Q)) {v1 : Int32} {v2 : Int32} {v3 : Int32} {v4 : Int32} {v5 : Int32} {v6 : Int32} {σ : Sg} (hw : wp_L_areLanesSo_L15 Q v1 v2 v3 v4 v5 v6 σ) : G X σ [(0, .ref (ad (tE X) 11 10 0)), (1, .int v1), (2, .int v2), (3, .int v3), (4, .int v4), (5, .int v5), (6, .int v6)] [] 15 := by
  obtain ⟨n, hw⟩ := hw
  exact lpN_G (P := (fun (a : Int32 × Int32 × Int32 × Int32 × Int32 × Int32 × Sg) => G X (a.2.2.2.2.2.2) [(0, .ref (ad (tE X) 11 10 0)), (1, .int (a.1)), (2, .int (a.2.1)), (3, .int (a.2.2.1)), (4, .int (a.2.2.2.1)), (5, .int (a.2.2.2.2.1)), (6, .int (a.2.2.2.2.2.1))] [] 15)) (fun K a hK h => gs_L_areLanesSo_L15 C (fun v1 v2 v3 v4 v5 v6 σ h => hK (v1, v2, v3, v4, v5, v6, σ) h) h) n _ hw
def wp_L_areLanesSo (σ : Sg) (Q : Int32 → Sg → Prop) : Prop := wp_L_areLanesSo_L15 Q (0 : Int32) (0 : Int32) (0 : Int32) (0 : Int32) (1 : Int32) (0 : Int32) σ
set_option maxRecDepth 100000 in
set_option maxHeartbeats 4000000 in
theorem c_L_areLanesSo (l : Launch) (E : Ev) {σ : Sg} {Q : Int32 → Sg → Prop} (hw : wp_L_areLanesSo σ Q) : CT l E yL_areLanesSo cL_areLanesSo 11 (some .boolean) 7 153 [.ref (ad E 11 10 0)] σ (QI E Q) := by
  refine CT_of (by decide) (Nat.le_of_ble_eq_true rfl) (fun X h1 h2 C => ?_)
  subst h1; subst h2
  have C : Cx X cL_areLanesSo "SweetWrapsLaw" (some .boolean) 7 153 11 (QI (tE X) Q) := C
  show G X σ [(0, .ref (ad (tE X) 11 10 0))] [] 0
  unfold wp_L_areLanesSo at hw
  refine gx_iconst (v := (0 : Int32)) C dL_areLanesSo_0 (by decide) ?_
  refine gx_istore_n (lv' := [(1, .int (0 : Int32)), (0, .ref (ad (tE X) 11 10 0))]) C dL_areLanesSo_1 (by decide) rfl ?_
  refine gx_iconst (v := (0 : Int32)) C dL_areLanesSo_2 (by decide) ?_
  refine gx_istore_n (lv' := [(2, .int (0 : Int32)), (1, .int (0 : Int32)), (0, .ref (ad (tE X) 11 10 0))]) C dL_areLanesSo_3 (by decide) rfl ?_
  refine gx_iconst (v := (0 : Int32)) C dL_areLanesSo_4 (by decide) ?_
  refine gx_istore_n (lv' := [(3, .int (0 : Int32)), (2, .int (0 : Int32)), (1, .int (0 : Int32)), (0, .ref (ad (tE X) 11 10 0))]) C dL_areLanesSo_5 (by decide) rfl ?_
  refine gx_iconst (v := (0 : Int32)) C dL_areLanesSo_6 (by decide) ?_
  refine gx_istore (lv' := [(4, .int (0 : Int32)), (3, .int (0 : Int32)), (2, .int (0 : Int32)), (1, .int (0 : Int32)), (0, .ref (ad (tE X) 11 10 0))]) C dL_areLanesSo_7 (by decide) rfl ?_
  refine gx_iconst (v := (1 : Int32)) C dL_areLanesSo_9 (by decide) ?_
  refine gx_istore (lv' := [(5, .int (1 : Int32)), (4, .int (0 : Int32)), (3, .int (0 : Int32)), (2, .int (0 : Int32)), (1, .int (0 : Int32)), (0, .ref (ad (tE X) 11 10 0))]) C dL_areLanesSo_10 (by decide) rfl ?_
  refine gx_iconst (v := (0 : Int32)) C dL_areLanesSo_12 (by decide) ?_
  refine gx_istore (lv' := [(6, .int (0 : Int32)), (5, .int (1 : Int32)), (4, .int (0 : Int32)), (3, .int (0 : Int32)), (2, .int (0 : Int32)), (1, .int (0 : Int32)), (0, .ref (ad (tE X) 11 10 0))]) C dL_areLanesSo_13 (by decide) rfl ?_
  refine gx_sub (lv' := [(0, .ref (ad (tE X) 11 10 0)), (1, .int (0 : Int32)), (2, .int (0 : Int32)), (3, .int (0 : Int32)), (4, .int (0 : Int32)), (5, .int (1 : Int32)), (6, .int (0 : Int32))]) [6, 5, 4, 3, 2, 1, 0] rfl ?_
  exact g_L_areLanesSo_L15 C hw
theorem hyS_L_areLanesSo : yL_areLanesSo.cls ≠ "java/lang/invoke/MethodHandle" ∧ yL_areLanesSo.cls ≠ "java/lang/invoke/VarHandle" ∧ (parseMethodDescriptor yL_areLanesSo.desc).map (fun d => d.parameters.length) = some 1 := by decide +kernel

theorem dL_areRanksSo_0 : decode cL_areRanksSo 0 = .ok (.iconst 0, 1) := by decide +kernel
theorem dL_areRanksSo_1 : decode cL_areRanksSo 1 = .ok (.istore_n 1, 1) := by decide +kernel
theorem dL_areRanksSo_2 : decode cL_areRanksSo 2 = .ok (.iconst (-1), 1) := by decide +kernel
theorem dL_areRanksSo_3 : decode cL_areRanksSo 3 = .ok (.istore_n 2, 1) := by decide +kernel
theorem dL_areRanksSo_4 : decode cL_areRanksSo 4 = .ok (.iconst 1, 1) := by decide +kernel
theorem dL_areRanksSo_5 : decode cL_areRanksSo 5 = .ok (.istore_n 3, 1) := by decide +kernel
theorem dL_areRanksSo_6 : decode cL_areRanksSo 6 = .ok (.iconst 0, 1) := by decide +kernel
theorem dL_areRanksSo_7 : decode cL_areRanksSo 7 = .ok (.istore 4, 2) := by decide +kernel
theorem dL_areRanksSo_9 : decode cL_areRanksSo 9 = .ok (.aload_n 0, 1) := by decide +kernel
theorem dL_areRanksSo_10 : decode cL_areRanksSo 10 = .ok (.iload 4, 2) := by decide +kernel
theorem dL_areRanksSo_12 : decode cL_areRanksSo 12 = .ok (.invokevirtual 64, 3) := by decide +kernel
theorem dL_areRanksSo_15 : decode cL_areRanksSo 15 = .ok (.ifCond .lt 96, 3) := by decide +kernel
theorem dL_areRanksSo_18 : decode cL_areRanksSo 18 = .ok (.iload 4, 2) := by decide +kernel
theorem dL_areRanksSo_20 : decode cL_areRanksSo 20 = .ok (.bipush 16, 2) := by decide +kernel
theorem dL_areRanksSo_22 : decode cL_areRanksSo 22 = .ok (.if_icmp .ge 89, 3) := by decide +kernel
theorem dL_areRanksSo_25 : decode cL_areRanksSo 25 = .ok (.aload_n 0, 1) := by decide +kernel
theorem dL_areRanksSo_26 : decode cL_areRanksSo 26 = .ok (.iload 4, 2) := by decide +kernel
theorem dL_areRanksSo_28 : decode cL_areRanksSo 28 = .ok (.invokevirtual 64, 3) := by decide +kernel
theorem dL_areRanksSo_31 : decode cL_areRanksSo 31 = .ok (.istore 5, 2) := by decide +kernel
theorem dL_areRanksSo_33 : decode cL_areRanksSo 33 = .ok (.iload_n 3, 1) := by decide +kernel
theorem dL_areRanksSo_34 : decode cL_areRanksSo 34 = .ok (.ifCond .eq 59, 3) := by decide +kernel
theorem dL_areRanksSo_37 : decode cL_areRanksSo 37 = .ok (.aload_n 0, 1) := by decide +kernel
theorem dL_areRanksSo_38 : decode cL_areRanksSo 38 = .ok (.iload 5, 2) := by decide +kernel
theorem dL_areRanksSo_40 : decode cL_areRanksSo 40 = .ok (.iconst 1, 1) := by decide +kernel
theorem dL_areRanksSo_41 : decode cL_areRanksSo 41 = .ok (.invokevirtual 46, 3) := by decide +kernel
theorem dL_areRanksSo_44 : decode cL_areRanksSo 44 = .ok (.ifCond .ne 49, 3) := by decide +kernel
theorem dL_areRanksSo_47 : decode cL_areRanksSo 47 = .ok (.iload_n 2, 1) := by decide +kernel
theorem dL_areRanksSo_48 : decode cL_areRanksSo 48 = .ok (.ifCond .lt 41, 3) := by decide +kernel
theorem dL_areRanksSo_51 : decode cL_areRanksSo 51 = .ok (.aload_n 0, 1) := by decide +kernel
theorem dL_areRanksSo_52 : decode cL_areRanksSo 52 = .ok (.iload 5, 2) := by decide +kernel
theorem dL_areRanksSo_54 : decode cL_areRanksSo 54 = .ok (.iconst 0, 1) := by decide +kernel
theorem dL_areRanksSo_55 : decode cL_areRanksSo 55 = .ok (.invokevirtual 46, 3) := by decide +kernel
theorem dL_areRanksSo_58 : decode cL_areRanksSo 58 = .ok (.aload_n 0, 1) := by decide +kernel
theorem dL_areRanksSo_59 : decode cL_areRanksSo 59 = .ok (.iload_n 2, 1) := by decide +kernel
theorem dL_areRanksSo_60 : decode cL_areRanksSo 60 = .ok (.iconst 0, 1) := by decide +kernel
theorem dL_areRanksSo_61 : decode cL_areRanksSo 61 = .ok (.invokevirtual 46, 3) := by decide +kernel
theorem dL_areRanksSo_64 : decode cL_areRanksSo 64 = .ok (.if_icmp .lt 25, 3) := by decide +kernel
theorem dL_areRanksSo_67 : decode cL_areRanksSo 67 = .ok (.aload_n 0, 1) := by decide +kernel
theorem dL_areRanksSo_68 : decode cL_areRanksSo 68 = .ok (.iload 5, 2) := by decide +kernel
theorem dL_areRanksSo_70 : decode cL_areRanksSo 70 = .ok (.iconst 0, 1) := by decide +kernel
theorem dL_areRanksSo_71 : decode cL_areRanksSo 71 = .ok (.invokevirtual 46, 3) := by decide +kernel
theorem dL_areRanksSo_74 : decode cL_areRanksSo 74 = .ok (.aload_n 0, 1) := by decide +kernel
theorem dL_areRanksSo_75 : decode cL_areRanksSo 75 = .ok (.iload_n 2, 1) := by decide +kernel
theorem dL_areRanksSo_76 : decode cL_areRanksSo 76 = .ok (.iconst 0, 1) := by decide +kernel
theorem dL_areRanksSo_77 : decode cL_areRanksSo 77 = .ok (.invokevirtual 46, 3) := by decide +kernel
theorem dL_areRanksSo_80 : decode cL_areRanksSo 80 = .ok (.if_icmp .ne 13, 3) := by decide +kernel
theorem dL_areRanksSo_83 : decode cL_areRanksSo 83 = .ok (.iload 5, 2) := by decide +kernel
theorem dL_areRanksSo_85 : decode cL_areRanksSo 85 = .ok (.iload_n 2, 1) := by decide +kernel
theorem dL_areRanksSo_86 : decode cL_areRanksSo 86 = .ok (.if_icmp .le 7, 3) := by decide +kernel
theorem dL_areRanksSo_89 : decode cL_areRanksSo 89 = .ok (.iconst 1, 1) := by decide +kernel
theorem dL_areRanksSo_90 : decode cL_areRanksSo 90 = .ok (.goto 4, 3) := by decide +kernel
theorem dL_areRanksSo_93 : decode cL_areRanksSo 93 = .ok (.iconst 0, 1) := by decide +kernel
theorem dL_areRanksSo_94 : decode cL_areRanksSo 94 = .ok (.istore_n 3, 1) := by decide +kernel
theorem dL_areRanksSo_95 : decode cL_areRanksSo 95 = .ok (.iload 5, 2) := by decide +kernel
theorem dL_areRanksSo_97 : decode cL_areRanksSo 97 = .ok (.istore_n 2, 1) := by decide +kernel
theorem dL_areRanksSo_98 : decode cL_areRanksSo 98 = .ok (.iload_n 1, 1) := by decide +kernel
theorem dL_areRanksSo_99 : decode cL_areRanksSo 99 = .ok (.iconst 1, 1) := by decide +kernel
theorem dL_areRanksSo_100 : decode cL_areRanksSo 100 = .ok (.iload 5, 2) := by decide +kernel
theorem dL_areRanksSo_102 : decode cL_areRanksSo 102 = .ok (.ishl, 1) := by decide +kernel
theorem dL_areRanksSo_103 : decode cL_areRanksSo 103 = .ok (.ior, 1) := by decide +kernel
theorem dL_areRanksSo_104 : decode cL_areRanksSo 104 = .ok (.istore_n 1, 1) := by decide +kernel
theorem dL_areRanksSo_105 : decode cL_areRanksSo 105 = .ok (.iinc 4 1, 3) := by decide +kernel
theorem dL_areRanksSo_108 : decode cL_areRanksSo 108 = .ok (.goto (-99), 3) := by decide +kernel
theorem dL_areRanksSo_111 : decode cL_areRanksSo 111 = .ok (.iconst 0, 1) := by decide +kernel
theorem dL_areRanksSo_112 : decode cL_areRanksSo 112 = .ok (.istore 4, 2) := by decide +kernel
theorem dL_areRanksSo_114 : decode cL_areRanksSo 114 = .ok (.iconst (-1), 1) := by decide +kernel
theorem dL_areRanksSo_115 : decode cL_areRanksSo 115 = .ok (.istore_n 2, 1) := by decide +kernel
theorem dL_areRanksSo_116 : decode cL_areRanksSo 116 = .ok (.iconst 0, 1) := by decide +kernel
theorem dL_areRanksSo_117 : decode cL_areRanksSo 117 = .ok (.istore 5, 2) := by decide +kernel
theorem dL_areRanksSo_119 : decode cL_areRanksSo 119 = .ok (.aload_n 0, 1) := by decide +kernel
theorem dL_areRanksSo_120 : decode cL_areRanksSo 120 = .ok (.iload 5, 2) := by decide +kernel
theorem dL_areRanksSo_122 : decode cL_areRanksSo 122 = .ok (.invokevirtual 67, 3) := by decide +kernel
theorem dL_areRanksSo_125 : decode cL_areRanksSo 125 = .ok (.ifCond .lt 114, 3) := by decide +kernel
theorem dL_areRanksSo_128 : decode cL_areRanksSo 128 = .ok (.iload 5, 2) := by decide +kernel
theorem dL_areRanksSo_130 : decode cL_areRanksSo 130 = .ok (.bipush 6, 2) := by decide +kernel
theorem dL_areRanksSo_132 : decode cL_areRanksSo 132 = .ok (.if_icmp .ge 107, 3) := by decide +kernel
theorem dL_areRanksSo_135 : decode cL_areRanksSo 135 = .ok (.aload_n 0, 1) := by decide +kernel
theorem dL_areRanksSo_136 : decode cL_areRanksSo 136 = .ok (.iload 5, 2) := by decide +kernel
theorem dL_areRanksSo_138 : decode cL_areRanksSo 138 = .ok (.invokevirtual 67, 3) := by decide +kernel
theorem dL_areRanksSo_141 : decode cL_areRanksSo 141 = .ok (.istore 6, 2) := by decide +kernel
theorem dL_areRanksSo_143 : decode cL_areRanksSo 143 = .ok (.aload_n 0, 1) := by decide +kernel
theorem dL_areRanksSo_144 : decode cL_areRanksSo 144 = .ok (.iload 6, 2) := by decide +kernel
theorem dL_areRanksSo_146 : decode cL_areRanksSo 146 = .ok (.iconst 1, 1) := by decide +kernel
theorem dL_areRanksSo_147 : decode cL_areRanksSo 147 = .ok (.invokevirtual 52, 3) := by decide +kernel
theorem dL_areRanksSo_150 : decode cL_areRanksSo 150 = .ok (.aload_n 0, 1) := by decide +kernel
theorem dL_areRanksSo_151 : decode cL_areRanksSo 151 = .ok (.iload 6, 2) := by decide +kernel
theorem dL_areRanksSo_153 : decode cL_areRanksSo 153 = .ok (.iconst 2, 1) := by decide +kernel
theorem dL_areRanksSo_154 : decode cL_areRanksSo 154 = .ok (.invokevirtual 52, 3) := by decide +kernel
theorem dL_areRanksSo_157 : decode cL_areRanksSo 157 = .ok (.iadd, 1) := by decide +kernel
theorem dL_areRanksSo_158 : decode cL_areRanksSo 158 = .ok (.istore 7, 2) := by decide +kernel
theorem dL_areRanksSo_160 : decode cL_areRanksSo 160 = .ok (.iload_n 2, 1) := by decide +kernel
theorem dL_areRanksSo_161 : decode cL_areRanksSo 161 = .ok (.ifCond .ge 10, 3) := by decide +kernel
theorem dL_areRanksSo_164 : decode cL_areRanksSo 164 = .ok (.iload 7, 2) := by decide +kernel
theorem dL_areRanksSo_166 : decode cL_areRanksSo 166 = .ok (.iconst 1, 1) := by decide +kernel
theorem dL_areRanksSo_167 : decode cL_areRanksSo 167 = .ok (.iadd, 1) := by decide +kernel
theorem dL_areRanksSo_168 : decode cL_areRanksSo 168 = .ok (.goto 16, 3) := by decide +kernel
theorem dL_areRanksSo_171 : decode cL_areRanksSo 171 = .ok (.aload_n 0, 1) := by decide +kernel
theorem dL_areRanksSo_172 : decode cL_areRanksSo 172 = .ok (.iload_n 2, 1) := by decide +kernel
theorem dL_areRanksSo_173 : decode cL_areRanksSo 173 = .ok (.iconst 1, 1) := by decide +kernel
theorem dL_areRanksSo_174 : decode cL_areRanksSo 174 = .ok (.invokevirtual 52, 3) := by decide +kernel
theorem dL_areRanksSo_177 : decode cL_areRanksSo 177 = .ok (.aload_n 0, 1) := by decide +kernel
theorem dL_areRanksSo_178 : decode cL_areRanksSo 178 = .ok (.iload_n 2, 1) := by decide +kernel
theorem dL_areRanksSo_179 : decode cL_areRanksSo 179 = .ok (.iconst 2, 1) := by decide +kernel
theorem dL_areRanksSo_180 : decode cL_areRanksSo 180 = .ok (.invokevirtual 52, 3) := by decide +kernel
theorem dL_areRanksSo_183 : decode cL_areRanksSo 183 = .ok (.iadd, 1) := by decide +kernel
theorem dL_areRanksSo_184 : decode cL_areRanksSo 184 = .ok (.istore 8, 2) := by decide +kernel
theorem dL_areRanksSo_186 : decode cL_areRanksSo 186 = .ok (.iload_n 3, 1) := by decide +kernel
theorem dL_areRanksSo_187 : decode cL_areRanksSo 187 = .ok (.ifCond .eq 32, 3) := by decide +kernel
theorem dL_areRanksSo_190 : decode cL_areRanksSo 190 = .ok (.iload 7, 2) := by decide +kernel
theorem dL_areRanksSo_192 : decode cL_areRanksSo 192 = .ok (.ifCond .le 27, 3) := by decide +kernel
theorem dL_areRanksSo_195 : decode cL_areRanksSo 195 = .ok (.iload 7, 2) := by decide +kernel
theorem dL_areRanksSo_197 : decode cL_areRanksSo 197 = .ok (.iload 8, 2) := by decide +kernel
theorem dL_areRanksSo_199 : decode cL_areRanksSo 199 = .ok (.if_icmp .lt 16, 3) := by decide +kernel
theorem dL_areRanksSo_202 : decode cL_areRanksSo 202 = .ok (.iload 7, 2) := by decide +kernel
theorem dL_areRanksSo_204 : decode cL_areRanksSo 204 = .ok (.iload 8, 2) := by decide +kernel
theorem dL_areRanksSo_206 : decode cL_areRanksSo 206 = .ok (.if_icmp .ne 13, 3) := by decide +kernel
theorem dL_areRanksSo_209 : decode cL_areRanksSo 209 = .ok (.iload 6, 2) := by decide +kernel
theorem dL_areRanksSo_211 : decode cL_areRanksSo 211 = .ok (.iload_n 2, 1) := by decide +kernel
theorem dL_areRanksSo_212 : decode cL_areRanksSo 212 = .ok (.if_icmp .le 7, 3) := by decide +kernel
theorem dL_areRanksSo_215 : decode cL_areRanksSo 215 = .ok (.iconst 1, 1) := by decide +kernel
theorem dL_areRanksSo_216 : decode cL_areRanksSo 216 = .ok (.goto 4, 3) := by decide +kernel
theorem dL_areRanksSo_219 : decode cL_areRanksSo 219 = .ok (.iconst 0, 1) := by decide +kernel
theorem dL_areRanksSo_220 : decode cL_areRanksSo 220 = .ok (.istore_n 3, 1) := by decide +kernel
theorem dL_areRanksSo_221 : decode cL_areRanksSo 221 = .ok (.iload 6, 2) := by decide +kernel
theorem dL_areRanksSo_223 : decode cL_areRanksSo 223 = .ok (.istore_n 2, 1) := by decide +kernel
theorem dL_areRanksSo_224 : decode cL_areRanksSo 224 = .ok (.iload 4, 2) := by decide +kernel
theorem dL_areRanksSo_226 : decode cL_areRanksSo 226 = .ok (.iconst 1, 1) := by decide +kernel
theorem dL_areRanksSo_227 : decode cL_areRanksSo 227 = .ok (.iload 6, 2) := by decide +kernel
theorem dL_areRanksSo_229 : decode cL_areRanksSo 229 = .ok (.ishl, 1) := by decide +kernel
theorem dL_areRanksSo_230 : decode cL_areRanksSo 230 = .ok (.ior, 1) := by decide +kernel
theorem dL_areRanksSo_231 : decode cL_areRanksSo 231 = .ok (.istore 4, 2) := by decide +kernel
theorem dL_areRanksSo_233 : decode cL_areRanksSo 233 = .ok (.iinc 5 1, 3) := by decide +kernel
theorem dL_areRanksSo_236 : decode cL_areRanksSo 236 = .ok (.goto (-117), 3) := by decide +kernel
theorem dL_areRanksSo_239 : decode cL_areRanksSo 239 = .ok (.iconst 0, 1) := by decide +kernel
theorem dL_areRanksSo_240 : decode cL_areRanksSo 240 = .ok (.istore 5, 2) := by decide +kernel
theorem dL_areRanksSo_242 : decode cL_areRanksSo 242 = .ok (.iload 5, 2) := by decide +kernel
theorem dL_areRanksSo_244 : decode cL_areRanksSo 244 = .ok (.bipush 6, 2) := by decide +kernel
theorem dL_areRanksSo_246 : decode cL_areRanksSo 246 = .ok (.if_icmp .ge 61, 3) := by decide +kernel
theorem dL_areRanksSo_249 : decode cL_areRanksSo 249 = .ok (.iload_n 3, 1) := by decide +kernel
theorem dL_areRanksSo_250 : decode cL_areRanksSo 250 = .ok (.ifCond .eq 49, 3) := by decide +kernel
theorem dL_areRanksSo_253 : decode cL_areRanksSo 253 = .ok (.aload_n 0, 1) := by decide +kernel
theorem dL_areRanksSo_254 : decode cL_areRanksSo 254 = .ok (.iload 5, 2) := by decide +kernel
theorem dL_areRanksSo_256 : decode cL_areRanksSo 256 = .ok (.iconst 1, 1) := by decide +kernel
theorem dL_areRanksSo_257 : decode cL_areRanksSo 257 = .ok (.invokevirtual 52, 3) := by decide +kernel
theorem dL_areRanksSo_260 : decode cL_areRanksSo 260 = .ok (.aload_n 0, 1) := by decide +kernel
theorem dL_areRanksSo_261 : decode cL_areRanksSo 261 = .ok (.iload 5, 2) := by decide +kernel
theorem dL_areRanksSo_263 : decode cL_areRanksSo 263 = .ok (.iconst 2, 1) := by decide +kernel
theorem dL_areRanksSo_264 : decode cL_areRanksSo 264 = .ok (.invokevirtual 52, 3) := by decide +kernel
theorem dL_areRanksSo_267 : decode cL_areRanksSo 267 = .ok (.iadd, 1) := by decide +kernel
theorem dL_areRanksSo_268 : decode cL_areRanksSo 268 = .ok (.ifCond .le 7, 3) := by decide +kernel
theorem dL_areRanksSo_271 : decode cL_areRanksSo 271 = .ok (.iconst 1, 1) := by decide +kernel
theorem dL_areRanksSo_272 : decode cL_areRanksSo 272 = .ok (.goto 4, 3) := by decide +kernel
theorem dL_areRanksSo_275 : decode cL_areRanksSo 275 = .ok (.iconst 0, 1) := by decide +kernel
theorem dL_areRanksSo_276 : decode cL_areRanksSo 276 = .ok (.iload 4, 2) := by decide +kernel
theorem dL_areRanksSo_278 : decode cL_areRanksSo 278 = .ok (.iload 5, 2) := by decide +kernel
theorem dL_areRanksSo_280 : decode cL_areRanksSo 280 = .ok (.ishr, 1) := by decide +kernel
theorem dL_areRanksSo_281 : decode cL_areRanksSo 281 = .ok (.iconst 1, 1) := by decide +kernel
theorem dL_areRanksSo_282 : decode cL_areRanksSo 282 = .ok (.iand, 1) := by decide +kernel
theorem dL_areRanksSo_283 : decode cL_areRanksSo 283 = .ok (.iconst 1, 1) := by decide +kernel
theorem dL_areRanksSo_284 : decode cL_areRanksSo 284 = .ok (.if_icmp .ne 7, 3) := by decide +kernel
theorem dL_areRanksSo_287 : decode cL_areRanksSo 287 = .ok (.iconst 1, 1) := by decide +kernel
theorem dL_areRanksSo_288 : decode cL_areRanksSo 288 = .ok (.goto 4, 3) := by decide +kernel
theorem dL_areRanksSo_291 : decode cL_areRanksSo 291 = .ok (.iconst 0, 1) := by decide +kernel
theorem dL_areRanksSo_292 : decode cL_areRanksSo 292 = .ok (.if_icmp .ne 7, 3) := by decide +kernel
theorem dL_areRanksSo_295 : decode cL_areRanksSo 295 = .ok (.iconst 1, 1) := by decide +kernel
theorem dL_areRanksSo_296 : decode cL_areRanksSo 296 = .ok (.goto 4, 3) := by decide +kernel
theorem dL_areRanksSo_299 : decode cL_areRanksSo 299 = .ok (.iconst 0, 1) := by decide +kernel
theorem dL_areRanksSo_300 : decode cL_areRanksSo 300 = .ok (.istore_n 3, 1) := by decide +kernel
theorem dL_areRanksSo_301 : decode cL_areRanksSo 301 = .ok (.iinc 5 1, 3) := by decide +kernel
theorem dL_areRanksSo_304 : decode cL_areRanksSo 304 = .ok (.goto (-62), 3) := by decide +kernel
theorem dL_areRanksSo_307 : decode cL_areRanksSo 307 = .ok (.iload_n 3, 1) := by decide +kernel
theorem dL_areRanksSo_308 : decode cL_areRanksSo 308 = .ok (.ifCond .eq 16, 3) := by decide +kernel
theorem dL_areRanksSo_311 : decode cL_areRanksSo 311 = .ok (.iload_n 1, 1) := by decide +kernel
theorem dL_areRanksSo_312 : decode cL_areRanksSo 312 = .ok (.aload_n 0, 1) := by decide +kernel
theorem dL_areRanksSo_313 : decode cL_areRanksSo 313 = .ok (.iconst 2, 1) := by decide +kernel
theorem dL_areRanksSo_314 : decode cL_areRanksSo 314 = .ok (.invokevirtual 31, 3) := by decide +kernel
theorem dL_areRanksSo_317 : decode cL_areRanksSo 317 = .ok (.if_icmp .ne 7, 3) := by decide +kernel
theorem dL_areRanksSo_320 : decode cL_areRanksSo 320 = .ok (.iconst 1, 1) := by decide +kernel
theorem dL_areRanksSo_321 : decode cL_areRanksSo 321 = .ok (.goto 4, 3) := by decide +kernel
theorem dL_areRanksSo_324 : decode cL_areRanksSo 324 = .ok (.iconst 0, 1) := by decide +kernel
theorem dL_areRanksSo_325 : decode cL_areRanksSo 325 = .ok (.ireturn, 1) := by decide +kernel
def wp_L_areRanksSo_b300 (K242 : Int32 → Int32 → Int32 → Int32 → Sg → Prop) (Q : Int32 → Sg → Prop) (v1 : Int32) (v4 : Int32) (v5 : Int32) (s0 : Int32) (σ : Sg) : Prop := ∀ z50 : Int32, z50 = v5 + (1 : Int32) → K242 v1 s0 v4 z50 σ
set_option maxRecDepth 100000 in
set_option maxHeartbeats 4000000 in
theorem g_L_areRanksSo_b300 {X : Tx} {Q : Int32 → Sg → Prop} (C : Cx X cL_areRanksSo "SweetWrapsLaw" (some .boolean) 7 153 9 (QI (tE X) Q)) {K242 : Int32 → Int32 → Int32 → Int32 → Sg → Prop} (hK242 : ∀ (v1 : Int32) (v3 : Int32) (v4 : Int32) (v5 : Int32) (σ : Sg), K242 v1 v3 v4 v5 σ → G X σ [(0, .ref (ad (tE X) 11 10 0)), (1, .int v1), (3, .int v3), (4, .int v4), (5, .int v5)] [] 242) {v1 : Int32} {v4 : Int32} {v5 : Int32} {s0 : Int32} {σ : Sg} (hw : wp_L_areRanksSo_b300 K242 Q v1 v4 v5 s0 σ) : G X σ [(0, .ref (ad (tE X) 11 10 0)), (1, .int v1), (4, .int v4), (5, .int v5)] [.int s0] 300 := by
  unfold wp_L_areRanksSo_b300 at hw
  refine gx_istore_n (lv' := [(3, .int s0), (0, .ref (ad (tE X) 11 10 0)), (1, .int v1), (4, .int v4), (5, .int v5)]) C dL_areRanksSo_300 (by decide) rfl ?_
  obtain ⟨z50, e_z50⟩ : ∃ z : Int32, z = v5 + (1 : Int32) := ⟨_, rfl⟩
  replace hw := hw z50 e_z50
  refine gx_iinc (v := z50) (lv' := [(5, .int z50), (3, .int s0), (0, .ref (ad (tE X) 11 10 0)), (1, .int v1), (4, .int v4)]) C dL_areRanksSo_301 4 rfl (by rw [e_z50]; rfl) (by decide) rfl ?_
  refine gx_goto (tgt := 242) C dL_areRanksSo_304 (by decide) ?_
  refine gx_sub (lv' := [(0, .ref (ad (tE X) 11 10 0)), (1, .int v1), (3, .int s0), (4, .int v4), (5, .int z50)]) [2, 3, 1, 4, 0] rfl ?_
  exact hK242 _ _ _ _ _ hw
def wp_L_areRanksSo_b299 (K242 : Int32 → Int32 → Int32 → Int32 → Sg → Prop) (Q : Int32 → Sg → Prop) (v1 : Int32) (v4 : Int32) (v5 : Int32) (σ : Sg) : Prop := wp_L_areRanksSo_b300 K242 Q v1 v4 v5 (0 : Int32) σ
set_option maxRecDepth 100000 in
set_option maxHeartbeats 4000000 in
theorem g_L_areRanksSo_b299 {X : Tx} {Q : Int32 → Sg → Prop} (C : Cx X cL_areRanksSo "SweetWrapsLaw" (some .boolean) 7 153 9 (QI (tE X) Q)) {K242 : Int32 → Int32 → Int32 → Int32 → Sg → Prop} (hK242 : ∀ (v1 : Int32) (v3 : Int32) (v4 : Int32) (v5 : Int32) (σ : Sg), K242 v1 v3 v4 v5 σ → G X σ [(0, .ref (ad (tE X) 11 10 0)), (1, .int v1), (3, .int v3), (4, .int v4), (5, .int v5)] [] 242) {v1 : Int32} {v4 : Int32} {v5 : Int32} {σ : Sg} (hw : wp_L_areRanksSo_b299 K242 Q v1 v4 v5 σ) : G X σ [(0, .ref (ad (tE X) 11 10 0)), (1, .int v1), (4, .int v4), (5, .int v5)] [] 299 := by
  unfold wp_L_areRanksSo_b299 at hw
  refine gx_iconst (v := (0 : Int32)) C dL_areRanksSo_299 (by decide) ?_
  exact g_L_areRanksSo_b300 C hK242 hw
def wp_L_areRanksSo_b292 (K242 : Int32 → Int32 → Int32 → Int32 → Sg → Prop) (Q : Int32 → Sg → Prop) (v1 : Int32) (v4 : Int32) (v5 : Int32) (s0 : Int32) (s1 : Int32) (σ : Sg) : Prop := ((¬ s1 = s0 → wp_L_areRanksSo_b299 K242 Q v1 v4 v5 σ) ∧ (s1 = s0 → wp_L_areRanksSo_b300 K242 Q v1 v4 v5 (1 : Int32) σ))
set_option maxRecDepth 100000 in
set_option maxHeartbeats 4000000 in
theorem g_L_areRanksSo_b292 {X : Tx} {Q : Int32 → Sg → Prop} (C : Cx X cL_areRanksSo "SweetWrapsLaw" (some .boolean) 7 153 9 (QI (tE X) Q)) {K242 : Int32 → Int32 → Int32 → Int32 → Sg → Prop} (hK242 : ∀ (v1 : Int32) (v3 : Int32) (v4 : Int32) (v5 : Int32) (σ : Sg), K242 v1 v3 v4 v5 σ → G X σ [(0, .ref (ad (tE X) 11 10 0)), (1, .int v1), (3, .int v3), (4, .int v4), (5, .int v5)] [] 242) {v1 : Int32} {v4 : Int32} {v5 : Int32} {s0 : Int32} {s1 : Int32} {σ : Sg} (hw : wp_L_areRanksSo_b292 K242 Q v1 v4 v5 s0 s1 σ) : G X σ [(0, .ref (ad (tE X) 11 10 0)), (1, .int v1), (4, .int v4), (5, .int v5)] [.int s0, .int s1] 292 := by
  unfold wp_L_areRanksSo_b292 at hw
  refine gx_icmp_ne (tgt := 299) C dL_areRanksSo_292 (by decide) (fun c52 => ?_) (fun c52 => ?_)
  · replace hw := hw.1 c52
    exact g_L_areRanksSo_b299 C hK242 hw
  · replace hw := hw.2 c52
    refine gx_iconst (v := (1 : Int32)) C dL_areRanksSo_295 (by decide) ?_
    refine gx_goto (tgt := 300) C dL_areRanksSo_296 (by decide) ?_
    exact g_L_areRanksSo_b300 C hK242 hw
def wp_L_areRanksSo_b276 (K242 : Int32 → Int32 → Int32 → Int32 → Sg → Prop) (Q : Int32 → Sg → Prop) (v1 : Int32) (v4 : Int32) (v5 : Int32) (s0 : Int32) (σ : Sg) : Prop := ((¬ ((v4 >>> (v5 &&& 31)) &&& (1 : Int32)) = (1 : Int32) → wp_L_areRanksSo_b292 K242 Q v1 v4 v5 (0 : Int32) s0 σ) ∧ (((v4 >>> (v5 &&& 31)) &&& (1 : Int32)) = (1 : Int32) → wp_L_areRanksSo_b292 K242 Q v1 v4 v5 (1 : Int32) s0 σ))
set_option maxRecDepth 100000 in
set_option maxHeartbeats 4000000 in
theorem g_L_areRanksSo_b276 {X : Tx} {Q : Int32 → Sg → Prop} (C : Cx X cL_areRanksSo "SweetWrapsLaw" (some .boolean) 7 153 9 (QI (tE X) Q)) {K242 : Int32 → Int32 → Int32 → Int32 → Sg → Prop} (hK242 : ∀ (v1 : Int32) (v3 : Int32) (v4 : Int32) (v5 : Int32) (σ : Sg), K242 v1 v3 v4 v5 σ → G X σ [(0, .ref (ad (tE X) 11 10 0)), (1, .int v1), (3, .int v3), (4, .int v4), (5, .int v5)] [] 242) {v1 : Int32} {v4 : Int32} {v5 : Int32} {s0 : Int32} {σ : Sg} (hw : wp_L_areRanksSo_b276 K242 Q v1 v4 v5 s0 σ) : G X σ [(0, .ref (ad (tE X) 11 10 0)), (1, .int v1), (4, .int v4), (5, .int v5)] [.int s0] 276 := by
  unfold wp_L_areRanksSo_b276 at hw
  refine gx_iload C dL_areRanksSo_276 2 rfl ?_
  refine gx_iload C dL_areRanksSo_278 3 rfl ?_
  refine gx_ishr C dL_areRanksSo_280 ?_
  refine gx_iconst (v := (1 : Int32)) C dL_areRanksSo_281 (by decide) ?_
  refine gx_iand C dL_areRanksSo_282 ?_
  refine gx_iconst (v := (1 : Int32)) C dL_areRanksSo_283 (by decide) ?_
  refine gx_icmp_ne (tgt := 291) C dL_areRanksSo_284 (by decide) (fun c51 => ?_) (fun c51 => ?_)
  · replace hw := hw.1 c51
    refine gx_iconst (v := (0 : Int32)) C dL_areRanksSo_291 (by decide) ?_
    exact g_L_areRanksSo_b292 C hK242 hw
  · replace hw := hw.2 c51
    refine gx_iconst (v := (1 : Int32)) C dL_areRanksSo_287 (by decide) ?_
    refine gx_goto (tgt := 292) C dL_areRanksSo_288 (by decide) ?_
    exact g_L_areRanksSo_b292 C hK242 hw
def st_L_areRanksSo_L242 (Q : Int32 → Sg → Prop) (K242 : Int32 → Int32 → Int32 → Int32 → Sg → Prop) (v1 : Int32) (v3 : Int32) (v4 : Int32) (v5 : Int32) (σ : Sg) : Prop := (((6 : Int32) ≤ v5 → ((v3 = 0 → Q (0 : Int32) σ) ∧ (¬ v3 = 0 → wp_X5_count (2 : Int32) σ (fun r41 σ42 => ((¬ v1 = r41 → Q (0 : Int32) σ42) ∧ (v1 = r41 → Q (1 : Int32) σ42)))))) ∧ (¬ (6 : Int32) ≤ v5 → ((v3 = 0 → wp_L_areRanksSo_b299 K242 Q v1 v4 v5 σ) ∧ (¬ v3 = 0 → wp_X5_flavour v5 (1 : Int32) σ (fun r45 σ46 => wp_X5_flavour v5 (2 : Int32) σ46 (fun r47 σ48 => (((r45 + r47) ≤ 0 → wp_L_areRanksSo_b276 K242 Q v1 v4 v5 (0 : Int32) σ48) ∧ (¬ (r45 + r47) ≤ 0 → wp_L_areRanksSo_b276 K242 Q v1 v4 v5 (1 : Int32) σ48))))))))
def wp_L_areRanksSo_L242 (Q : Int32 → Sg → Prop) (v1 : Int32) (v3 : Int32) (v4 : Int32) (v5 : Int32) (σ : Sg) : Prop := ∃ n : Nat, lpN (fun (K : Int32 × Int32 × Int32 × Int32 × Sg → Prop) (a : Int32 × Int32 × Int32 × Int32 × Sg) => st_L_areRanksSo_L242 Q (fun v1 v3 v4 v5 σ => K (v1, v3, v4, v5, σ)) (a.1) (a.2.1) (a.2.2.1) (a.2.2.2.1) (a.2.2.2.2)) n (v1, v3, v4, v5, σ)
set_option maxRecDepth 100000 in
set_option maxHeartbeats 4000000 in
theorem gs_L_areRanksSo_L242 {X : Tx} {Q : Int32 → Sg → Prop} (C : Cx X cL_areRanksSo "SweetWrapsLaw" (some .boolean) 7 153 9 (QI (tE X) Q)) {K242 : Int32 → Int32 → Int32 → Int32 → Sg → Prop} (hK242 : ∀ (v1 : Int32) (v3 : Int32) (v4 : Int32) (v5 : Int32) (σ : Sg), K242 v1 v3 v4 v5 σ → G X σ [(0, .ref (ad (tE X) 11 10 0)), (1, .int v1), (3, .int v3), (4, .int v4), (5, .int v5)] [] 242) {v1 : Int32} {v3 : Int32} {v4 : Int32} {v5 : Int32} {σ : Sg} (hw : st_L_areRanksSo_L242 Q K242 v1 v3 v4 v5 σ) : G X σ [(0, .ref (ad (tE X) 11 10 0)), (1, .int v1), (3, .int v3), (4, .int v4), (5, .int v5)] [] 242 := by
  unfold st_L_areRanksSo_L242 at hw
  refine gx_iload C dL_areRanksSo_242 4 rfl ?_
  refine gx_bipush (v := (6 : Int32)) C dL_areRanksSo_244 (by decide) ?_
  refine gx_icmp_ge (tgt := 307) C dL_areRanksSo_246 (by decide) (fun c39 => ?_) (fun c39 => ?_)
  · replace hw := hw.1 c39
    refine gx_iload_n C dL_areRanksSo_307 2 rfl ?_
    refine gx_if_eq (tgt := 324) C dL_areRanksSo_308 (by decide) (fun c40 => ?_) (fun c40 => ?_)
    · replace hw := hw.1 c40
      refine gx_iconst (v := (0 : Int32)) C dL_areRanksSo_324 (by decide) ?_
      exact gx_iret C rfl rfl dL_areRanksSo_325 hw
    · replace hw := hw.2 c40
      refine gx_iload_n C dL_areRanksSo_311 1 rfl ?_
      refine gx_aload_n C dL_areRanksSo_312 0 rfl ?_
      refine gx_iconst (v := (2 : Int32)) C dL_areRanksSo_313 (by decide) ?_
      refine gx_vcalli (As := [.int (2 : Int32)]) (rest := [.int v1]) C (c_X5_count _ _ hw) okg_10 rfl rfl bw_270 bw_271 bw_272 bw_1 bw_273 hy_X5_count ⟨by decide, by decide⟩ rfl (Nat.le_of_ble_eq_true rfl) dL_areRanksSo_314 (fun r41 σ42 hw => ?_)
      refine gx_icmp_ne (tgt := 324) C dL_areRanksSo_317 (by decide) (fun c43 => ?_) (fun c43 => ?_)
      · replace hw := hw.1 c43
        refine gx_iconst (v := (0 : Int32)) C dL_areRanksSo_324 (by decide) ?_
        exact gx_iret C rfl rfl dL_areRanksSo_325 hw
      · replace hw := hw.2 c43
        refine gx_iconst (v := (1 : Int32)) C dL_areRanksSo_320 (by decide) ?_
        refine gx_goto (tgt := 325) C dL_areRanksSo_321 (by decide) ?_
        exact gx_iret C rfl rfl dL_areRanksSo_325 hw
  · replace hw := hw.2 c39
    refine gx_iload_n C dL_areRanksSo_249 2 rfl ?_
    refine gx_if_eq (tgt := 299) C dL_areRanksSo_250 (by decide) (fun c44 => ?_) (fun c44 => ?_)
    · replace hw := hw.1 c44
      refine gx_sub (lv' := [(0, .ref (ad (tE X) 11 10 0)), (1, .int v1), (4, .int v4), (5, .int v5)]) [0, 1, 3, 4] rfl ?_
      exact g_L_areRanksSo_b299 C hK242 hw
    · replace hw := hw.2 c44
      refine gx_aload_n C dL_areRanksSo_253 0 rfl ?_
      refine gx_iload C dL_areRanksSo_254 4 rfl ?_
      refine gx_iconst (v := (1 : Int32)) C dL_areRanksSo_256 (by decide) ?_
      refine gx_vcalli (As := [.int v5, .int (1 : Int32)]) (rest := []) C (c_X5_flavour _ _ hw) okg_10 rfl rfl bw_430 bw_431 bw_432 bw_1 bw_433 hy_X5_flavour ⟨by decide, by decide⟩ rfl (Nat.le_of_ble_eq_true rfl) dL_areRanksSo_257 (fun r45 σ46 hw => ?_)
      refine gx_aload_n C dL_areRanksSo_260 0 rfl ?_
      refine gx_iload C dL_areRanksSo_261 4 rfl ?_
      refine gx_iconst (v := (2 : Int32)) C dL_areRanksSo_263 (by decide) ?_
      refine gx_vcalli (As := [.int v5, .int (2 : Int32)]) (rest := [.int r45]) C (c_X5_flavour _ _ hw) okg_10 rfl rfl bw_430 bw_431 bw_432 bw_1 bw_433 hy_X5_flavour ⟨by decide, by decide⟩ rfl (Nat.le_of_ble_eq_true rfl) dL_areRanksSo_264 (fun r47 σ48 hw => ?_)
      refine gx_iadd C dL_areRanksSo_267 ?_
      refine gx_if_le (tgt := 275) C dL_areRanksSo_268 (by decide) (fun c49 => ?_) (fun c49 => ?_)
      · replace hw := hw.1 c49
        refine gx_iconst (v := (0 : Int32)) C dL_areRanksSo_275 (by decide) ?_
        refine gx_sub (lv' := [(0, .ref (ad (tE X) 11 10 0)), (1, .int v1), (4, .int v4), (5, .int v5)]) [0, 1, 3, 4] rfl ?_
        exact g_L_areRanksSo_b276 C hK242 hw
      · replace hw := hw.2 c49
        refine gx_iconst (v := (1 : Int32)) C dL_areRanksSo_271 (by decide) ?_
        refine gx_goto (tgt := 276) C dL_areRanksSo_272 (by decide) ?_
        refine gx_sub (lv' := [(0, .ref (ad (tE X) 11 10 0)), (1, .int v1), (4, .int v4), (5, .int v5)]) [0, 1, 3, 4] rfl ?_
        exact g_L_areRanksSo_b276 C hK242 hw
set_option maxRecDepth 100000 in
set_option maxHeartbeats 4000000 in
theorem g_L_areRanksSo_L242 {X : Tx} {Q : Int32 → Sg → Prop} (C : Cx X cL_areRanksSo "SweetWrapsLaw" (some .boolean) 7 153 9 (QI (tE X) Q)) {v1 : Int32} {v3 : Int32} {v4 : Int32} {v5 : Int32} {σ : Sg} (hw : wp_L_areRanksSo_L242 Q v1 v3 v4 v5 σ) : G X σ [(0, .ref (ad (tE X) 11 10 0)), (1, .int v1), (3, .int v3), (4, .int v4), (5, .int v5)] [] 242 := by
  obtain ⟨n, hw⟩ := hw
  exact lpN_G (P := (fun (a : Int32 × Int32 × Int32 × Int32 × Sg) => G X (a.2.2.2.2) [(0, .ref (ad (tE X) 11 10 0)), (1, .int (a.1)), (3, .int (a.2.1)), (4, .int (a.2.2.1)), (5, .int (a.2.2.2.1))] [] 242)) (fun K a hK h => gs_L_areRanksSo_L242 C (fun v1 v3 v4 v5 σ h => hK (v1, v3, v4, v5, σ) h) h) n _ hw
def wp_L_areRanksSo_b239 (Q : Int32 → Sg → Prop) (v1 : Int32) (v3 : Int32) (v4 : Int32) (σ : Sg) : Prop := wp_L_areRanksSo_L242 Q v1 v3 v4 (0 : Int32) σ
set_option maxRecDepth 100000 in
set_option maxHeartbeats 4000000 in
theorem g_L_areRanksSo_b239 {X : Tx} {Q : Int32 → Sg → Prop} (C : Cx X cL_areRanksSo "SweetWrapsLaw" (some .boolean) 7 153 9 (QI (tE X) Q)) {v1 : Int32} {v3 : Int32} {v4 : Int32} {σ : Sg} (hw : wp_L_areRanksSo_b239 Q v1 v3 v4 σ) : G X σ [(0, .ref (ad (tE X) 11 10 0)), (1, .int v1), (3, .int v3), (4, .int v4)] [] 239 := by
  unfold wp_L_areRanksSo_b239 at hw
  refine gx_iconst (v := (0 : Int32)) C dL_areRanksSo_239 (by decide) ?_
  refine gx_istore (lv' := [(5, .int (0 : Int32)), (0, .ref (ad (tE X) 11 10 0)), (1, .int v1), (3, .int v3), (4, .int v4)]) C dL_areRanksSo_240 (by decide) rfl ?_
  refine gx_sub (lv' := [(0, .ref (ad (tE X) 11 10 0)), (1, .int v1), (3, .int v3), (4, .int v4), (5, .int (0 : Int32))]) [1, 2, 3, 4, 0] rfl ?_
  exact g_L_areRanksSo_L242 C hw
def wp_L_areRanksSo_b220 (K119 : Int32 → Int32 → Int32 → Int32 → Int32 → Sg → Prop) (Q : Int32 → Sg → Prop) (v1 : Int32) (v4 : Int32) (v5 : Int32) (v6 : Int32) (s0 : Int32) (σ : Sg) : Prop := ∀ z58 : Int32, z58 = (v4 ||| ((1 : Int32) <<< (v6 &&& 31))) → ∀ z59 : Int32, z59 = v5 + (1 : Int32) → K119 v1 v6 s0 z58 z59 σ
set_option maxRecDepth 100000 in
set_option maxHeartbeats 4000000 in
theorem g_L_areRanksSo_b220 {X : Tx} {Q : Int32 → Sg → Prop} (C : Cx X cL_areRanksSo "SweetWrapsLaw" (some .boolean) 7 153 9 (QI (tE X) Q)) {K119 : Int32 → Int32 → Int32 → Int32 → Int32 → Sg → Prop} (hK119 : ∀ (v1 : Int32) (v2 : Int32) (v3 : Int32) (v4 : Int32) (v5 : Int32) (σ : Sg), K119 v1 v2 v3 v4 v5 σ → G X σ [(0, .ref (ad (tE X) 11 10 0)), (1, .int v1), (2, .int v2), (3, .int v3), (4, .int v4), (5, .int v5)] [] 119) {v1 : Int32} {v4 : Int32} {v5 : Int32} {v6 : Int32} {s0 : Int32} {σ : Sg} (hw : wp_L_areRanksSo_b220 K119 Q v1 v4 v5 v6 s0 σ) : G X σ [(0, .ref (ad (tE X) 11 10 0)), (1, .int v1), (4, .int v4), (5, .int v5), (6, .int v6)] [.int s0] 220 := by
  unfold wp_L_areRanksSo_b220 at hw
  refine gx_istore_n (lv' := [(3, .int s0), (0, .ref (ad (tE X) 11 10 0)), (1, .int v1), (4, .int v4), (5, .int v5), (6, .int v6)]) C dL_areRanksSo_220 (by decide) rfl ?_
  refine gx_iload C dL_areRanksSo_221 5 rfl ?_
  refine gx_istore_n (lv' := [(2, .int v6), (3, .int s0), (0, .ref (ad (tE X) 11 10 0)), (1, .int v1), (4, .int v4), (5, .int v5), (6, .int v6)]) C dL_areRanksSo_223 (by decide) rfl ?_
  refine gx_iload C dL_areRanksSo_224 4 rfl ?_
  refine gx_iconst (v := (1 : Int32)) C dL_areRanksSo_226 (by decide) ?_
  refine gx_iload C dL_areRanksSo_227 6 rfl ?_
  refine gx_ishl C dL_areRanksSo_229 ?_
  refine gx_ior C dL_areRanksSo_230 ?_
  obtain ⟨z58, e_z58⟩ : ∃ z : Int32, z = (v4 ||| ((1 : Int32) <<< (v6 &&& 31))) := ⟨_, rfl⟩
  replace hw := hw z58 e_z58
  refine gx_top e_z58 ?_
  refine gx_istore (lv' := [(4, .int z58), (2, .int v6), (3, .int s0), (0, .ref (ad (tE X) 11 10 0)), (1, .int v1), (5, .int v5), (6, .int v6)]) C dL_areRanksSo_231 (by decide) rfl ?_
  obtain ⟨z59, e_z59⟩ : ∃ z : Int32, z = v5 + (1 : Int32) := ⟨_, rfl⟩
  replace hw := hw z59 e_z59
  refine gx_iinc (v := z59) (lv' := [(5, .int z59), (4, .int z58), (2, .int v6), (3, .int s0), (0, .ref (ad (tE X) 11 10 0)), (1, .int v1), (6, .int v6)]) C dL_areRanksSo_233 5 rfl (by rw [e_z59]; rfl) (by decide) rfl ?_
  refine gx_goto (tgt := 119) C dL_areRanksSo_236 (by decide) ?_
  refine gx_sub (lv' := [(0, .ref (ad (tE X) 11 10 0)), (1, .int v1), (2, .int v6), (3, .int s0), (4, .int z58), (5, .int z59)]) [4, 5, 2, 3, 1, 0] rfl ?_
  exact hK119 _ _ _ _ _ _ hw
def wp_L_areRanksSo_b219 (K119 : Int32 → Int32 → Int32 → Int32 → Int32 → Sg → Prop) (Q : Int32 → Sg → Prop) (v1 : Int32) (v4 : Int32) (v5 : Int32) (v6 : Int32) (σ : Sg) : Prop := wp_L_areRanksSo_b220 K119 Q v1 v4 v5 v6 (0 : Int32) σ
set_option maxRecDepth 100000 in
set_option maxHeartbeats 4000000 in
theorem g_L_areRanksSo_b219 {X : Tx} {Q : Int32 → Sg → Prop} (C : Cx X cL_areRanksSo "SweetWrapsLaw" (some .boolean) 7 153 9 (QI (tE X) Q)) {K119 : Int32 → Int32 → Int32 → Int32 → Int32 → Sg → Prop} (hK119 : ∀ (v1 : Int32) (v2 : Int32) (v3 : Int32) (v4 : Int32) (v5 : Int32) (σ : Sg), K119 v1 v2 v3 v4 v5 σ → G X σ [(0, .ref (ad (tE X) 11 10 0)), (1, .int v1), (2, .int v2), (3, .int v3), (4, .int v4), (5, .int v5)] [] 119) {v1 : Int32} {v4 : Int32} {v5 : Int32} {v6 : Int32} {σ : Sg} (hw : wp_L_areRanksSo_b219 K119 Q v1 v4 v5 v6 σ) : G X σ [(0, .ref (ad (tE X) 11 10 0)), (1, .int v1), (4, .int v4), (5, .int v5), (6, .int v6)] [] 219 := by
  unfold wp_L_areRanksSo_b219 at hw
  refine gx_iconst (v := (0 : Int32)) C dL_areRanksSo_219 (by decide) ?_
  exact g_L_areRanksSo_b220 C hK119 hw
def wp_L_areRanksSo_b215 (K119 : Int32 → Int32 → Int32 → Int32 → Int32 → Sg → Prop) (Q : Int32 → Sg → Prop) (v1 : Int32) (v4 : Int32) (v5 : Int32) (v6 : Int32) (σ : Sg) : Prop := wp_L_areRanksSo_b220 K119 Q v1 v4 v5 v6 (1 : Int32) σ
set_option maxRecDepth 100000 in
set_option maxHeartbeats 4000000 in
theorem g_L_areRanksSo_b215 {X : Tx} {Q : Int32 → Sg → Prop} (C : Cx X cL_areRanksSo "SweetWrapsLaw" (some .boolean) 7 153 9 (QI (tE X) Q)) {K119 : Int32 → Int32 → Int32 → Int32 → Int32 → Sg → Prop} (hK119 : ∀ (v1 : Int32) (v2 : Int32) (v3 : Int32) (v4 : Int32) (v5 : Int32) (σ : Sg), K119 v1 v2 v3 v4 v5 σ → G X σ [(0, .ref (ad (tE X) 11 10 0)), (1, .int v1), (2, .int v2), (3, .int v3), (4, .int v4), (5, .int v5)] [] 119) {v1 : Int32} {v4 : Int32} {v5 : Int32} {v6 : Int32} {σ : Sg} (hw : wp_L_areRanksSo_b215 K119 Q v1 v4 v5 v6 σ) : G X σ [(0, .ref (ad (tE X) 11 10 0)), (1, .int v1), (4, .int v4), (5, .int v5), (6, .int v6)] [] 215 := by
  unfold wp_L_areRanksSo_b215 at hw
  refine gx_iconst (v := (1 : Int32)) C dL_areRanksSo_215 (by decide) ?_
  refine gx_goto (tgt := 220) C dL_areRanksSo_216 (by decide) ?_
  exact g_L_areRanksSo_b220 C hK119 hw
def wp_L_areRanksSo_b184 (K119 : Int32 → Int32 → Int32 → Int32 → Int32 → Sg → Prop) (Q : Int32 → Sg → Prop) (v1 : Int32) (v2 : Int32) (v3 : Int32) (v4 : Int32) (v5 : Int32) (v6 : Int32) (v7 : Int32) (s0 : Int32) (σ : Sg) : Prop := ((v3 = 0 → wp_L_areRanksSo_b219 K119 Q v1 v4 v5 v6 σ) ∧ (¬ v3 = 0 → ((v7 ≤ 0 → wp_L_areRanksSo_b219 K119 Q v1 v4 v5 v6 σ) ∧ (¬ v7 ≤ 0 → ((v7 < s0 → wp_L_areRanksSo_b215 K119 Q v1 v4 v5 v6 σ) ∧ (¬ v7 < s0 → ((¬ v7 = s0 → wp_L_areRanksSo_b219 K119 Q v1 v4 v5 v6 σ) ∧ (v7 = s0 → ((v6 ≤ v2 → wp_L_areRanksSo_b219 K119 Q v1 v4 v5 v6 σ) ∧ (¬ v6 ≤ v2 → wp_L_areRanksSo_b215 K119 Q v1 v4 v5 v6 σ))))))))))
set_option maxRecDepth 100000 in
set_option maxHeartbeats 4000000 in
theorem g_L_areRanksSo_b184 {X : Tx} {Q : Int32 → Sg → Prop} (C : Cx X cL_areRanksSo "SweetWrapsLaw" (some .boolean) 7 153 9 (QI (tE X) Q)) {K119 : Int32 → Int32 → Int32 → Int32 → Int32 → Sg → Prop} (hK119 : ∀ (v1 : Int32) (v2 : Int32) (v3 : Int32) (v4 : Int32) (v5 : Int32) (σ : Sg), K119 v1 v2 v3 v4 v5 σ → G X σ [(0, .ref (ad (tE X) 11 10 0)), (1, .int v1), (2, .int v2), (3, .int v3), (4, .int v4), (5, .int v5)] [] 119) {v1 : Int32} {v2 : Int32} {v3 : Int32} {v4 : Int32} {v5 : Int32} {v6 : Int32} {v7 : Int32} {s0 : Int32} {σ : Sg} (hw : wp_L_areRanksSo_b184 K119 Q v1 v2 v3 v4 v5 v6 v7 s0 σ) : G X σ [(0, .ref (ad (tE X) 11 10 0)), (1, .int v1), (2, .int v2), (3, .int v3), (4, .int v4), (5, .int v5), (6, .int v6), (7, .int v7)] [.int s0] 184 := by
  unfold wp_L_areRanksSo_b184 at hw
  refine gx_istore (lv' := [(8, .int s0), (0, .ref (ad (tE X) 11 10 0)), (1, .int v1), (2, .int v2), (3, .int v3), (4, .int v4), (5, .int v5), (6, .int v6), (7, .int v7)]) C dL_areRanksSo_184 (by decide) rfl ?_
  refine gx_iload_n C dL_areRanksSo_186 4 rfl ?_
  refine gx_if_eq (tgt := 219) C dL_areRanksSo_187 (by decide) (fun c53 => ?_) (fun c53 => ?_)
  · replace hw := hw.1 c53
    refine gx_sub (lv' := [(0, .ref (ad (tE X) 11 10 0)), (1, .int v1), (4, .int v4), (5, .int v5), (6, .int v6)]) [1, 2, 5, 6, 7] rfl ?_
    exact g_L_areRanksSo_b219 C hK119 hw
  · replace hw := hw.2 c53
    refine gx_iload C dL_areRanksSo_190 8 rfl ?_
    refine gx_if_le (tgt := 219) C dL_areRanksSo_192 (by decide) (fun c54 => ?_) (fun c54 => ?_)
    · replace hw := hw.1 c54
      refine gx_sub (lv' := [(0, .ref (ad (tE X) 11 10 0)), (1, .int v1), (4, .int v4), (5, .int v5), (6, .int v6)]) [1, 2, 5, 6, 7] rfl ?_
      exact g_L_areRanksSo_b219 C hK119 hw
    · replace hw := hw.2 c54
      refine gx_iload C dL_areRanksSo_195 8 rfl ?_
      refine gx_iload C dL_areRanksSo_197 0 rfl ?_
      refine gx_icmp_lt (tgt := 215) C dL_areRanksSo_199 (by decide) (fun c55 => ?_) (fun c55 => ?_)
      · replace hw := hw.1 c55
        refine gx_sub (lv' := [(0, .ref (ad (tE X) 11 10 0)), (1, .int v1), (4, .int v4), (5, .int v5), (6, .int v6)]) [1, 2, 5, 6, 7] rfl ?_
        exact g_L_areRanksSo_b215 C hK119 hw
      · replace hw := hw.2 c55
        refine gx_iload C dL_areRanksSo_202 8 rfl ?_
        refine gx_iload C dL_areRanksSo_204 0 rfl ?_
        refine gx_icmp_ne (tgt := 219) C dL_areRanksSo_206 (by decide) (fun c56 => ?_) (fun c56 => ?_)
        · replace hw := hw.1 c56
          refine gx_sub (lv' := [(0, .ref (ad (tE X) 11 10 0)), (1, .int v1), (4, .int v4), (5, .int v5), (6, .int v6)]) [1, 2, 5, 6, 7] rfl ?_
          exact g_L_areRanksSo_b219 C hK119 hw
        · replace hw := hw.2 c56
          refine gx_iload C dL_areRanksSo_209 7 rfl ?_
          refine gx_iload_n C dL_areRanksSo_211 3 rfl ?_
          refine gx_icmp_le (tgt := 219) C dL_areRanksSo_212 (by decide) (fun c57 => ?_) (fun c57 => ?_)
          · replace hw := hw.1 c57
            refine gx_sub (lv' := [(0, .ref (ad (tE X) 11 10 0)), (1, .int v1), (4, .int v4), (5, .int v5), (6, .int v6)]) [1, 2, 5, 6, 7] rfl ?_
            exact g_L_areRanksSo_b219 C hK119 hw
          · replace hw := hw.2 c57
            refine gx_sub (lv' := [(0, .ref (ad (tE X) 11 10 0)), (1, .int v1), (4, .int v4), (5, .int v5), (6, .int v6)]) [1, 2, 5, 6, 7] rfl ?_
            exact g_L_areRanksSo_b215 C hK119 hw
def st_L_areRanksSo_L119 (Q : Int32 → Sg → Prop) (K119 : Int32 → Int32 → Int32 → Int32 → Int32 → Sg → Prop) (v1 : Int32) (v2 : Int32) (v3 : Int32) (v4 : Int32) (v5 : Int32) (σ : Sg) : Prop := wp_X5_byCount v5 σ (fun r23 σ24 => ((r23 < 0 → wp_L_areRanksSo_b239 Q v1 v3 v4 σ24) ∧ (¬ r23 < 0 → (((6 : Int32) ≤ v5 → wp_L_areRanksSo_b239 Q v1 v3 v4 σ24) ∧ (¬ (6 : Int32) ≤ v5 → wp_X5_byCount v5 σ24 (fun r27 σ28 => wp_X5_flavour r27 (1 : Int32) σ28 (fun r29 σ30 => wp_X5_flavour r27 (2 : Int32) σ30 (fun r31 σ32 => ∀ z33 : Int32, z33 = (r29 + r31) → ((0 ≤ v2 → wp_X5_flavour v2 (1 : Int32) σ32 (fun r35 σ36 => wp_X5_flavour v2 (2 : Int32) σ36 (fun r37 σ38 => wp_L_areRanksSo_b184 K119 Q v1 v2 v3 v4 v5 r27 z33 (r35 + r37) σ38))) ∧ (¬ 0 ≤ v2 → wp_L_areRanksSo_b184 K119 Q v1 v2 v3 v4 v5 r27 z33 (z33 + (1 : Int32)) σ32))))))))))
def wp_L_areRanksSo_L119 (Q : Int32 → Sg → Prop) (v1 : Int32) (v2 : Int32) (v3 : Int32) (v4 : Int32) (v5 : Int32) (σ : Sg) : Prop := ∃ n : Nat, lpN (fun (K : Int32 × Int32 × Int32 × Int32 × Int32 × Sg → Prop) (a : Int32 × Int32 × Int32 × Int32 × Int32 × Sg) => st_L_areRanksSo_L119 Q (fun v1 v2 v3 v4 v5 σ => K (v1, v2, v3, v4, v5, σ)) (a.1) (a.2.1) (a.2.2.1) (a.2.2.2.1) (a.2.2.2.2.1) (a.2.2.2.2.2)) n (v1, v2, v3, v4, v5, σ)
set_option maxRecDepth 100000 in
set_option maxHeartbeats 4000000 in
theorem gs_L_areRanksSo_L119 {X : Tx} {Q : Int32 → Sg → Prop} (C : Cx X cL_areRanksSo "SweetWrapsLaw" (some .boolean) 7 153 9 (QI (tE X) Q)) {K119 : Int32 → Int32 → Int32 → Int32 → Int32 → Sg → Prop} (hK119 : ∀ (v1 : Int32) (v2 : Int32) (v3 : Int32) (v4 : Int32) (v5 : Int32) (σ : Sg), K119 v1 v2 v3 v4 v5 σ → G X σ [(0, .ref (ad (tE X) 11 10 0)), (1, .int v1), (2, .int v2), (3, .int v3), (4, .int v4), (5, .int v5)] [] 119) {v1 : Int32} {v2 : Int32} {v3 : Int32} {v4 : Int32} {v5 : Int32} {σ : Sg} (hw : st_L_areRanksSo_L119 Q K119 v1 v2 v3 v4 v5 σ) : G X σ [(0, .ref (ad (tE X) 11 10 0)), (1, .int v1), (2, .int v2), (3, .int v3), (4, .int v4), (5, .int v5)] [] 119 := by
  unfold st_L_areRanksSo_L119 at hw
  refine gx_aload_n C dL_areRanksSo_119 0 rfl ?_
  refine gx_iload C dL_areRanksSo_120 5 rfl ?_
  refine gx_vcalli (As := [.int v5]) (rest := []) C (c_X5_byCount _ _ hw) okg_10 rfl rfl bw_486 bw_487 bw_488 bw_1 bw_489 hy_X5_byCount ⟨by decide, by decide⟩ rfl (Nat.le_of_ble_eq_true rfl) dL_areRanksSo_122 (fun r23 σ24 hw => ?_)
  refine gx_if_lt (tgt := 239) C dL_areRanksSo_125 (by decide) (fun c25 => ?_) (fun c25 => ?_)
  · replace hw := hw.1 c25
    refine gx_sub (lv' := [(0, .ref (ad (tE X) 11 10 0)), (1, .int v1), (3, .int v3), (4, .int v4)]) [0, 1, 3, 4] rfl ?_
    exact g_L_areRanksSo_b239 C hw
  · replace hw := hw.2 c25
    refine gx_iload C dL_areRanksSo_128 5 rfl ?_
    refine gx_bipush (v := (6 : Int32)) C dL_areRanksSo_130 (by decide) ?_
    refine gx_icmp_ge (tgt := 239) C dL_areRanksSo_132 (by decide) (fun c26 => ?_) (fun c26 => ?_)
    · replace hw := hw.1 c26
      refine gx_sub (lv' := [(0, .ref (ad (tE X) 11 10 0)), (1, .int v1), (3, .int v3), (4, .int v4)]) [0, 1, 3, 4] rfl ?_
      exact g_L_areRanksSo_b239 C hw
    · replace hw := hw.2 c26
      refine gx_aload_n C dL_areRanksSo_135 0 rfl ?_
      refine gx_iload C dL_areRanksSo_136 5 rfl ?_
      refine gx_vcalli (As := [.int v5]) (rest := []) C (c_X5_byCount _ _ hw) okg_10 rfl rfl bw_486 bw_487 bw_488 bw_1 bw_489 hy_X5_byCount ⟨by decide, by decide⟩ rfl (Nat.le_of_ble_eq_true rfl) dL_areRanksSo_138 (fun r27 σ28 hw => ?_)
      refine gx_istore (lv' := [(6, .int r27), (0, .ref (ad (tE X) 11 10 0)), (1, .int v1), (2, .int v2), (3, .int v3), (4, .int v4), (5, .int v5)]) C dL_areRanksSo_141 (by decide) rfl ?_
      refine gx_aload_n C dL_areRanksSo_143 1 rfl ?_
      refine gx_iload C dL_areRanksSo_144 0 rfl ?_
      refine gx_iconst (v := (1 : Int32)) C dL_areRanksSo_146 (by decide) ?_
      refine gx_vcalli (As := [.int r27, .int (1 : Int32)]) (rest := []) C (c_X5_flavour _ _ hw) okg_10 rfl rfl bw_430 bw_431 bw_432 bw_1 bw_433 hy_X5_flavour ⟨by decide, by decide⟩ rfl (Nat.le_of_ble_eq_true rfl) dL_areRanksSo_147 (fun r29 σ30 hw => ?_)
      refine gx_aload_n C dL_areRanksSo_150 1 rfl ?_
      refine gx_iload C dL_areRanksSo_151 0 rfl ?_
      refine gx_iconst (v := (2 : Int32)) C dL_areRanksSo_153 (by decide) ?_
      refine gx_vcalli (As := [.int r27, .int (2 : Int32)]) (rest := [.int r29]) C (c_X5_flavour _ _ hw) okg_10 rfl rfl bw_430 bw_431 bw_432 bw_1 bw_433 hy_X5_flavour ⟨by decide, by decide⟩ rfl (Nat.le_of_ble_eq_true rfl) dL_areRanksSo_154 (fun r31 σ32 hw => ?_)
      refine gx_iadd C dL_areRanksSo_157 ?_
      obtain ⟨z33, e_z33⟩ : ∃ z : Int32, z = (r29 + r31) := ⟨_, rfl⟩
      replace hw := hw z33 e_z33
      refine gx_top e_z33 ?_
      refine gx_istore (lv' := [(7, .int z33), (6, .int r27), (0, .ref (ad (tE X) 11 10 0)), (1, .int v1), (2, .int v2), (3, .int v3), (4, .int v4), (5, .int v5)]) C dL_areRanksSo_158 (by decide) rfl ?_
      refine gx_iload_n C dL_areRanksSo_160 4 rfl ?_
      refine gx_if_ge (tgt := 171) C dL_areRanksSo_161 (by decide) (fun c34 => ?_) (fun c34 => ?_)
      · replace hw := hw.1 c34
        refine gx_aload_n C dL_areRanksSo_171 2 rfl ?_
        refine gx_iload_n C dL_areRanksSo_172 4 rfl ?_
        refine gx_iconst (v := (1 : Int32)) C dL_areRanksSo_173 (by decide) ?_
        refine gx_vcalli (As := [.int v2, .int (1 : Int32)]) (rest := []) C (c_X5_flavour _ _ hw) okg_10 rfl rfl bw_430 bw_431 bw_432 bw_1 bw_433 hy_X5_flavour ⟨by decide, by decide⟩ rfl (Nat.le_of_ble_eq_true rfl) dL_areRanksSo_174 (fun r35 σ36 hw => ?_)
        refine gx_aload_n C dL_areRanksSo_177 2 rfl ?_
        refine gx_iload_n C dL_areRanksSo_178 4 rfl ?_
        refine gx_iconst (v := (2 : Int32)) C dL_areRanksSo_179 (by decide) ?_
        refine gx_vcalli (As := [.int v2, .int (2 : Int32)]) (rest := [.int r35]) C (c_X5_flavour _ _ hw) okg_10 rfl rfl bw_430 bw_431 bw_432 bw_1 bw_433 hy_X5_flavour ⟨by decide, by decide⟩ rfl (Nat.le_of_ble_eq_true rfl) dL_areRanksSo_180 (fun r37 σ38 hw => ?_)
        refine gx_iadd C dL_areRanksSo_183 ?_
        refine gx_sub (lv' := [(0, .ref (ad (tE X) 11 10 0)), (1, .int v1), (2, .int v2), (3, .int v3), (4, .int v4), (5, .int v5), (6, .int r27), (7, .int z33)]) [2, 3, 4, 5, 6, 7, 1, 0] rfl ?_
        exact g_L_areRanksSo_b184 C hK119 hw
      · replace hw := hw.2 c34
        refine gx_iload C dL_areRanksSo_164 0 rfl ?_
        refine gx_iconst (v := (1 : Int32)) C dL_areRanksSo_166 (by decide) ?_
        refine gx_iadd C dL_areRanksSo_167 ?_
        refine gx_goto (tgt := 184) C dL_areRanksSo_168 (by decide) ?_
        refine gx_sub (lv' := [(0, .ref (ad (tE X) 11 10 0)), (1, .int v1), (2, .int v2), (3, .int v3), (4, .int v4), (5, .int v5), (6, .int r27), (7, .int z33)]) [2, 3, 4, 5, 6, 7, 1, 0] rfl ?_
        exact g_L_areRanksSo_b184 C hK119 hw
set_option maxRecDepth 100000 in
set_option maxHeartbeats 4000000 in
theorem g_L_areRanksSo_L119 {X : Tx} {Q : Int32 → Sg → Prop} (C : Cx X cL_areRanksSo "SweetWrapsLaw" (some .boolean) 7 153 9 (QI (tE X) Q)) {v1 : Int32} {v2 : Int32} {v3 : Int32} {v4 : Int32} {v5 : Int32} {σ : Sg} (hw : wp_L_areRanksSo_L119 Q v1 v2 v3 v4 v5 σ) : G X σ [(0, .ref (ad (tE X) 11 10 0)), (1, .int v1), (2, .int v2), (3, .int v3), (4, .int v4), (5, .int v5)] [] 119 := by
  obtain ⟨n, hw⟩ := hw
  exact lpN_G (P := (fun (a : Int32 × Int32 × Int32 × Int32 × Int32 × Sg) => G X (a.2.2.2.2.2) [(0, .ref (ad (tE X) 11 10 0)), (1, .int (a.1)), (2, .int (a.2.1)), (3, .int (a.2.2.1)), (4, .int (a.2.2.2.1)), (5, .int (a.2.2.2.2.1))] [] 119)) (fun K a hK h => gs_L_areRanksSo_L119 C (fun v1 v2 v3 v4 v5 σ h => hK (v1, v2, v3, v4, v5, σ) h) h) n _ hw
def wp_L_areRanksSo_b111 (Q : Int32 → Sg → Prop) (v1 : Int32) (v3 : Int32) (σ : Sg) : Prop := wp_L_areRanksSo_L119 Q v1 (-1 : Int32) v3 (0 : Int32) (0 : Int32) σ
set_option maxRecDepth 100000 in
set_option maxHeartbeats 4000000 in
theorem g_L_areRanksSo_b111 {X : Tx} {Q : Int32 → Sg → Prop} (C : Cx X cL_areRanksSo "SweetWrapsLaw" (some .boolean) 7 153 9 (QI (tE X) Q)) {v1 : Int32} {v3 : Int32} {σ : Sg} (hw : wp_L_areRanksSo_b111 Q v1 v3 σ) : G X σ [(0, .ref (ad (tE X) 11 10 0)), (1, .int v1), (3, .int v3)] [] 111 := by
  unfold wp_L_areRanksSo_b111 at hw
  refine gx_iconst (v := (0 : Int32)) C dL_areRanksSo_111 (by decide) ?_
  refine gx_istore (lv' := [(4, .int (0 : Int32)), (0, .ref (ad (tE X) 11 10 0)), (1, .int v1), (3, .int v3)]) C dL_areRanksSo_112 (by decide) rfl ?_
  refine gx_iconst (v := (-1 : Int32)) C dL_areRanksSo_114 (by decide) ?_
  refine gx_istore_n (lv' := [(2, .int (-1 : Int32)), (4, .int (0 : Int32)), (0, .ref (ad (tE X) 11 10 0)), (1, .int v1), (3, .int v3)]) C dL_areRanksSo_115 (by decide) rfl ?_
  refine gx_iconst (v := (0 : Int32)) C dL_areRanksSo_116 (by decide) ?_
  refine gx_istore (lv' := [(5, .int (0 : Int32)), (2, .int (-1 : Int32)), (4, .int (0 : Int32)), (0, .ref (ad (tE X) 11 10 0)), (1, .int v1), (3, .int v3)]) C dL_areRanksSo_117 (by decide) rfl ?_
  refine gx_sub (lv' := [(0, .ref (ad (tE X) 11 10 0)), (1, .int v1), (2, .int (-1 : Int32)), (3, .int v3), (4, .int (0 : Int32)), (5, .int (0 : Int32))]) [3, 4, 1, 5, 2, 0] rfl ?_
  exact g_L_areRanksSo_L119 C hw
def wp_L_areRanksSo_b94 (K9 : Int32 → Int32 → Int32 → Int32 → Sg → Prop) (Q : Int32 → Sg → Prop) (v1 : Int32) (v4 : Int32) (v5 : Int32) (s0 : Int32) (σ : Sg) : Prop := ∀ z60 : Int32, z60 = (v1 ||| ((1 : Int32) <<< (v5 &&& 31))) → ∀ z61 : Int32, z61 = v4 + (1 : Int32) → K9 z60 v5 s0 z61 σ
set_option maxRecDepth 100000 in
set_option maxHeartbeats 4000000 in
theorem g_L_areRanksSo_b94 {X : Tx} {Q : Int32 → Sg → Prop} (C : Cx X cL_areRanksSo "SweetWrapsLaw" (some .boolean) 7 153 9 (QI (tE X) Q)) {K9 : Int32 → Int32 → Int32 → Int32 → Sg → Prop} (hK9 : ∀ (v1 : Int32) (v2 : Int32) (v3 : Int32) (v4 : Int32) (σ : Sg), K9 v1 v2 v3 v4 σ → G X σ [(0, .ref (ad (tE X) 11 10 0)), (1, .int v1), (2, .int v2), (3, .int v3), (4, .int v4)] [] 9) {v1 : Int32} {v4 : Int32} {v5 : Int32} {s0 : Int32} {σ : Sg} (hw : wp_L_areRanksSo_b94 K9 Q v1 v4 v5 s0 σ) : G X σ [(0, .ref (ad (tE X) 11 10 0)), (1, .int v1), (4, .int v4), (5, .int v5)] [.int s0] 94 := by
  unfold wp_L_areRanksSo_b94 at hw
  refine gx_istore_n (lv' := [(3, .int s0), (0, .ref (ad (tE X) 11 10 0)), (1, .int v1), (4, .int v4), (5, .int v5)]) C dL_areRanksSo_94 (by decide) rfl ?_
  refine gx_iload C dL_areRanksSo_95 4 rfl ?_
  refine gx_istore_n (lv' := [(2, .int v5), (3, .int s0), (0, .ref (ad (tE X) 11 10 0)), (1, .int v1), (4, .int v4), (5, .int v5)]) C dL_areRanksSo_97 (by decide) rfl ?_
  refine gx_iload_n C dL_areRanksSo_98 3 rfl ?_
  refine gx_iconst (v := (1 : Int32)) C dL_areRanksSo_99 (by decide) ?_
  refine gx_iload C dL_areRanksSo_100 5 rfl ?_
  refine gx_ishl C dL_areRanksSo_102 ?_
  refine gx_ior C dL_areRanksSo_103 ?_
  obtain ⟨z60, e_z60⟩ : ∃ z : Int32, z = (v1 ||| ((1 : Int32) <<< (v5 &&& 31))) := ⟨_, rfl⟩
  replace hw := hw z60 e_z60
  refine gx_top e_z60 ?_
  refine gx_istore_n (lv' := [(1, .int z60), (2, .int v5), (3, .int s0), (0, .ref (ad (tE X) 11 10 0)), (4, .int v4), (5, .int v5)]) C dL_areRanksSo_104 (by decide) rfl ?_
  obtain ⟨z61, e_z61⟩ : ∃ z : Int32, z = v4 + (1 : Int32) := ⟨_, rfl⟩
  replace hw := hw z61 e_z61
  refine gx_iinc (v := z61) (lv' := [(4, .int z61), (1, .int z60), (2, .int v5), (3, .int s0), (0, .ref (ad (tE X) 11 10 0)), (5, .int v5)]) C dL_areRanksSo_105 4 rfl (by rw [e_z61]; rfl) (by decide) rfl ?_
  refine gx_goto (tgt := 9) C dL_areRanksSo_108 (by decide) ?_
  refine gx_sub (lv' := [(0, .ref (ad (tE X) 11 10 0)), (1, .int z60), (2, .int v5), (3, .int s0), (4, .int z61)]) [4, 1, 2, 3, 0] rfl ?_
  exact hK9 _ _ _ _ _ hw
def wp_L_areRanksSo_b93 (K9 : Int32 → Int32 → Int32 → Int32 → Sg → Prop) (Q : Int32 → Sg → Prop) (v1 : Int32) (v4 : Int32) (v5 : Int32) (σ : Sg) : Prop := wp_L_areRanksSo_b94 K9 Q v1 v4 v5 (0 : Int32) σ
set_option maxRecDepth 100000 in
set_option maxHeartbeats 4000000 in
theorem g_L_areRanksSo_b93 {X : Tx} {Q : Int32 → Sg → Prop} (C : Cx X cL_areRanksSo "SweetWrapsLaw" (some .boolean) 7 153 9 (QI (tE X) Q)) {K9 : Int32 → Int32 → Int32 → Int32 → Sg → Prop} (hK9 : ∀ (v1 : Int32) (v2 : Int32) (v3 : Int32) (v4 : Int32) (σ : Sg), K9 v1 v2 v3 v4 σ → G X σ [(0, .ref (ad (tE X) 11 10 0)), (1, .int v1), (2, .int v2), (3, .int v3), (4, .int v4)] [] 9) {v1 : Int32} {v4 : Int32} {v5 : Int32} {σ : Sg} (hw : wp_L_areRanksSo_b93 K9 Q v1 v4 v5 σ) : G X σ [(0, .ref (ad (tE X) 11 10 0)), (1, .int v1), (4, .int v4), (5, .int v5)] [] 93 := by
  unfold wp_L_areRanksSo_b93 at hw
  refine gx_iconst (v := (0 : Int32)) C dL_areRanksSo_93 (by decide) ?_
  exact g_L_areRanksSo_b94 C hK9 hw
def wp_L_areRanksSo_b89 (K9 : Int32 → Int32 → Int32 → Int32 → Sg → Prop) (Q : Int32 → Sg → Prop) (v1 : Int32) (v4 : Int32) (v5 : Int32) (σ : Sg) : Prop := wp_L_areRanksSo_b94 K9 Q v1 v4 v5 (1 : Int32) σ
set_option maxRecDepth 100000 in
set_option maxHeartbeats 4000000 in
theorem g_L_areRanksSo_b89 {X : Tx} {Q : Int32 → Sg → Prop} (C : Cx X cL_areRanksSo "SweetWrapsLaw" (some .boolean) 7 153 9 (QI (tE X) Q)) {K9 : Int32 → Int32 → Int32 → Int32 → Sg → Prop} (hK9 : ∀ (v1 : Int32) (v2 : Int32) (v3 : Int32) (v4 : Int32) (σ : Sg), K9 v1 v2 v3 v4 σ → G X σ [(0, .ref (ad (tE X) 11 10 0)), (1, .int v1), (2, .int v2), (3, .int v3), (4, .int v4)] [] 9) {v1 : Int32} {v4 : Int32} {v5 : Int32} {σ : Sg} (hw : wp_L_areRanksSo_b89 K9 Q v1 v4 v5 σ) : G X σ [(0, .ref (ad (tE X) 11 10 0)), (1, .int v1), (4, .int v4), (5, .int v5)] [] 89 := by
  unfold wp_L_areRanksSo_b89 at hw
  refine gx_iconst (v := (1 : Int32)) C dL_areRanksSo_89 (by decide) ?_
  refine gx_goto (tgt := 94) C dL_areRanksSo_90 (by decide) ?_
  exact g_L_areRanksSo_b94 C hK9 hw
def st_L_areRanksSo_L9 (Q : Int32 → Sg → Prop) (K9 : Int32 → Int32 → Int32 → Int32 → Sg → Prop) (v1 : Int32) (v2 : Int32) (v3 : Int32) (v4 : Int32) (σ : Sg) : Prop := wp_X5_byRoom v4 σ (fun r1 σ2 => ((r1 < 0 → wp_L_areRanksSo_b111 Q v1 v3 σ2) ∧ (¬ r1 < 0 → (((16 : Int32) ≤ v4 → wp_L_areRanksSo_b111 Q v1 v3 σ2) ∧ (¬ (16 : Int32) ≤ v4 → wp_X5_byRoom v4 σ2 (fun r5 σ6 => ((v3 = 0 → wp_L_areRanksSo_b93 K9 Q v1 v4 r5 σ6) ∧ (¬ v3 = 0 → wp_X5_ofTin r5 (1 : Int32) σ6 (fun r8 σ9 => ((¬ r8 = 0 → wp_L_areRanksSo_b93 K9 Q v1 v4 r5 σ9) ∧ (r8 = 0 → ((v2 < 0 → wp_L_areRanksSo_b89 K9 Q v1 v4 r5 σ9) ∧ (¬ v2 < 0 → wp_X5_ofTin r5 (0 : Int32) σ9 (fun r12 σ13 => wp_X5_ofTin v2 (0 : Int32) σ13 (fun r14 σ15 => ((r12 < r14 → wp_L_areRanksSo_b89 K9 Q v1 v4 r5 σ15) ∧ (¬ r12 < r14 → wp_X5_ofTin r5 (0 : Int32) σ15 (fun r17 σ18 => wp_X5_ofTin v2 (0 : Int32) σ18 (fun r19 σ20 => ((¬ r17 = r19 → wp_L_areRanksSo_b93 K9 Q v1 v4 r5 σ20) ∧ (r17 = r19 → ((r5 ≤ v2 → wp_L_areRanksSo_b93 K9 Q v1 v4 r5 σ20) ∧ (¬ r5 ≤ v2 → wp_L_areRanksSo_b89 K9 Q v1 v4 r5 σ20)))))))))))))))))))))))
def wp_L_areRanksSo_L9 (Q : Int32 → Sg → Prop) (v1 : Int32) (v2 : Int32) (v3 : Int32) (v4 : Int32) (σ : Sg) : Prop := ∃ n : Nat, lpN (fun (K : Int32 × Int32 × Int32 × Int32 × Sg → Prop) (a : Int32 × Int32 × Int32 × Int32 × Sg) => st_L_areRanksSo_L9 Q (fun v1 v2 v3 v4 σ => K (v1, v2, v3, v4, σ)) (a.1) (a.2.1) (a.2.2.1) (a.2.2.2.1) (a.2.2.2.2)) n (v1, v2, v3, v4, σ)
set_option maxRecDepth 100000 in
set_option maxHeartbeats 4000000 in
theorem gs_L_areRanksSo_L9 {X : Tx} {Q : Int32 → Sg → Prop} (C : Cx X cL_areRanksSo "SweetWrapsLaw" (some .boolean) 7 153 9 (QI (tE X) Q)) {K9 : Int32 → Int32 → Int32 → Int32 → Sg → Prop} (hK9 : ∀ (v1 : Int32) (v2 : Int32) (v3 : Int32) (v4 : Int32) (σ : Sg), K9 v1 v2 v3 v4 σ → G X σ [(0, .ref (ad (tE X) 11 10 0)), (1, .int v1), (2, .int v2), (3, .int v3), (4, .int v4)] [] 9) {v1 : Int32} {v2 : Int32} {v3 : Int32} {v4 : Int32} {σ : Sg} (hw : st_L_areRanksSo_L9 Q K9 v1 v2 v3 v4 σ) : G X σ [(0, .ref (ad (tE X) 11 10 0)), (1, .int v1), (2, .int v2), (3, .int v3), (4, .int v4)] [] 9 := by
  unfold st_L_areRanksSo_L9 at hw
  refine gx_aload_n C dL_areRanksSo_9 0 rfl ?_
  refine gx_iload C dL_areRanksSo_10 4 rfl ?_
  refine gx_vcalli (As := [.int v4]) (rest := []) C (c_X5_byRoom _ _ hw) okg_10 rfl rfl bw_474 bw_475 bw_476 bw_1 bw_477 hy_X5_byRoom ⟨by decide, by decide⟩ rfl (Nat.le_of_ble_eq_true rfl) dL_areRanksSo_12 (fun r1 σ2 hw => ?_)
  refine gx_if_lt (tgt := 111) C dL_areRanksSo_15 (by decide) (fun c3 => ?_) (fun c3 => ?_)
  · replace hw := hw.1 c3
    refine gx_sub (lv' := [(0, .ref (ad (tE X) 11 10 0)), (1, .int v1), (3, .int v3)]) [0, 1, 3] rfl ?_
    exact g_L_areRanksSo_b111 C hw
  · replace hw := hw.2 c3
    refine gx_iload C dL_areRanksSo_18 4 rfl ?_
    refine gx_bipush (v := (16 : Int32)) C dL_areRanksSo_20 (by decide) ?_
    refine gx_icmp_ge (tgt := 111) C dL_areRanksSo_22 (by decide) (fun c4 => ?_) (fun c4 => ?_)
    · replace hw := hw.1 c4
      refine gx_sub (lv' := [(0, .ref (ad (tE X) 11 10 0)), (1, .int v1), (3, .int v3)]) [0, 1, 3] rfl ?_
      exact g_L_areRanksSo_b111 C hw
    · replace hw := hw.2 c4
      refine gx_aload_n C dL_areRanksSo_25 0 rfl ?_
      refine gx_iload C dL_areRanksSo_26 4 rfl ?_
      refine gx_vcalli (As := [.int v4]) (rest := []) C (c_X5_byRoom _ _ hw) okg_10 rfl rfl bw_474 bw_475 bw_476 bw_1 bw_477 hy_X5_byRoom ⟨by decide, by decide⟩ rfl (Nat.le_of_ble_eq_true rfl) dL_areRanksSo_28 (fun r5 σ6 hw => ?_)
      refine gx_istore (lv' := [(5, .int r5), (0, .ref (ad (tE X) 11 10 0)), (1, .int v1), (2, .int v2), (3, .int v3), (4, .int v4)]) C dL_areRanksSo_31 (by decide) rfl ?_
      refine gx_iload_n C dL_areRanksSo_33 4 rfl ?_
      refine gx_if_eq (tgt := 93) C dL_areRanksSo_34 (by decide) (fun c7 => ?_) (fun c7 => ?_)
      · replace hw := hw.1 c7
        refine gx_sub (lv' := [(0, .ref (ad (tE X) 11 10 0)), (1, .int v1), (4, .int v4), (5, .int r5)]) [1, 2, 5, 0] rfl ?_
        exact g_L_areRanksSo_b93 C hK9 hw
      · replace hw := hw.2 c7
        refine gx_aload_n C dL_areRanksSo_37 1 rfl ?_
        refine gx_iload C dL_areRanksSo_38 0 rfl ?_
        refine gx_iconst (v := (1 : Int32)) C dL_areRanksSo_40 (by decide) ?_
        refine gx_vcalli (As := [.int r5, .int (1 : Int32)]) (rest := []) C (c_X5_ofTin _ _ hw) okg_10 rfl rfl bw_410 bw_411 bw_412 bw_1 bw_413 hy_X5_ofTin ⟨by decide, by decide⟩ rfl (Nat.le_of_ble_eq_true rfl) dL_areRanksSo_41 (fun r8 σ9 hw => ?_)
        refine gx_if_ne (tgt := 93) C dL_areRanksSo_44 (by decide) (fun c10 => ?_) (fun c10 => ?_)
        · replace hw := hw.1 c10
          refine gx_sub (lv' := [(0, .ref (ad (tE X) 11 10 0)), (1, .int v1), (4, .int v4), (5, .int r5)]) [1, 2, 5, 0] rfl ?_
          exact g_L_areRanksSo_b93 C hK9 hw
        · replace hw := hw.2 c10
          refine gx_iload_n C dL_areRanksSo_47 3 rfl ?_
          refine gx_if_lt (tgt := 89) C dL_areRanksSo_48 (by decide) (fun c11 => ?_) (fun c11 => ?_)
          · replace hw := hw.1 c11
            refine gx_sub (lv' := [(0, .ref (ad (tE X) 11 10 0)), (1, .int v1), (4, .int v4), (5, .int r5)]) [1, 2, 5, 0] rfl ?_
            exact g_L_areRanksSo_b89 C hK9 hw
          · replace hw := hw.2 c11
            refine gx_aload_n C dL_areRanksSo_51 1 rfl ?_
            refine gx_iload C dL_areRanksSo_52 0 rfl ?_
            refine gx_iconst (v := (0 : Int32)) C dL_areRanksSo_54 (by decide) ?_
            refine gx_vcalli (As := [.int r5, .int (0 : Int32)]) (rest := []) C (c_X5_ofTin _ _ hw) okg_10 rfl rfl bw_410 bw_411 bw_412 bw_1 bw_413 hy_X5_ofTin ⟨by decide, by decide⟩ rfl (Nat.le_of_ble_eq_true rfl) dL_areRanksSo_55 (fun r12 σ13 hw => ?_)
            refine gx_aload_n C dL_areRanksSo_58 1 rfl ?_
            refine gx_iload_n C dL_areRanksSo_59 3 rfl ?_
            refine gx_iconst (v := (0 : Int32)) C dL_areRanksSo_60 (by decide) ?_
            refine gx_vcalli (As := [.int v2, .int (0 : Int32)]) (rest := [.int r12]) C (c_X5_ofTin _ _ hw) okg_10 rfl rfl bw_410 bw_411 bw_412 bw_1 bw_413 hy_X5_ofTin ⟨by decide, by decide⟩ rfl (Nat.le_of_ble_eq_true rfl) dL_areRanksSo_61 (fun r14 σ15 hw => ?_)
            refine gx_icmp_lt (tgt := 89) C dL_areRanksSo_64 (by decide) (fun c16 => ?_) (fun c16 => ?_)
            · replace hw := hw.1 c16
              refine gx_sub (lv' := [(0, .ref (ad (tE X) 11 10 0)), (1, .int v1), (4, .int v4), (5, .int r5)]) [1, 2, 5, 0] rfl ?_
              exact g_L_areRanksSo_b89 C hK9 hw
            · replace hw := hw.2 c16
              refine gx_aload_n C dL_areRanksSo_67 1 rfl ?_
              refine gx_iload C dL_areRanksSo_68 0 rfl ?_
              refine gx_iconst (v := (0 : Int32)) C dL_areRanksSo_70 (by decide) ?_
              refine gx_vcalli (As := [.int r5, .int (0 : Int32)]) (rest := []) C (c_X5_ofTin _ _ hw) okg_10 rfl rfl bw_410 bw_411 bw_412 bw_1 bw_413 hy_X5_ofTin ⟨by decide, by decide⟩ rfl (Nat.le_of_ble_eq_true rfl) dL_areRanksSo_71 (fun r17 σ18 hw => ?_)
              refine gx_aload_n C dL_areRanksSo_74 1 rfl ?_
              refine gx_iload_n C dL_areRanksSo_75 3 rfl ?_
              refine gx_iconst (v := (0 : Int32)) C dL_areRanksSo_76 (by decide) ?_
              refine gx_vcalli (As := [.int v2, .int (0 : Int32)]) (rest := [.int r17]) C (c_X5_ofTin _ _ hw) okg_10 rfl rfl bw_410 bw_411 bw_412 bw_1 bw_413 hy_X5_ofTin ⟨by decide, by decide⟩ rfl (Nat.le_of_ble_eq_true rfl) dL_areRanksSo_77 (fun r19 σ20 hw => ?_)
              refine gx_icmp_ne (tgt := 93) C dL_areRanksSo_80 (by decide) (fun c21 => ?_) (fun c21 => ?_)
              · replace hw := hw.1 c21
                refine gx_sub (lv' := [(0, .ref (ad (tE X) 11 10 0)), (1, .int v1), (4, .int v4), (5, .int r5)]) [1, 2, 5, 0] rfl ?_
                exact g_L_areRanksSo_b93 C hK9 hw
              · replace hw := hw.2 c21
                refine gx_iload C dL_areRanksSo_83 0 rfl ?_
                refine gx_iload_n C dL_areRanksSo_85 3 rfl ?_
                refine gx_icmp_le (tgt := 93) C dL_areRanksSo_86 (by decide) (fun c22 => ?_) (fun c22 => ?_)
                · replace hw := hw.1 c22
                  refine gx_sub (lv' := [(0, .ref (ad (tE X) 11 10 0)), (1, .int v1), (4, .int v4), (5, .int r5)]) [1, 2, 5, 0] rfl ?_
                  exact g_L_areRanksSo_b93 C hK9 hw
                · replace hw := hw.2 c22
                  refine gx_sub (lv' := [(0, .ref (ad (tE X) 11 10 0)), (1, .int v1), (4, .int v4), (5, .int r5)]) [1, 2, 5, 0] rfl ?_
                  exact g_L_areRanksSo_b89 C hK9 hw
set_option maxRecDepth 100000 in
set_option maxHeartbeats 4000000 in
theorem g_L_areRanksSo_L9 {X : Tx} {Q : Int32 → Sg → Prop} (C : Cx X cL_areRanksSo "SweetWrapsLaw" (some .boolean) 7 153 9 (QI (tE X) Q)) {v1 : Int32} {v2 : Int32} {v3 : Int32} {v4 : Int32} {σ : Sg} (hw : wp_L_areRanksSo_L9 Q v1 v2 v3 v4 σ) : G X σ [(0, .ref (ad (tE X) 11 10 0)), (1, .int v1), (2, .int v2), (3, .int v3), (4, .int v4)] [] 9 := by
  obtain ⟨n, hw⟩ := hw
  exact lpN_G (P := (fun (a : Int32 × Int32 × Int32 × Int32 × Sg) => G X (a.2.2.2.2) [(0, .ref (ad (tE X) 11 10 0)), (1, .int (a.1)), (2, .int (a.2.1)), (3, .int (a.2.2.1)), (4, .int (a.2.2.2.1))] [] 9)) (fun K a hK h => gs_L_areRanksSo_L9 C (fun v1 v2 v3 v4 σ h => hK (v1, v2, v3, v4, σ) h) h) n _ hw
def wp_L_areRanksSo (σ : Sg) (Q : Int32 → Sg → Prop) : Prop := wp_L_areRanksSo_L9 Q (0 : Int32) (-1 : Int32) (1 : Int32) (0 : Int32) σ
set_option maxRecDepth 100000 in
set_option maxHeartbeats 4000000 in
theorem c_L_areRanksSo (l : Launch) (E : Ev) {σ : Sg} {Q : Int32 → Sg → Prop} (hw : wp_L_areRanksSo σ Q) : CT l E yL_areRanksSo cL_areRanksSo 9 (some .boolean) 7 153 [.ref (ad E 11 10 0)] σ (QI E Q) := by
  refine CT_of (by decide) (Nat.le_of_ble_eq_true rfl) (fun X h1 h2 C => ?_)
  subst h1; subst h2
  have C : Cx X cL_areRanksSo "SweetWrapsLaw" (some .boolean) 7 153 9 (QI (tE X) Q) := C
  show G X σ [(0, .ref (ad (tE X) 11 10 0))] [] 0
  unfold wp_L_areRanksSo at hw
  refine gx_iconst (v := (0 : Int32)) C dL_areRanksSo_0 (by decide) ?_
  refine gx_istore_n (lv' := [(1, .int (0 : Int32)), (0, .ref (ad (tE X) 11 10 0))]) C dL_areRanksSo_1 (by decide) rfl ?_
  refine gx_iconst (v := (-1 : Int32)) C dL_areRanksSo_2 (by decide) ?_
  refine gx_istore_n (lv' := [(2, .int (-1 : Int32)), (1, .int (0 : Int32)), (0, .ref (ad (tE X) 11 10 0))]) C dL_areRanksSo_3 (by decide) rfl ?_
  refine gx_iconst (v := (1 : Int32)) C dL_areRanksSo_4 (by decide) ?_
  refine gx_istore_n (lv' := [(3, .int (1 : Int32)), (2, .int (-1 : Int32)), (1, .int (0 : Int32)), (0, .ref (ad (tE X) 11 10 0))]) C dL_areRanksSo_5 (by decide) rfl ?_
  refine gx_iconst (v := (0 : Int32)) C dL_areRanksSo_6 (by decide) ?_
  refine gx_istore (lv' := [(4, .int (0 : Int32)), (3, .int (1 : Int32)), (2, .int (-1 : Int32)), (1, .int (0 : Int32)), (0, .ref (ad (tE X) 11 10 0))]) C dL_areRanksSo_7 (by decide) rfl ?_
  refine gx_sub (lv' := [(0, .ref (ad (tE X) 11 10 0)), (1, .int (0 : Int32)), (2, .int (-1 : Int32)), (3, .int (1 : Int32)), (4, .int (0 : Int32))]) [4, 3, 2, 1, 0] rfl ?_
  exact g_L_areRanksSo_L9 C hw
theorem hyS_L_areRanksSo : yL_areRanksSo.cls ≠ "java/lang/invoke/MethodHandle" ∧ yL_areRanksSo.cls ≠ "java/lang/invoke/VarHandle" ∧ (parseMethodDescriptor yL_areRanksSo.desc).map (fun d => d.parameters.length) = some 1 := by decide +kernel
