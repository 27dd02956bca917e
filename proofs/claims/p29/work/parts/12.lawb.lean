theorem dL_areTalesSo_0 : decode cL_areTalesSo 0 = .ok (.aload_n 0, 1) := by decide +kernel
theorem dL_areTalesSo_1 : decode cL_areTalesSo 1 = .ok (.iload_n 1, 1) := by decide +kernel
theorem dL_areTalesSo_2 : decode cL_areTalesSo 2 = .ok (.iconst 0, 1) := by decide +kernel
theorem dL_areTalesSo_3 : decode cL_areTalesSo 3 = .ok (.invokevirtual 70, 3) := by decide +kernel
theorem dL_areTalesSo_6 : decode cL_areTalesSo 6 = .ok (.istore 5, 2) := by decide +kernel
theorem dL_areTalesSo_8 : decode cL_areTalesSo 8 = .ok (.aload_n 0, 1) := by decide +kernel
theorem dL_areTalesSo_9 : decode cL_areTalesSo 9 = .ok (.iload_n 1, 1) := by decide +kernel
theorem dL_areTalesSo_10 : decode cL_areTalesSo 10 = .ok (.iconst 1, 1) := by decide +kernel
theorem dL_areTalesSo_11 : decode cL_areTalesSo 11 = .ok (.invokevirtual 70, 3) := by decide +kernel
theorem dL_areTalesSo_14 : decode cL_areTalesSo 14 = .ok (.istore 6, 2) := by decide +kernel
theorem dL_areTalesSo_16 : decode cL_areTalesSo 16 = .ok (.aload_n 0, 1) := by decide +kernel
theorem dL_areTalesSo_17 : decode cL_areTalesSo 17 = .ok (.iload_n 2, 1) := by decide +kernel
theorem dL_areTalesSo_18 : decode cL_areTalesSo 18 = .ok (.iconst 0, 1) := by decide +kernel
theorem dL_areTalesSo_19 : decode cL_areTalesSo 19 = .ok (.invokevirtual 73, 3) := by decide +kernel
theorem dL_areTalesSo_22 : decode cL_areTalesSo 22 = .ok (.istore 7, 2) := by decide +kernel
theorem dL_areTalesSo_24 : decode cL_areTalesSo 24 = .ok (.aload_n 0, 1) := by decide +kernel
theorem dL_areTalesSo_25 : decode cL_areTalesSo 25 = .ok (.iload_n 2, 1) := by decide +kernel
theorem dL_areTalesSo_26 : decode cL_areTalesSo 26 = .ok (.iconst 1, 1) := by decide +kernel
theorem dL_areTalesSo_27 : decode cL_areTalesSo 27 = .ok (.invokevirtual 73, 3) := by decide +kernel
theorem dL_areTalesSo_30 : decode cL_areTalesSo 30 = .ok (.istore 8, 2) := by decide +kernel
theorem dL_areTalesSo_32 : decode cL_areTalesSo 32 = .ok (.aload_n 0, 1) := by decide +kernel
theorem dL_areTalesSo_33 : decode cL_areTalesSo 33 = .ok (.iload_n 3, 1) := by decide +kernel
theorem dL_areTalesSo_34 : decode cL_areTalesSo 34 = .ok (.iload 4, 2) := by decide +kernel
theorem dL_areTalesSo_36 : decode cL_areTalesSo 36 = .ok (.iload_n 2, 1) := by decide +kernel
theorem dL_areTalesSo_37 : decode cL_areTalesSo 37 = .ok (.invokevirtual 76, 3) := by decide +kernel
theorem dL_areTalesSo_40 : decode cL_areTalesSo 40 = .ok (.istore 9, 2) := by decide +kernel
theorem dL_areTalesSo_42 : decode cL_areTalesSo 42 = .ok (.iload 5, 2) := by decide +kernel
theorem dL_areTalesSo_44 : decode cL_areTalesSo 44 = .ok (.bipush (-6), 2) := by decide +kernel
theorem dL_areTalesSo_46 : decode cL_areTalesSo 46 = .ok (.if_icmp .ne 7, 3) := by decide +kernel
theorem dL_areTalesSo_49 : decode cL_areTalesSo 49 = .ok (.iconst 1, 1) := by decide +kernel
theorem dL_areTalesSo_50 : decode cL_areTalesSo 50 = .ok (.goto 4, 3) := by decide +kernel
theorem dL_areTalesSo_53 : decode cL_areTalesSo 53 = .ok (.iconst 0, 1) := by decide +kernel
theorem dL_areTalesSo_54 : decode cL_areTalesSo 54 = .ok (.iload 6, 2) := by decide +kernel
theorem dL_areTalesSo_56 : decode cL_areTalesSo 56 = .ok (.bipush (-6), 2) := by decide +kernel
theorem dL_areTalesSo_58 : decode cL_areTalesSo 58 = .ok (.if_icmp .ne 7, 3) := by decide +kernel
theorem dL_areTalesSo_61 : decode cL_areTalesSo 61 = .ok (.iconst 1, 1) := by decide +kernel
theorem dL_areTalesSo_62 : decode cL_areTalesSo 62 = .ok (.goto 4, 3) := by decide +kernel
theorem dL_areTalesSo_65 : decode cL_areTalesSo 65 = .ok (.iconst 0, 1) := by decide +kernel
theorem dL_areTalesSo_66 : decode cL_areTalesSo 66 = .ok (.if_icmp .ne 19, 3) := by decide +kernel
theorem dL_areTalesSo_69 : decode cL_areTalesSo 69 = .ok (.iload 7, 2) := by decide +kernel
theorem dL_areTalesSo_71 : decode cL_areTalesSo 71 = .ok (.ifCond .le 14, 3) := by decide +kernel
theorem dL_areTalesSo_74 : decode cL_areTalesSo 74 = .ok (.iload 7, 2) := by decide +kernel
theorem dL_areTalesSo_76 : decode cL_areTalesSo 76 = .ok (.bipush 10, 2) := by decide +kernel
theorem dL_areTalesSo_78 : decode cL_areTalesSo 78 = .ok (.if_icmp .ge 7, 3) := by decide +kernel
theorem dL_areTalesSo_81 : decode cL_areTalesSo 81 = .ok (.iconst 1, 1) := by decide +kernel
theorem dL_areTalesSo_82 : decode cL_areTalesSo 82 = .ok (.goto 4, 3) := by decide +kernel
theorem dL_areTalesSo_85 : decode cL_areTalesSo 85 = .ok (.iconst 0, 1) := by decide +kernel
theorem dL_areTalesSo_86 : decode cL_areTalesSo 86 = .ok (.istore 10, 2) := by decide +kernel
theorem dL_areTalesSo_88 : decode cL_areTalesSo 88 = .ok (.aload_n 0, 1) := by decide +kernel
theorem dL_areTalesSo_89 : decode cL_areTalesSo 89 = .ok (.iconst 5, 1) := by decide +kernel
theorem dL_areTalesSo_90 : decode cL_areTalesSo 90 = .ok (.invokevirtual 31, 3) := by decide +kernel
theorem dL_areTalesSo_93 : decode cL_areTalesSo 93 = .ok (.istore 11, 2) := by decide +kernel
theorem dL_areTalesSo_95 : decode cL_areTalesSo 95 = .ok (.aload_n 0, 1) := by decide +kernel
theorem dL_areTalesSo_96 : decode cL_areTalesSo 96 = .ok (.iconst 0, 1) := by decide +kernel
theorem dL_areTalesSo_97 : decode cL_areTalesSo 97 = .ok (.iload 7, 2) := by decide +kernel
theorem dL_areTalesSo_99 : decode cL_areTalesSo 99 = .ok (.invokevirtual 40, 3) := by decide +kernel
theorem dL_areTalesSo_102 : decode cL_areTalesSo 102 = .ok (.istore 12, 2) := by decide +kernel
theorem dL_areTalesSo_104 : decode cL_areTalesSo 104 = .ok (.aload_n 0, 1) := by decide +kernel
theorem dL_areTalesSo_105 : decode cL_areTalesSo 105 = .ok (.iload_n 2, 1) := by decide +kernel
theorem dL_areTalesSo_106 : decode cL_areTalesSo 106 = .ok (.invokevirtual 43, 3) := by decide +kernel
theorem dL_areTalesSo_109 : decode cL_areTalesSo 109 = .ok (.istore 13, 2) := by decide +kernel
theorem dL_areTalesSo_111 : decode cL_areTalesSo 111 = .ok (.iload 10, 2) := by decide +kernel
theorem dL_areTalesSo_113 : decode cL_areTalesSo 113 = .ok (.ifCond .eq 21, 3) := by decide +kernel
theorem dL_areTalesSo_116 : decode cL_areTalesSo 116 = .ok (.iload 13, 2) := by decide +kernel
theorem dL_areTalesSo_118 : decode cL_areTalesSo 118 = .ok (.bipush (-5), 2) := by decide +kernel
theorem dL_areTalesSo_120 : decode cL_areTalesSo 120 = .ok (.if_icmp .eq 10, 3) := by decide +kernel
theorem dL_areTalesSo_123 : decode cL_areTalesSo 123 = .ok (.iload 13, 2) := by decide +kernel
theorem dL_areTalesSo_125 : decode cL_areTalesSo 125 = .ok (.iload 8, 2) := by decide +kernel
theorem dL_areTalesSo_127 : decode cL_areTalesSo 127 = .ok (.if_icmp .ne 7, 3) := by decide +kernel
theorem dL_areTalesSo_130 : decode cL_areTalesSo 130 = .ok (.iconst 1, 1) := by decide +kernel
theorem dL_areTalesSo_131 : decode cL_areTalesSo 131 = .ok (.goto 4, 3) := by decide +kernel
theorem dL_areTalesSo_134 : decode cL_areTalesSo 134 = .ok (.iconst 0, 1) := by decide +kernel
theorem dL_areTalesSo_135 : decode cL_areTalesSo 135 = .ok (.istore 10, 2) := by decide +kernel
theorem dL_areTalesSo_137 : decode cL_areTalesSo 137 = .ok (.iload 13, 2) := by decide +kernel
theorem dL_areTalesSo_139 : decode cL_areTalesSo 139 = .ok (.ifCond .lt 10, 3) := by decide +kernel
theorem dL_areTalesSo_142 : decode cL_areTalesSo 142 = .ok (.aload_n 0, 1) := by decide +kernel
theorem dL_areTalesSo_143 : decode cL_areTalesSo 143 = .ok (.invokevirtual 79, 3) := by decide +kernel
theorem dL_areTalesSo_146 : decode cL_areTalesSo 146 = .ok (.goto 4, 3) := by decide +kernel
theorem dL_areTalesSo_149 : decode cL_areTalesSo 149 = .ok (.iconst 0, 1) := by decide +kernel
theorem dL_areTalesSo_150 : decode cL_areTalesSo 150 = .ok (.istore 14, 2) := by decide +kernel
theorem dL_areTalesSo_152 : decode cL_areTalesSo 152 = .ok (.iconst 1, 1) := by decide +kernel
theorem dL_areTalesSo_153 : decode cL_areTalesSo 153 = .ok (.istore 15, 2) := by decide +kernel
theorem dL_areTalesSo_155 : decode cL_areTalesSo 155 = .ok (.iload 15, 2) := by decide +kernel
theorem dL_areTalesSo_157 : decode cL_areTalesSo 157 = .ok (.iload 7, 2) := by decide +kernel
theorem dL_areTalesSo_159 : decode cL_areTalesSo 159 = .ok (.if_icmp .ge 65, 3) := by decide +kernel
theorem dL_areTalesSo_162 : decode cL_areTalesSo 162 = .ok (.aload_n 0, 1) := by decide +kernel
theorem dL_areTalesSo_163 : decode cL_areTalesSo 163 = .ok (.iconst 0, 1) := by decide +kernel
theorem dL_areTalesSo_164 : decode cL_areTalesSo 164 = .ok (.iload 15, 2) := by decide +kernel
theorem dL_areTalesSo_166 : decode cL_areTalesSo 166 = .ok (.invokevirtual 40, 3) := by decide +kernel
theorem dL_areTalesSo_169 : decode cL_areTalesSo 169 = .ok (.istore 14, 2) := by decide +kernel
theorem dL_areTalesSo_171 : decode cL_areTalesSo 171 = .ok (.aload_n 0, 1) := by decide +kernel
theorem dL_areTalesSo_172 : decode cL_areTalesSo 172 = .ok (.iload_n 2, 1) := by decide +kernel
theorem dL_areTalesSo_173 : decode cL_areTalesSo 173 = .ok (.invokevirtual 43, 3) := by decide +kernel
theorem dL_areTalesSo_176 : decode cL_areTalesSo 176 = .ok (.istore 13, 2) := by decide +kernel
theorem dL_areTalesSo_178 : decode cL_areTalesSo 178 = .ok (.iload 10, 2) := by decide +kernel
theorem dL_areTalesSo_180 : decode cL_areTalesSo 180 = .ok (.ifCond .eq 14, 3) := by decide +kernel
theorem dL_areTalesSo_183 : decode cL_areTalesSo 183 = .ok (.iload 13, 2) := by decide +kernel
theorem dL_areTalesSo_185 : decode cL_areTalesSo 185 = .ok (.iload 8, 2) := by decide +kernel
theorem dL_areTalesSo_187 : decode cL_areTalesSo 187 = .ok (.if_icmp .ge 7, 3) := by decide +kernel
theorem dL_areTalesSo_190 : decode cL_areTalesSo 190 = .ok (.iconst 1, 1) := by decide +kernel
theorem dL_areTalesSo_191 : decode cL_areTalesSo 191 = .ok (.goto 4, 3) := by decide +kernel
theorem dL_areTalesSo_194 : decode cL_areTalesSo 194 = .ok (.iconst 0, 1) := by decide +kernel
theorem dL_areTalesSo_195 : decode cL_areTalesSo 195 = .ok (.istore 10, 2) := by decide +kernel
theorem dL_areTalesSo_197 : decode cL_areTalesSo 197 = .ok (.iload 13, 2) := by decide +kernel
theorem dL_areTalesSo_199 : decode cL_areTalesSo 199 = .ok (.ifCond .lt 10, 3) := by decide +kernel
theorem dL_areTalesSo_202 : decode cL_areTalesSo 202 = .ok (.aload_n 0, 1) := by decide +kernel
theorem dL_areTalesSo_203 : decode cL_areTalesSo 203 = .ok (.invokevirtual 79, 3) := by decide +kernel
theorem dL_areTalesSo_206 : decode cL_areTalesSo 206 = .ok (.goto 4, 3) := by decide +kernel
theorem dL_areTalesSo_209 : decode cL_areTalesSo 209 = .ok (.iconst 0, 1) := by decide +kernel
theorem dL_areTalesSo_210 : decode cL_areTalesSo 210 = .ok (.istore 14, 2) := by decide +kernel
theorem dL_areTalesSo_212 : decode cL_areTalesSo 212 = .ok (.aload_n 0, 1) := by decide +kernel
theorem dL_areTalesSo_213 : decode cL_areTalesSo 213 = .ok (.invokevirtual 79, 3) := by decide +kernel
theorem dL_areTalesSo_216 : decode cL_areTalesSo 216 = .ok (.istore 14, 2) := by decide +kernel
theorem dL_areTalesSo_218 : decode cL_areTalesSo 218 = .ok (.iinc 15 1, 3) := by decide +kernel
theorem dL_areTalesSo_221 : decode cL_areTalesSo 221 = .ok (.goto (-66), 3) := by decide +kernel
theorem dL_areTalesSo_224 : decode cL_areTalesSo 224 = .ok (.aload_n 0, 1) := by decide +kernel
theorem dL_areTalesSo_225 : decode cL_areTalesSo 225 = .ok (.invokevirtual 79, 3) := by decide +kernel
theorem dL_areTalesSo_228 : decode cL_areTalesSo 228 = .ok (.istore 14, 2) := by decide +kernel
theorem dL_areTalesSo_230 : decode cL_areTalesSo 230 = .ok (.iload 10, 2) := by decide +kernel
theorem dL_areTalesSo_232 : decode cL_areTalesSo 232 = .ok (.ifCond .eq 28, 3) := by decide +kernel
theorem dL_areTalesSo_235 : decode cL_areTalesSo 235 = .ok (.iload 12, 2) := by decide +kernel
theorem dL_areTalesSo_237 : decode cL_areTalesSo 237 = .ok (.aload_n 0, 1) := by decide +kernel
theorem dL_areTalesSo_238 : decode cL_areTalesSo 238 = .ok (.bipush 11, 2) := by decide +kernel
theorem dL_areTalesSo_240 : decode cL_areTalesSo 240 = .ok (.invokevirtual 31, 3) := by decide +kernel
theorem dL_areTalesSo_243 : decode cL_areTalesSo 243 = .ok (.if_icmp .ne 17, 3) := by decide +kernel
theorem dL_areTalesSo_246 : decode cL_areTalesSo 246 = .ok (.aload_n 0, 1) := by decide +kernel
theorem dL_areTalesSo_247 : decode cL_areTalesSo 247 = .ok (.iconst 5, 1) := by decide +kernel
theorem dL_areTalesSo_248 : decode cL_areTalesSo 248 = .ok (.invokevirtual 31, 3) := by decide +kernel
theorem dL_areTalesSo_251 : decode cL_areTalesSo 251 = .ok (.iload 11, 2) := by decide +kernel
theorem dL_areTalesSo_253 : decode cL_areTalesSo 253 = .ok (.if_icmp .ne 7, 3) := by decide +kernel
theorem dL_areTalesSo_256 : decode cL_areTalesSo 256 = .ok (.iconst 1, 1) := by decide +kernel
theorem dL_areTalesSo_257 : decode cL_areTalesSo 257 = .ok (.goto 4, 3) := by decide +kernel
theorem dL_areTalesSo_260 : decode cL_areTalesSo 260 = .ok (.iconst 0, 1) := by decide +kernel
theorem dL_areTalesSo_261 : decode cL_areTalesSo 261 = .ok (.istore 10, 2) := by decide +kernel
theorem dL_areTalesSo_263 : decode cL_areTalesSo 263 = .ok (.aload_n 0, 1) := by decide +kernel
theorem dL_areTalesSo_264 : decode cL_areTalesSo 264 = .ok (.iload_n 3, 1) := by decide +kernel
theorem dL_areTalesSo_265 : decode cL_areTalesSo 265 = .ok (.iload 4, 2) := by decide +kernel
theorem dL_areTalesSo_267 : decode cL_areTalesSo 267 = .ok (.invokevirtual 37, 3) := by decide +kernel
theorem dL_areTalesSo_270 : decode cL_areTalesSo 270 = .ok (.istore 15, 2) := by decide +kernel
theorem dL_areTalesSo_272 : decode cL_areTalesSo 272 = .ok (.iload 15, 2) := by decide +kernel
theorem dL_areTalesSo_274 : decode cL_areTalesSo 274 = .ok (.ifCond .lt 57, 3) := by decide +kernel
theorem dL_areTalesSo_277 : decode cL_areTalesSo 277 = .ok (.aload_n 0, 1) := by decide +kernel
theorem dL_areTalesSo_278 : decode cL_areTalesSo 278 = .ok (.iload_n 2, 1) := by decide +kernel
theorem dL_areTalesSo_279 : decode cL_areTalesSo 279 = .ok (.invokevirtual 43, 3) := by decide +kernel
theorem dL_areTalesSo_282 : decode cL_areTalesSo 282 = .ok (.istore 13, 2) := by decide +kernel
theorem dL_areTalesSo_284 : decode cL_areTalesSo 284 = .ok (.iload 10, 2) := by decide +kernel
theorem dL_areTalesSo_286 : decode cL_areTalesSo 286 = .ok (.ifCond .eq 21, 3) := by decide +kernel
theorem dL_areTalesSo_289 : decode cL_areTalesSo 289 = .ok (.iload 13, 2) := by decide +kernel
theorem dL_areTalesSo_291 : decode cL_areTalesSo 291 = .ok (.bipush (-5), 2) := by decide +kernel
theorem dL_areTalesSo_293 : decode cL_areTalesSo 293 = .ok (.if_icmp .eq 10, 3) := by decide +kernel
theorem dL_areTalesSo_296 : decode cL_areTalesSo 296 = .ok (.iload 13, 2) := by decide +kernel
theorem dL_areTalesSo_298 : decode cL_areTalesSo 298 = .ok (.iload 9, 2) := by decide +kernel
theorem dL_areTalesSo_300 : decode cL_areTalesSo 300 = .ok (.if_icmp .ne 7, 3) := by decide +kernel
theorem dL_areTalesSo_303 : decode cL_areTalesSo 303 = .ok (.iconst 1, 1) := by decide +kernel
theorem dL_areTalesSo_304 : decode cL_areTalesSo 304 = .ok (.goto 4, 3) := by decide +kernel
theorem dL_areTalesSo_307 : decode cL_areTalesSo 307 = .ok (.iconst 0, 1) := by decide +kernel
theorem dL_areTalesSo_308 : decode cL_areTalesSo 308 = .ok (.istore 10, 2) := by decide +kernel
theorem dL_areTalesSo_310 : decode cL_areTalesSo 310 = .ok (.iload 13, 2) := by decide +kernel
theorem dL_areTalesSo_312 : decode cL_areTalesSo 312 = .ok (.ifCond .lt 10, 3) := by decide +kernel
theorem dL_areTalesSo_315 : decode cL_areTalesSo 315 = .ok (.aload_n 0, 1) := by decide +kernel
theorem dL_areTalesSo_316 : decode cL_areTalesSo 316 = .ok (.invokevirtual 79, 3) := by decide +kernel
theorem dL_areTalesSo_319 : decode cL_areTalesSo 319 = .ok (.goto 4, 3) := by decide +kernel
theorem dL_areTalesSo_322 : decode cL_areTalesSo 322 = .ok (.iconst 0, 1) := by decide +kernel
theorem dL_areTalesSo_323 : decode cL_areTalesSo 323 = .ok (.istore 14, 2) := by decide +kernel
theorem dL_areTalesSo_325 : decode cL_areTalesSo 325 = .ok (.aload_n 0, 1) := by decide +kernel
theorem dL_areTalesSo_326 : decode cL_areTalesSo 326 = .ok (.invokevirtual 79, 3) := by decide +kernel
theorem dL_areTalesSo_329 : decode cL_areTalesSo 329 = .ok (.istore 14, 2) := by decide +kernel
theorem dL_areTalesSo_331 : decode cL_areTalesSo 331 = .ok (.iload 5, 2) := by decide +kernel
theorem dL_areTalesSo_333 : decode cL_areTalesSo 333 = .ok (.ifCond .le 160, 3) := by decide +kernel
theorem dL_areTalesSo_336 : decode cL_areTalesSo 336 = .ok (.iload 5, 2) := by decide +kernel
theorem dL_areTalesSo_338 : decode cL_areTalesSo 338 = .ok (.bipush 100, 2) := by decide +kernel
theorem dL_areTalesSo_340 : decode cL_areTalesSo 340 = .ok (.if_icmp .ge 153, 3) := by decide +kernel
theorem dL_areTalesSo_343 : decode cL_areTalesSo 343 = .ok (.aload_n 0, 1) := by decide +kernel
theorem dL_areTalesSo_344 : decode cL_areTalesSo 344 = .ok (.iload_n 1, 1) := by decide +kernel
theorem dL_areTalesSo_345 : decode cL_areTalesSo 345 = .ok (.iconst 4, 1) := by decide +kernel
theorem dL_areTalesSo_346 : decode cL_areTalesSo 346 = .ok (.invokevirtual 55, 3) := by decide +kernel
theorem dL_areTalesSo_349 : decode cL_areTalesSo 349 = .ok (.istore 16, 2) := by decide +kernel
theorem dL_areTalesSo_351 : decode cL_areTalesSo 351 = .ok (.iload 5, 2) := by decide +kernel
theorem dL_areTalesSo_353 : decode cL_areTalesSo 353 = .ok (.iconst 1, 1) := by decide +kernel
theorem dL_areTalesSo_354 : decode cL_areTalesSo 354 = .ok (.if_icmp .ne 7, 3) := by decide +kernel
theorem dL_areTalesSo_357 : decode cL_areTalesSo 357 = .ok (.iconst 0, 1) := by decide +kernel
theorem dL_areTalesSo_358 : decode cL_areTalesSo 358 = .ok (.goto 11, 3) := by decide +kernel
theorem dL_areTalesSo_361 : decode cL_areTalesSo 361 = .ok (.aload_n 0, 1) := by decide +kernel
theorem dL_areTalesSo_362 : decode cL_areTalesSo 362 = .ok (.iload 5, 2) := by decide +kernel
theorem dL_areTalesSo_364 : decode cL_areTalesSo 364 = .ok (.iconst 1, 1) := by decide +kernel
theorem dL_areTalesSo_365 : decode cL_areTalesSo 365 = .ok (.isub, 1) := by decide +kernel
theorem dL_areTalesSo_366 : decode cL_areTalesSo 366 = .ok (.invokevirtual 43, 3) := by decide +kernel
theorem dL_areTalesSo_369 : decode cL_areTalesSo 369 = .ok (.istore 13, 2) := by decide +kernel
theorem dL_areTalesSo_371 : decode cL_areTalesSo 371 = .ok (.iload 10, 2) := by decide +kernel
theorem dL_areTalesSo_373 : decode cL_areTalesSo 373 = .ok (.ifCond .eq 35, 3) := by decide +kernel
theorem dL_areTalesSo_376 : decode cL_areTalesSo 376 = .ok (.iload 13, 2) := by decide +kernel
theorem dL_areTalesSo_378 : decode cL_areTalesSo 378 = .ok (.ifCond .lt 26, 3) := by decide +kernel
theorem dL_areTalesSo_381 : decode cL_areTalesSo 381 = .ok (.aload_n 0, 1) := by decide +kernel
theorem dL_areTalesSo_382 : decode cL_areTalesSo 382 = .ok (.iload_n 1, 1) := by decide +kernel
theorem dL_areTalesSo_383 : decode cL_areTalesSo 383 = .ok (.iconst 4, 1) := by decide +kernel
theorem dL_areTalesSo_384 : decode cL_areTalesSo 384 = .ok (.invokevirtual 55, 3) := by decide +kernel
theorem dL_areTalesSo_387 : decode cL_areTalesSo 387 = .ok (.iload 16, 2) := by decide +kernel
theorem dL_areTalesSo_389 : decode cL_areTalesSo 389 = .ok (.aload_n 0, 1) := by decide +kernel
theorem dL_areTalesSo_390 : decode cL_areTalesSo 390 = .ok (.bipush 11, 2) := by decide +kernel
theorem dL_areTalesSo_392 : decode cL_areTalesSo 392 = .ok (.invokevirtual 31, 3) := by decide +kernel
theorem dL_areTalesSo_395 : decode cL_areTalesSo 395 = .ok (.iload 5, 2) := by decide +kernel
theorem dL_areTalesSo_397 : decode cL_areTalesSo 397 = .ok (.iconst 1, 1) := by decide +kernel
theorem dL_areTalesSo_398 : decode cL_areTalesSo 398 = .ok (.isub, 1) := by decide +kernel
theorem dL_areTalesSo_399 : decode cL_areTalesSo 399 = .ok (.imul, 1) := by decide +kernel
theorem dL_areTalesSo_400 : decode cL_areTalesSo 400 = .ok (.iadd, 1) := by decide +kernel
theorem dL_areTalesSo_401 : decode cL_areTalesSo 401 = .ok (.if_icmp .ne 7, 3) := by decide +kernel
theorem dL_areTalesSo_404 : decode cL_areTalesSo 404 = .ok (.iconst 1, 1) := by decide +kernel
theorem dL_areTalesSo_405 : decode cL_areTalesSo 405 = .ok (.goto 4, 3) := by decide +kernel
theorem dL_areTalesSo_408 : decode cL_areTalesSo 408 = .ok (.iconst 0, 1) := by decide +kernel
theorem dL_areTalesSo_409 : decode cL_areTalesSo 409 = .ok (.istore 10, 2) := by decide +kernel
theorem dL_areTalesSo_411 : decode cL_areTalesSo 411 = .ok (.iload 5, 2) := by decide +kernel
theorem dL_areTalesSo_413 : decode cL_areTalesSo 413 = .ok (.iconst 1, 1) := by decide +kernel
theorem dL_areTalesSo_414 : decode cL_areTalesSo 414 = .ok (.if_icmp .le 15, 3) := by decide +kernel
theorem dL_areTalesSo_417 : decode cL_areTalesSo 417 = .ok (.iload 13, 2) := by decide +kernel
theorem dL_areTalesSo_419 : decode cL_areTalesSo 419 = .ok (.ifCond .lt 10, 3) := by decide +kernel
theorem dL_areTalesSo_422 : decode cL_areTalesSo 422 = .ok (.aload_n 0, 1) := by decide +kernel
theorem dL_areTalesSo_423 : decode cL_areTalesSo 423 = .ok (.invokevirtual 79, 3) := by decide +kernel
theorem dL_areTalesSo_426 : decode cL_areTalesSo 426 = .ok (.goto 4, 3) := by decide +kernel
theorem dL_areTalesSo_429 : decode cL_areTalesSo 429 = .ok (.iconst 0, 1) := by decide +kernel
theorem dL_areTalesSo_430 : decode cL_areTalesSo 430 = .ok (.istore 14, 2) := by decide +kernel
theorem dL_areTalesSo_432 : decode cL_areTalesSo 432 = .ok (.aload_n 0, 1) := by decide +kernel
theorem dL_areTalesSo_433 : decode cL_areTalesSo 433 = .ok (.iload 5, 2) := by decide +kernel
theorem dL_areTalesSo_435 : decode cL_areTalesSo 435 = .ok (.invokevirtual 43, 3) := by decide +kernel
theorem dL_areTalesSo_438 : decode cL_areTalesSo 438 = .ok (.istore 13, 2) := by decide +kernel
theorem dL_areTalesSo_440 : decode cL_areTalesSo 440 = .ok (.iload 10, 2) := by decide +kernel
theorem dL_areTalesSo_442 : decode cL_areTalesSo 442 = .ok (.ifCond .eq 33, 3) := by decide +kernel
theorem dL_areTalesSo_445 : decode cL_areTalesSo 445 = .ok (.iload 13, 2) := by decide +kernel
theorem dL_areTalesSo_447 : decode cL_areTalesSo 447 = .ok (.ifCond .lt 24, 3) := by decide +kernel
theorem dL_areTalesSo_450 : decode cL_areTalesSo 450 = .ok (.aload_n 0, 1) := by decide +kernel
theorem dL_areTalesSo_451 : decode cL_areTalesSo 451 = .ok (.iload_n 1, 1) := by decide +kernel
theorem dL_areTalesSo_452 : decode cL_areTalesSo 452 = .ok (.iconst 4, 1) := by decide +kernel
theorem dL_areTalesSo_453 : decode cL_areTalesSo 453 = .ok (.invokevirtual 55, 3) := by decide +kernel
theorem dL_areTalesSo_456 : decode cL_areTalesSo 456 = .ok (.iload 16, 2) := by decide +kernel
theorem dL_areTalesSo_458 : decode cL_areTalesSo 458 = .ok (.aload_n 0, 1) := by decide +kernel
theorem dL_areTalesSo_459 : decode cL_areTalesSo 459 = .ok (.bipush 11, 2) := by decide +kernel
theorem dL_areTalesSo_461 : decode cL_areTalesSo 461 = .ok (.invokevirtual 31, 3) := by decide +kernel
theorem dL_areTalesSo_464 : decode cL_areTalesSo 464 = .ok (.iload 5, 2) := by decide +kernel
theorem dL_areTalesSo_466 : decode cL_areTalesSo 466 = .ok (.imul, 1) := by decide +kernel
theorem dL_areTalesSo_467 : decode cL_areTalesSo 467 = .ok (.iadd, 1) := by decide +kernel
theorem dL_areTalesSo_468 : decode cL_areTalesSo 468 = .ok (.if_icmp .ge 7, 3) := by decide +kernel
theorem dL_areTalesSo_471 : decode cL_areTalesSo 471 = .ok (.iconst 1, 1) := by decide +kernel
theorem dL_areTalesSo_472 : decode cL_areTalesSo 472 = .ok (.goto 4, 3) := by decide +kernel
theorem dL_areTalesSo_475 : decode cL_areTalesSo 475 = .ok (.iconst 0, 1) := by decide +kernel
theorem dL_areTalesSo_476 : decode cL_areTalesSo 476 = .ok (.istore 10, 2) := by decide +kernel
theorem dL_areTalesSo_478 : decode cL_areTalesSo 478 = .ok (.iload 13, 2) := by decide +kernel
theorem dL_areTalesSo_480 : decode cL_areTalesSo 480 = .ok (.ifCond .lt 10, 3) := by decide +kernel
theorem dL_areTalesSo_483 : decode cL_areTalesSo 483 = .ok (.aload_n 0, 1) := by decide +kernel
theorem dL_areTalesSo_484 : decode cL_areTalesSo 484 = .ok (.invokevirtual 79, 3) := by decide +kernel
theorem dL_areTalesSo_487 : decode cL_areTalesSo 487 = .ok (.goto 4, 3) := by decide +kernel
theorem dL_areTalesSo_490 : decode cL_areTalesSo 490 = .ok (.iconst 0, 1) := by decide +kernel
theorem dL_areTalesSo_491 : decode cL_areTalesSo 491 = .ok (.istore 14, 2) := by decide +kernel
theorem dL_areTalesSo_493 : decode cL_areTalesSo 493 = .ok (.iload 10, 2) := by decide +kernel
theorem dL_areTalesSo_495 : decode cL_areTalesSo 495 = .ok (.ifCond .eq 22, 3) := by decide +kernel
theorem dL_areTalesSo_498 : decode cL_areTalesSo 498 = .ok (.iload 14, 2) := by decide +kernel
theorem dL_areTalesSo_500 : decode cL_areTalesSo 500 = .ok (.ifCond .lt 17, 3) := by decide +kernel
theorem dL_areTalesSo_503 : decode cL_areTalesSo 503 = .ok (.aload_n 0, 1) := by decide +kernel
theorem dL_areTalesSo_504 : decode cL_areTalesSo 504 = .ok (.iconst 5, 1) := by decide +kernel
theorem dL_areTalesSo_505 : decode cL_areTalesSo 505 = .ok (.invokevirtual 31, 3) := by decide +kernel
theorem dL_areTalesSo_508 : decode cL_areTalesSo 508 = .ok (.iload 11, 2) := by decide +kernel
theorem dL_areTalesSo_510 : decode cL_areTalesSo 510 = .ok (.if_icmp .ne 7, 3) := by decide +kernel
theorem dL_areTalesSo_513 : decode cL_areTalesSo 513 = .ok (.iconst 1, 1) := by decide +kernel
theorem dL_areTalesSo_514 : decode cL_areTalesSo 514 = .ok (.goto 4, 3) := by decide +kernel
theorem dL_areTalesSo_517 : decode cL_areTalesSo 517 = .ok (.iconst 0, 1) := by decide +kernel
theorem dL_areTalesSo_518 : decode cL_areTalesSo 518 = .ok (.ireturn, 1) := by decide +kernel
def wp_L_areTalesSo_b493 (x1 : Int32) (x2 : Int32) (x3 : Int32) (x4 : Int32) (Q : Int32 → Sg → Prop) (v10 : Int32) (v11 : Int32) (v14 : Int32) (σ : Sg) : Prop := ((v10 = 0 → Q (0 : Int32) σ) ∧ (¬ v10 = 0 → ((v14 < 0 → Q (0 : Int32) σ) ∧ (¬ v14 < 0 → wp_X5_count (5 : Int32) σ (fun r61 σ62 => ((¬ r61 = v11 → Q (0 : Int32) σ62) ∧ (r61 = v11 → Q (1 : Int32) σ62)))))))
set_option maxRecDepth 100000 in
set_option maxHeartbeats 4000000 in
theorem g_L_areTalesSo_b493 {X : Tx} {Q : Int32 → Sg → Prop} (C : Cx X cL_areTalesSo "SweetWrapsLaw" (some .boolean) 7 167 17 (QI (tE X) Q)) {x1 : Int32} {x2 : Int32} {x3 : Int32} {x4 : Int32} {v10 : Int32} {v11 : Int32} {v14 : Int32} {σ : Sg} (hw : wp_L_areTalesSo_b493 x1 x2 x3 x4 Q v10 v11 v14 σ) : G X σ [(0, .ref (ad (tE X) 11 10 0)), (10, .int v10), (11, .int v11), (14, .int v14)] [] 493 := by
  unfold wp_L_areTalesSo_b493 at hw
  refine gx_iload C dL_areTalesSo_493 1 rfl ?_
  refine gx_if_eq (tgt := 517) C dL_areTalesSo_495 (by decide) (fun c59 => ?_) (fun c59 => ?_)
  · replace hw := hw.1 c59
    refine gx_iconst (v := (0 : Int32)) C dL_areTalesSo_517 (by decide) ?_
    exact gx_iret C rfl rfl dL_areTalesSo_518 hw
  · replace hw := hw.2 c59
    refine gx_iload C dL_areTalesSo_498 3 rfl ?_
    refine gx_if_lt (tgt := 517) C dL_areTalesSo_500 (by decide) (fun c60 => ?_) (fun c60 => ?_)
    · replace hw := hw.1 c60
      refine gx_iconst (v := (0 : Int32)) C dL_areTalesSo_517 (by decide) ?_
      exact gx_iret C rfl rfl dL_areTalesSo_518 hw
    · replace hw := hw.2 c60
      refine gx_aload_n C dL_areTalesSo_503 0 rfl ?_
      refine gx_iconst (v := (5 : Int32)) C dL_areTalesSo_504 (by decide) ?_
      refine gx_vcalli (As := [.int (5 : Int32)]) (rest := []) C (c_X5_count _ _ hw) okg_10 rfl rfl bw_270 bw_271 bw_272 bw_1 bw_273 hy_X5_count ⟨by decide, by decide⟩ rfl (Nat.le_of_ble_eq_true rfl) dL_areTalesSo_505 (fun r61 σ62 hw => ?_)
      refine gx_iload C dL_areTalesSo_508 2 rfl ?_
      refine gx_icmp_ne (tgt := 517) C dL_areTalesSo_510 (by decide) (fun c63 => ?_) (fun c63 => ?_)
      · replace hw := hw.1 c63
        refine gx_iconst (v := (0 : Int32)) C dL_areTalesSo_517 (by decide) ?_
        exact gx_iret C rfl rfl dL_areTalesSo_518 hw
      · replace hw := hw.2 c63
        refine gx_iconst (v := (1 : Int32)) C dL_areTalesSo_513 (by decide) ?_
        refine gx_goto (tgt := 518) C dL_areTalesSo_514 (by decide) ?_
        exact gx_iret C rfl rfl dL_areTalesSo_518 hw
def wp_L_areTalesSo_b491 (x1 : Int32) (x2 : Int32) (x3 : Int32) (x4 : Int32) (Q : Int32 → Sg → Prop) (v10 : Int32) (v11 : Int32) (s0 : Int32) (σ : Sg) : Prop := wp_L_areTalesSo_b493 x1 x2 x3 x4 Q v10 v11 s0 σ
set_option maxRecDepth 100000 in
set_option maxHeartbeats 4000000 in
theorem g_L_areTalesSo_b491 {X : Tx} {Q : Int32 → Sg → Prop} (C : Cx X cL_areTalesSo "SweetWrapsLaw" (some .boolean) 7 167 17 (QI (tE X) Q)) {x1 : Int32} {x2 : Int32} {x3 : Int32} {x4 : Int32} {v10 : Int32} {v11 : Int32} {s0 : Int32} {σ : Sg} (hw : wp_L_areTalesSo_b491 x1 x2 x3 x4 Q v10 v11 s0 σ) : G X σ [(0, .ref (ad (tE X) 11 10 0)), (10, .int v10), (11, .int v11)] [.int s0] 491 := by
  unfold wp_L_areTalesSo_b491 at hw
  refine gx_istore (lv' := [(14, .int s0), (0, .ref (ad (tE X) 11 10 0)), (10, .int v10), (11, .int v11)]) C dL_areTalesSo_491 (by decide) rfl ?_
  refine gx_sub (lv' := [(0, .ref (ad (tE X) 11 10 0)), (10, .int v10), (11, .int v11), (14, .int s0)]) [1, 2, 3, 0] rfl ?_
  exact g_L_areTalesSo_b493 C hw
def wp_L_areTalesSo_b476 (x1 : Int32) (x2 : Int32) (x3 : Int32) (x4 : Int32) (Q : Int32 → Sg → Prop) (v11 : Int32) (v13 : Int32) (s0 : Int32) (σ : Sg) : Prop := ((v13 < 0 → wp_L_areTalesSo_b491 x1 x2 x3 x4 Q s0 v11 (0 : Int32) σ) ∧ (¬ v13 < 0 → wp_X5_undo σ (fun r85 σ86 => wp_L_areTalesSo_b491 x1 x2 x3 x4 Q s0 v11 r85 σ86)))
set_option maxRecDepth 100000 in
set_option maxHeartbeats 4000000 in
theorem g_L_areTalesSo_b476 {X : Tx} {Q : Int32 → Sg → Prop} (C : Cx X cL_areTalesSo "SweetWrapsLaw" (some .boolean) 7 167 17 (QI (tE X) Q)) {x1 : Int32} {x2 : Int32} {x3 : Int32} {x4 : Int32} {v11 : Int32} {v13 : Int32} {s0 : Int32} {σ : Sg} (hw : wp_L_areTalesSo_b476 x1 x2 x3 x4 Q v11 v13 s0 σ) : G X σ [(0, .ref (ad (tE X) 11 10 0)), (11, .int v11), (13, .int v13)] [.int s0] 476 := by
  unfold wp_L_areTalesSo_b476 at hw
  refine gx_istore (lv' := [(10, .int s0), (0, .ref (ad (tE X) 11 10 0)), (11, .int v11), (13, .int v13)]) C dL_areTalesSo_476 (by decide) rfl ?_
  refine gx_iload C dL_areTalesSo_478 3 rfl ?_
  refine gx_if_lt (tgt := 490) C dL_areTalesSo_480 (by decide) (fun c84 => ?_) (fun c84 => ?_)
  · replace hw := hw.1 c84
    refine gx_iconst (v := (0 : Int32)) C dL_areTalesSo_490 (by decide) ?_
    refine gx_sub (lv' := [(0, .ref (ad (tE X) 11 10 0)), (10, .int s0), (11, .int v11)]) [1, 0, 2] rfl ?_
    exact g_L_areTalesSo_b491 C hw
  · replace hw := hw.2 c84
    refine gx_aload_n C dL_areTalesSo_483 1 rfl ?_
    refine gx_vcalli (As := []) (rest := []) C (c_X5_undo _ _ hw) okg_10 rfl rfl bw_524 bw_525 bw_526 bw_1 bw_527 hy_X5_undo ⟨by decide, by decide⟩ rfl (Nat.le_of_ble_eq_true rfl) dL_areTalesSo_484 (fun r85 σ86 hw => ?_)
    refine gx_goto (tgt := 491) C dL_areTalesSo_487 (by decide) ?_
    refine gx_sub (lv' := [(0, .ref (ad (tE X) 11 10 0)), (10, .int s0), (11, .int v11)]) [1, 0, 2] rfl ?_
    exact g_L_areTalesSo_b491 C hw
def wp_L_areTalesSo_b475 (x1 : Int32) (x2 : Int32) (x3 : Int32) (x4 : Int32) (Q : Int32 → Sg → Prop) (v11 : Int32) (v13 : Int32) (σ : Sg) : Prop := wp_L_areTalesSo_b476 x1 x2 x3 x4 Q v11 v13 (0 : Int32) σ
set_option maxRecDepth 100000 in
set_option maxHeartbeats 4000000 in
theorem g_L_areTalesSo_b475 {X : Tx} {Q : Int32 → Sg → Prop} (C : Cx X cL_areTalesSo "SweetWrapsLaw" (some .boolean) 7 167 17 (QI (tE X) Q)) {x1 : Int32} {x2 : Int32} {x3 : Int32} {x4 : Int32} {v11 : Int32} {v13 : Int32} {σ : Sg} (hw : wp_L_areTalesSo_b475 x1 x2 x3 x4 Q v11 v13 σ) : G X σ [(0, .ref (ad (tE X) 11 10 0)), (11, .int v11), (13, .int v13)] [] 475 := by
  unfold wp_L_areTalesSo_b475 at hw
  refine gx_iconst (v := (0 : Int32)) C dL_areTalesSo_475 (by decide) ?_
  exact g_L_areTalesSo_b476 C hw
def wp_L_areTalesSo_b471 (x1 : Int32) (x2 : Int32) (x3 : Int32) (x4 : Int32) (Q : Int32 → Sg → Prop) (v11 : Int32) (v13 : Int32) (σ : Sg) : Prop := wp_L_areTalesSo_b476 x1 x2 x3 x4 Q v11 v13 (1 : Int32) σ
set_option maxRecDepth 100000 in
set_option maxHeartbeats 4000000 in
theorem g_L_areTalesSo_b471 {X : Tx} {Q : Int32 → Sg → Prop} (C : Cx X cL_areTalesSo "SweetWrapsLaw" (some .boolean) 7 167 17 (QI (tE X) Q)) {x1 : Int32} {x2 : Int32} {x3 : Int32} {x4 : Int32} {v11 : Int32} {v13 : Int32} {σ : Sg} (hw : wp_L_areTalesSo_b471 x1 x2 x3 x4 Q v11 v13 σ) : G X σ [(0, .ref (ad (tE X) 11 10 0)), (11, .int v11), (13, .int v13)] [] 471 := by
  unfold wp_L_areTalesSo_b471 at hw
  refine gx_iconst (v := (1 : Int32)) C dL_areTalesSo_471 (by decide) ?_
  refine gx_goto (tgt := 476) C dL_areTalesSo_472 (by decide) ?_
  exact g_L_areTalesSo_b476 C hw
def wp_L_areTalesSo_b430 (x1 : Int32) (x2 : Int32) (x3 : Int32) (x4 : Int32) (Q : Int32 → Sg → Prop) (v5 : Int32) (v10 : Int32) (v11 : Int32) (v16 : Int32) (s0 : Int32) (σ : Sg) : Prop := wp_X5_run v5 σ (fun r75 σ76 => ((v10 = 0 → wp_L_areTalesSo_b475 x1 x2 x3 x4 Q v11 r75 σ76) ∧ (¬ v10 = 0 → ((r75 < 0 → wp_L_areTalesSo_b471 x1 x2 x3 x4 Q v11 r75 σ76) ∧ (¬ r75 < 0 → wp_X5_of x1 (4 : Int32) σ76 (fun r79 σ80 => wp_X5_count (11 : Int32) σ80 (fun r81 σ82 => (((v16 + (r81 * v5)) ≤ r79 → wp_L_areTalesSo_b475 x1 x2 x3 x4 Q v11 r75 σ82) ∧ (¬ (v16 + (r81 * v5)) ≤ r79 → wp_L_areTalesSo_b471 x1 x2 x3 x4 Q v11 r75 σ82)))))))))
set_option maxRecDepth 100000 in
set_option maxHeartbeats 4000000 in
theorem g_L_areTalesSo_b430 {X : Tx} {Q : Int32 → Sg → Prop} (C : Cx X cL_areTalesSo "SweetWrapsLaw" (some .boolean) 7 167 17 (QI (tE X) Q)) {x1 : Int32} {x2 : Int32} {x3 : Int32} {x4 : Int32} {v5 : Int32} {v10 : Int32} {v11 : Int32} {v16 : Int32} {s0 : Int32} {σ : Sg} (hw : wp_L_areTalesSo_b430 x1 x2 x3 x4 Q v5 v10 v11 v16 s0 σ) : G X σ [(0, .ref (ad (tE X) 11 10 0)), (1, .int x1), (5, .int v5), (10, .int v10), (11, .int v11), (16, .int v16)] [.int s0] 430 := by
  unfold wp_L_areTalesSo_b430 at hw
  refine gx_istore (lv' := [(14, .int s0), (0, .ref (ad (tE X) 11 10 0)), (1, .int x1), (5, .int v5), (10, .int v10), (11, .int v11), (16, .int v16)]) C dL_areTalesSo_430 (by decide) rfl ?_
  refine gx_aload_n C dL_areTalesSo_432 1 rfl ?_
  refine gx_iload C dL_areTalesSo_433 3 rfl ?_
  refine gx_vcalli (As := [.int v5]) (rest := []) C (c_X5_run _ _ hw) okg_10 rfl rfl bw_371 bw_372 bw_373 bw_1 bw_374 hy_X5_run ⟨by decide, by decide⟩ rfl (Nat.le_of_ble_eq_true rfl) dL_areTalesSo_435 (fun r75 σ76 hw => ?_)
  refine gx_istore (lv' := [(13, .int r75), (14, .int s0), (0, .ref (ad (tE X) 11 10 0)), (1, .int x1), (5, .int v5), (10, .int v10), (11, .int v11), (16, .int v16)]) C dL_areTalesSo_438 (by decide) rfl ?_
  refine gx_iload C dL_areTalesSo_440 5 rfl ?_
  refine gx_if_eq (tgt := 475) C dL_areTalesSo_442 (by decide) (fun c77 => ?_) (fun c77 => ?_)
  · replace hw := hw.1 c77
    refine gx_sub (lv' := [(0, .ref (ad (tE X) 11 10 0)), (11, .int v11), (13, .int r75)]) [2, 6, 0] rfl ?_
    exact g_L_areTalesSo_b475 C hw
  · replace hw := hw.2 c77
    refine gx_iload C dL_areTalesSo_445 0 rfl ?_
    refine gx_if_lt (tgt := 471) C dL_areTalesSo_447 (by decide) (fun c78 => ?_) (fun c78 => ?_)
    · replace hw := hw.1 c78
      refine gx_sub (lv' := [(0, .ref (ad (tE X) 11 10 0)), (11, .int v11), (13, .int r75)]) [2, 6, 0] rfl ?_
      exact g_L_areTalesSo_b471 C hw
    · replace hw := hw.2 c78
      refine gx_aload_n C dL_areTalesSo_450 2 rfl ?_
      refine gx_iload_n C dL_areTalesSo_451 3 rfl ?_
      refine gx_iconst (v := (4 : Int32)) C dL_areTalesSo_452 (by decide) ?_
      refine gx_vcalli (As := [.int x1, .int (4 : Int32)]) (rest := []) C (c_X5_of _ _ hw) okg_10 rfl rfl bw_449 bw_450 bw_451 bw_1 bw_452 hy_X5_of ⟨by decide, by decide⟩ rfl (Nat.le_of_ble_eq_true rfl) dL_areTalesSo_453 (fun r79 σ80 hw => ?_)
      refine gx_iload C dL_areTalesSo_456 7 rfl ?_
      refine gx_aload_n C dL_areTalesSo_458 2 rfl ?_
      refine gx_bipush (v := (11 : Int32)) C dL_areTalesSo_459 (by decide) ?_
      refine gx_vcalli (As := [.int (11 : Int32)]) (rest := [.int v16, .int r79]) C (c_X5_count _ _ hw) okg_10 rfl rfl bw_270 bw_271 bw_272 bw_1 bw_273 hy_X5_count ⟨by decide, by decide⟩ rfl (Nat.le_of_ble_eq_true rfl) dL_areTalesSo_461 (fun r81 σ82 hw => ?_)
      refine gx_iload C dL_areTalesSo_464 4 rfl ?_
      refine gx_imul C dL_areTalesSo_466 ?_
      refine gx_iadd C dL_areTalesSo_467 ?_
      refine gx_icmp_ge (tgt := 475) C dL_areTalesSo_468 (by decide) (fun c83 => ?_) (fun c83 => ?_)
      · replace hw := hw.1 c83
        refine gx_sub (lv' := [(0, .ref (ad (tE X) 11 10 0)), (11, .int v11), (13, .int r75)]) [2, 6, 0] rfl ?_
        exact g_L_areTalesSo_b475 C hw
      · replace hw := hw.2 c83
        refine gx_sub (lv' := [(0, .ref (ad (tE X) 11 10 0)), (11, .int v11), (13, .int r75)]) [2, 6, 0] rfl ?_
        exact g_L_areTalesSo_b471 C hw
def wp_L_areTalesSo_b429 (x1 : Int32) (x2 : Int32) (x3 : Int32) (x4 : Int32) (Q : Int32 → Sg → Prop) (v5 : Int32) (v10 : Int32) (v11 : Int32) (v16 : Int32) (σ : Sg) : Prop := wp_L_areTalesSo_b430 x1 x2 x3 x4 Q v5 v10 v11 v16 (0 : Int32) σ
set_option maxRecDepth 100000 in
set_option maxHeartbeats 4000000 in
theorem g_L_areTalesSo_b429 {X : Tx} {Q : Int32 → Sg → Prop} (C : Cx X cL_areTalesSo "SweetWrapsLaw" (some .boolean) 7 167 17 (QI (tE X) Q)) {x1 : Int32} {x2 : Int32} {x3 : Int32} {x4 : Int32} {v5 : Int32} {v10 : Int32} {v11 : Int32} {v16 : Int32} {σ : Sg} (hw : wp_L_areTalesSo_b429 x1 x2 x3 x4 Q v5 v10 v11 v16 σ) : G X σ [(0, .ref (ad (tE X) 11 10 0)), (1, .int x1), (5, .int v5), (10, .int v10), (11, .int v11), (16, .int v16)] [] 429 := by
  unfold wp_L_areTalesSo_b429 at hw
  refine gx_iconst (v := (0 : Int32)) C dL_areTalesSo_429 (by decide) ?_
  exact g_L_areTalesSo_b430 C hw
def wp_L_areTalesSo_b409 (x1 : Int32) (x2 : Int32) (x3 : Int32) (x4 : Int32) (Q : Int32 → Sg → Prop) (v5 : Int32) (v11 : Int32) (v13 : Int32) (v16 : Int32) (s0 : Int32) (σ : Sg) : Prop := ((v5 ≤ (1 : Int32) → wp_L_areTalesSo_b429 x1 x2 x3 x4 Q v5 s0 v11 v16 σ) ∧ (¬ v5 ≤ (1 : Int32) → ((v13 < 0 → wp_L_areTalesSo_b429 x1 x2 x3 x4 Q v5 s0 v11 v16 σ) ∧ (¬ v13 < 0 → wp_X5_undo σ (fun r73 σ74 => wp_L_areTalesSo_b430 x1 x2 x3 x4 Q v5 s0 v11 v16 r73 σ74)))))
set_option maxRecDepth 100000 in
set_option maxHeartbeats 4000000 in
theorem g_L_areTalesSo_b409 {X : Tx} {Q : Int32 → Sg → Prop} (C : Cx X cL_areTalesSo "SweetWrapsLaw" (some .boolean) 7 167 17 (QI (tE X) Q)) {x1 : Int32} {x2 : Int32} {x3 : Int32} {x4 : Int32} {v5 : Int32} {v11 : Int32} {v13 : Int32} {v16 : Int32} {s0 : Int32} {σ : Sg} (hw : wp_L_areTalesSo_b409 x1 x2 x3 x4 Q v5 v11 v13 v16 s0 σ) : G X σ [(0, .ref (ad (tE X) 11 10 0)), (1, .int x1), (5, .int v5), (11, .int v11), (13, .int v13), (16, .int v16)] [.int s0] 409 := by
  unfold wp_L_areTalesSo_b409 at hw
  refine gx_istore (lv' := [(10, .int s0), (0, .ref (ad (tE X) 11 10 0)), (1, .int x1), (5, .int v5), (11, .int v11), (13, .int v13), (16, .int v16)]) C dL_areTalesSo_409 (by decide) rfl ?_
  refine gx_iload C dL_areTalesSo_411 3 rfl ?_
  refine gx_iconst (v := (1 : Int32)) C dL_areTalesSo_413 (by decide) ?_
  refine gx_icmp_le (tgt := 429) C dL_areTalesSo_414 (by decide) (fun c71 => ?_) (fun c71 => ?_)
  · replace hw := hw.1 c71
    refine gx_sub (lv' := [(0, .ref (ad (tE X) 11 10 0)), (1, .int x1), (5, .int v5), (10, .int s0), (11, .int v11), (16, .int v16)]) [1, 2, 3, 0, 4, 6] rfl ?_
    exact g_L_areTalesSo_b429 C hw
  · replace hw := hw.2 c71
    refine gx_iload C dL_areTalesSo_417 5 rfl ?_
    refine gx_if_lt (tgt := 429) C dL_areTalesSo_419 (by decide) (fun c72 => ?_) (fun c72 => ?_)
    · replace hw := hw.1 c72
      refine gx_sub (lv' := [(0, .ref (ad (tE X) 11 10 0)), (1, .int x1), (5, .int v5), (10, .int s0), (11, .int v11), (16, .int v16)]) [1, 2, 3, 0, 4, 6] rfl ?_
      exact g_L_areTalesSo_b429 C hw
    · replace hw := hw.2 c72
      refine gx_aload_n C dL_areTalesSo_422 1 rfl ?_
      refine gx_vcalli (As := []) (rest := []) C (c_X5_undo _ _ hw) okg_10 rfl rfl bw_524 bw_525 bw_526 bw_1 bw_527 hy_X5_undo ⟨by decide, by decide⟩ rfl (Nat.le_of_ble_eq_true rfl) dL_areTalesSo_423 (fun r73 σ74 hw => ?_)
      refine gx_goto (tgt := 430) C dL_areTalesSo_426 (by decide) ?_
      refine gx_sub (lv' := [(0, .ref (ad (tE X) 11 10 0)), (1, .int x1), (5, .int v5), (10, .int s0), (11, .int v11), (16, .int v16)]) [1, 2, 3, 0, 4, 6] rfl ?_
      exact g_L_areTalesSo_b430 C hw
def wp_L_areTalesSo_b408 (x1 : Int32) (x2 : Int32) (x3 : Int32) (x4 : Int32) (Q : Int32 → Sg → Prop) (v5 : Int32) (v11 : Int32) (v13 : Int32) (v16 : Int32) (σ : Sg) : Prop := wp_L_areTalesSo_b409 x1 x2 x3 x4 Q v5 v11 v13 v16 (0 : Int32) σ
set_option maxRecDepth 100000 in
set_option maxHeartbeats 4000000 in
theorem g_L_areTalesSo_b408 {X : Tx} {Q : Int32 → Sg → Prop} (C : Cx X cL_areTalesSo "SweetWrapsLaw" (some .boolean) 7 167 17 (QI (tE X) Q)) {x1 : Int32} {x2 : Int32} {x3 : Int32} {x4 : Int32} {v5 : Int32} {v11 : Int32} {v13 : Int32} {v16 : Int32} {σ : Sg} (hw : wp_L_areTalesSo_b408 x1 x2 x3 x4 Q v5 v11 v13 v16 σ) : G X σ [(0, .ref (ad (tE X) 11 10 0)), (1, .int x1), (5, .int v5), (11, .int v11), (13, .int v13), (16, .int v16)] [] 408 := by
  unfold wp_L_areTalesSo_b408 at hw
  refine gx_iconst (v := (0 : Int32)) C dL_areTalesSo_408 (by decide) ?_
  exact g_L_areTalesSo_b409 C hw
def wp_L_areTalesSo_b404 (x1 : Int32) (x2 : Int32) (x3 : Int32) (x4 : Int32) (Q : Int32 → Sg → Prop) (v5 : Int32) (v11 : Int32) (v13 : Int32) (v16 : Int32) (σ : Sg) : Prop := wp_L_areTalesSo_b409 x1 x2 x3 x4 Q v5 v11 v13 v16 (1 : Int32) σ
set_option maxRecDepth 100000 in
set_option maxHeartbeats 4000000 in
theorem g_L_areTalesSo_b404 {X : Tx} {Q : Int32 → Sg → Prop} (C : Cx X cL_areTalesSo "SweetWrapsLaw" (some .boolean) 7 167 17 (QI (tE X) Q)) {x1 : Int32} {x2 : Int32} {x3 : Int32} {x4 : Int32} {v5 : Int32} {v11 : Int32} {v13 : Int32} {v16 : Int32} {σ : Sg} (hw : wp_L_areTalesSo_b404 x1 x2 x3 x4 Q v5 v11 v13 v16 σ) : G X σ [(0, .ref (ad (tE X) 11 10 0)), (1, .int x1), (5, .int v5), (11, .int v11), (13, .int v13), (16, .int v16)] [] 404 := by
  unfold wp_L_areTalesSo_b404 at hw
  refine gx_iconst (v := (1 : Int32)) C dL_areTalesSo_404 (by decide) ?_
  refine gx_goto (tgt := 409) C dL_areTalesSo_405 (by decide) ?_
  exact g_L_areTalesSo_b409 C hw
def wp_L_areTalesSo_b369 (x1 : Int32) (x2 : Int32) (x3 : Int32) (x4 : Int32) (Q : Int32 → Sg → Prop) (v5 : Int32) (v10 : Int32) (v11 : Int32) (v16 : Int32) (s0 : Int32) (σ : Sg) : Prop := ((v10 = 0 → wp_L_areTalesSo_b408 x1 x2 x3 x4 Q v5 v11 s0 v16 σ) ∧ (¬ v10 = 0 → ((s0 < 0 → wp_L_areTalesSo_b404 x1 x2 x3 x4 Q v5 v11 s0 v16 σ) ∧ (¬ s0 < 0 → wp_X5_of x1 (4 : Int32) σ (fun r66 σ67 => wp_X5_count (11 : Int32) σ67 (fun r68 σ69 => ((¬ r66 = (v16 + (r68 * (v5 - (1 : Int32)))) → wp_L_areTalesSo_b408 x1 x2 x3 x4 Q v5 v11 s0 v16 σ69) ∧ (r66 = (v16 + (r68 * (v5 - (1 : Int32)))) → wp_L_areTalesSo_b404 x1 x2 x3 x4 Q v5 v11 s0 v16 σ69))))))))
set_option maxRecDepth 100000 in
set_option maxHeartbeats 4000000 in
theorem g_L_areTalesSo_b369 {X : Tx} {Q : Int32 → Sg → Prop} (C : Cx X cL_areTalesSo "SweetWrapsLaw" (some .boolean) 7 167 17 (QI (tE X) Q)) {x1 : Int32} {x2 : Int32} {x3 : Int32} {x4 : Int32} {v5 : Int32} {v10 : Int32} {v11 : Int32} {v16 : Int32} {s0 : Int32} {σ : Sg} (hw : wp_L_areTalesSo_b369 x1 x2 x3 x4 Q v5 v10 v11 v16 s0 σ) : G X σ [(0, .ref (ad (tE X) 11 10 0)), (1, .int x1), (5, .int v5), (10, .int v10), (11, .int v11), (16, .int v16)] [.int s0] 369 := by
  unfold wp_L_areTalesSo_b369 at hw
  refine gx_istore (lv' := [(13, .int s0), (0, .ref (ad (tE X) 11 10 0)), (1, .int x1), (5, .int v5), (10, .int v10), (11, .int v11), (16, .int v16)]) C dL_areTalesSo_369 (by decide) rfl ?_
  refine gx_iload C dL_areTalesSo_371 4 rfl ?_
  refine gx_if_eq (tgt := 408) C dL_areTalesSo_373 (by decide) (fun c64 => ?_) (fun c64 => ?_)
  · replace hw := hw.1 c64
    refine gx_sub (lv' := [(0, .ref (ad (tE X) 11 10 0)), (1, .int x1), (5, .int v5), (11, .int v11), (13, .int s0), (16, .int v16)]) [1, 2, 3, 5, 0, 6] rfl ?_
    exact g_L_areTalesSo_b408 C hw
  · replace hw := hw.2 c64
    refine gx_iload C dL_areTalesSo_376 0 rfl ?_
    refine gx_if_lt (tgt := 404) C dL_areTalesSo_378 (by decide) (fun c65 => ?_) (fun c65 => ?_)
    · replace hw := hw.1 c65
      refine gx_sub (lv' := [(0, .ref (ad (tE X) 11 10 0)), (1, .int x1), (5, .int v5), (11, .int v11), (13, .int s0), (16, .int v16)]) [1, 2, 3, 5, 0, 6] rfl ?_
      exact g_L_areTalesSo_b404 C hw
    · replace hw := hw.2 c65
      refine gx_aload_n C dL_areTalesSo_381 1 rfl ?_
      refine gx_iload_n C dL_areTalesSo_382 2 rfl ?_
      refine gx_iconst (v := (4 : Int32)) C dL_areTalesSo_383 (by decide) ?_
      refine gx_vcalli (As := [.int x1, .int (4 : Int32)]) (rest := []) C (c_X5_of _ _ hw) okg_10 rfl rfl bw_449 bw_450 bw_451 bw_1 bw_452 hy_X5_of ⟨by decide, by decide⟩ rfl (Nat.le_of_ble_eq_true rfl) dL_areTalesSo_384 (fun r66 σ67 hw => ?_)
      refine gx_iload C dL_areTalesSo_387 6 rfl ?_
      refine gx_aload_n C dL_areTalesSo_389 1 rfl ?_
      refine gx_bipush (v := (11 : Int32)) C dL_areTalesSo_390 (by decide) ?_
      refine gx_vcalli (As := [.int (11 : Int32)]) (rest := [.int v16, .int r66]) C (c_X5_count _ _ hw) okg_10 rfl rfl bw_270 bw_271 bw_272 bw_1 bw_273 hy_X5_count ⟨by decide, by decide⟩ rfl (Nat.le_of_ble_eq_true rfl) dL_areTalesSo_392 (fun r68 σ69 hw => ?_)
      refine gx_iload C dL_areTalesSo_395 3 rfl ?_
      refine gx_iconst (v := (1 : Int32)) C dL_areTalesSo_397 (by decide) ?_
      refine gx_isub C dL_areTalesSo_398 ?_
      refine gx_imul C dL_areTalesSo_399 ?_
      refine gx_iadd C dL_areTalesSo_400 ?_
      refine gx_icmp_ne (tgt := 408) C dL_areTalesSo_401 (by decide) (fun c70 => ?_) (fun c70 => ?_)
      · replace hw := hw.1 c70
        refine gx_sub (lv' := [(0, .ref (ad (tE X) 11 10 0)), (1, .int x1), (5, .int v5), (11, .int v11), (13, .int s0), (16, .int v16)]) [1, 2, 3, 5, 0, 6] rfl ?_
        exact g_L_areTalesSo_b408 C hw
      · replace hw := hw.2 c70
        refine gx_sub (lv' := [(0, .ref (ad (tE X) 11 10 0)), (1, .int x1), (5, .int v5), (11, .int v11), (13, .int s0), (16, .int v16)]) [1, 2, 3, 5, 0, 6] rfl ?_
        exact g_L_areTalesSo_b404 C hw
def wp_L_areTalesSo_b331 (x1 : Int32) (x2 : Int32) (x3 : Int32) (x4 : Int32) (Q : Int32 → Sg → Prop) (v5 : Int32) (v10 : Int32) (v11 : Int32) (v14 : Int32) (σ : Sg) : Prop := ((v5 ≤ 0 → wp_L_areTalesSo_b493 x1 x2 x3 x4 Q v10 v11 v14 σ) ∧ (¬ v5 ≤ 0 → (((100 : Int32) ≤ v5 → wp_L_areTalesSo_b493 x1 x2 x3 x4 Q v10 v11 v14 σ) ∧ (¬ (100 : Int32) ≤ v5 → wp_X5_of x1 (4 : Int32) σ (fun r54 σ55 => ((¬ v5 = (1 : Int32) → wp_X5_run (v5 - (1 : Int32)) σ55 (fun r57 σ58 => wp_L_areTalesSo_b369 x1 x2 x3 x4 Q v5 v10 v11 r54 r57 σ58)) ∧ (v5 = (1 : Int32) → wp_L_areTalesSo_b369 x1 x2 x3 x4 Q v5 v10 v11 r54 (0 : Int32) σ55)))))))
set_option maxRecDepth 100000 in
set_option maxHeartbeats 4000000 in
theorem g_L_areTalesSo_b331 {X : Tx} {Q : Int32 → Sg → Prop} (C : Cx X cL_areTalesSo "SweetWrapsLaw" (some .boolean) 7 167 17 (QI (tE X) Q)) {x1 : Int32} {x2 : Int32} {x3 : Int32} {x4 : Int32} {v5 : Int32} {v10 : Int32} {v11 : Int32} {v14 : Int32} {σ : Sg} (hw : wp_L_areTalesSo_b331 x1 x2 x3 x4 Q v5 v10 v11 v14 σ) : G X σ [(0, .ref (ad (tE X) 11 10 0)), (1, .int x1), (5, .int v5), (10, .int v10), (11, .int v11), (14, .int v14)] [] 331 := by
  unfold wp_L_areTalesSo_b331 at hw
  refine gx_iload C dL_areTalesSo_331 2 rfl ?_
  refine gx_if_le (tgt := 493) C dL_areTalesSo_333 (by decide) (fun c52 => ?_) (fun c52 => ?_)
  · replace hw := hw.1 c52
    refine gx_sub (lv' := [(0, .ref (ad (tE X) 11 10 0)), (10, .int v10), (11, .int v11), (14, .int v14)]) [0, 3, 4, 5] rfl ?_
    exact g_L_areTalesSo_b493 C hw
  · replace hw := hw.2 c52
    refine gx_iload C dL_areTalesSo_336 2 rfl ?_
    refine gx_bipush (v := (100 : Int32)) C dL_areTalesSo_338 (by decide) ?_
    refine gx_icmp_ge (tgt := 493) C dL_areTalesSo_340 (by decide) (fun c53 => ?_) (fun c53 => ?_)
    · replace hw := hw.1 c53
      refine gx_sub (lv' := [(0, .ref (ad (tE X) 11 10 0)), (10, .int v10), (11, .int v11), (14, .int v14)]) [0, 3, 4, 5] rfl ?_
      exact g_L_areTalesSo_b493 C hw
    · replace hw := hw.2 c53
      refine gx_aload_n C dL_areTalesSo_343 0 rfl ?_
      refine gx_iload_n C dL_areTalesSo_344 1 rfl ?_
      refine gx_iconst (v := (4 : Int32)) C dL_areTalesSo_345 (by decide) ?_
      refine gx_vcalli (As := [.int x1, .int (4 : Int32)]) (rest := []) C (c_X5_of _ _ hw) okg_10 rfl rfl bw_449 bw_450 bw_451 bw_1 bw_452 hy_X5_of ⟨by decide, by decide⟩ rfl (Nat.le_of_ble_eq_true rfl) dL_areTalesSo_346 (fun r54 σ55 hw => ?_)
      refine gx_istore (lv' := [(16, .int r54), (0, .ref (ad (tE X) 11 10 0)), (1, .int x1), (5, .int v5), (10, .int v10), (11, .int v11), (14, .int v14)]) C dL_areTalesSo_349 (by decide) rfl ?_
      refine gx_iload C dL_areTalesSo_351 3 rfl ?_
      refine gx_iconst (v := (1 : Int32)) C dL_areTalesSo_353 (by decide) ?_
      refine gx_icmp_ne (tgt := 361) C dL_areTalesSo_354 (by decide) (fun c56 => ?_) (fun c56 => ?_)
      · replace hw := hw.1 c56
        refine gx_aload_n C dL_areTalesSo_361 1 rfl ?_
        refine gx_iload C dL_areTalesSo_362 3 rfl ?_
        refine gx_iconst (v := (1 : Int32)) C dL_areTalesSo_364 (by decide) ?_
        refine gx_isub C dL_areTalesSo_365 ?_
        refine gx_vcalli (As := [.int (v5 - (1 : Int32))]) (rest := []) C (c_X5_run _ _ hw) okg_10 rfl rfl bw_371 bw_372 bw_373 bw_1 bw_374 hy_X5_run ⟨by decide, by decide⟩ rfl (Nat.le_of_ble_eq_true rfl) dL_areTalesSo_366 (fun r57 σ58 hw => ?_)
        refine gx_sub (lv' := [(0, .ref (ad (tE X) 11 10 0)), (1, .int x1), (5, .int v5), (10, .int v10), (11, .int v11), (16, .int r54)]) [1, 2, 3, 4, 5, 0] rfl ?_
        exact g_L_areTalesSo_b369 C hw
      · replace hw := hw.2 c56
        refine gx_iconst (v := (0 : Int32)) C dL_areTalesSo_357 (by decide) ?_
        refine gx_goto (tgt := 369) C dL_areTalesSo_358 (by decide) ?_
        refine gx_sub (lv' := [(0, .ref (ad (tE X) 11 10 0)), (1, .int x1), (5, .int v5), (10, .int v10), (11, .int v11), (16, .int r54)]) [1, 2, 3, 4, 5, 0] rfl ?_
        exact g_L_areTalesSo_b369 C hw
def wp_L_areTalesSo_b323 (x1 : Int32) (x2 : Int32) (x3 : Int32) (x4 : Int32) (Q : Int32 → Sg → Prop) (v5 : Int32) (v10 : Int32) (v11 : Int32) (s0 : Int32) (σ : Sg) : Prop := wp_X5_undo σ (fun r90 σ91 => wp_L_areTalesSo_b331 x1 x2 x3 x4 Q v5 v10 v11 r90 σ91)
set_option maxRecDepth 100000 in
set_option maxHeartbeats 4000000 in
theorem g_L_areTalesSo_b323 {X : Tx} {Q : Int32 → Sg → Prop} (C : Cx X cL_areTalesSo "SweetWrapsLaw" (some .boolean) 7 167 17 (QI (tE X) Q)) {x1 : Int32} {x2 : Int32} {x3 : Int32} {x4 : Int32} {v5 : Int32} {v10 : Int32} {v11 : Int32} {s0 : Int32} {σ : Sg} (hw : wp_L_areTalesSo_b323 x1 x2 x3 x4 Q v5 v10 v11 s0 σ) : G X σ [(0, .ref (ad (tE X) 11 10 0)), (1, .int x1), (5, .int v5), (10, .int v10), (11, .int v11)] [.int s0] 323 := by
  unfold wp_L_areTalesSo_b323 at hw
  refine gx_istore (lv' := [(14, .int s0), (0, .ref (ad (tE X) 11 10 0)), (1, .int x1), (5, .int v5), (10, .int v10), (11, .int v11)]) C dL_areTalesSo_323 (by decide) rfl ?_
  refine gx_aload_n C dL_areTalesSo_325 1 rfl ?_
  refine gx_vcalli (As := []) (rest := []) C (c_X5_undo _ _ hw) okg_10 rfl rfl bw_524 bw_525 bw_526 bw_1 bw_527 hy_X5_undo ⟨by decide, by decide⟩ rfl (Nat.le_of_ble_eq_true rfl) dL_areTalesSo_326 (fun r90 σ91 hw => ?_)
  refine gx_istore (lv' := [(14, .int r90), (0, .ref (ad (tE X) 11 10 0)), (1, .int x1), (5, .int v5), (10, .int v10), (11, .int v11)]) C dL_areTalesSo_329 (by decide) rfl ?_
  refine gx_sub (lv' := [(0, .ref (ad (tE X) 11 10 0)), (1, .int x1), (5, .int v5), (10, .int v10), (11, .int v11), (14, .int r90)]) [1, 2, 3, 4, 5, 0] rfl ?_
  exact g_L_areTalesSo_b331 C hw
def wp_L_areTalesSo_b308 (x1 : Int32) (x2 : Int32) (x3 : Int32) (x4 : Int32) (Q : Int32 → Sg → Prop) (v5 : Int32) (v11 : Int32) (v13 : Int32) (s0 : Int32) (σ : Sg) : Prop := ((v13 < 0 → wp_L_areTalesSo_b323 x1 x2 x3 x4 Q v5 s0 v11 (0 : Int32) σ) ∧ (¬ v13 < 0 → wp_X5_undo σ (fun r88 σ89 => wp_L_areTalesSo_b323 x1 x2 x3 x4 Q v5 s0 v11 r88 σ89)))
set_option maxRecDepth 100000 in
set_option maxHeartbeats 4000000 in
theorem g_L_areTalesSo_b308 {X : Tx} {Q : Int32 → Sg → Prop} (C : Cx X cL_areTalesSo "SweetWrapsLaw" (some .boolean) 7 167 17 (QI (tE X) Q)) {x1 : Int32} {x2 : Int32} {x3 : Int32} {x4 : Int32} {v5 : Int32} {v11 : Int32} {v13 : Int32} {s0 : Int32} {σ : Sg} (hw : wp_L_areTalesSo_b308 x1 x2 x3 x4 Q v5 v11 v13 s0 σ) : G X σ [(0, .ref (ad (tE X) 11 10 0)), (1, .int x1), (5, .int v5), (11, .int v11), (13, .int v13)] [.int s0] 308 := by
  unfold wp_L_areTalesSo_b308 at hw
  refine gx_istore (lv' := [(10, .int s0), (0, .ref (ad (tE X) 11 10 0)), (1, .int x1), (5, .int v5), (11, .int v11), (13, .int v13)]) C dL_areTalesSo_308 (by decide) rfl ?_
  refine gx_iload C dL_areTalesSo_310 5 rfl ?_
  refine gx_if_lt (tgt := 322) C dL_areTalesSo_312 (by decide) (fun c87 => ?_) (fun c87 => ?_)
  · replace hw := hw.1 c87
    refine gx_iconst (v := (0 : Int32)) C dL_areTalesSo_322 (by decide) ?_
    refine gx_sub (lv' := [(0, .ref (ad (tE X) 11 10 0)), (1, .int x1), (5, .int v5), (10, .int s0), (11, .int v11)]) [1, 2, 3, 0, 4] rfl ?_
    exact g_L_areTalesSo_b323 C hw
  · replace hw := hw.2 c87
    refine gx_aload_n C dL_areTalesSo_315 1 rfl ?_
    refine gx_vcalli (As := []) (rest := []) C (c_X5_undo _ _ hw) okg_10 rfl rfl bw_524 bw_525 bw_526 bw_1 bw_527 hy_X5_undo ⟨by decide, by decide⟩ rfl (Nat.le_of_ble_eq_true rfl) dL_areTalesSo_316 (fun r88 σ89 hw => ?_)
    refine gx_goto (tgt := 323) C dL_areTalesSo_319 (by decide) ?_
    refine gx_sub (lv' := [(0, .ref (ad (tE X) 11 10 0)), (1, .int x1), (5, .int v5), (10, .int s0), (11, .int v11)]) [1, 2, 3, 0, 4] rfl ?_
    exact g_L_areTalesSo_b323 C hw
def wp_L_areTalesSo_b307 (x1 : Int32) (x2 : Int32) (x3 : Int32) (x4 : Int32) (Q : Int32 → Sg → Prop) (v5 : Int32) (v11 : Int32) (v13 : Int32) (σ : Sg) : Prop := wp_L_areTalesSo_b308 x1 x2 x3 x4 Q v5 v11 v13 (0 : Int32) σ
set_option maxRecDepth 100000 in
set_option maxHeartbeats 4000000 in
theorem g_L_areTalesSo_b307 {X : Tx} {Q : Int32 → Sg → Prop} (C : Cx X cL_areTalesSo "SweetWrapsLaw" (some .boolean) 7 167 17 (QI (tE X) Q)) {x1 : Int32} {x2 : Int32} {x3 : Int32} {x4 : Int32} {v5 : Int32} {v11 : Int32} {v13 : Int32} {σ : Sg} (hw : wp_L_areTalesSo_b307 x1 x2 x3 x4 Q v5 v11 v13 σ) : G X σ [(0, .ref (ad (tE X) 11 10 0)), (1, .int x1), (5, .int v5), (11, .int v11), (13, .int v13)] [] 307 := by
  unfold wp_L_areTalesSo_b307 at hw
  refine gx_iconst (v := (0 : Int32)) C dL_areTalesSo_307 (by decide) ?_
  exact g_L_areTalesSo_b308 C hw
def wp_L_areTalesSo_b303 (x1 : Int32) (x2 : Int32) (x3 : Int32) (x4 : Int32) (Q : Int32 → Sg → Prop) (v5 : Int32) (v11 : Int32) (v13 : Int32) (σ : Sg) : Prop := wp_L_areTalesSo_b308 x1 x2 x3 x4 Q v5 v11 v13 (1 : Int32) σ
set_option maxRecDepth 100000 in
set_option maxHeartbeats 4000000 in
theorem g_L_areTalesSo_b303 {X : Tx} {Q : Int32 → Sg → Prop} (C : Cx X cL_areTalesSo "SweetWrapsLaw" (some .boolean) 7 167 17 (QI (tE X) Q)) {x1 : Int32} {x2 : Int32} {x3 : Int32} {x4 : Int32} {v5 : Int32} {v11 : Int32} {v13 : Int32} {σ : Sg} (hw : wp_L_areTalesSo_b303 x1 x2 x3 x4 Q v5 v11 v13 σ) : G X σ [(0, .ref (ad (tE X) 11 10 0)), (1, .int x1), (5, .int v5), (11, .int v11), (13, .int v13)] [] 303 := by
  unfold wp_L_areTalesSo_b303 at hw
  refine gx_iconst (v := (1 : Int32)) C dL_areTalesSo_303 (by decide) ?_
  refine gx_goto (tgt := 308) C dL_areTalesSo_304 (by decide) ?_
  exact g_L_areTalesSo_b308 C hw
def wp_L_areTalesSo_b261 (x1 : Int32) (x2 : Int32) (x3 : Int32) (x4 : Int32) (Q : Int32 → Sg → Prop) (v5 : Int32) (v9 : Int32) (v11 : Int32) (v14 : Int32) (s0 : Int32) (σ : Sg) : Prop := wp_X5_apart x3 x4 σ (fun r44 σ45 => ((r44 < 0 → wp_L_areTalesSo_b331 x1 x2 x3 x4 Q v5 s0 v11 v14 σ45) ∧ (¬ r44 < 0 → wp_X5_run x2 σ45 (fun r47 σ48 => ((s0 = 0 → wp_L_areTalesSo_b307 x1 x2 x3 x4 Q v5 v11 r47 σ48) ∧ (¬ s0 = 0 → ((r47 = (-5 : Int32) → wp_L_areTalesSo_b303 x1 x2 x3 x4 Q v5 v11 r47 σ48) ∧ (¬ r47 = (-5 : Int32) → ((¬ r47 = v9 → wp_L_areTalesSo_b307 x1 x2 x3 x4 Q v5 v11 r47 σ48) ∧ (r47 = v9 → wp_L_areTalesSo_b303 x1 x2 x3 x4 Q v5 v11 r47 σ48))))))))))
set_option maxRecDepth 100000 in
set_option maxHeartbeats 4000000 in
theorem g_L_areTalesSo_b261 {X : Tx} {Q : Int32 → Sg → Prop} (C : Cx X cL_areTalesSo "SweetWrapsLaw" (some .boolean) 7 167 17 (QI (tE X) Q)) {x1 : Int32} {x2 : Int32} {x3 : Int32} {x4 : Int32} {v5 : Int32} {v9 : Int32} {v11 : Int32} {v14 : Int32} {s0 : Int32} {σ : Sg} (hw : wp_L_areTalesSo_b261 x1 x2 x3 x4 Q v5 v9 v11 v14 s0 σ) : G X σ [(0, .ref (ad (tE X) 11 10 0)), (1, .int x1), (2, .int x2), (3, .int x3), (4, .int x4), (5, .int v5), (9, .int v9), (11, .int v11), (14, .int v14)] [.int s0] 261 := by
  unfold wp_L_areTalesSo_b261 at hw
  refine gx_istore (lv' := [(10, .int s0), (0, .ref (ad (tE X) 11 10 0)), (1, .int x1), (2, .int x2), (3, .int x3), (4, .int x4), (5, .int v5), (9, .int v9), (11, .int v11), (14, .int v14)]) C dL_areTalesSo_261 (by decide) rfl ?_
  refine gx_aload_n C dL_areTalesSo_263 1 rfl ?_
  refine gx_iload_n C dL_areTalesSo_264 4 rfl ?_
  refine gx_iload C dL_areTalesSo_265 5 rfl ?_
  refine gx_vcalli (As := [.int x3, .int x4]) (rest := []) C (c_X5_apart _ _ hw) okg_10 rfl rfl bw_339 bw_340 bw_341 bw_1 bw_342 hy_X5_apart ⟨by decide, by decide⟩ rfl (Nat.le_of_ble_eq_true rfl) dL_areTalesSo_267 (fun r44 σ45 hw => ?_)
  refine gx_istore (lv' := [(15, .int r44), (10, .int s0), (0, .ref (ad (tE X) 11 10 0)), (1, .int x1), (2, .int x2), (3, .int x3), (4, .int x4), (5, .int v5), (9, .int v9), (11, .int v11), (14, .int v14)]) C dL_areTalesSo_270 (by decide) rfl ?_
  refine gx_iload C dL_areTalesSo_272 0 rfl ?_
  refine gx_if_lt (tgt := 331) C dL_areTalesSo_274 (by decide) (fun c46 => ?_) (fun c46 => ?_)
  · replace hw := hw.1 c46
    refine gx_sub (lv' := [(0, .ref (ad (tE X) 11 10 0)), (1, .int x1), (5, .int v5), (10, .int s0), (11, .int v11), (14, .int v14)]) [2, 3, 7, 1, 9, 10] rfl ?_
    exact g_L_areTalesSo_b331 C hw
  · replace hw := hw.2 c46
    refine gx_aload_n C dL_areTalesSo_277 2 rfl ?_
    refine gx_iload_n C dL_areTalesSo_278 4 rfl ?_
    refine gx_vcalli (As := [.int x2]) (rest := []) C (c_X5_run _ _ hw) okg_10 rfl rfl bw_371 bw_372 bw_373 bw_1 bw_374 hy_X5_run ⟨by decide, by decide⟩ rfl (Nat.le_of_ble_eq_true rfl) dL_areTalesSo_279 (fun r47 σ48 hw => ?_)
    refine gx_istore (lv' := [(13, .int r47), (15, .int r44), (10, .int s0), (0, .ref (ad (tE X) 11 10 0)), (1, .int x1), (2, .int x2), (3, .int x3), (4, .int x4), (5, .int v5), (9, .int v9), (11, .int v11), (14, .int v14)]) C dL_areTalesSo_282 (by decide) rfl ?_
    refine gx_iload C dL_areTalesSo_284 2 rfl ?_
    refine gx_if_eq (tgt := 307) C dL_areTalesSo_286 (by decide) (fun c49 => ?_) (fun c49 => ?_)
    · replace hw := hw.1 c49
      refine gx_sub (lv' := [(0, .ref (ad (tE X) 11 10 0)), (1, .int x1), (5, .int v5), (11, .int v11), (13, .int r47)]) [3, 4, 8, 10, 0] rfl ?_
      exact g_L_areTalesSo_b307 C hw
    · replace hw := hw.2 c49
      refine gx_iload C dL_areTalesSo_289 0 rfl ?_
      refine gx_bipush (v := (-5 : Int32)) C dL_areTalesSo_291 (by decide) ?_
      refine gx_icmp_eq (tgt := 303) C dL_areTalesSo_293 (by decide) (fun c50 => ?_) (fun c50 => ?_)
      · replace hw := hw.1 c50
        refine gx_sub (lv' := [(0, .ref (ad (tE X) 11 10 0)), (1, .int x1), (5, .int v5), (11, .int v11), (13, .int r47)]) [3, 4, 8, 10, 0] rfl ?_
        exact g_L_areTalesSo_b303 C hw
      · replace hw := hw.2 c50
        refine gx_iload C dL_areTalesSo_296 0 rfl ?_
        refine gx_iload C dL_areTalesSo_298 9 rfl ?_
        refine gx_icmp_ne (tgt := 307) C dL_areTalesSo_300 (by decide) (fun c51 => ?_) (fun c51 => ?_)
        · replace hw := hw.1 c51
          refine gx_sub (lv' := [(0, .ref (ad (tE X) 11 10 0)), (1, .int x1), (5, .int v5), (11, .int v11), (13, .int r47)]) [3, 4, 8, 10, 0] rfl ?_
          exact g_L_areTalesSo_b307 C hw
        · replace hw := hw.2 c51
          refine gx_sub (lv' := [(0, .ref (ad (tE X) 11 10 0)), (1, .int x1), (5, .int v5), (11, .int v11), (13, .int r47)]) [3, 4, 8, 10, 0] rfl ?_
          exact g_L_areTalesSo_b303 C hw
def wp_L_areTalesSo_b260 (x1 : Int32) (x2 : Int32) (x3 : Int32) (x4 : Int32) (Q : Int32 → Sg → Prop) (v5 : Int32) (v9 : Int32) (v11 : Int32) (v14 : Int32) (σ : Sg) : Prop := wp_L_areTalesSo_b261 x1 x2 x3 x4 Q v5 v9 v11 v14 (0 : Int32) σ
set_option maxRecDepth 100000 in
set_option maxHeartbeats 4000000 in
theorem g_L_areTalesSo_b260 {X : Tx} {Q : Int32 → Sg → Prop} (C : Cx X cL_areTalesSo "SweetWrapsLaw" (some .boolean) 7 167 17 (QI (tE X) Q)) {x1 : Int32} {x2 : Int32} {x3 : Int32} {x4 : Int32} {v5 : Int32} {v9 : Int32} {v11 : Int32} {v14 : Int32} {σ : Sg} (hw : wp_L_areTalesSo_b260 x1 x2 x3 x4 Q v5 v9 v11 v14 σ) : G X σ [(0, .ref (ad (tE X) 11 10 0)), (1, .int x1), (2, .int x2), (3, .int x3), (4, .int x4), (5, .int v5), (9, .int v9), (11, .int v11), (14, .int v14)] [] 260 := by
  unfold wp_L_areTalesSo_b260 at hw
  refine gx_iconst (v := (0 : Int32)) C dL_areTalesSo_260 (by decide) ?_
  exact g_L_areTalesSo_b261 C hw
def wp_L_areTalesSo_b210 (x1 : Int32) (x2 : Int32) (x3 : Int32) (x4 : Int32) (K155 : Int32 → Int32 → Int32 → Int32 → Int32 → Int32 → Int32 → Int32 → Sg → Prop) (Q : Int32 → Sg → Prop) (v5 : Int32) (v7 : Int32) (v8 : Int32) (v9 : Int32) (v10 : Int32) (v11 : Int32) (v12 : Int32) (v15 : Int32) (s0 : Int32) (σ : Sg) : Prop := wp_X5_undo σ (fun r95 σ96 => ∀ z97 : Int32, z97 = v15 + (1 : Int32) → K155 v5 v7 v8 v9 v10 v11 v12 z97 σ96)
set_option maxRecDepth 100000 in
set_option maxHeartbeats 4000000 in
theorem g_L_areTalesSo_b210 {X : Tx} {Q : Int32 → Sg → Prop} (C : Cx X cL_areTalesSo "SweetWrapsLaw" (some .boolean) 7 167 17 (QI (tE X) Q)) {x1 : Int32} {x2 : Int32} {x3 : Int32} {x4 : Int32} {K155 : Int32 → Int32 → Int32 → Int32 → Int32 → Int32 → Int32 → Int32 → Sg → Prop} (hK155 : ∀ (v5 : Int32) (v7 : Int32) (v8 : Int32) (v9 : Int32) (v10 : Int32) (v11 : Int32) (v12 : Int32) (v15 : Int32) (σ : Sg), K155 v5 v7 v8 v9 v10 v11 v12 v15 σ → G X σ [(0, .ref (ad (tE X) 11 10 0)), (1, .int x1), (2, .int x2), (3, .int x3), (4, .int x4), (5, .int v5), (7, .int v7), (8, .int v8), (9, .int v9), (10, .int v10), (11, .int v11), (12, .int v12), (15, .int v15)] [] 155) {v5 : Int32} {v7 : Int32} {v8 : Int32} {v9 : Int32} {v10 : Int32} {v11 : Int32} {v12 : Int32} {v15 : Int32} {s0 : Int32} {σ : Sg} (hw : wp_L_areTalesSo_b210 x1 x2 x3 x4 K155 Q v5 v7 v8 v9 v10 v11 v12 v15 s0 σ) : G X σ [(0, .ref (ad (tE X) 11 10 0)), (1, .int x1), (2, .int x2), (3, .int x3), (4, .int x4), (5, .int v5), (7, .int v7), (8, .int v8), (9, .int v9), (10, .int v10), (11, .int v11), (12, .int v12), (15, .int v15)] [.int s0] 210 := by
  unfold wp_L_areTalesSo_b210 at hw
  refine gx_istore (lv' := [(14, .int s0), (0, .ref (ad (tE X) 11 10 0)), (1, .int x1), (2, .int x2), (3, .int x3), (4, .int x4), (5, .int v5), (7, .int v7), (8, .int v8), (9, .int v9), (10, .int v10), (11, .int v11), (12, .int v12), (15, .int v15)]) C dL_areTalesSo_210 (by decide) rfl ?_
  refine gx_aload_n C dL_areTalesSo_212 1 rfl ?_
  refine gx_vcalli (As := []) (rest := []) C (c_X5_undo _ _ hw) okg_10 rfl rfl bw_524 bw_525 bw_526 bw_1 bw_527 hy_X5_undo ⟨by decide, by decide⟩ rfl (Nat.le_of_ble_eq_true rfl) dL_areTalesSo_213 (fun r95 σ96 hw => ?_)
  refine gx_istore (lv' := [(14, .int r95), (0, .ref (ad (tE X) 11 10 0)), (1, .int x1), (2, .int x2), (3, .int x3), (4, .int x4), (5, .int v5), (7, .int v7), (8, .int v8), (9, .int v9), (10, .int v10), (11, .int v11), (12, .int v12), (15, .int v15)]) C dL_areTalesSo_216 (by decide) rfl ?_
  obtain ⟨z97, e_z97⟩ : ∃ z : Int32, z = v15 + (1 : Int32) := ⟨_, rfl⟩
  replace hw := hw z97 e_z97
  refine gx_iinc (v := z97) (lv' := [(15, .int z97), (14, .int r95), (0, .ref (ad (tE X) 11 10 0)), (1, .int x1), (2, .int x2), (3, .int x3), (4, .int x4), (5, .int v5), (7, .int v7), (8, .int v8), (9, .int v9), (10, .int v10), (11, .int v11), (12, .int v12)]) C dL_areTalesSo_218 13 rfl (by rw [e_z97]; rfl) (by decide) rfl ?_
  refine gx_goto (tgt := 155) C dL_areTalesSo_221 (by decide) ?_
  refine gx_sub (lv' := [(0, .ref (ad (tE X) 11 10 0)), (1, .int x1), (2, .int x2), (3, .int x3), (4, .int x4), (5, .int v5), (7, .int v7), (8, .int v8), (9, .int v9), (10, .int v10), (11, .int v11), (12, .int v12), (15, .int z97)]) [2, 3, 4, 5, 6, 7, 8, 9, 10, 11, 12, 13, 0] rfl ?_
  exact hK155 _ _ _ _ _ _ _ _ _ hw
def wp_L_areTalesSo_b195 (x1 : Int32) (x2 : Int32) (x3 : Int32) (x4 : Int32) (K155 : Int32 → Int32 → Int32 → Int32 → Int32 → Int32 → Int32 → Int32 → Sg → Prop) (Q : Int32 → Sg → Prop) (v5 : Int32) (v7 : Int32) (v8 : Int32) (v9 : Int32) (v11 : Int32) (v12 : Int32) (v13 : Int32) (v15 : Int32) (s0 : Int32) (σ : Sg) : Prop := ((v13 < 0 → wp_L_areTalesSo_b210 x1 x2 x3 x4 K155 Q v5 v7 v8 v9 s0 v11 v12 v15 (0 : Int32) σ) ∧ (¬ v13 < 0 → wp_X5_undo σ (fun r93 σ94 => wp_L_areTalesSo_b210 x1 x2 x3 x4 K155 Q v5 v7 v8 v9 s0 v11 v12 v15 r93 σ94)))
set_option maxRecDepth 100000 in
set_option maxHeartbeats 4000000 in
theorem g_L_areTalesSo_b195 {X : Tx} {Q : Int32 → Sg → Prop} (C : Cx X cL_areTalesSo "SweetWrapsLaw" (some .boolean) 7 167 17 (QI (tE X) Q)) {x1 : Int32} {x2 : Int32} {x3 : Int32} {x4 : Int32} {K155 : Int32 → Int32 → Int32 → Int32 → Int32 → Int32 → Int32 → Int32 → Sg → Prop} (hK155 : ∀ (v5 : Int32) (v7 : Int32) (v8 : Int32) (v9 : Int32) (v10 : Int32) (v11 : Int32) (v12 : Int32) (v15 : Int32) (σ : Sg), K155 v5 v7 v8 v9 v10 v11 v12 v15 σ → G X σ [(0, .ref (ad (tE X) 11 10 0)), (1, .int x1), (2, .int x2), (3, .int x3), (4, .int x4), (5, .int v5), (7, .int v7), (8, .int v8), (9, .int v9), (10, .int v10), (11, .int v11), (12, .int v12), (15, .int v15)] [] 155) {v5 : Int32} {v7 : Int32} {v8 : Int32} {v9 : Int32} {v11 : Int32} {v12 : Int32} {v13 : Int32} {v15 : Int32} {s0 : Int32} {σ : Sg} (hw : wp_L_areTalesSo_b195 x1 x2 x3 x4 K155 Q v5 v7 v8 v9 v11 v12 v13 v15 s0 σ) : G X σ [(0, .ref (ad (tE X) 11 10 0)), (1, .int x1), (2, .int x2), (3, .int x3), (4, .int x4), (5, .int v5), (7, .int v7), (8, .int v8), (9, .int v9), (11, .int v11), (12, .int v12), (13, .int v13), (15, .int v15)] [.int s0] 195 := by
  unfold wp_L_areTalesSo_b195 at hw
  refine gx_istore (lv' := [(10, .int s0), (0, .ref (ad (tE X) 11 10 0)), (1, .int x1), (2, .int x2), (3, .int x3), (4, .int x4), (5, .int v5), (7, .int v7), (8, .int v8), (9, .int v9), (11, .int v11), (12, .int v12), (13, .int v13), (15, .int v15)]) C dL_areTalesSo_195 (by decide) rfl ?_
  refine gx_iload C dL_areTalesSo_197 12 rfl ?_
  refine gx_if_lt (tgt := 209) C dL_areTalesSo_199 (by decide) (fun c92 => ?_) (fun c92 => ?_)
  · replace hw := hw.1 c92
    refine gx_iconst (v := (0 : Int32)) C dL_areTalesSo_209 (by decide) ?_
    refine gx_sub (lv' := [(0, .ref (ad (tE X) 11 10 0)), (1, .int x1), (2, .int x2), (3, .int x3), (4, .int x4), (5, .int v5), (7, .int v7), (8, .int v8), (9, .int v9), (10, .int s0), (11, .int v11), (12, .int v12), (15, .int v15)]) [1, 2, 3, 4, 5, 6, 7, 8, 9, 0, 10, 11, 13] rfl ?_
    exact g_L_areTalesSo_b210 C hK155 hw
  · replace hw := hw.2 c92
    refine gx_aload_n C dL_areTalesSo_202 1 rfl ?_
    refine gx_vcalli (As := []) (rest := []) C (c_X5_undo _ _ hw) okg_10 rfl rfl bw_524 bw_525 bw_526 bw_1 bw_527 hy_X5_undo ⟨by decide, by decide⟩ rfl (Nat.le_of_ble_eq_true rfl) dL_areTalesSo_203 (fun r93 σ94 hw => ?_)
    refine gx_goto (tgt := 210) C dL_areTalesSo_206 (by decide) ?_
    refine gx_sub (lv' := [(0, .ref (ad (tE X) 11 10 0)), (1, .int x1), (2, .int x2), (3, .int x3), (4, .int x4), (5, .int v5), (7, .int v7), (8, .int v8), (9, .int v9), (10, .int s0), (11, .int v11), (12, .int v12), (15, .int v15)]) [1, 2, 3, 4, 5, 6, 7, 8, 9, 0, 10, 11, 13] rfl ?_
    exact g_L_areTalesSo_b210 C hK155 hw
def wp_L_areTalesSo_b194 (x1 : Int32) (x2 : Int32) (x3 : Int32) (x4 : Int32) (K155 : Int32 → Int32 → Int32 → Int32 → Int32 → Int32 → Int32 → Int32 → Sg → Prop) (Q : Int32 → Sg → Prop) (v5 : Int32) (v7 : Int32) (v8 : Int32) (v9 : Int32) (v11 : Int32) (v12 : Int32) (v13 : Int32) (v15 : Int32) (σ : Sg) : Prop := wp_L_areTalesSo_b195 x1 x2 x3 x4 K155 Q v5 v7 v8 v9 v11 v12 v13 v15 (0 : Int32) σ
set_option maxRecDepth 100000 in
set_option maxHeartbeats 4000000 in
theorem g_L_areTalesSo_b194 {X : Tx} {Q : Int32 → Sg → Prop} (C : Cx X cL_areTalesSo "SweetWrapsLaw" (some .boolean) 7 167 17 (QI (tE X) Q)) {x1 : Int32} {x2 : Int32} {x3 : Int32} {x4 : Int32} {K155 : Int32 → Int32 → Int32 → Int32 → Int32 → Int32 → Int32 → Int32 → Sg → Prop} (hK155 : ∀ (v5 : Int32) (v7 : Int32) (v8 : Int32) (v9 : Int32) (v10 : Int32) (v11 : Int32) (v12 : Int32) (v15 : Int32) (σ : Sg), K155 v5 v7 v8 v9 v10 v11 v12 v15 σ → G X σ [(0, .ref (ad (tE X) 11 10 0)), (1, .int x1), (2, .int x2), (3, .int x3), (4, .int x4), (5, .int v5), (7, .int v7), (8, .int v8), (9, .int v9), (10, .int v10), (11, .int v11), (12, .int v12), (15, .int v15)] [] 155) {v5 : Int32} {v7 : Int32} {v8 : Int32} {v9 : Int32} {v11 : Int32} {v12 : Int32} {v13 : Int32} {v15 : Int32} {σ : Sg} (hw : wp_L_areTalesSo_b194 x1 x2 x3 x4 K155 Q v5 v7 v8 v9 v11 v12 v13 v15 σ) : G X σ [(0, .ref (ad (tE X) 11 10 0)), (1, .int x1), (2, .int x2), (3, .int x3), (4, .int x4), (5, .int v5), (7, .int v7), (8, .int v8), (9, .int v9), (11, .int v11), (12, .int v12), (13, .int v13), (15, .int v15)] [] 194 := by
  unfold wp_L_areTalesSo_b194 at hw
  refine gx_iconst (v := (0 : Int32)) C dL_areTalesSo_194 (by decide) ?_
  exact g_L_areTalesSo_b195 C hK155 hw
def st_L_areTalesSo_L155 (x1 : Int32) (x2 : Int32) (x3 : Int32) (x4 : Int32) (Q : Int32 → Sg → Prop) (K155 : Int32 → Int32 → Int32 → Int32 → Int32 → Int32 → Int32 → Int32 → Sg → Prop) (v5 : Int32) (v7 : Int32) (v8 : Int32) (v9 : Int32) (v10 : Int32) (v11 : Int32) (v12 : Int32) (v15 : Int32) (σ : Sg) : Prop := ((v7 ≤ v15 → wp_X5_undo σ (fun r29 σ30 => ((v10 = 0 → wp_L_areTalesSo_b260 x1 x2 x3 x4 Q v5 v9 v11 r29 σ30) ∧ (¬ v10 = 0 → wp_X5_count (11 : Int32) σ30 (fun r32 σ33 => ((¬ v12 = r32 → wp_L_areTalesSo_b260 x1 x2 x3 x4 Q v5 v9 v11 r29 σ33) ∧ (v12 = r32 → wp_X5_count (5 : Int32) σ33 (fun r35 σ36 => ((¬ r35 = v11 → wp_L_areTalesSo_b260 x1 x2 x3 x4 Q v5 v9 v11 r29 σ36) ∧ (r35 = v11 → wp_L_areTalesSo_b261 x1 x2 x3 x4 Q v5 v9 v11 r29 (1 : Int32) σ36)))))))))) ∧ (¬ v7 ≤ v15 → wp_X5_set (0 : Int32) v15 σ (fun r38 σ39 => wp_X5_run x2 σ39 (fun r40 σ41 => ((v10 = 0 → wp_L_areTalesSo_b194 x1 x2 x3 x4 K155 Q v5 v7 v8 v9 v11 v12 r40 v15 σ41) ∧ (¬ v10 = 0 → ((v8 ≤ r40 → wp_L_areTalesSo_b194 x1 x2 x3 x4 K155 Q v5 v7 v8 v9 v11 v12 r40 v15 σ41) ∧ (¬ v8 ≤ r40 → wp_L_areTalesSo_b195 x1 x2 x3 x4 K155 Q v5 v7 v8 v9 v11 v12 r40 v15 (1 : Int32) σ41))))))))
def wp_L_areTalesSo_L155 (x1 : Int32) (x2 : Int32) (x3 : Int32) (x4 : Int32) (Q : Int32 → Sg → Prop) (v5 : Int32) (v7 : Int32) (v8 : Int32) (v9 : Int32) (v10 : Int32) (v11 : Int32) (v12 : Int32) (v15 : Int32) (σ : Sg) : Prop := ∃ n : Nat, lpN (fun (K : Int32 × Int32 × Int32 × Int32 × Int32 × Int32 × Int32 × Int32 × Sg → Prop) (a : Int32 × Int32 × Int32 × Int32 × Int32 × Int32 × Int32 × Int32 × Sg) => st_L_areTalesSo_L155 x1 x2 x3 x4 Q (fun v5 v7 v8 v9 v10 v11 v12 v15 σ => K (v5, v7, v8, v9, v10, v11, v12, v15, σ)) (a.1) (a.2.1) (a.2.2.1) (a.2.2.2.1) (a.2.2.2.2.1) (a.2.2.2.2.2.1) (a.2.2.2.2.2.2.1) (a.2.2.2.2.2.2.2.1) (a.2.2.2.2.2.2.2.2)) n (v5, v7, v8, v9, v10, v11, v12, v15, σ)
set_option maxRecDepth 100000 in
set_option maxHeartbeats 4000000 in
theorem gs_L_areTalesSo_L155 {X : Tx} {Q : Int32 → Sg → Prop} (C : Cx X cL_areTalesSo "SweetWrapsLaw" (some .boolean) 7 167 17 (QI (tE X) Q)) {x1 : Int32} {x2 : Int32} {x3 : Int32} {x4 : Int32} {K155 : Int32 → Int32 → Int32 → Int32 → Int32 → Int32 → Int32 → Int32 → Sg → Prop} (hK155 : ∀ (v5 : Int32) (v7 : Int32) (v8 : Int32) (v9 : Int32) (v10 : Int32) (v11 : Int32) (v12 : Int32) (v15 : Int32) (σ : Sg), K155 v5 v7 v8 v9 v10 v11 v12 v15 σ → G X σ [(0, .ref (ad (tE X) 11 10 0)), (1, .int x1), (2, .int x2), (3, .int x3), (4, .int x4), (5, .int v5), (7, .int v7), (8, .int v8), (9, .int v9), (10, .int v10), (11, .int v11), (12, .int v12), (15, .int v15)] [] 155) {v5 : Int32} {v7 : Int32} {v8 : Int32} {v9 : Int32} {v10 : Int32} {v11 : Int32} {v12 : Int32} {v15 : Int32} {σ : Sg} (hw : st_L_areTalesSo_L155 x1 x2 x3 x4 Q K155 v5 v7 v8 v9 v10 v11 v12 v15 σ) : G X σ [(0, .ref (ad (tE X) 11 10 0)), (1, .int x1), (2, .int x2), (3, .int x3), (4, .int x4), (5, .int v5), (7, .int v7), (8, .int v8), (9, .int v9), (10, .int v10), (11, .int v11), (12, .int v12), (15, .int v15)] [] 155 := by
  unfold st_L_areTalesSo_L155 at hw
  refine gx_iload C dL_areTalesSo_155 12 rfl ?_
  refine gx_iload C dL_areTalesSo_157 6 rfl ?_
  refine gx_icmp_ge (tgt := 224) C dL_areTalesSo_159 (by decide) (fun c28 => ?_) (fun c28 => ?_)
  · replace hw := hw.1 c28
    refine gx_aload_n C dL_areTalesSo_224 0 rfl ?_
    refine gx_vcalli (As := []) (rest := []) C (c_X5_undo _ _ hw) okg_10 rfl rfl bw_524 bw_525 bw_526 bw_1 bw_527 hy_X5_undo ⟨by decide, by decide⟩ rfl (Nat.le_of_ble_eq_true rfl) dL_areTalesSo_225 (fun r29 σ30 hw => ?_)
    refine gx_istore (lv' := [(14, .int r29), (0, .ref (ad (tE X) 11 10 0)), (1, .int x1), (2, .int x2), (3, .int x3), (4, .int x4), (5, .int v5), (7, .int v7), (8, .int v8), (9, .int v9), (10, .int v10), (11, .int v11), (12, .int v12), (15, .int v15)]) C dL_areTalesSo_228 (by decide) rfl ?_
    refine gx_iload C dL_areTalesSo_230 10 rfl ?_
    refine gx_if_eq (tgt := 260) C dL_areTalesSo_232 (by decide) (fun c31 => ?_) (fun c31 => ?_)
    · replace hw := hw.1 c31
      refine gx_sub (lv' := [(0, .ref (ad (tE X) 11 10 0)), (1, .int x1), (2, .int x2), (3, .int x3), (4, .int x4), (5, .int v5), (9, .int v9), (11, .int v11), (14, .int r29)]) [1, 2, 3, 4, 5, 6, 9, 11, 0] rfl ?_
      exact g_L_areTalesSo_b260 C hw
    · replace hw := hw.2 c31
      refine gx_iload C dL_areTalesSo_235 12 rfl ?_
      refine gx_aload_n C dL_areTalesSo_237 1 rfl ?_
      refine gx_bipush (v := (11 : Int32)) C dL_areTalesSo_238 (by decide) ?_
      refine gx_vcalli (As := [.int (11 : Int32)]) (rest := [.int v12]) C (c_X5_count _ _ hw) okg_10 rfl rfl bw_270 bw_271 bw_272 bw_1 bw_273 hy_X5_count ⟨by decide, by decide⟩ rfl (Nat.le_of_ble_eq_true rfl) dL_areTalesSo_240 (fun r32 σ33 hw => ?_)
      refine gx_icmp_ne (tgt := 260) C dL_areTalesSo_243 (by decide) (fun c34 => ?_) (fun c34 => ?_)
      · replace hw := hw.1 c34
        refine gx_sub (lv' := [(0, .ref (ad (tE X) 11 10 0)), (1, .int x1), (2, .int x2), (3, .int x3), (4, .int x4), (5, .int v5), (9, .int v9), (11, .int v11), (14, .int r29)]) [1, 2, 3, 4, 5, 6, 9, 11, 0] rfl ?_
        exact g_L_areTalesSo_b260 C hw
      · replace hw := hw.2 c34
        refine gx_aload_n C dL_areTalesSo_246 1 rfl ?_
        refine gx_iconst (v := (5 : Int32)) C dL_areTalesSo_247 (by decide) ?_
        refine gx_vcalli (As := [.int (5 : Int32)]) (rest := []) C (c_X5_count _ _ hw) okg_10 rfl rfl bw_270 bw_271 bw_272 bw_1 bw_273 hy_X5_count ⟨by decide, by decide⟩ rfl (Nat.le_of_ble_eq_true rfl) dL_areTalesSo_248 (fun r35 σ36 hw => ?_)
        refine gx_iload C dL_areTalesSo_251 11 rfl ?_
        refine gx_icmp_ne (tgt := 260) C dL_areTalesSo_253 (by decide) (fun c37 => ?_) (fun c37 => ?_)
        · replace hw := hw.1 c37
          refine gx_sub (lv' := [(0, .ref (ad (tE X) 11 10 0)), (1, .int x1), (2, .int x2), (3, .int x3), (4, .int x4), (5, .int v5), (9, .int v9), (11, .int v11), (14, .int r29)]) [1, 2, 3, 4, 5, 6, 9, 11, 0] rfl ?_
          exact g_L_areTalesSo_b260 C hw
        · replace hw := hw.2 c37
          refine gx_iconst (v := (1 : Int32)) C dL_areTalesSo_256 (by decide) ?_
          refine gx_goto (tgt := 261) C dL_areTalesSo_257 (by decide) ?_
          refine gx_sub (lv' := [(0, .ref (ad (tE X) 11 10 0)), (1, .int x1), (2, .int x2), (3, .int x3), (4, .int x4), (5, .int v5), (9, .int v9), (11, .int v11), (14, .int r29)]) [1, 2, 3, 4, 5, 6, 9, 11, 0] rfl ?_
          exact g_L_areTalesSo_b261 C hw
  · replace hw := hw.2 c28
    refine gx_aload_n C dL_areTalesSo_162 0 rfl ?_
    refine gx_iconst (v := (0 : Int32)) C dL_areTalesSo_163 (by decide) ?_
    refine gx_iload C dL_areTalesSo_164 12 rfl ?_
    refine gx_vcalli (As := [.int (0 : Int32), .int v15]) (rest := []) C (c_X5_set _ _ hw) okg_10 rfl rfl bw_359 bw_360 bw_361 bw_1 bw_362 hy_X5_set ⟨by decide, by decide⟩ rfl (Nat.le_of_ble_eq_true rfl) dL_areTalesSo_166 (fun r38 σ39 hw => ?_)
    refine gx_istore (lv' := [(14, .int r38), (0, .ref (ad (tE X) 11 10 0)), (1, .int x1), (2, .int x2), (3, .int x3), (4, .int x4), (5, .int v5), (7, .int v7), (8, .int v8), (9, .int v9), (10, .int v10), (11, .int v11), (12, .int v12), (15, .int v15)]) C dL_areTalesSo_169 (by decide) rfl ?_
    refine gx_aload_n C dL_areTalesSo_171 1 rfl ?_
    refine gx_iload_n C dL_areTalesSo_172 3 rfl ?_
    refine gx_vcalli (As := [.int x2]) (rest := []) C (c_X5_run _ _ hw) okg_10 rfl rfl bw_371 bw_372 bw_373 bw_1 bw_374 hy_X5_run ⟨by decide, by decide⟩ rfl (Nat.le_of_ble_eq_true rfl) dL_areTalesSo_173 (fun r40 σ41 hw => ?_)
    refine gx_istore (lv' := [(13, .int r40), (14, .int r38), (0, .ref (ad (tE X) 11 10 0)), (1, .int x1), (2, .int x2), (3, .int x3), (4, .int x4), (5, .int v5), (7, .int v7), (8, .int v8), (9, .int v9), (10, .int v10), (11, .int v11), (12, .int v12), (15, .int v15)]) C dL_areTalesSo_176 (by decide) rfl ?_
    refine gx_iload C dL_areTalesSo_178 11 rfl ?_
    refine gx_if_eq (tgt := 194) C dL_areTalesSo_180 (by decide) (fun c42 => ?_) (fun c42 => ?_)
    · replace hw := hw.1 c42
      refine gx_sub (lv' := [(0, .ref (ad (tE X) 11 10 0)), (1, .int x1), (2, .int x2), (3, .int x3), (4, .int x4), (5, .int v5), (7, .int v7), (8, .int v8), (9, .int v9), (11, .int v11), (12, .int v12), (13, .int r40), (15, .int v15)]) [2, 3, 4, 5, 6, 7, 8, 9, 10, 12, 13, 0, 14] rfl ?_
      exact g_L_areTalesSo_b194 C hK155 hw
    · replace hw := hw.2 c42
      refine gx_iload C dL_areTalesSo_183 0 rfl ?_
      refine gx_iload C dL_areTalesSo_185 9 rfl ?_
      refine gx_icmp_ge (tgt := 194) C dL_areTalesSo_187 (by decide) (fun c43 => ?_) (fun c43 => ?_)
      · replace hw := hw.1 c43
        refine gx_sub (lv' := [(0, .ref (ad (tE X) 11 10 0)), (1, .int x1), (2, .int x2), (3, .int x3), (4, .int x4), (5, .int v5), (7, .int v7), (8, .int v8), (9, .int v9), (11, .int v11), (12, .int v12), (13, .int r40), (15, .int v15)]) [2, 3, 4, 5, 6, 7, 8, 9, 10, 12, 13, 0, 14] rfl ?_
        exact g_L_areTalesSo_b194 C hK155 hw
      · replace hw := hw.2 c43
        refine gx_iconst (v := (1 : Int32)) C dL_areTalesSo_190 (by decide) ?_
        refine gx_goto (tgt := 195) C dL_areTalesSo_191 (by decide) ?_
        refine gx_sub (lv' := [(0, .ref (ad (tE X) 11 10 0)), (1, .int x1), (2, .int x2), (3, .int x3), (4, .int x4), (5, .int v5), (7, .int v7), (8, .int v8), (9, .int v9), (11, .int v11), (12, .int v12), (13, .int r40), (15, .int v15)]) [2, 3, 4, 5, 6, 7, 8, 9, 10, 12, 13, 0, 14] rfl ?_
        exact g_L_areTalesSo_b195 C hK155 hw
set_option maxRecDepth 100000 in
set_option maxHeartbeats 4000000 in
theorem g_L_areTalesSo_L155 {X : Tx} {Q : Int32 → Sg → Prop} (C : Cx X cL_areTalesSo "SweetWrapsLaw" (some .boolean) 7 167 17 (QI (tE X) Q)) {x1 : Int32} {x2 : Int32} {x3 : Int32} {x4 : Int32} {v5 : Int32} {v7 : Int32} {v8 : Int32} {v9 : Int32} {v10 : Int32} {v11 : Int32} {v12 : Int32} {v15 : Int32} {σ : Sg} (hw : wp_L_areTalesSo_L155 x1 x2 x3 x4 Q v5 v7 v8 v9 v10 v11 v12 v15 σ) : G X σ [(0, .ref (ad (tE X) 11 10 0)), (1, .int x1), (2, .int x2), (3, .int x3), (4, .int x4), (5, .int v5), (7, .int v7), (8, .int v8), (9, .int v9), (10, .int v10), (11, .int v11), (12, .int v12), (15, .int v15)] [] 155 := by
  obtain ⟨n, hw⟩ := hw
  exact lpN_G (P := (fun (a : Int32 × Int32 × Int32 × Int32 × Int32 × Int32 × Int32 × Int32 × Sg) => G X (a.2.2.2.2.2.2.2.2) [(0, .ref (ad (tE X) 11 10 0)), (1, .int x1), (2, .int x2), (3, .int x3), (4, .int x4), (5, .int (a.1)), (7, .int (a.2.1)), (8, .int (a.2.2.1)), (9, .int (a.2.2.2.1)), (10, .int (a.2.2.2.2.1)), (11, .int (a.2.2.2.2.2.1)), (12, .int (a.2.2.2.2.2.2.1)), (15, .int (a.2.2.2.2.2.2.2.1))] [] 155)) (fun K a hK h => gs_L_areTalesSo_L155 C (fun v5 v7 v8 v9 v10 v11 v12 v15 σ h => hK (v5, v7, v8, v9, v10, v11, v12, v15, σ) h) h) n _ hw
def wp_L_areTalesSo_b150 (x1 : Int32) (x2 : Int32) (x3 : Int32) (x4 : Int32) (Q : Int32 → Sg → Prop) (v5 : Int32) (v7 : Int32) (v8 : Int32) (v9 : Int32) (v10 : Int32) (v11 : Int32) (v12 : Int32) (s0 : Int32) (σ : Sg) : Prop := wp_L_areTalesSo_L155 x1 x2 x3 x4 Q v5 v7 v8 v9 v10 v11 v12 (1 : Int32) σ
set_option maxRecDepth 100000 in
set_option maxHeartbeats 4000000 in
theorem g_L_areTalesSo_b150 {X : Tx} {Q : Int32 → Sg → Prop} (C : Cx X cL_areTalesSo "SweetWrapsLaw" (some .boolean) 7 167 17 (QI (tE X) Q)) {x1 : Int32} {x2 : Int32} {x3 : Int32} {x4 : Int32} {v5 : Int32} {v7 : Int32} {v8 : Int32} {v9 : Int32} {v10 : Int32} {v11 : Int32} {v12 : Int32} {s0 : Int32} {σ : Sg} (hw : wp_L_areTalesSo_b150 x1 x2 x3 x4 Q v5 v7 v8 v9 v10 v11 v12 s0 σ) : G X σ [(0, .ref (ad (tE X) 11 10 0)), (1, .int x1), (2, .int x2), (3, .int x3), (4, .int x4), (5, .int v5), (7, .int v7), (8, .int v8), (9, .int v9), (10, .int v10), (11, .int v11), (12, .int v12)] [.int s0] 150 := by
  unfold wp_L_areTalesSo_b150 at hw
  refine gx_istore (lv' := [(14, .int s0), (0, .ref (ad (tE X) 11 10 0)), (1, .int x1), (2, .int x2), (3, .int x3), (4, .int x4), (5, .int v5), (7, .int v7), (8, .int v8), (9, .int v9), (10, .int v10), (11, .int v11), (12, .int v12)]) C dL_areTalesSo_150 (by decide) rfl ?_
  refine gx_iconst (v := (1 : Int32)) C dL_areTalesSo_152 (by decide) ?_
  refine gx_istore (lv' := [(15, .int (1 : Int32)), (14, .int s0), (0, .ref (ad (tE X) 11 10 0)), (1, .int x1), (2, .int x2), (3, .int x3), (4, .int x4), (5, .int v5), (7, .int v7), (8, .int v8), (9, .int v9), (10, .int v10), (11, .int v11), (12, .int v12)]) C dL_areTalesSo_153 (by decide) rfl ?_
  refine gx_sub (lv' := [(0, .ref (ad (tE X) 11 10 0)), (1, .int x1), (2, .int x2), (3, .int x3), (4, .int x4), (5, .int v5), (7, .int v7), (8, .int v8), (9, .int v9), (10, .int v10), (11, .int v11), (12, .int v12), (15, .int (1 : Int32))]) [2, 3, 4, 5, 6, 7, 8, 9, 10, 11, 12, 13, 0] rfl ?_
  exact g_L_areTalesSo_L155 C hw
def wp_L_areTalesSo_b135 (x1 : Int32) (x2 : Int32) (x3 : Int32) (x4 : Int32) (Q : Int32 → Sg → Prop) (v5 : Int32) (v7 : Int32) (v8 : Int32) (v9 : Int32) (v11 : Int32) (v12 : Int32) (v13 : Int32) (s0 : Int32) (σ : Sg) : Prop := ((v13 < 0 → wp_L_areTalesSo_b150 x1 x2 x3 x4 Q v5 v7 v8 v9 s0 v11 v12 (0 : Int32) σ) ∧ (¬ v13 < 0 → wp_X5_undo σ (fun r26 σ27 => wp_L_areTalesSo_b150 x1 x2 x3 x4 Q v5 v7 v8 v9 s0 v11 v12 r26 σ27)))
set_option maxRecDepth 100000 in
set_option maxHeartbeats 4000000 in
theorem g_L_areTalesSo_b135 {X : Tx} {Q : Int32 → Sg → Prop} (C : Cx X cL_areTalesSo "SweetWrapsLaw" (some .boolean) 7 167 17 (QI (tE X) Q)) {x1 : Int32} {x2 : Int32} {x3 : Int32} {x4 : Int32} {v5 : Int32} {v7 : Int32} {v8 : Int32} {v9 : Int32} {v11 : Int32} {v12 : Int32} {v13 : Int32} {s0 : Int32} {σ : Sg} (hw : wp_L_areTalesSo_b135 x1 x2 x3 x4 Q v5 v7 v8 v9 v11 v12 v13 s0 σ) : G X σ [(0, .ref (ad (tE X) 11 10 0)), (1, .int x1), (2, .int x2), (3, .int x3), (4, .int x4), (5, .int v5), (7, .int v7), (8, .int v8), (9, .int v9), (11, .int v11), (12, .int v12), (13, .int v13)] [.int s0] 135 := by
  unfold wp_L_areTalesSo_b135 at hw
  refine gx_istore (lv' := [(10, .int s0), (0, .ref (ad (tE X) 11 10 0)), (1, .int x1), (2, .int x2), (3, .int x3), (4, .int x4), (5, .int v5), (7, .int v7), (8, .int v8), (9, .int v9), (11, .int v11), (12, .int v12), (13, .int v13)]) C dL_areTalesSo_135 (by decide) rfl ?_
  refine gx_iload C dL_areTalesSo_137 12 rfl ?_
  refine gx_if_lt (tgt := 149) C dL_areTalesSo_139 (by decide) (fun c25 => ?_) (fun c25 => ?_)
  · replace hw := hw.1 c25
    refine gx_iconst (v := (0 : Int32)) C dL_areTalesSo_149 (by decide) ?_
    refine gx_sub (lv' := [(0, .ref (ad (tE X) 11 10 0)), (1, .int x1), (2, .int x2), (3, .int x3), (4, .int x4), (5, .int v5), (7, .int v7), (8, .int v8), (9, .int v9), (10, .int s0), (11, .int v11), (12, .int v12)]) [1, 2, 3, 4, 5, 6, 7, 8, 9, 0, 10, 11] rfl ?_
    exact g_L_areTalesSo_b150 C hw
  · replace hw := hw.2 c25
    refine gx_aload_n C dL_areTalesSo_142 1 rfl ?_
    refine gx_vcalli (As := []) (rest := []) C (c_X5_undo _ _ hw) okg_10 rfl rfl bw_524 bw_525 bw_526 bw_1 bw_527 hy_X5_undo ⟨by decide, by decide⟩ rfl (Nat.le_of_ble_eq_true rfl) dL_areTalesSo_143 (fun r26 σ27 hw => ?_)
    refine gx_goto (tgt := 150) C dL_areTalesSo_146 (by decide) ?_
    refine gx_sub (lv' := [(0, .ref (ad (tE X) 11 10 0)), (1, .int x1), (2, .int x2), (3, .int x3), (4, .int x4), (5, .int v5), (7, .int v7), (8, .int v8), (9, .int v9), (10, .int s0), (11, .int v11), (12, .int v12)]) [1, 2, 3, 4, 5, 6, 7, 8, 9, 0, 10, 11] rfl ?_
    exact g_L_areTalesSo_b150 C hw
def wp_L_areTalesSo_b134 (x1 : Int32) (x2 : Int32) (x3 : Int32) (x4 : Int32) (Q : Int32 → Sg → Prop) (v5 : Int32) (v7 : Int32) (v8 : Int32) (v9 : Int32) (v11 : Int32) (v12 : Int32) (v13 : Int32) (σ : Sg) : Prop := wp_L_areTalesSo_b135 x1 x2 x3 x4 Q v5 v7 v8 v9 v11 v12 v13 (0 : Int32) σ
set_option maxRecDepth 100000 in
set_option maxHeartbeats 4000000 in
theorem g_L_areTalesSo_b134 {X : Tx} {Q : Int32 → Sg → Prop} (C : Cx X cL_areTalesSo "SweetWrapsLaw" (some .boolean) 7 167 17 (QI (tE X) Q)) {x1 : Int32} {x2 : Int32} {x3 : Int32} {x4 : Int32} {v5 : Int32} {v7 : Int32} {v8 : Int32} {v9 : Int32} {v11 : Int32} {v12 : Int32} {v13 : Int32} {σ : Sg} (hw : wp_L_areTalesSo_b134 x1 x2 x3 x4 Q v5 v7 v8 v9 v11 v12 v13 σ) : G X σ [(0, .ref (ad (tE X) 11 10 0)), (1, .int x1), (2, .int x2), (3, .int x3), (4, .int x4), (5, .int v5), (7, .int v7), (8, .int v8), (9, .int v9), (11, .int v11), (12, .int v12), (13, .int v13)] [] 134 := by
  unfold wp_L_areTalesSo_b134 at hw
  refine gx_iconst (v := (0 : Int32)) C dL_areTalesSo_134 (by decide) ?_
  exact g_L_areTalesSo_b135 C hw
def wp_L_areTalesSo_b130 (x1 : Int32) (x2 : Int32) (x3 : Int32) (x4 : Int32) (Q : Int32 → Sg → Prop) (v5 : Int32) (v7 : Int32) (v8 : Int32) (v9 : Int32) (v11 : Int32) (v12 : Int32) (v13 : Int32) (σ : Sg) : Prop := wp_L_areTalesSo_b135 x1 x2 x3 x4 Q v5 v7 v8 v9 v11 v12 v13 (1 : Int32) σ
set_option maxRecDepth 100000 in
set_option maxHeartbeats 4000000 in
theorem g_L_areTalesSo_b130 {X : Tx} {Q : Int32 → Sg → Prop} (C : Cx X cL_areTalesSo "SweetWrapsLaw" (some .boolean) 7 167 17 (QI (tE X) Q)) {x1 : Int32} {x2 : Int32} {x3 : Int32} {x4 : Int32} {v5 : Int32} {v7 : Int32} {v8 : Int32} {v9 : Int32} {v11 : Int32} {v12 : Int32} {v13 : Int32} {σ : Sg} (hw : wp_L_areTalesSo_b130 x1 x2 x3 x4 Q v5 v7 v8 v9 v11 v12 v13 σ) : G X σ [(0, .ref (ad (tE X) 11 10 0)), (1, .int x1), (2, .int x2), (3, .int x3), (4, .int x4), (5, .int v5), (7, .int v7), (8, .int v8), (9, .int v9), (11, .int v11), (12, .int v12), (13, .int v13)] [] 130 := by
  unfold wp_L_areTalesSo_b130 at hw
  refine gx_iconst (v := (1 : Int32)) C dL_areTalesSo_130 (by decide) ?_
  refine gx_goto (tgt := 135) C dL_areTalesSo_131 (by decide) ?_
  exact g_L_areTalesSo_b135 C hw
def wp_L_areTalesSo_b86 (x1 : Int32) (x2 : Int32) (x3 : Int32) (x4 : Int32) (Q : Int32 → Sg → Prop) (v5 : Int32) (v7 : Int32) (v8 : Int32) (v9 : Int32) (s0 : Int32) (σ : Sg) : Prop := wp_X5_count (5 : Int32) σ (fun r16 σ17 => wp_X5_set (0 : Int32) v7 σ17 (fun r18 σ19 => wp_X5_run x2 σ19 (fun r20 σ21 => ((s0 = 0 → wp_L_areTalesSo_b134 x1 x2 x3 x4 Q v5 v7 v8 v9 r16 r18 r20 σ21) ∧ (¬ s0 = 0 → ((r20 = (-5 : Int32) → wp_L_areTalesSo_b130 x1 x2 x3 x4 Q v5 v7 v8 v9 r16 r18 r20 σ21) ∧ (¬ r20 = (-5 : Int32) → ((¬ r20 = v8 → wp_L_areTalesSo_b134 x1 x2 x3 x4 Q v5 v7 v8 v9 r16 r18 r20 σ21) ∧ (r20 = v8 → wp_L_areTalesSo_b130 x1 x2 x3 x4 Q v5 v7 v8 v9 r16 r18 r20 σ21)))))))))
set_option maxRecDepth 100000 in
set_option maxHeartbeats 4000000 in
theorem g_L_areTalesSo_b86 {X : Tx} {Q : Int32 → Sg → Prop} (C : Cx X cL_areTalesSo "SweetWrapsLaw" (some .boolean) 7 167 17 (QI (tE X) Q)) {x1 : Int32} {x2 : Int32} {x3 : Int32} {x4 : Int32} {v5 : Int32} {v7 : Int32} {v8 : Int32} {v9 : Int32} {s0 : Int32} {σ : Sg} (hw : wp_L_areTalesSo_b86 x1 x2 x3 x4 Q v5 v7 v8 v9 s0 σ) : G X σ [(0, .ref (ad (tE X) 11 10 0)), (1, .int x1), (2, .int x2), (3, .int x3), (4, .int x4), (5, .int v5), (7, .int v7), (8, .int v8), (9, .int v9)] [.int s0] 86 := by
  unfold wp_L_areTalesSo_b86 at hw
  refine gx_istore (lv' := [(10, .int s0), (0, .ref (ad (tE X) 11 10 0)), (1, .int x1), (2, .int x2), (3, .int x3), (4, .int x4), (5, .int v5), (7, .int v7), (8, .int v8), (9, .int v9)]) C dL_areTalesSo_86 (by decide) rfl ?_
  refine gx_aload_n C dL_areTalesSo_88 1 rfl ?_
  refine gx_iconst (v := (5 : Int32)) C dL_areTalesSo_89 (by decide) ?_
  refine gx_vcalli (As := [.int (5 : Int32)]) (rest := []) C (c_X5_count _ _ hw) okg_10 rfl rfl bw_270 bw_271 bw_272 bw_1 bw_273 hy_X5_count ⟨by decide, by decide⟩ rfl (Nat.le_of_ble_eq_true rfl) dL_areTalesSo_90 (fun r16 σ17 hw => ?_)
  refine gx_istore (lv' := [(11, .int r16), (10, .int s0), (0, .ref (ad (tE X) 11 10 0)), (1, .int x1), (2, .int x2), (3, .int x3), (4, .int x4), (5, .int v5), (7, .int v7), (8, .int v8), (9, .int v9)]) C dL_areTalesSo_93 (by decide) rfl ?_
  refine gx_aload_n C dL_areTalesSo_95 2 rfl ?_
  refine gx_iconst (v := (0 : Int32)) C dL_areTalesSo_96 (by decide) ?_
  refine gx_iload C dL_areTalesSo_97 8 rfl ?_
  refine gx_vcalli (As := [.int (0 : Int32), .int v7]) (rest := []) C (c_X5_set _ _ hw) okg_10 rfl rfl bw_359 bw_360 bw_361 bw_1 bw_362 hy_X5_set ⟨by decide, by decide⟩ rfl (Nat.le_of_ble_eq_true rfl) dL_areTalesSo_99 (fun r18 σ19 hw => ?_)
  refine gx_istore (lv' := [(12, .int r18), (11, .int r16), (10, .int s0), (0, .ref (ad (tE X) 11 10 0)), (1, .int x1), (2, .int x2), (3, .int x3), (4, .int x4), (5, .int v5), (7, .int v7), (8, .int v8), (9, .int v9)]) C dL_areTalesSo_102 (by decide) rfl ?_
  refine gx_aload_n C dL_areTalesSo_104 3 rfl ?_
  refine gx_iload_n C dL_areTalesSo_105 5 rfl ?_
  refine gx_vcalli (As := [.int x2]) (rest := []) C (c_X5_run _ _ hw) okg_10 rfl rfl bw_371 bw_372 bw_373 bw_1 bw_374 hy_X5_run ⟨by decide, by decide⟩ rfl (Nat.le_of_ble_eq_true rfl) dL_areTalesSo_106 (fun r20 σ21 hw => ?_)
  refine gx_istore (lv' := [(13, .int r20), (12, .int r18), (11, .int r16), (10, .int s0), (0, .ref (ad (tE X) 11 10 0)), (1, .int x1), (2, .int x2), (3, .int x3), (4, .int x4), (5, .int v5), (7, .int v7), (8, .int v8), (9, .int v9)]) C dL_areTalesSo_109 (by decide) rfl ?_
  refine gx_iload C dL_areTalesSo_111 3 rfl ?_
  refine gx_if_eq (tgt := 134) C dL_areTalesSo_113 (by decide) (fun c22 => ?_) (fun c22 => ?_)
  · replace hw := hw.1 c22
    refine gx_sub (lv' := [(0, .ref (ad (tE X) 11 10 0)), (1, .int x1), (2, .int x2), (3, .int x3), (4, .int x4), (5, .int v5), (7, .int v7), (8, .int v8), (9, .int v9), (11, .int r16), (12, .int r18), (13, .int r20)]) [4, 5, 6, 7, 8, 9, 10, 11, 12, 2, 1, 0] rfl ?_
    exact g_L_areTalesSo_b134 C hw
  · replace hw := hw.2 c22
    refine gx_iload C dL_areTalesSo_116 0 rfl ?_
    refine gx_bipush (v := (-5 : Int32)) C dL_areTalesSo_118 (by decide) ?_
    refine gx_icmp_eq (tgt := 130) C dL_areTalesSo_120 (by decide) (fun c23 => ?_) (fun c23 => ?_)
    · replace hw := hw.1 c23
      refine gx_sub (lv' := [(0, .ref (ad (tE X) 11 10 0)), (1, .int x1), (2, .int x2), (3, .int x3), (4, .int x4), (5, .int v5), (7, .int v7), (8, .int v8), (9, .int v9), (11, .int r16), (12, .int r18), (13, .int r20)]) [4, 5, 6, 7, 8, 9, 10, 11, 12, 2, 1, 0] rfl ?_
      exact g_L_areTalesSo_b130 C hw
    · replace hw := hw.2 c23
      refine gx_iload C dL_areTalesSo_123 0 rfl ?_
      refine gx_iload C dL_areTalesSo_125 11 rfl ?_
      refine gx_icmp_ne (tgt := 134) C dL_areTalesSo_127 (by decide) (fun c24 => ?_) (fun c24 => ?_)
      · replace hw := hw.1 c24
        refine gx_sub (lv' := [(0, .ref (ad (tE X) 11 10 0)), (1, .int x1), (2, .int x2), (3, .int x3), (4, .int x4), (5, .int v5), (7, .int v7), (8, .int v8), (9, .int v9), (11, .int r16), (12, .int r18), (13, .int r20)]) [4, 5, 6, 7, 8, 9, 10, 11, 12, 2, 1, 0] rfl ?_
        exact g_L_areTalesSo_b134 C hw
      · replace hw := hw.2 c24
        refine gx_sub (lv' := [(0, .ref (ad (tE X) 11 10 0)), (1, .int x1), (2, .int x2), (3, .int x3), (4, .int x4), (5, .int v5), (7, .int v7), (8, .int v8), (9, .int v9), (11, .int r16), (12, .int r18), (13, .int r20)]) [4, 5, 6, 7, 8, 9, 10, 11, 12, 2, 1, 0] rfl ?_
        exact g_L_areTalesSo_b130 C hw
def wp_L_areTalesSo_b85 (x1 : Int32) (x2 : Int32) (x3 : Int32) (x4 : Int32) (Q : Int32 → Sg → Prop) (v5 : Int32) (v7 : Int32) (v8 : Int32) (v9 : Int32) (σ : Sg) : Prop := wp_L_areTalesSo_b86 x1 x2 x3 x4 Q v5 v7 v8 v9 (0 : Int32) σ
set_option maxRecDepth 100000 in
set_option maxHeartbeats 4000000 in
theorem g_L_areTalesSo_b85 {X : Tx} {Q : Int32 → Sg → Prop} (C : Cx X cL_areTalesSo "SweetWrapsLaw" (some .boolean) 7 167 17 (QI (tE X) Q)) {x1 : Int32} {x2 : Int32} {x3 : Int32} {x4 : Int32} {v5 : Int32} {v7 : Int32} {v8 : Int32} {v9 : Int32} {σ : Sg} (hw : wp_L_areTalesSo_b85 x1 x2 x3 x4 Q v5 v7 v8 v9 σ) : G X σ [(0, .ref (ad (tE X) 11 10 0)), (1, .int x1), (2, .int x2), (3, .int x3), (4, .int x4), (5, .int v5), (7, .int v7), (8, .int v8), (9, .int v9)] [] 85 := by
  unfold wp_L_areTalesSo_b85 at hw
  refine gx_iconst (v := (0 : Int32)) C dL_areTalesSo_85 (by decide) ?_
  exact g_L_areTalesSo_b86 C hw
def wp_L_areTalesSo_b66 (x1 : Int32) (x2 : Int32) (x3 : Int32) (x4 : Int32) (Q : Int32 → Sg → Prop) (v5 : Int32) (v7 : Int32) (v8 : Int32) (v9 : Int32) (s0 : Int32) (s1 : Int32) (σ : Sg) : Prop := ((¬ s1 = s0 → wp_L_areTalesSo_b85 x1 x2 x3 x4 Q v5 v7 v8 v9 σ) ∧ (s1 = s0 → ((v7 ≤ 0 → wp_L_areTalesSo_b85 x1 x2 x3 x4 Q v5 v7 v8 v9 σ) ∧ (¬ v7 ≤ 0 → (((10 : Int32) ≤ v7 → wp_L_areTalesSo_b85 x1 x2 x3 x4 Q v5 v7 v8 v9 σ) ∧ (¬ (10 : Int32) ≤ v7 → wp_L_areTalesSo_b86 x1 x2 x3 x4 Q v5 v7 v8 v9 (1 : Int32) σ))))))
set_option maxRecDepth 100000 in
set_option maxHeartbeats 4000000 in
theorem g_L_areTalesSo_b66 {X : Tx} {Q : Int32 → Sg → Prop} (C : Cx X cL_areTalesSo "SweetWrapsLaw" (some .boolean) 7 167 17 (QI (tE X) Q)) {x1 : Int32} {x2 : Int32} {x3 : Int32} {x4 : Int32} {v5 : Int32} {v7 : Int32} {v8 : Int32} {v9 : Int32} {s0 : Int32} {s1 : Int32} {σ : Sg} (hw : wp_L_areTalesSo_b66 x1 x2 x3 x4 Q v5 v7 v8 v9 s0 s1 σ) : G X σ [(0, .ref (ad (tE X) 11 10 0)), (1, .int x1), (2, .int x2), (3, .int x3), (4, .int x4), (5, .int v5), (7, .int v7), (8, .int v8), (9, .int v9)] [.int s0, .int s1] 66 := by
  unfold wp_L_areTalesSo_b66 at hw
  refine gx_icmp_ne (tgt := 85) C dL_areTalesSo_66 (by decide) (fun c13 => ?_) (fun c13 => ?_)
  · replace hw := hw.1 c13
    exact g_L_areTalesSo_b85 C hw
  · replace hw := hw.2 c13
    refine gx_iload C dL_areTalesSo_69 6 rfl ?_
    refine gx_if_le (tgt := 85) C dL_areTalesSo_71 (by decide) (fun c14 => ?_) (fun c14 => ?_)
    · replace hw := hw.1 c14
      exact g_L_areTalesSo_b85 C hw
    · replace hw := hw.2 c14
      refine gx_iload C dL_areTalesSo_74 6 rfl ?_
      refine gx_bipush (v := (10 : Int32)) C dL_areTalesSo_76 (by decide) ?_
      refine gx_icmp_ge (tgt := 85) C dL_areTalesSo_78 (by decide) (fun c15 => ?_) (fun c15 => ?_)
      · replace hw := hw.1 c15
        exact g_L_areTalesSo_b85 C hw
      · replace hw := hw.2 c15
        refine gx_iconst (v := (1 : Int32)) C dL_areTalesSo_81 (by decide) ?_
        refine gx_goto (tgt := 86) C dL_areTalesSo_82 (by decide) ?_
        exact g_L_areTalesSo_b86 C hw
def wp_L_areTalesSo_b54 (x1 : Int32) (x2 : Int32) (x3 : Int32) (x4 : Int32) (Q : Int32 → Sg → Prop) (v5 : Int32) (v6 : Int32) (v7 : Int32) (v8 : Int32) (v9 : Int32) (s0 : Int32) (σ : Sg) : Prop := ((¬ v6 = (-6 : Int32) → wp_L_areTalesSo_b66 x1 x2 x3 x4 Q v5 v7 v8 v9 (0 : Int32) s0 σ) ∧ (v6 = (-6 : Int32) → wp_L_areTalesSo_b66 x1 x2 x3 x4 Q v5 v7 v8 v9 (1 : Int32) s0 σ))
set_option maxRecDepth 100000 in
set_option maxHeartbeats 4000000 in
theorem g_L_areTalesSo_b54 {X : Tx} {Q : Int32 → Sg → Prop} (C : Cx X cL_areTalesSo "SweetWrapsLaw" (some .boolean) 7 167 17 (QI (tE X) Q)) {x1 : Int32} {x2 : Int32} {x3 : Int32} {x4 : Int32} {v5 : Int32} {v6 : Int32} {v7 : Int32} {v8 : Int32} {v9 : Int32} {s0 : Int32} {σ : Sg} (hw : wp_L_areTalesSo_b54 x1 x2 x3 x4 Q v5 v6 v7 v8 v9 s0 σ) : G X σ [(0, .ref (ad (tE X) 11 10 0)), (1, .int x1), (2, .int x2), (3, .int x3), (4, .int x4), (5, .int v5), (6, .int v6), (7, .int v7), (8, .int v8), (9, .int v9)] [.int s0] 54 := by
  unfold wp_L_areTalesSo_b54 at hw
  refine gx_iload C dL_areTalesSo_54 6 rfl ?_
  refine gx_bipush (v := (-6 : Int32)) C dL_areTalesSo_56 (by decide) ?_
  refine gx_icmp_ne (tgt := 65) C dL_areTalesSo_58 (by decide) (fun c12 => ?_) (fun c12 => ?_)
  · replace hw := hw.1 c12
    refine gx_iconst (v := (0 : Int32)) C dL_areTalesSo_65 (by decide) ?_
    refine gx_sub (lv' := [(0, .ref (ad (tE X) 11 10 0)), (1, .int x1), (2, .int x2), (3, .int x3), (4, .int x4), (5, .int v5), (7, .int v7), (8, .int v8), (9, .int v9)]) [0, 1, 2, 3, 4, 5, 7, 8, 9] rfl ?_
    exact g_L_areTalesSo_b66 C hw
  · replace hw := hw.2 c12
    refine gx_iconst (v := (1 : Int32)) C dL_areTalesSo_61 (by decide) ?_
    refine gx_goto (tgt := 66) C dL_areTalesSo_62 (by decide) ?_
    refine gx_sub (lv' := [(0, .ref (ad (tE X) 11 10 0)), (1, .int x1), (2, .int x2), (3, .int x3), (4, .int x4), (5, .int v5), (7, .int v7), (8, .int v8), (9, .int v9)]) [0, 1, 2, 3, 4, 5, 7, 8, 9] rfl ?_
    exact g_L_areTalesSo_b66 C hw
def wp_L_areTalesSo (x1 : Int32) (x2 : Int32) (x3 : Int32) (x4 : Int32) (σ : Sg) (Q : Int32 → Sg → Prop) : Prop := wp_X5_stands x1 (0 : Int32) σ (fun r1 σ2 => wp_X5_stands x1 (1 : Int32) σ2 (fun r3 σ4 => wp_X5_bestSpeed x2 (0 : Int32) σ4 (fun r5 σ6 => wp_X5_bestSpeed x2 (1 : Int32) σ6 (fun r7 σ8 => wp_X5_ifApart x3 x4 x2 σ8 (fun r9 σ10 => ((¬ r1 = (-6 : Int32) → wp_L_areTalesSo_b54 x1 x2 x3 x4 Q r1 r3 r5 r7 r9 (0 : Int32) σ10) ∧ (r1 = (-6 : Int32) → wp_L_areTalesSo_b54 x1 x2 x3 x4 Q r1 r3 r5 r7 r9 (1 : Int32) σ10)))))))
set_option maxRecDepth 100000 in
set_option maxHeartbeats 4000000 in
theorem c_L_areTalesSo (l : Launch) (E : Ev) {x1 : Int32} {x2 : Int32} {x3 : Int32} {x4 : Int32} {σ : Sg} {Q : Int32 → Sg → Prop} (hw : wp_L_areTalesSo x1 x2 x3 x4 σ Q) : CT l E yL_areTalesSo cL_areTalesSo 17 (some .boolean) 7 167 [.ref (ad E 11 10 0), .int x1, .int x2, .int x3, .int x4] σ (QI E Q) := by
  refine CT_of (by decide) (Nat.le_of_ble_eq_true rfl) (fun X h1 h2 C => ?_)
  subst h1; subst h2
  have C : Cx X cL_areTalesSo "SweetWrapsLaw" (some .boolean) 7 167 17 (QI (tE X) Q) := C
  show G X σ [(0, .ref (ad (tE X) 11 10 0)), (1, .int x1), (2, .int x2), (3, .int x3), (4, .int x4)] [] 0
  unfold wp_L_areTalesSo at hw
  refine gx_aload_n C dL_areTalesSo_0 0 rfl ?_
  refine gx_iload_n C dL_areTalesSo_1 1 rfl ?_
  refine gx_iconst (v := (0 : Int32)) C dL_areTalesSo_2 (by decide) ?_
  refine gx_vcalli (As := [.int x1, .int (0 : Int32)]) (rest := []) C (c_X5_stands _ _ hw) okg_10 rfl rfl bw_505 bw_506 bw_507 bw_1 bw_508 hy_X5_stands ⟨by decide, by decide⟩ rfl (Nat.le_of_ble_eq_true rfl) dL_areTalesSo_3 (fun r1 σ2 hw => ?_)
  refine gx_istore (lv' := [(5, .int r1), (0, .ref (ad (tE X) 11 10 0)), (1, .int x1), (2, .int x2), (3, .int x3), (4, .int x4)]) C dL_areTalesSo_6 (by decide) rfl ?_
  refine gx_aload_n C dL_areTalesSo_8 1 rfl ?_
  refine gx_iload_n C dL_areTalesSo_9 2 rfl ?_
  refine gx_iconst (v := (1 : Int32)) C dL_areTalesSo_10 (by decide) ?_
  refine gx_vcalli (As := [.int x1, .int (1 : Int32)]) (rest := []) C (c_X5_stands _ _ hw) okg_10 rfl rfl bw_505 bw_506 bw_507 bw_1 bw_508 hy_X5_stands ⟨by decide, by decide⟩ rfl (Nat.le_of_ble_eq_true rfl) dL_areTalesSo_11 (fun r3 σ4 hw => ?_)
  refine gx_istore (lv' := [(6, .int r3), (5, .int r1), (0, .ref (ad (tE X) 11 10 0)), (1, .int x1), (2, .int x2), (3, .int x3), (4, .int x4)]) C dL_areTalesSo_14 (by decide) rfl ?_
  refine gx_aload_n C dL_areTalesSo_16 2 rfl ?_
  refine gx_iload_n C dL_areTalesSo_17 4 rfl ?_
  refine gx_iconst (v := (0 : Int32)) C dL_areTalesSo_18 (by decide) ?_
  refine gx_vcalli (As := [.int x2, .int (0 : Int32)]) (rest := []) C (c_X5_bestSpeed _ _ hw) okg_10 rfl rfl bw_512 bw_513 bw_514 bw_1 bw_515 hy_X5_bestSpeed ⟨by decide, by decide⟩ rfl (Nat.le_of_ble_eq_true rfl) dL_areTalesSo_19 (fun r5 σ6 hw => ?_)
  refine gx_istore (lv' := [(7, .int r5), (6, .int r3), (5, .int r1), (0, .ref (ad (tE X) 11 10 0)), (1, .int x1), (2, .int x2), (3, .int x3), (4, .int x4)]) C dL_areTalesSo_22 (by decide) rfl ?_
  refine gx_aload_n C dL_areTalesSo_24 3 rfl ?_
  refine gx_iload_n C dL_areTalesSo_25 5 rfl ?_
  refine gx_iconst (v := (1 : Int32)) C dL_areTalesSo_26 (by decide) ?_
  refine gx_vcalli (As := [.int x2, .int (1 : Int32)]) (rest := []) C (c_X5_bestSpeed _ _ hw) okg_10 rfl rfl bw_512 bw_513 bw_514 bw_1 bw_515 hy_X5_bestSpeed ⟨by decide, by decide⟩ rfl (Nat.le_of_ble_eq_true rfl) dL_areTalesSo_27 (fun r7 σ8 hw => ?_)
  refine gx_istore (lv' := [(8, .int r7), (7, .int r5), (6, .int r3), (5, .int r1), (0, .ref (ad (tE X) 11 10 0)), (1, .int x1), (2, .int x2), (3, .int x3), (4, .int x4)]) C dL_areTalesSo_30 (by decide) rfl ?_
  refine gx_aload_n C dL_areTalesSo_32 4 rfl ?_
  refine gx_iload_n C dL_areTalesSo_33 7 rfl ?_
  refine gx_iload C dL_areTalesSo_34 8 rfl ?_
  refine gx_iload_n C dL_areTalesSo_36 6 rfl ?_
  refine gx_vcalli (As := [.int x3, .int x4, .int x2]) (rest := []) C (c_X5_ifApart _ _ hw) okg_10 rfl rfl bw_519 bw_520 bw_521 bw_1 bw_522 hy_X5_ifApart ⟨by decide, by decide⟩ rfl (Nat.le_of_ble_eq_true rfl) dL_areTalesSo_37 (fun r9 σ10 hw => ?_)
  refine gx_istore (lv' := [(9, .int r9), (8, .int r7), (7, .int r5), (6, .int r3), (5, .int r1), (0, .ref (ad (tE X) 11 10 0)), (1, .int x1), (2, .int x2), (3, .int x3), (4, .int x4)]) C dL_areTalesSo_40 (by decide) rfl ?_
  refine gx_iload C dL_areTalesSo_42 4 rfl ?_
  refine gx_bipush (v := (-6 : Int32)) C dL_areTalesSo_44 (by decide) ?_
  refine gx_icmp_ne (tgt := 53) C dL_areTalesSo_46 (by decide) (fun c11 => ?_) (fun c11 => ?_)
  · replace hw := hw.1 c11
    refine gx_iconst (v := (0 : Int32)) C dL_areTalesSo_53 (by decide) ?_
    refine gx_sub (lv' := [(0, .ref (ad (tE X) 11 10 0)), (1, .int x1), (2, .int x2), (3, .int x3), (4, .int x4), (5, .int r1), (6, .int r3), (7, .int r5), (8, .int r7), (9, .int r9)]) [5, 6, 7, 8, 9, 4, 3, 2, 1, 0] rfl ?_
    exact g_L_areTalesSo_b54 C hw
  · replace hw := hw.2 c11
    refine gx_iconst (v := (1 : Int32)) C dL_areTalesSo_49 (by decide) ?_
    refine gx_goto (tgt := 54) C dL_areTalesSo_50 (by decide) ?_
    refine gx_sub (lv' := [(0, .ref (ad (tE X) 11 10 0)), (1, .int x1), (2, .int x2), (3, .int x3), (4, .int x4), (5, .int r1), (6, .int r3), (7, .int r5), (8, .int r7), (9, .int r9)]) [5, 6, 7, 8, 9, 4, 3, 2, 1, 0] rfl ?_
    exact g_L_areTalesSo_b54 C hw
theorem hyS_L_areTalesSo : yL_areTalesSo.cls ≠ "java/lang/invoke/MethodHandle" ∧ yL_areTalesSo.cls ≠ "java/lang/invoke/VarHandle" ∧ (parseMethodDescriptor yL_areTalesSo.desc).map (fun d => d.parameters.length) = some 5 := by decide +kernel
