/-! LINKS and DECODE ROWS of the law -/
theorem ow_256 : ax_own 256 = 18 := by decide +kernel
theorem aL_12 : ax_L 12 = 4 := by decide +kernel
theorem aL_30 : ax_L 30 = 3 := by decide +kernel
theorem aL_33 : ax_L 33 = 1 := by decide +kernel
theorem aL_34 : ax_L 34 = 2 := by decide +kernel
theorem aL_35 : ax_L 35 = 3 := by decide +kernel
theorem aL_37 : ax_L 37 = 3 := by decide +kernel
theorem aL_42 : ax_L 42 = 4 := by decide +kernel
theorem aL_44 : ax_L 44 = 4 := by decide +kernel
theorem aL_62 : ax_L 62 = 2 := by decide +kernel
theorem aL_67 : ax_L 67 = 4 := by decide +kernel
theorem aL_68 : ax_L 68 = 2 := by decide +kernel
theorem aL_76 : ax_L 76 = 8 := by decide +kernel
theorem aL_81 : ax_L 81 = 3 := by decide +kernel
theorem aL_87 : ax_L 87 = 1 := by decide +kernel
theorem aL_93 : ax_L 93 = 3 := by decide +kernel
theorem aL_106 : ax_L 106 = 3 := by decide +kernel
theorem aL_107 : ax_L 107 = 3 := by decide +kernel
theorem aL_137 : ax_L 137 = 4 := by decide +kernel
theorem aL_147 : ax_L 147 = 1 := by decide +kernel
theorem aL_151 : ax_L 151 = 1 := by decide +kernel
theorem aL_152 : ax_L 152 = 2 := by decide +kernel
theorem aL_157 : ax_L 157 = 4 := by decide +kernel
theorem aL_166 : ax_L 166 = 3 := by decide +kernel
theorem aL_169 : ax_L 169 = 3 := by decide +kernel
theorem aL_171 : ax_L 171 = 1 := by decide +kernel
theorem aL_172 : ax_L 172 = 2 := by decide +kernel
theorem aL_175 : ax_L 175 = 3 := by decide +kernel
theorem aL_178 : ax_L 178 = 3 := by decide +kernel
theorem aL_183 : ax_L 183 = 4 := by decide +kernel
theorem aL_185 : ax_L 185 = 4 := by decide +kernel
theorem aL_193 : ax_L 193 = 2 := by decide +kernel
theorem aL_205 : ax_L 205 = 3 := by decide +kernel
theorem aL_208 : ax_L 208 = 1 := by decide +kernel
theorem aL_214 : ax_L 214 = 3 := by decide +kernel
theorem aL_223 : ax_L 223 = 3 := by decide +kernel
theorem aL_239 : ax_L 239 = 4 := by decide +kernel
theorem aL_250 : ax_L 250 = 1 := by decide +kernel
theorem aL_254 : ax_L 254 = 1 := by decide +kernel
theorem aL_255 : ax_L 255 = 2 := by decide +kernel
theorem aL_256 : ax_L 256 = 4 := by decide +kernel
theorem rt_256 : ax_ret 256 = some .boolean := by decide +kernel
theorem ld_18_129 : ax_ldc 18 129 = some (.long (lN 4294967295)) := by decide +kernel
theorem ca_18_13 : ax_cal 18 13 = some (0, 8, 1) := by decide +kernel
theorem ca_18_17 : ax_cal 18 17 = some (0, 154, 1) := by decide +kernel
theorem ca_18_18 : ax_cal 18 18 = some (0, 11, 2) := by decide +kernel
theorem ca_18_22 : ax_cal 18 22 = some (0, 156, 2) := by decide +kernel
theorem ca_18_23 : ax_cal 18 23 = some (0, 12, 3) := by decide +kernel
theorem ca_18_27 : ax_cal 18 27 = some (0, 157, 3) := by decide +kernel
theorem ca_18_28 : ax_cal 18 28 = some (0, 29, 2) := by decide +kernel
theorem ca_18_31 : ax_cal 18 31 = some (0, 166, 2) := by decide +kernel
theorem ca_18_32 : ax_cal 18 32 = some (0, 30, 2) := by decide +kernel
theorem ca_18_35 : ax_cal 18 35 = some (0, 169, 2) := by decide +kernel
theorem ca_18_36 : ax_cal 18 36 = some (0, 33, 0) := by decide +kernel
theorem ca_18_40 : ax_cal 18 40 = some (0, 171, 0) := by decide +kernel
theorem ca_18_41 : ax_cal 18 41 = some (0, 34, 1) := by decide +kernel
theorem ca_18_44 : ax_cal 18 44 = some (0, 172, 1) := by decide +kernel
theorem ca_18_45 : ax_cal 18 45 = some (0, 35, 2) := by decide +kernel
theorem ca_18_48 : ax_cal 18 48 = some (0, 175, 2) := by decide +kernel
theorem ca_18_49 : ax_cal 18 49 = some (0, 37, 2) := by decide +kernel
theorem ca_18_53 : ax_cal 18 53 = some (0, 178, 2) := by decide +kernel
theorem ca_18_54 : ax_cal 18 54 = some (0, 42, 3) := by decide +kernel
theorem ca_18_57 : ax_cal 18 57 = some (0, 183, 3) := by decide +kernel
theorem ca_18_58 : ax_cal 18 58 = some (0, 44, 3) := by decide +kernel
theorem ca_18_61 : ax_cal 18 61 = some (0, 185, 3) := by decide +kernel
theorem ca_18_62 : ax_cal 18 62 = some (0, 47, 4) := by decide +kernel
theorem ca_18_66 : ax_cal 18 66 = some (0, 187, 4) := by decide +kernel
theorem ca_18_67 : ax_cal 18 67 = some (0, 49, 6) := by decide +kernel
theorem ca_18_71 : ax_cal 18 71 = some (0, 188, 6) := by decide +kernel
theorem ca_18_72 : ax_cal 18 72 = some (0, 62, 1) := by decide +kernel
theorem ca_18_75 : ax_cal 18 75 = some (0, 193, 1) := by decide +kernel
theorem ca_18_76 : ax_cal 18 76 = some (0, 67, 3) := by decide +kernel
theorem ca_18_79 : ax_cal 18 79 = some (0, 196, 3) := by decide +kernel
theorem ca_18_80 : ax_cal 18 80 = some (0, 68, 1) := by decide +kernel
theorem ca_18_83 : ax_cal 18 83 = some (0, 197, 1) := by decide +kernel
theorem ca_18_84 : ax_cal 18 84 = some (0, 72, 4) := by decide +kernel
theorem ca_18_87 : ax_cal 18 87 = some (0, 199, 4) := by decide +kernel
theorem ca_18_88 : ax_cal 18 88 = some (0, 74, 1) := by decide +kernel
theorem ca_18_91 : ax_cal 18 91 = some (0, 201, 1) := by decide +kernel
theorem ca_18_92 : ax_cal 18 92 = some (0, 75, 0) := by decide +kernel
theorem ca_18_95 : ax_cal 18 95 = some (0, 203, 0) := by decide +kernel
theorem ca_18_96 : ax_cal 18 96 = some (0, 76, 7) := by decide +kernel
theorem ca_18_100 : ax_cal 18 100 = some (0, 204, 7) := by decide +kernel
theorem ca_18_101 : ax_cal 18 101 = some (0, 81, 2) := by decide +kernel
theorem ca_18_104 : ax_cal 18 104 = some (0, 205, 2) := by decide +kernel
theorem ca_18_105 : ax_cal 18 105 = some (0, 87, 0) := by decide +kernel
theorem ca_18_108 : ax_cal 18 108 = some (0, 208, 0) := by decide +kernel
theorem ca_18_109 : ax_cal 18 109 = some (0, 88, 2) := by decide +kernel
theorem ca_18_112 : ax_cal 18 112 = some (0, 209, 2) := by decide +kernel
theorem ca_18_113 : ax_cal 18 113 = some (0, 91, 2) := by decide +kernel
theorem ca_18_116 : ax_cal 18 116 = some (0, 212, 2) := by decide +kernel
theorem ca_18_117 : ax_cal 18 117 = some (0, 93, 2) := by decide +kernel
theorem ca_18_120 : ax_cal 18 120 = some (0, 214, 2) := by decide +kernel
theorem ca_18_121 : ax_cal 18 121 = some (0, 102, 1) := by decide +kernel
theorem ca_18_124 : ax_cal 18 124 = some (0, 221, 1) := by decide +kernel
theorem ca_18_125 : ax_cal 18 125 = some (0, 105, 0) := by decide +kernel
theorem ca_18_128 : ax_cal 18 128 = some (0, 222, 0) := by decide +kernel
theorem ca_18_131 : ax_cal 18 131 = some (0, 106, 1) := by decide +kernel
theorem ca_18_135 : ax_cal 18 135 = some (0, 223, 1) := by decide +kernel
theorem ca_18_136 : ax_cal 18 136 = some (0, 107, 2) := by decide +kernel
theorem ca_18_139 : ax_cal 18 139 = some (0, 224, 2) := by decide +kernel
theorem ca_18_140 : ax_cal 18 140 = some (0, 109, 0) := by decide +kernel
theorem ca_18_143 : ax_cal 18 143 = some (0, 225, 0) := by decide +kernel
theorem ca_18_144 : ax_cal 18 144 = some (0, 128, 2) := by decide +kernel
theorem ca_18_147 : ax_cal 18 147 = some (0, 232, 2) := by decide +kernel
theorem ca_18_148 : ax_cal 18 148 = some (0, 130, 3) := by decide +kernel
theorem ca_18_151 : ax_cal 18 151 = some (0, 234, 3) := by decide +kernel
theorem ca_18_152 : ax_cal 18 152 = some (0, 131, 1) := by decide +kernel
theorem ca_18_155 : ax_cal 18 155 = some (0, 235, 1) := by decide +kernel
theorem ca_18_156 : ax_cal 18 156 = some (0, 132, 5) := by decide +kernel
theorem ca_18_160 : ax_cal 18 160 = some (0, 236, 5) := by decide +kernel
theorem ca_18_161 : ax_cal 18 161 = some (0, 137, 3) := by decide +kernel
theorem ca_18_164 : ax_cal 18 164 = some (0, 239, 3) := by decide +kernel
theorem ca_18_165 : ax_cal 18 165 = some (0, 138, 3) := by decide +kernel
theorem ca_18_168 : ax_cal 18 168 = some (0, 240, 3) := by decide +kernel
theorem ca_18_169 : ax_cal 18 169 = some (0, 140, 2) := by decide +kernel
theorem ca_18_172 : ax_cal 18 172 = some (0, 242, 2) := by decide +kernel
theorem ca_18_173 : ax_cal 18 173 = some (0, 141, 2) := by decide +kernel
theorem ca_18_176 : ax_cal 18 176 = some (0, 243, 2) := by decide +kernel
theorem ca_18_177 : ax_cal 18 177 = some (0, 142, 3) := by decide +kernel
theorem ca_18_181 : ax_cal 18 181 = some (0, 244, 3) := by decide +kernel
theorem ca_18_182 : ax_cal 18 182 = some (0, 144, 2) := by decide +kernel
theorem ca_18_185 : ax_cal 18 185 = some (0, 246, 2) := by decide +kernel
theorem ca_18_186 : ax_cal 18 186 = some (0, 145, 2) := by decide +kernel
theorem ca_18_189 : ax_cal 18 189 = some (0, 248, 2) := by decide +kernel
theorem ca_18_190 : ax_cal 18 190 = some (0, 146, 3) := by decide +kernel
theorem ca_18_193 : ax_cal 18 193 = some (0, 249, 3) := by decide +kernel
theorem ca_18_194 : ax_cal 18 194 = some (0, 147, 0) := by decide +kernel
theorem ca_18_197 : ax_cal 18 197 = some (0, 250, 0) := by decide +kernel
theorem ca_18_198 : ax_cal 18 198 = some (0, 151, 0) := by decide +kernel
theorem ca_18_201 : ax_cal 18 201 = some (0, 254, 0) := by decide +kernel
theorem ca_18_202 : ax_cal 18 202 = some (0, 152, 1) := by decide +kernel
theorem ca_18_206 : ax_cal 18 206 = some (0, 255, 1) := by decide +kernel
section R86
variable {d m pc : Nat} {ls st : List Value} {h : AH} {R : Option Value × AH}
end R86
theorem dc_256_18 : decode (ax_code 256) 18 = .ok (.iload_n 3, 1) := by decide +kernel
theorem dc_256_19 : decode (ax_code 256) 19 = .ok (.aload_n 0, 1) := by decide +kernel
theorem dc_256_20 : decode (ax_code 256) 20 = .ok (.arraylength, 1) := by decide +kernel
theorem dc_256_21 : decode (ax_code 256) 21 = .ok (.bipush 8, 2) := by decide +kernel
theorem dc_256_23 : decode (ax_code 256) 23 = .ok (.isub, 1) := by decide +kernel
theorem dc_256_24 : decode (ax_code 256) 24 = .ok (.if_icmp .gt 1787, 3) := by decide +kernel
theorem dc_256_27 : decode (ax_code 256) 27 = .ok (.aload_n 0, 1) := by decide +kernel
theorem dc_256_28 : decode (ax_code 256) 28 = .ok (.iload_n 3, 1) := by decide +kernel
theorem dc_256_29 : decode (ax_code 256) 29 = .ok (.iaload, 1) := by decide +kernel
theorem dc_256_30 : decode (ax_code 256) 30 = .ok (.bipush 63, 2) := by decide +kernel
theorem dc_256_32 : decode (ax_code 256) 32 = .ok (.iand, 1) := by decide +kernel
theorem dc_256_33 : decode (ax_code 256) 33 = .ok (.tableswitch 1772 0 44 #[195, 218, 251, 294, 327, 360, 373, 396, 429, 463, 506, 549, 602, 678, 701, 744, 767, 820, 843, 856, 943, 976, 989, 1023, 1057, 1091, 1114, 1127, 1180, 1213, 1226, 1259, 1302, 1325, 1388, 1431, 1474, 1507, 1540, 1613, 1646, 1679, 1722, 1735, 1748], 195) := by decide +kernel
theorem dc_256_228 : decode (ax_code 256) 228 = .ok (.aload_n 1, 1) := by decide +kernel
theorem dc_256_229 : decode (ax_code 256) 229 = .ok (.aload_n 0, 1) := by decide +kernel
theorem dc_256_230 : decode (ax_code 256) 230 = .ok (.iload_n 3, 1) := by decide +kernel
theorem dc_256_231 : decode (ax_code 256) 231 = .ok (.iconst 1, 1) := by decide +kernel
theorem dc_256_232 : decode (ax_code 256) 232 = .ok (.iadd, 1) := by decide +kernel
theorem dc_256_233 : decode (ax_code 256) 233 = .ok (.iaload, 1) := by decide +kernel
theorem dc_256_234 : decode (ax_code 256) 234 = .ok (.invokevirtual 13, 3) := by decide +kernel
theorem dc_256_237 : decode (ax_code 256) 237 = .ok (.aload_n 2, 1) := by decide +kernel
theorem dc_256_238 : decode (ax_code 256) 238 = .ok (.aload_n 0, 1) := by decide +kernel
theorem dc_256_239 : decode (ax_code 256) 239 = .ok (.iload_n 3, 1) := by decide +kernel
theorem dc_256_240 : decode (ax_code 256) 240 = .ok (.iconst 1, 1) := by decide +kernel
theorem dc_256_241 : decode (ax_code 256) 241 = .ok (.iadd, 1) := by decide +kernel
theorem dc_256_242 : decode (ax_code 256) 242 = .ok (.iaload, 1) := by decide +kernel
theorem dc_256_243 : decode (ax_code 256) 243 = .ok (.invokevirtual 17, 3) := by decide +kernel
theorem dc_256_246 : decode (ax_code 256) 246 = .ok (.if_icmp .eq 1559, 3) := by decide +kernel
theorem dc_256_249 : decode (ax_code 256) 249 = .ok (.iconst 0, 1) := by decide +kernel
theorem dc_256_250 : decode (ax_code 256) 250 = .ok (.ireturn, 1) := by decide +kernel
theorem dc_256_251 : decode (ax_code 256) 251 = .ok (.aload_n 1, 1) := by decide +kernel
theorem dc_256_252 : decode (ax_code 256) 252 = .ok (.aload_n 0, 1) := by decide +kernel
theorem dc_256_253 : decode (ax_code 256) 253 = .ok (.iload_n 3, 1) := by decide +kernel
theorem dc_256_254 : decode (ax_code 256) 254 = .ok (.iconst 1, 1) := by decide +kernel
theorem dc_256_255 : decode (ax_code 256) 255 = .ok (.iadd, 1) := by decide +kernel
theorem dc_256_256 : decode (ax_code 256) 256 = .ok (.iaload, 1) := by decide +kernel
theorem dc_256_257 : decode (ax_code 256) 257 = .ok (.aload_n 0, 1) := by decide +kernel
theorem dc_256_258 : decode (ax_code 256) 258 = .ok (.iload_n 3, 1) := by decide +kernel
theorem dc_256_259 : decode (ax_code 256) 259 = .ok (.iconst 2, 1) := by decide +kernel
theorem dc_256_260 : decode (ax_code 256) 260 = .ok (.iadd, 1) := by decide +kernel
theorem dc_256_261 : decode (ax_code 256) 261 = .ok (.iaload, 1) := by decide +kernel
theorem dc_256_262 : decode (ax_code 256) 262 = .ok (.invokevirtual 18, 3) := by decide +kernel
theorem dc_256_265 : decode (ax_code 256) 265 = .ok (.aload_n 2, 1) := by decide +kernel
theorem dc_256_266 : decode (ax_code 256) 266 = .ok (.aload_n 0, 1) := by decide +kernel
theorem dc_256_267 : decode (ax_code 256) 267 = .ok (.iload_n 3, 1) := by decide +kernel
theorem dc_256_268 : decode (ax_code 256) 268 = .ok (.iconst 1, 1) := by decide +kernel
theorem dc_256_269 : decode (ax_code 256) 269 = .ok (.iadd, 1) := by decide +kernel
theorem dc_256_270 : decode (ax_code 256) 270 = .ok (.iaload, 1) := by decide +kernel
theorem dc_256_271 : decode (ax_code 256) 271 = .ok (.aload_n 0, 1) := by decide +kernel
theorem dc_256_272 : decode (ax_code 256) 272 = .ok (.iload_n 3, 1) := by decide +kernel
theorem dc_256_273 : decode (ax_code 256) 273 = .ok (.iconst 2, 1) := by decide +kernel
theorem dc_256_274 : decode (ax_code 256) 274 = .ok (.iadd, 1) := by decide +kernel
theorem dc_256_275 : decode (ax_code 256) 275 = .ok (.iaload, 1) := by decide +kernel
theorem dc_256_276 : decode (ax_code 256) 276 = .ok (.invokevirtual 22, 3) := by decide +kernel
theorem dc_256_279 : decode (ax_code 256) 279 = .ok (.if_icmp .eq 1526, 3) := by decide +kernel
theorem dc_256_282 : decode (ax_code 256) 282 = .ok (.iconst 0, 1) := by decide +kernel
theorem dc_256_283 : decode (ax_code 256) 283 = .ok (.ireturn, 1) := by decide +kernel
theorem dc_256_284 : decode (ax_code 256) 284 = .ok (.aload_n 1, 1) := by decide +kernel
theorem dc_256_285 : decode (ax_code 256) 285 = .ok (.aload_n 0, 1) := by decide +kernel
theorem dc_256_286 : decode (ax_code 256) 286 = .ok (.iload_n 3, 1) := by decide +kernel
theorem dc_256_287 : decode (ax_code 256) 287 = .ok (.iconst 1, 1) := by decide +kernel
theorem dc_256_288 : decode (ax_code 256) 288 = .ok (.iadd, 1) := by decide +kernel
theorem dc_256_289 : decode (ax_code 256) 289 = .ok (.iaload, 1) := by decide +kernel
theorem dc_256_290 : decode (ax_code 256) 290 = .ok (.aload_n 0, 1) := by decide +kernel
theorem dc_256_291 : decode (ax_code 256) 291 = .ok (.iload_n 3, 1) := by decide +kernel
theorem dc_256_292 : decode (ax_code 256) 292 = .ok (.iconst 2, 1) := by decide +kernel
theorem dc_256_293 : decode (ax_code 256) 293 = .ok (.iadd, 1) := by decide +kernel
theorem dc_256_294 : decode (ax_code 256) 294 = .ok (.iaload, 1) := by decide +kernel
theorem dc_256_295 : decode (ax_code 256) 295 = .ok (.aload_n 0, 1) := by decide +kernel
theorem dc_256_296 : decode (ax_code 256) 296 = .ok (.iload_n 3, 1) := by decide +kernel
theorem dc_256_297 : decode (ax_code 256) 297 = .ok (.iconst 3, 1) := by decide +kernel
theorem dc_256_298 : decode (ax_code 256) 298 = .ok (.iadd, 1) := by decide +kernel
theorem dc_256_299 : decode (ax_code 256) 299 = .ok (.iaload, 1) := by decide +kernel
theorem dc_256_300 : decode (ax_code 256) 300 = .ok (.invokevirtual 23, 3) := by decide +kernel
theorem dc_256_303 : decode (ax_code 256) 303 = .ok (.aload_n 2, 1) := by decide +kernel
theorem dc_256_304 : decode (ax_code 256) 304 = .ok (.aload_n 0, 1) := by decide +kernel
theorem dc_256_305 : decode (ax_code 256) 305 = .ok (.iload_n 3, 1) := by decide +kernel
theorem dc_256_306 : decode (ax_code 256) 306 = .ok (.iconst 1, 1) := by decide +kernel
theorem dc_256_307 : decode (ax_code 256) 307 = .ok (.iadd, 1) := by decide +kernel
theorem dc_256_308 : decode (ax_code 256) 308 = .ok (.iaload, 1) := by decide +kernel
theorem dc_256_309 : decode (ax_code 256) 309 = .ok (.aload_n 0, 1) := by decide +kernel
theorem dc_256_310 : decode (ax_code 256) 310 = .ok (.iload_n 3, 1) := by decide +kernel
theorem dc_256_311 : decode (ax_code 256) 311 = .ok (.iconst 2, 1) := by decide +kernel
theorem dc_256_312 : decode (ax_code 256) 312 = .ok (.iadd, 1) := by decide +kernel
theorem dc_256_313 : decode (ax_code 256) 313 = .ok (.iaload, 1) := by decide +kernel
theorem dc_256_314 : decode (ax_code 256) 314 = .ok (.aload_n 0, 1) := by decide +kernel
theorem dc_256_315 : decode (ax_code 256) 315 = .ok (.iload_n 3, 1) := by decide +kernel
theorem dc_256_316 : decode (ax_code 256) 316 = .ok (.iconst 3, 1) := by decide +kernel
theorem dc_256_317 : decode (ax_code 256) 317 = .ok (.iadd, 1) := by decide +kernel
theorem dc_256_318 : decode (ax_code 256) 318 = .ok (.iaload, 1) := by decide +kernel
theorem dc_256_319 : decode (ax_code 256) 319 = .ok (.invokevirtual 27, 3) := by decide +kernel
theorem dc_256_322 : decode (ax_code 256) 322 = .ok (.if_icmp .eq 1483, 3) := by decide +kernel
theorem dc_256_325 : decode (ax_code 256) 325 = .ok (.iconst 0, 1) := by decide +kernel
theorem dc_256_326 : decode (ax_code 256) 326 = .ok (.ireturn, 1) := by decide +kernel
theorem dc_256_327 : decode (ax_code 256) 327 = .ok (.aload_n 1, 1) := by decide +kernel
theorem dc_256_328 : decode (ax_code 256) 328 = .ok (.aload_n 0, 1) := by decide +kernel
theorem dc_256_329 : decode (ax_code 256) 329 = .ok (.iload_n 3, 1) := by decide +kernel
theorem dc_256_330 : decode (ax_code 256) 330 = .ok (.iconst 1, 1) := by decide +kernel
theorem dc_256_331 : decode (ax_code 256) 331 = .ok (.iadd, 1) := by decide +kernel
theorem dc_256_332 : decode (ax_code 256) 332 = .ok (.iaload, 1) := by decide +kernel
theorem dc_256_333 : decode (ax_code 256) 333 = .ok (.aload_n 0, 1) := by decide +kernel
theorem dc_256_334 : decode (ax_code 256) 334 = .ok (.iload_n 3, 1) := by decide +kernel
theorem dc_256_335 : decode (ax_code 256) 335 = .ok (.iconst 2, 1) := by decide +kernel
theorem dc_256_336 : decode (ax_code 256) 336 = .ok (.iadd, 1) := by decide +kernel
theorem dc_256_337 : decode (ax_code 256) 337 = .ok (.iaload, 1) := by decide +kernel
theorem dc_256_338 : decode (ax_code 256) 338 = .ok (.invokevirtual 28, 3) := by decide +kernel
theorem dc_256_341 : decode (ax_code 256) 341 = .ok (.aload_n 2, 1) := by decide +kernel
theorem dc_256_342 : decode (ax_code 256) 342 = .ok (.aload_n 0, 1) := by decide +kernel
theorem dc_256_343 : decode (ax_code 256) 343 = .ok (.iload_n 3, 1) := by decide +kernel
theorem dc_256_344 : decode (ax_code 256) 344 = .ok (.iconst 1, 1) := by decide +kernel
theorem dc_256_345 : decode (ax_code 256) 345 = .ok (.iadd, 1) := by decide +kernel
theorem dc_256_346 : decode (ax_code 256) 346 = .ok (.iaload, 1) := by decide +kernel
theorem dc_256_347 : decode (ax_code 256) 347 = .ok (.aload_n 0, 1) := by decide +kernel
theorem dc_256_348 : decode (ax_code 256) 348 = .ok (.iload_n 3, 1) := by decide +kernel
theorem dc_256_349 : decode (ax_code 256) 349 = .ok (.iconst 2, 1) := by decide +kernel
theorem dc_256_350 : decode (ax_code 256) 350 = .ok (.iadd, 1) := by decide +kernel
theorem dc_256_351 : decode (ax_code 256) 351 = .ok (.iaload, 1) := by decide +kernel
theorem dc_256_352 : decode (ax_code 256) 352 = .ok (.invokevirtual 31, 3) := by decide +kernel
theorem dc_256_355 : decode (ax_code 256) 355 = .ok (.if_icmp .eq 1450, 3) := by decide +kernel
theorem dc_256_358 : decode (ax_code 256) 358 = .ok (.iconst 0, 1) := by decide +kernel
theorem dc_256_359 : decode (ax_code 256) 359 = .ok (.ireturn, 1) := by decide +kernel
theorem dc_256_360 : decode (ax_code 256) 360 = .ok (.aload_n 1, 1) := by decide +kernel
theorem dc_256_361 : decode (ax_code 256) 361 = .ok (.aload_n 0, 1) := by decide +kernel
theorem dc_256_362 : decode (ax_code 256) 362 = .ok (.iload_n 3, 1) := by decide +kernel
theorem dc_256_363 : decode (ax_code 256) 363 = .ok (.iconst 1, 1) := by decide +kernel
theorem dc_256_364 : decode (ax_code 256) 364 = .ok (.iadd, 1) := by decide +kernel
theorem dc_256_365 : decode (ax_code 256) 365 = .ok (.iaload, 1) := by decide +kernel
theorem dc_256_366 : decode (ax_code 256) 366 = .ok (.aload_n 0, 1) := by decide +kernel
theorem dc_256_367 : decode (ax_code 256) 367 = .ok (.iload_n 3, 1) := by decide +kernel
theorem dc_256_368 : decode (ax_code 256) 368 = .ok (.iconst 2, 1) := by decide +kernel
theorem dc_256_369 : decode (ax_code 256) 369 = .ok (.iadd, 1) := by decide +kernel
theorem dc_256_370 : decode (ax_code 256) 370 = .ok (.iaload, 1) := by decide +kernel
theorem dc_256_371 : decode (ax_code 256) 371 = .ok (.invokevirtual 32, 3) := by decide +kernel
theorem dc_256_374 : decode (ax_code 256) 374 = .ok (.aload_n 2, 1) := by decide +kernel
theorem dc_256_375 : decode (ax_code 256) 375 = .ok (.aload_n 0, 1) := by decide +kernel
theorem dc_256_376 : decode (ax_code 256) 376 = .ok (.iload_n 3, 1) := by decide +kernel
theorem dc_256_377 : decode (ax_code 256) 377 = .ok (.iconst 1, 1) := by decide +kernel
theorem dc_256_378 : decode (ax_code 256) 378 = .ok (.iadd, 1) := by decide +kernel
theorem dc_256_379 : decode (ax_code 256) 379 = .ok (.iaload, 1) := by decide +kernel
theorem dc_256_380 : decode (ax_code 256) 380 = .ok (.aload_n 0, 1) := by decide +kernel
theorem dc_256_381 : decode (ax_code 256) 381 = .ok (.iload_n 3, 1) := by decide +kernel
theorem dc_256_382 : decode (ax_code 256) 382 = .ok (.iconst 2, 1) := by decide +kernel
theorem dc_256_383 : decode (ax_code 256) 383 = .ok (.iadd, 1) := by decide +kernel
theorem dc_256_384 : decode (ax_code 256) 384 = .ok (.iaload, 1) := by decide +kernel
theorem dc_256_385 : decode (ax_code 256) 385 = .ok (.invokevirtual 35, 3) := by decide +kernel
theorem dc_256_388 : decode (ax_code 256) 388 = .ok (.if_icmp .eq 1417, 3) := by decide +kernel
theorem dc_256_391 : decode (ax_code 256) 391 = .ok (.iconst 0, 1) := by decide +kernel
theorem dc_256_392 : decode (ax_code 256) 392 = .ok (.ireturn, 1) := by decide +kernel
theorem dc_256_393 : decode (ax_code 256) 393 = .ok (.aload_n 1, 1) := by decide +kernel
theorem dc_256_394 : decode (ax_code 256) 394 = .ok (.invokevirtual 36, 3) := by decide +kernel
theorem dc_256_397 : decode (ax_code 256) 397 = .ok (.aload_n 2, 1) := by decide +kernel
theorem dc_256_398 : decode (ax_code 256) 398 = .ok (.invokevirtual 40, 3) := by decide +kernel
theorem dc_256_401 : decode (ax_code 256) 401 = .ok (.if_icmp .eq 1404, 3) := by decide +kernel
theorem dc_256_404 : decode (ax_code 256) 404 = .ok (.iconst 0, 1) := by decide +kernel
theorem dc_256_405 : decode (ax_code 256) 405 = .ok (.ireturn, 1) := by decide +kernel
theorem dc_256_406 : decode (ax_code 256) 406 = .ok (.aload_n 1, 1) := by decide +kernel
theorem dc_256_407 : decode (ax_code 256) 407 = .ok (.aload_n 0, 1) := by decide +kernel
theorem dc_256_408 : decode (ax_code 256) 408 = .ok (.iload_n 3, 1) := by decide +kernel
theorem dc_256_409 : decode (ax_code 256) 409 = .ok (.iconst 1, 1) := by decide +kernel
theorem dc_256_410 : decode (ax_code 256) 410 = .ok (.iadd, 1) := by decide +kernel
theorem dc_256_411 : decode (ax_code 256) 411 = .ok (.iaload, 1) := by decide +kernel
theorem dc_256_412 : decode (ax_code 256) 412 = .ok (.invokevirtual 41, 3) := by decide +kernel
theorem dc_256_415 : decode (ax_code 256) 415 = .ok (.aload_n 2, 1) := by decide +kernel
theorem dc_256_416 : decode (ax_code 256) 416 = .ok (.aload_n 0, 1) := by decide +kernel
theorem dc_256_417 : decode (ax_code 256) 417 = .ok (.iload_n 3, 1) := by decide +kernel
theorem dc_256_418 : decode (ax_code 256) 418 = .ok (.iconst 1, 1) := by decide +kernel
theorem dc_256_419 : decode (ax_code 256) 419 = .ok (.iadd, 1) := by decide +kernel
theorem dc_256_420 : decode (ax_code 256) 420 = .ok (.iaload, 1) := by decide +kernel
theorem dc_256_421 : decode (ax_code 256) 421 = .ok (.invokevirtual 44, 3) := by decide +kernel
theorem dc_256_424 : decode (ax_code 256) 424 = .ok (.if_icmp .eq 1381, 3) := by decide +kernel
theorem dc_256_427 : decode (ax_code 256) 427 = .ok (.iconst 0, 1) := by decide +kernel
theorem dc_256_428 : decode (ax_code 256) 428 = .ok (.ireturn, 1) := by decide +kernel
theorem dc_256_429 : decode (ax_code 256) 429 = .ok (.aload_n 1, 1) := by decide +kernel
theorem dc_256_430 : decode (ax_code 256) 430 = .ok (.aload_n 0, 1) := by decide +kernel
theorem dc_256_431 : decode (ax_code 256) 431 = .ok (.iload_n 3, 1) := by decide +kernel
theorem dc_256_432 : decode (ax_code 256) 432 = .ok (.iconst 1, 1) := by decide +kernel
theorem dc_256_433 : decode (ax_code 256) 433 = .ok (.iadd, 1) := by decide +kernel
theorem dc_256_434 : decode (ax_code 256) 434 = .ok (.iaload, 1) := by decide +kernel
theorem dc_256_435 : decode (ax_code 256) 435 = .ok (.aload_n 0, 1) := by decide +kernel
theorem dc_256_436 : decode (ax_code 256) 436 = .ok (.iload_n 3, 1) := by decide +kernel
theorem dc_256_437 : decode (ax_code 256) 437 = .ok (.iconst 2, 1) := by decide +kernel
theorem dc_256_438 : decode (ax_code 256) 438 = .ok (.iadd, 1) := by decide +kernel
theorem dc_256_439 : decode (ax_code 256) 439 = .ok (.iaload, 1) := by decide +kernel
theorem dc_256_440 : decode (ax_code 256) 440 = .ok (.invokevirtual 45, 3) := by decide +kernel
theorem dc_256_443 : decode (ax_code 256) 443 = .ok (.aload_n 2, 1) := by decide +kernel
theorem dc_256_444 : decode (ax_code 256) 444 = .ok (.aload_n 0, 1) := by decide +kernel
theorem dc_256_445 : decode (ax_code 256) 445 = .ok (.iload_n 3, 1) := by decide +kernel
theorem dc_256_446 : decode (ax_code 256) 446 = .ok (.iconst 1, 1) := by decide +kernel
theorem dc_256_447 : decode (ax_code 256) 447 = .ok (.iadd, 1) := by decide +kernel
theorem dc_256_448 : decode (ax_code 256) 448 = .ok (.iaload, 1) := by decide +kernel
theorem dc_256_449 : decode (ax_code 256) 449 = .ok (.aload_n 0, 1) := by decide +kernel
theorem dc_256_450 : decode (ax_code 256) 450 = .ok (.iload_n 3, 1) := by decide +kernel
theorem dc_256_451 : decode (ax_code 256) 451 = .ok (.iconst 2, 1) := by decide +kernel
theorem dc_256_452 : decode (ax_code 256) 452 = .ok (.iadd, 1) := by decide +kernel
theorem dc_256_453 : decode (ax_code 256) 453 = .ok (.iaload, 1) := by decide +kernel
theorem dc_256_454 : decode (ax_code 256) 454 = .ok (.invokevirtual 48, 3) := by decide +kernel
theorem dc_256_457 : decode (ax_code 256) 457 = .ok (.if_icmp .eq 1348, 3) := by decide +kernel
theorem dc_256_460 : decode (ax_code 256) 460 = .ok (.iconst 0, 1) := by decide +kernel
theorem dc_256_461 : decode (ax_code 256) 461 = .ok (.ireturn, 1) := by decide +kernel
theorem dc_256_462 : decode (ax_code 256) 462 = .ok (.aload_n 1, 1) := by decide +kernel
theorem dc_256_463 : decode (ax_code 256) 463 = .ok (.aload_n 0, 1) := by decide +kernel
theorem dc_256_464 : decode (ax_code 256) 464 = .ok (.iload_n 3, 1) := by decide +kernel
theorem dc_256_465 : decode (ax_code 256) 465 = .ok (.iconst 1, 1) := by decide +kernel
theorem dc_256_466 : decode (ax_code 256) 466 = .ok (.iadd, 1) := by decide +kernel
theorem dc_256_467 : decode (ax_code 256) 467 = .ok (.iaload, 1) := by decide +kernel
theorem dc_256_468 : decode (ax_code 256) 468 = .ok (.aload_n 0, 1) := by decide +kernel
theorem dc_256_469 : decode (ax_code 256) 469 = .ok (.iload_n 3, 1) := by decide +kernel
theorem dc_256_470 : decode (ax_code 256) 470 = .ok (.iconst 2, 1) := by decide +kernel
theorem dc_256_471 : decode (ax_code 256) 471 = .ok (.iadd, 1) := by decide +kernel
theorem dc_256_472 : decode (ax_code 256) 472 = .ok (.iaload, 1) := by decide +kernel
theorem dc_256_473 : decode (ax_code 256) 473 = .ok (.invokevirtual 49, 3) := by decide +kernel
theorem dc_256_476 : decode (ax_code 256) 476 = .ok (.aload_n 2, 1) := by decide +kernel
theorem dc_256_477 : decode (ax_code 256) 477 = .ok (.aload_n 0, 1) := by decide +kernel
theorem dc_256_478 : decode (ax_code 256) 478 = .ok (.iload_n 3, 1) := by decide +kernel
theorem dc_256_479 : decode (ax_code 256) 479 = .ok (.iconst 1, 1) := by decide +kernel
theorem dc_256_480 : decode (ax_code 256) 480 = .ok (.iadd, 1) := by decide +kernel
theorem dc_256_481 : decode (ax_code 256) 481 = .ok (.iaload, 1) := by decide +kernel
theorem dc_256_482 : decode (ax_code 256) 482 = .ok (.aload_n 0, 1) := by decide +kernel
theorem dc_256_483 : decode (ax_code 256) 483 = .ok (.iload_n 3, 1) := by decide +kernel
theorem dc_256_484 : decode (ax_code 256) 484 = .ok (.iconst 2, 1) := by decide +kernel
theorem dc_256_485 : decode (ax_code 256) 485 = .ok (.iadd, 1) := by decide +kernel
theorem dc_256_486 : decode (ax_code 256) 486 = .ok (.iaload, 1) := by decide +kernel
theorem dc_256_487 : decode (ax_code 256) 487 = .ok (.invokevirtual 53, 3) := by decide +kernel
theorem dc_256_490 : decode (ax_code 256) 490 = .ok (.lcmp, 1) := by decide +kernel
theorem dc_256_491 : decode (ax_code 256) 491 = .ok (.ifCond .eq 1314, 3) := by decide +kernel
theorem dc_256_494 : decode (ax_code 256) 494 = .ok (.iconst 0, 1) := by decide +kernel
theorem dc_256_495 : decode (ax_code 256) 495 = .ok (.ireturn, 1) := by decide +kernel
theorem dc_256_496 : decode (ax_code 256) 496 = .ok (.aload_n 1, 1) := by decide +kernel
theorem dc_256_497 : decode (ax_code 256) 497 = .ok (.aload_n 0, 1) := by decide +kernel
theorem dc_256_498 : decode (ax_code 256) 498 = .ok (.iload_n 3, 1) := by decide +kernel
theorem dc_256_499 : decode (ax_code 256) 499 = .ok (.iconst 1, 1) := by decide +kernel
theorem dc_256_500 : decode (ax_code 256) 500 = .ok (.iadd, 1) := by decide +kernel
theorem dc_256_501 : decode (ax_code 256) 501 = .ok (.iaload, 1) := by decide +kernel
theorem dc_256_502 : decode (ax_code 256) 502 = .ok (.aload_n 0, 1) := by decide +kernel
theorem dc_256_503 : decode (ax_code 256) 503 = .ok (.iload_n 3, 1) := by decide +kernel
theorem dc_256_504 : decode (ax_code 256) 504 = .ok (.iconst 2, 1) := by decide +kernel
theorem dc_256_505 : decode (ax_code 256) 505 = .ok (.iadd, 1) := by decide +kernel
theorem dc_256_506 : decode (ax_code 256) 506 = .ok (.iaload, 1) := by decide +kernel
theorem dc_256_507 : decode (ax_code 256) 507 = .ok (.aload_n 0, 1) := by decide +kernel
theorem dc_256_508 : decode (ax_code 256) 508 = .ok (.iload_n 3, 1) := by decide +kernel
theorem dc_256_509 : decode (ax_code 256) 509 = .ok (.iconst 3, 1) := by decide +kernel
theorem dc_256_510 : decode (ax_code 256) 510 = .ok (.iadd, 1) := by decide +kernel
theorem dc_256_511 : decode (ax_code 256) 511 = .ok (.iaload, 1) := by decide +kernel
theorem dc_256_512 : decode (ax_code 256) 512 = .ok (.invokevirtual 54, 3) := by decide +kernel
theorem dc_256_515 : decode (ax_code 256) 515 = .ok (.aload_n 2, 1) := by decide +kernel
theorem dc_256_516 : decode (ax_code 256) 516 = .ok (.aload_n 0, 1) := by decide +kernel
theorem dc_256_517 : decode (ax_code 256) 517 = .ok (.iload_n 3, 1) := by decide +kernel
theorem dc_256_518 : decode (ax_code 256) 518 = .ok (.iconst 1, 1) := by decide +kernel
theorem dc_256_519 : decode (ax_code 256) 519 = .ok (.iadd, 1) := by decide +kernel
theorem dc_256_520 : decode (ax_code 256) 520 = .ok (.iaload, 1) := by decide +kernel
theorem dc_256_521 : decode (ax_code 256) 521 = .ok (.aload_n 0, 1) := by decide +kernel
theorem dc_256_522 : decode (ax_code 256) 522 = .ok (.iload_n 3, 1) := by decide +kernel
theorem dc_256_523 : decode (ax_code 256) 523 = .ok (.iconst 2, 1) := by decide +kernel
theorem dc_256_524 : decode (ax_code 256) 524 = .ok (.iadd, 1) := by decide +kernel
theorem dc_256_525 : decode (ax_code 256) 525 = .ok (.iaload, 1) := by decide +kernel
theorem dc_256_526 : decode (ax_code 256) 526 = .ok (.aload_n 0, 1) := by decide +kernel
theorem dc_256_527 : decode (ax_code 256) 527 = .ok (.iload_n 3, 1) := by decide +kernel
theorem dc_256_528 : decode (ax_code 256) 528 = .ok (.iconst 3, 1) := by decide +kernel
theorem dc_256_529 : decode (ax_code 256) 529 = .ok (.iadd, 1) := by decide +kernel
theorem dc_256_530 : decode (ax_code 256) 530 = .ok (.iaload, 1) := by decide +kernel
theorem dc_256_531 : decode (ax_code 256) 531 = .ok (.invokevirtual 57, 3) := by decide +kernel
theorem dc_256_534 : decode (ax_code 256) 534 = .ok (.if_icmp .eq 1271, 3) := by decide +kernel
theorem dc_256_537 : decode (ax_code 256) 537 = .ok (.iconst 0, 1) := by decide +kernel
theorem dc_256_538 : decode (ax_code 256) 538 = .ok (.ireturn, 1) := by decide +kernel
theorem dc_256_539 : decode (ax_code 256) 539 = .ok (.aload_n 1, 1) := by decide +kernel
theorem dc_256_540 : decode (ax_code 256) 540 = .ok (.aload_n 0, 1) := by decide +kernel
theorem dc_256_541 : decode (ax_code 256) 541 = .ok (.iload_n 3, 1) := by decide +kernel
theorem dc_256_542 : decode (ax_code 256) 542 = .ok (.iconst 1, 1) := by decide +kernel
theorem dc_256_543 : decode (ax_code 256) 543 = .ok (.iadd, 1) := by decide +kernel
theorem dc_256_544 : decode (ax_code 256) 544 = .ok (.iaload, 1) := by decide +kernel
theorem dc_256_545 : decode (ax_code 256) 545 = .ok (.aload_n 0, 1) := by decide +kernel
theorem dc_256_546 : decode (ax_code 256) 546 = .ok (.iload_n 3, 1) := by decide +kernel
theorem dc_256_547 : decode (ax_code 256) 547 = .ok (.iconst 2, 1) := by decide +kernel
theorem dc_256_548 : decode (ax_code 256) 548 = .ok (.iadd, 1) := by decide +kernel
theorem dc_256_549 : decode (ax_code 256) 549 = .ok (.iaload, 1) := by decide +kernel
theorem dc_256_550 : decode (ax_code 256) 550 = .ok (.aload_n 0, 1) := by decide +kernel
theorem dc_256_551 : decode (ax_code 256) 551 = .ok (.iload_n 3, 1) := by decide +kernel
theorem dc_256_552 : decode (ax_code 256) 552 = .ok (.iconst 3, 1) := by decide +kernel
theorem dc_256_553 : decode (ax_code 256) 553 = .ok (.iadd, 1) := by decide +kernel
theorem dc_256_554 : decode (ax_code 256) 554 = .ok (.iaload, 1) := by decide +kernel
theorem dc_256_555 : decode (ax_code 256) 555 = .ok (.invokevirtual 58, 3) := by decide +kernel
theorem dc_256_558 : decode (ax_code 256) 558 = .ok (.aload_n 2, 1) := by decide +kernel
theorem dc_256_559 : decode (ax_code 256) 559 = .ok (.aload_n 0, 1) := by decide +kernel
theorem dc_256_560 : decode (ax_code 256) 560 = .ok (.iload_n 3, 1) := by decide +kernel
theorem dc_256_561 : decode (ax_code 256) 561 = .ok (.iconst 1, 1) := by decide +kernel
theorem dc_256_562 : decode (ax_code 256) 562 = .ok (.iadd, 1) := by decide +kernel
theorem dc_256_563 : decode (ax_code 256) 563 = .ok (.iaload, 1) := by decide +kernel
theorem dc_256_564 : decode (ax_code 256) 564 = .ok (.aload_n 0, 1) := by decide +kernel
theorem dc_256_565 : decode (ax_code 256) 565 = .ok (.iload_n 3, 1) := by decide +kernel
theorem dc_256_566 : decode (ax_code 256) 566 = .ok (.iconst 2, 1) := by decide +kernel
theorem dc_256_567 : decode (ax_code 256) 567 = .ok (.iadd, 1) := by decide +kernel
theorem dc_256_568 : decode (ax_code 256) 568 = .ok (.iaload, 1) := by decide +kernel
theorem dc_256_569 : decode (ax_code 256) 569 = .ok (.aload_n 0, 1) := by decide +kernel
theorem dc_256_570 : decode (ax_code 256) 570 = .ok (.iload_n 3, 1) := by decide +kernel
theorem dc_256_571 : decode (ax_code 256) 571 = .ok (.iconst 3, 1) := by decide +kernel
theorem dc_256_572 : decode (ax_code 256) 572 = .ok (.iadd, 1) := by decide +kernel
theorem dc_256_573 : decode (ax_code 256) 573 = .ok (.iaload, 1) := by decide +kernel
theorem dc_256_574 : decode (ax_code 256) 574 = .ok (.invokevirtual 61, 3) := by decide +kernel
theorem dc_256_577 : decode (ax_code 256) 577 = .ok (.if_icmp .eq 1228, 3) := by decide +kernel
theorem dc_256_580 : decode (ax_code 256) 580 = .ok (.iconst 0, 1) := by decide +kernel
theorem dc_256_581 : decode (ax_code 256) 581 = .ok (.ireturn, 1) := by decide +kernel
theorem dc_256_582 : decode (ax_code 256) 582 = .ok (.aload_n 1, 1) := by decide +kernel
theorem dc_256_583 : decode (ax_code 256) 583 = .ok (.aload_n 0, 1) := by decide +kernel
theorem dc_256_584 : decode (ax_code 256) 584 = .ok (.iload_n 3, 1) := by decide +kernel
theorem dc_256_585 : decode (ax_code 256) 585 = .ok (.iconst 1, 1) := by decide +kernel
theorem dc_256_586 : decode (ax_code 256) 586 = .ok (.iadd, 1) := by decide +kernel
theorem dc_256_587 : decode (ax_code 256) 587 = .ok (.iaload, 1) := by decide +kernel
theorem dc_256_588 : decode (ax_code 256) 588 = .ok (.aload_n 0, 1) := by decide +kernel
theorem dc_256_589 : decode (ax_code 256) 589 = .ok (.iload_n 3, 1) := by decide +kernel
theorem dc_256_590 : decode (ax_code 256) 590 = .ok (.iconst 2, 1) := by decide +kernel
theorem dc_256_591 : decode (ax_code 256) 591 = .ok (.iadd, 1) := by decide +kernel
theorem dc_256_592 : decode (ax_code 256) 592 = .ok (.iaload, 1) := by decide +kernel
theorem dc_256_593 : decode (ax_code 256) 593 = .ok (.aload_n 0, 1) := by decide +kernel
theorem dc_256_594 : decode (ax_code 256) 594 = .ok (.iload_n 3, 1) := by decide +kernel
theorem dc_256_595 : decode (ax_code 256) 595 = .ok (.iconst 3, 1) := by decide +kernel
theorem dc_256_596 : decode (ax_code 256) 596 = .ok (.iadd, 1) := by decide +kernel
theorem dc_256_597 : decode (ax_code 256) 597 = .ok (.iaload, 1) := by decide +kernel
theorem dc_256_598 : decode (ax_code 256) 598 = .ok (.aload_n 0, 1) := by decide +kernel
theorem dc_256_599 : decode (ax_code 256) 599 = .ok (.iload_n 3, 1) := by decide +kernel
theorem dc_256_600 : decode (ax_code 256) 600 = .ok (.iconst 4, 1) := by decide +kernel
theorem dc_256_601 : decode (ax_code 256) 601 = .ok (.iadd, 1) := by decide +kernel
theorem dc_256_602 : decode (ax_code 256) 602 = .ok (.iaload, 1) := by decide +kernel
theorem dc_256_603 : decode (ax_code 256) 603 = .ok (.invokevirtual 62, 3) := by decide +kernel
theorem dc_256_606 : decode (ax_code 256) 606 = .ok (.aload_n 2, 1) := by decide +kernel
theorem dc_256_607 : decode (ax_code 256) 607 = .ok (.aload_n 0, 1) := by decide +kernel
theorem dc_256_608 : decode (ax_code 256) 608 = .ok (.iload_n 3, 1) := by decide +kernel
theorem dc_256_609 : decode (ax_code 256) 609 = .ok (.iconst 1, 1) := by decide +kernel
theorem dc_256_610 : decode (ax_code 256) 610 = .ok (.iadd, 1) := by decide +kernel
theorem dc_256_611 : decode (ax_code 256) 611 = .ok (.iaload, 1) := by decide +kernel
theorem dc_256_612 : decode (ax_code 256) 612 = .ok (.aload_n 0, 1) := by decide +kernel
theorem dc_256_613 : decode (ax_code 256) 613 = .ok (.iload_n 3, 1) := by decide +kernel
theorem dc_256_614 : decode (ax_code 256) 614 = .ok (.iconst 2, 1) := by decide +kernel
theorem dc_256_615 : decode (ax_code 256) 615 = .ok (.iadd, 1) := by decide +kernel
theorem dc_256_616 : decode (ax_code 256) 616 = .ok (.iaload, 1) := by decide +kernel
theorem dc_256_617 : decode (ax_code 256) 617 = .ok (.aload_n 0, 1) := by decide +kernel
theorem dc_256_618 : decode (ax_code 256) 618 = .ok (.iload_n 3, 1) := by decide +kernel
theorem dc_256_619 : decode (ax_code 256) 619 = .ok (.iconst 3, 1) := by decide +kernel
theorem dc_256_620 : decode (ax_code 256) 620 = .ok (.iadd, 1) := by decide +kernel
theorem dc_256_621 : decode (ax_code 256) 621 = .ok (.iaload, 1) := by decide +kernel
theorem dc_256_622 : decode (ax_code 256) 622 = .ok (.aload_n 0, 1) := by decide +kernel
theorem dc_256_623 : decode (ax_code 256) 623 = .ok (.iload_n 3, 1) := by decide +kernel
theorem dc_256_624 : decode (ax_code 256) 624 = .ok (.iconst 4, 1) := by decide +kernel
theorem dc_256_625 : decode (ax_code 256) 625 = .ok (.iadd, 1) := by decide +kernel
theorem dc_256_626 : decode (ax_code 256) 626 = .ok (.iaload, 1) := by decide +kernel
theorem dc_256_627 : decode (ax_code 256) 627 = .ok (.invokevirtual 66, 3) := by decide +kernel
theorem dc_256_630 : decode (ax_code 256) 630 = .ok (.if_icmp .eq 1175, 3) := by decide +kernel
theorem dc_256_633 : decode (ax_code 256) 633 = .ok (.iconst 0, 1) := by decide +kernel
theorem dc_256_634 : decode (ax_code 256) 634 = .ok (.ireturn, 1) := by decide +kernel
theorem dc_256_635 : decode (ax_code 256) 635 = .ok (.aload_n 1, 1) := by decide +kernel
theorem dc_256_636 : decode (ax_code 256) 636 = .ok (.aload_n 0, 1) := by decide +kernel
theorem dc_256_637 : decode (ax_code 256) 637 = .ok (.iload_n 3, 1) := by decide +kernel
theorem dc_256_638 : decode (ax_code 256) 638 = .ok (.iconst 1, 1) := by decide +kernel
theorem dc_256_639 : decode (ax_code 256) 639 = .ok (.iadd, 1) := by decide +kernel
theorem dc_256_640 : decode (ax_code 256) 640 = .ok (.iaload, 1) := by decide +kernel
theorem dc_256_641 : decode (ax_code 256) 641 = .ok (.aload_n 0, 1) := by decide +kernel
theorem dc_256_642 : decode (ax_code 256) 642 = .ok (.iload_n 3, 1) := by decide +kernel
theorem dc_256_643 : decode (ax_code 256) 643 = .ok (.iconst 2, 1) := by decide +kernel
theorem dc_256_644 : decode (ax_code 256) 644 = .ok (.iadd, 1) := by decide +kernel
theorem dc_256_645 : decode (ax_code 256) 645 = .ok (.iaload, 1) := by decide +kernel
theorem dc_256_646 : decode (ax_code 256) 646 = .ok (.aload_n 0, 1) := by decide +kernel
theorem dc_256_647 : decode (ax_code 256) 647 = .ok (.iload_n 3, 1) := by decide +kernel
theorem dc_256_648 : decode (ax_code 256) 648 = .ok (.iconst 3, 1) := by decide +kernel
theorem dc_256_649 : decode (ax_code 256) 649 = .ok (.iadd, 1) := by decide +kernel
theorem dc_256_650 : decode (ax_code 256) 650 = .ok (.iaload, 1) := by decide +kernel
theorem dc_256_651 : decode (ax_code 256) 651 = .ok (.aload_n 0, 1) := by decide +kernel
theorem dc_256_652 : decode (ax_code 256) 652 = .ok (.iload_n 3, 1) := by decide +kernel
theorem dc_256_653 : decode (ax_code 256) 653 = .ok (.iconst 4, 1) := by decide +kernel
theorem dc_256_654 : decode (ax_code 256) 654 = .ok (.iadd, 1) := by decide +kernel
theorem dc_256_655 : decode (ax_code 256) 655 = .ok (.iaload, 1) := by decide +kernel
theorem dc_256_656 : decode (ax_code 256) 656 = .ok (.aload_n 0, 1) := by decide +kernel
theorem dc_256_657 : decode (ax_code 256) 657 = .ok (.iload_n 3, 1) := by decide +kernel
theorem dc_256_658 : decode (ax_code 256) 658 = .ok (.iconst 5, 1) := by decide +kernel
theorem dc_256_659 : decode (ax_code 256) 659 = .ok (.iadd, 1) := by decide +kernel
theorem dc_256_660 : decode (ax_code 256) 660 = .ok (.iaload, 1) := by decide +kernel
theorem dc_256_661 : decode (ax_code 256) 661 = .ok (.aload_n 0, 1) := by decide +kernel
theorem dc_256_662 : decode (ax_code 256) 662 = .ok (.iload_n 3, 1) := by decide +kernel
theorem dc_256_663 : decode (ax_code 256) 663 = .ok (.bipush 6, 2) := by decide +kernel
theorem dc_256_665 : decode (ax_code 256) 665 = .ok (.iadd, 1) := by decide +kernel
theorem dc_256_666 : decode (ax_code 256) 666 = .ok (.iaload, 1) := by decide +kernel
theorem dc_256_667 : decode (ax_code 256) 667 = .ok (.invokevirtual 67, 3) := by decide +kernel
theorem dc_256_670 : decode (ax_code 256) 670 = .ok (.aload_n 2, 1) := by decide +kernel
theorem dc_256_671 : decode (ax_code 256) 671 = .ok (.aload_n 0, 1) := by decide +kernel
theorem dc_256_672 : decode (ax_code 256) 672 = .ok (.iload_n 3, 1) := by decide +kernel
theorem dc_256_673 : decode (ax_code 256) 673 = .ok (.iconst 1, 1) := by decide +kernel
theorem dc_256_674 : decode (ax_code 256) 674 = .ok (.iadd, 1) := by decide +kernel
theorem dc_256_675 : decode (ax_code 256) 675 = .ok (.iaload, 1) := by decide +kernel
theorem dc_256_676 : decode (ax_code 256) 676 = .ok (.aload_n 0, 1) := by decide +kernel
theorem dc_256_677 : decode (ax_code 256) 677 = .ok (.iload_n 3, 1) := by decide +kernel
theorem dc_256_678 : decode (ax_code 256) 678 = .ok (.iconst 2, 1) := by decide +kernel
theorem dc_256_679 : decode (ax_code 256) 679 = .ok (.iadd, 1) := by decide +kernel
theorem dc_256_680 : decode (ax_code 256) 680 = .ok (.iaload, 1) := by decide +kernel
theorem dc_256_681 : decode (ax_code 256) 681 = .ok (.aload_n 0, 1) := by decide +kernel
theorem dc_256_682 : decode (ax_code 256) 682 = .ok (.iload_n 3, 1) := by decide +kernel
theorem dc_256_683 : decode (ax_code 256) 683 = .ok (.iconst 3, 1) := by decide +kernel
theorem dc_256_684 : decode (ax_code 256) 684 = .ok (.iadd, 1) := by decide +kernel
theorem dc_256_685 : decode (ax_code 256) 685 = .ok (.iaload, 1) := by decide +kernel
theorem dc_256_686 : decode (ax_code 256) 686 = .ok (.aload_n 0, 1) := by decide +kernel
theorem dc_256_687 : decode (ax_code 256) 687 = .ok (.iload_n 3, 1) := by decide +kernel
theorem dc_256_688 : decode (ax_code 256) 688 = .ok (.iconst 4, 1) := by decide +kernel
theorem dc_256_689 : decode (ax_code 256) 689 = .ok (.iadd, 1) := by decide +kernel
theorem dc_256_690 : decode (ax_code 256) 690 = .ok (.iaload, 1) := by decide +kernel
theorem dc_256_691 : decode (ax_code 256) 691 = .ok (.aload_n 0, 1) := by decide +kernel
theorem dc_256_692 : decode (ax_code 256) 692 = .ok (.iload_n 3, 1) := by decide +kernel
theorem dc_256_693 : decode (ax_code 256) 693 = .ok (.iconst 5, 1) := by decide +kernel
theorem dc_256_694 : decode (ax_code 256) 694 = .ok (.iadd, 1) := by decide +kernel
theorem dc_256_695 : decode (ax_code 256) 695 = .ok (.iaload, 1) := by decide +kernel
theorem dc_256_696 : decode (ax_code 256) 696 = .ok (.aload_n 0, 1) := by decide +kernel
theorem dc_256_697 : decode (ax_code 256) 697 = .ok (.iload_n 3, 1) := by decide +kernel
theorem dc_256_698 : decode (ax_code 256) 698 = .ok (.bipush 6, 2) := by decide +kernel
theorem dc_256_700 : decode (ax_code 256) 700 = .ok (.iadd, 1) := by decide +kernel
theorem dc_256_701 : decode (ax_code 256) 701 = .ok (.iaload, 1) := by decide +kernel
theorem dc_256_702 : decode (ax_code 256) 702 = .ok (.invokevirtual 71, 3) := by decide +kernel
theorem dc_256_705 : decode (ax_code 256) 705 = .ok (.lcmp, 1) := by decide +kernel
theorem dc_256_706 : decode (ax_code 256) 706 = .ok (.ifCond .eq 1099, 3) := by decide +kernel
theorem dc_256_709 : decode (ax_code 256) 709 = .ok (.iconst 0, 1) := by decide +kernel
theorem dc_256_710 : decode (ax_code 256) 710 = .ok (.ireturn, 1) := by decide +kernel
theorem dc_256_711 : decode (ax_code 256) 711 = .ok (.aload_n 1, 1) := by decide +kernel
theorem dc_256_712 : decode (ax_code 256) 712 = .ok (.aload_n 0, 1) := by decide +kernel
theorem dc_256_713 : decode (ax_code 256) 713 = .ok (.iload_n 3, 1) := by decide +kernel
theorem dc_256_714 : decode (ax_code 256) 714 = .ok (.iconst 1, 1) := by decide +kernel
theorem dc_256_715 : decode (ax_code 256) 715 = .ok (.iadd, 1) := by decide +kernel
theorem dc_256_716 : decode (ax_code 256) 716 = .ok (.iaload, 1) := by decide +kernel
theorem dc_256_717 : decode (ax_code 256) 717 = .ok (.invokevirtual 72, 3) := by decide +kernel
theorem dc_256_720 : decode (ax_code 256) 720 = .ok (.aload_n 2, 1) := by decide +kernel
theorem dc_256_721 : decode (ax_code 256) 721 = .ok (.aload_n 0, 1) := by decide +kernel
theorem dc_256_722 : decode (ax_code 256) 722 = .ok (.iload_n 3, 1) := by decide +kernel
theorem dc_256_723 : decode (ax_code 256) 723 = .ok (.iconst 1, 1) := by decide +kernel
theorem dc_256_724 : decode (ax_code 256) 724 = .ok (.iadd, 1) := by decide +kernel
theorem dc_256_725 : decode (ax_code 256) 725 = .ok (.iaload, 1) := by decide +kernel
theorem dc_256_726 : decode (ax_code 256) 726 = .ok (.invokevirtual 75, 3) := by decide +kernel
theorem dc_256_729 : decode (ax_code 256) 729 = .ok (.if_icmp .eq 1076, 3) := by decide +kernel
theorem dc_256_732 : decode (ax_code 256) 732 = .ok (.iconst 0, 1) := by decide +kernel
theorem dc_256_733 : decode (ax_code 256) 733 = .ok (.ireturn, 1) := by decide +kernel
theorem dc_256_734 : decode (ax_code 256) 734 = .ok (.aload_n 1, 1) := by decide +kernel
theorem dc_256_735 : decode (ax_code 256) 735 = .ok (.aload_n 0, 1) := by decide +kernel
theorem dc_256_736 : decode (ax_code 256) 736 = .ok (.iload_n 3, 1) := by decide +kernel
theorem dc_256_737 : decode (ax_code 256) 737 = .ok (.iconst 1, 1) := by decide +kernel
theorem dc_256_738 : decode (ax_code 256) 738 = .ok (.iadd, 1) := by decide +kernel
theorem dc_256_739 : decode (ax_code 256) 739 = .ok (.iaload, 1) := by decide +kernel
theorem dc_256_740 : decode (ax_code 256) 740 = .ok (.aload_n 0, 1) := by decide +kernel
theorem dc_256_741 : decode (ax_code 256) 741 = .ok (.iload_n 3, 1) := by decide +kernel
theorem dc_256_742 : decode (ax_code 256) 742 = .ok (.iconst 2, 1) := by decide +kernel
theorem dc_256_743 : decode (ax_code 256) 743 = .ok (.iadd, 1) := by decide +kernel
theorem dc_256_744 : decode (ax_code 256) 744 = .ok (.iaload, 1) := by decide +kernel
theorem dc_256_745 : decode (ax_code 256) 745 = .ok (.aload_n 0, 1) := by decide +kernel
theorem dc_256_746 : decode (ax_code 256) 746 = .ok (.iload_n 3, 1) := by decide +kernel
theorem dc_256_747 : decode (ax_code 256) 747 = .ok (.iconst 3, 1) := by decide +kernel
theorem dc_256_748 : decode (ax_code 256) 748 = .ok (.iadd, 1) := by decide +kernel
theorem dc_256_749 : decode (ax_code 256) 749 = .ok (.iaload, 1) := by decide +kernel
theorem dc_256_750 : decode (ax_code 256) 750 = .ok (.invokevirtual 76, 3) := by decide +kernel
theorem dc_256_753 : decode (ax_code 256) 753 = .ok (.aload_n 2, 1) := by decide +kernel
theorem dc_256_754 : decode (ax_code 256) 754 = .ok (.aload_n 0, 1) := by decide +kernel
theorem dc_256_755 : decode (ax_code 256) 755 = .ok (.iload_n 3, 1) := by decide +kernel
theorem dc_256_756 : decode (ax_code 256) 756 = .ok (.iconst 1, 1) := by decide +kernel
theorem dc_256_757 : decode (ax_code 256) 757 = .ok (.iadd, 1) := by decide +kernel
theorem dc_256_758 : decode (ax_code 256) 758 = .ok (.iaload, 1) := by decide +kernel
theorem dc_256_759 : decode (ax_code 256) 759 = .ok (.aload_n 0, 1) := by decide +kernel
theorem dc_256_760 : decode (ax_code 256) 760 = .ok (.iload_n 3, 1) := by decide +kernel
theorem dc_256_761 : decode (ax_code 256) 761 = .ok (.iconst 2, 1) := by decide +kernel
theorem dc_256_762 : decode (ax_code 256) 762 = .ok (.iadd, 1) := by decide +kernel
theorem dc_256_763 : decode (ax_code 256) 763 = .ok (.iaload, 1) := by decide +kernel
theorem dc_256_764 : decode (ax_code 256) 764 = .ok (.aload_n 0, 1) := by decide +kernel
theorem dc_256_765 : decode (ax_code 256) 765 = .ok (.iload_n 3, 1) := by decide +kernel
theorem dc_256_766 : decode (ax_code 256) 766 = .ok (.iconst 3, 1) := by decide +kernel
theorem dc_256_767 : decode (ax_code 256) 767 = .ok (.iadd, 1) := by decide +kernel
theorem dc_256_768 : decode (ax_code 256) 768 = .ok (.iaload, 1) := by decide +kernel
theorem dc_256_769 : decode (ax_code 256) 769 = .ok (.invokevirtual 79, 3) := by decide +kernel
theorem dc_256_772 : decode (ax_code 256) 772 = .ok (.if_icmp .eq 1033, 3) := by decide +kernel
theorem dc_256_775 : decode (ax_code 256) 775 = .ok (.iconst 0, 1) := by decide +kernel
theorem dc_256_776 : decode (ax_code 256) 776 = .ok (.ireturn, 1) := by decide +kernel
theorem dc_256_777 : decode (ax_code 256) 777 = .ok (.aload_n 1, 1) := by decide +kernel
theorem dc_256_778 : decode (ax_code 256) 778 = .ok (.aload_n 0, 1) := by decide +kernel
theorem dc_256_779 : decode (ax_code 256) 779 = .ok (.iload_n 3, 1) := by decide +kernel
theorem dc_256_780 : decode (ax_code 256) 780 = .ok (.iconst 1, 1) := by decide +kernel
theorem dc_256_781 : decode (ax_code 256) 781 = .ok (.iadd, 1) := by decide +kernel
theorem dc_256_782 : decode (ax_code 256) 782 = .ok (.iaload, 1) := by decide +kernel
theorem dc_256_783 : decode (ax_code 256) 783 = .ok (.invokevirtual 80, 3) := by decide +kernel
theorem dc_256_786 : decode (ax_code 256) 786 = .ok (.aload_n 2, 1) := by decide +kernel
theorem dc_256_787 : decode (ax_code 256) 787 = .ok (.aload_n 0, 1) := by decide +kernel
theorem dc_256_788 : decode (ax_code 256) 788 = .ok (.iload_n 3, 1) := by decide +kernel
theorem dc_256_789 : decode (ax_code 256) 789 = .ok (.iconst 1, 1) := by decide +kernel
theorem dc_256_790 : decode (ax_code 256) 790 = .ok (.iadd, 1) := by decide +kernel
theorem dc_256_791 : decode (ax_code 256) 791 = .ok (.iaload, 1) := by decide +kernel
theorem dc_256_792 : decode (ax_code 256) 792 = .ok (.invokevirtual 83, 3) := by decide +kernel
theorem dc_256_795 : decode (ax_code 256) 795 = .ok (.if_icmp .eq 1010, 3) := by decide +kernel
theorem dc_256_798 : decode (ax_code 256) 798 = .ok (.iconst 0, 1) := by decide +kernel
theorem dc_256_799 : decode (ax_code 256) 799 = .ok (.ireturn, 1) := by decide +kernel
theorem dc_256_800 : decode (ax_code 256) 800 = .ok (.aload_n 1, 1) := by decide +kernel
theorem dc_256_801 : decode (ax_code 256) 801 = .ok (.aload_n 0, 1) := by decide +kernel
theorem dc_256_802 : decode (ax_code 256) 802 = .ok (.iload_n 3, 1) := by decide +kernel
theorem dc_256_803 : decode (ax_code 256) 803 = .ok (.iconst 1, 1) := by decide +kernel
theorem dc_256_804 : decode (ax_code 256) 804 = .ok (.iadd, 1) := by decide +kernel
theorem dc_256_805 : decode (ax_code 256) 805 = .ok (.iaload, 1) := by decide +kernel
theorem dc_256_806 : decode (ax_code 256) 806 = .ok (.aload_n 0, 1) := by decide +kernel
theorem dc_256_807 : decode (ax_code 256) 807 = .ok (.iload_n 3, 1) := by decide +kernel
theorem dc_256_808 : decode (ax_code 256) 808 = .ok (.iconst 2, 1) := by decide +kernel
theorem dc_256_809 : decode (ax_code 256) 809 = .ok (.iadd, 1) := by decide +kernel
theorem dc_256_810 : decode (ax_code 256) 810 = .ok (.iaload, 1) := by decide +kernel
theorem dc_256_811 : decode (ax_code 256) 811 = .ok (.aload_n 0, 1) := by decide +kernel
theorem dc_256_812 : decode (ax_code 256) 812 = .ok (.iload_n 3, 1) := by decide +kernel
theorem dc_256_813 : decode (ax_code 256) 813 = .ok (.iconst 3, 1) := by decide +kernel
theorem dc_256_814 : decode (ax_code 256) 814 = .ok (.iadd, 1) := by decide +kernel
theorem dc_256_815 : decode (ax_code 256) 815 = .ok (.iaload, 1) := by decide +kernel
theorem dc_256_816 : decode (ax_code 256) 816 = .ok (.aload_n 0, 1) := by decide +kernel
theorem dc_256_817 : decode (ax_code 256) 817 = .ok (.iload_n 3, 1) := by decide +kernel
theorem dc_256_818 : decode (ax_code 256) 818 = .ok (.iconst 4, 1) := by decide +kernel
theorem dc_256_819 : decode (ax_code 256) 819 = .ok (.iadd, 1) := by decide +kernel
theorem dc_256_820 : decode (ax_code 256) 820 = .ok (.iaload, 1) := by decide +kernel
theorem dc_256_821 : decode (ax_code 256) 821 = .ok (.invokevirtual 84, 3) := by decide +kernel
theorem dc_256_824 : decode (ax_code 256) 824 = .ok (.aload_n 2, 1) := by decide +kernel
theorem dc_256_825 : decode (ax_code 256) 825 = .ok (.aload_n 0, 1) := by decide +kernel
theorem dc_256_826 : decode (ax_code 256) 826 = .ok (.iload_n 3, 1) := by decide +kernel
theorem dc_256_827 : decode (ax_code 256) 827 = .ok (.iconst 1, 1) := by decide +kernel
theorem dc_256_828 : decode (ax_code 256) 828 = .ok (.iadd, 1) := by decide +kernel
theorem dc_256_829 : decode (ax_code 256) 829 = .ok (.iaload, 1) := by decide +kernel
theorem dc_256_830 : decode (ax_code 256) 830 = .ok (.aload_n 0, 1) := by decide +kernel
theorem dc_256_831 : decode (ax_code 256) 831 = .ok (.iload_n 3, 1) := by decide +kernel
theorem dc_256_832 : decode (ax_code 256) 832 = .ok (.iconst 2, 1) := by decide +kernel
theorem dc_256_833 : decode (ax_code 256) 833 = .ok (.iadd, 1) := by decide +kernel
theorem dc_256_834 : decode (ax_code 256) 834 = .ok (.iaload, 1) := by decide +kernel
theorem dc_256_835 : decode (ax_code 256) 835 = .ok (.aload_n 0, 1) := by decide +kernel
theorem dc_256_836 : decode (ax_code 256) 836 = .ok (.iload_n 3, 1) := by decide +kernel
theorem dc_256_837 : decode (ax_code 256) 837 = .ok (.iconst 3, 1) := by decide +kernel
theorem dc_256_838 : decode (ax_code 256) 838 = .ok (.iadd, 1) := by decide +kernel
theorem dc_256_839 : decode (ax_code 256) 839 = .ok (.iaload, 1) := by decide +kernel
theorem dc_256_840 : decode (ax_code 256) 840 = .ok (.aload_n 0, 1) := by decide +kernel
theorem dc_256_841 : decode (ax_code 256) 841 = .ok (.iload_n 3, 1) := by decide +kernel
theorem dc_256_842 : decode (ax_code 256) 842 = .ok (.iconst 4, 1) := by decide +kernel
theorem dc_256_843 : decode (ax_code 256) 843 = .ok (.iadd, 1) := by decide +kernel
theorem dc_256_844 : decode (ax_code 256) 844 = .ok (.iaload, 1) := by decide +kernel
theorem dc_256_845 : decode (ax_code 256) 845 = .ok (.invokevirtual 87, 3) := by decide +kernel
theorem dc_256_848 : decode (ax_code 256) 848 = .ok (.if_icmp .eq 957, 3) := by decide +kernel
theorem dc_256_851 : decode (ax_code 256) 851 = .ok (.iconst 0, 1) := by decide +kernel
theorem dc_256_852 : decode (ax_code 256) 852 = .ok (.ireturn, 1) := by decide +kernel
theorem dc_256_853 : decode (ax_code 256) 853 = .ok (.aload_n 1, 1) := by decide +kernel
theorem dc_256_854 : decode (ax_code 256) 854 = .ok (.aload_n 0, 1) := by decide +kernel
theorem dc_256_855 : decode (ax_code 256) 855 = .ok (.iload_n 3, 1) := by decide +kernel
theorem dc_256_856 : decode (ax_code 256) 856 = .ok (.iconst 1, 1) := by decide +kernel
theorem dc_256_857 : decode (ax_code 256) 857 = .ok (.iadd, 1) := by decide +kernel
theorem dc_256_858 : decode (ax_code 256) 858 = .ok (.iaload, 1) := by decide +kernel
theorem dc_256_859 : decode (ax_code 256) 859 = .ok (.invokevirtual 88, 3) := by decide +kernel
theorem dc_256_862 : decode (ax_code 256) 862 = .ok (.aload_n 2, 1) := by decide +kernel
theorem dc_256_863 : decode (ax_code 256) 863 = .ok (.aload_n 0, 1) := by decide +kernel
theorem dc_256_864 : decode (ax_code 256) 864 = .ok (.iload_n 3, 1) := by decide +kernel
theorem dc_256_865 : decode (ax_code 256) 865 = .ok (.iconst 1, 1) := by decide +kernel
theorem dc_256_866 : decode (ax_code 256) 866 = .ok (.iadd, 1) := by decide +kernel
theorem dc_256_867 : decode (ax_code 256) 867 = .ok (.iaload, 1) := by decide +kernel
theorem dc_256_868 : decode (ax_code 256) 868 = .ok (.invokevirtual 91, 3) := by decide +kernel
theorem dc_256_871 : decode (ax_code 256) 871 = .ok (.if_icmp .eq 934, 3) := by decide +kernel
theorem dc_256_874 : decode (ax_code 256) 874 = .ok (.iconst 0, 1) := by decide +kernel
theorem dc_256_875 : decode (ax_code 256) 875 = .ok (.ireturn, 1) := by decide +kernel
theorem dc_256_876 : decode (ax_code 256) 876 = .ok (.aload_n 1, 1) := by decide +kernel
theorem dc_256_877 : decode (ax_code 256) 877 = .ok (.invokevirtual 92, 3) := by decide +kernel
theorem dc_256_880 : decode (ax_code 256) 880 = .ok (.aload_n 2, 1) := by decide +kernel
theorem dc_256_881 : decode (ax_code 256) 881 = .ok (.invokevirtual 95, 3) := by decide +kernel
theorem dc_256_884 : decode (ax_code 256) 884 = .ok (.if_icmp .eq 921, 3) := by decide +kernel
theorem dc_256_887 : decode (ax_code 256) 887 = .ok (.iconst 0, 1) := by decide +kernel
theorem dc_256_888 : decode (ax_code 256) 888 = .ok (.ireturn, 1) := by decide +kernel
theorem dc_256_889 : decode (ax_code 256) 889 = .ok (.aload_n 1, 1) := by decide +kernel
theorem dc_256_890 : decode (ax_code 256) 890 = .ok (.aload_n 0, 1) := by decide +kernel
theorem dc_256_891 : decode (ax_code 256) 891 = .ok (.iload_n 3, 1) := by decide +kernel
theorem dc_256_892 : decode (ax_code 256) 892 = .ok (.iconst 1, 1) := by decide +kernel
theorem dc_256_893 : decode (ax_code 256) 893 = .ok (.iadd, 1) := by decide +kernel
theorem dc_256_894 : decode (ax_code 256) 894 = .ok (.iaload, 1) := by decide +kernel
theorem dc_256_895 : decode (ax_code 256) 895 = .ok (.aload_n 0, 1) := by decide +kernel
theorem dc_256_896 : decode (ax_code 256) 896 = .ok (.iload_n 3, 1) := by decide +kernel
theorem dc_256_897 : decode (ax_code 256) 897 = .ok (.iconst 2, 1) := by decide +kernel
theorem dc_256_898 : decode (ax_code 256) 898 = .ok (.iadd, 1) := by decide +kernel
theorem dc_256_899 : decode (ax_code 256) 899 = .ok (.iaload, 1) := by decide +kernel
theorem dc_256_900 : decode (ax_code 256) 900 = .ok (.aload_n 0, 1) := by decide +kernel
theorem dc_256_901 : decode (ax_code 256) 901 = .ok (.iload_n 3, 1) := by decide +kernel
theorem dc_256_902 : decode (ax_code 256) 902 = .ok (.iconst 3, 1) := by decide +kernel
theorem dc_256_903 : decode (ax_code 256) 903 = .ok (.iadd, 1) := by decide +kernel
theorem dc_256_904 : decode (ax_code 256) 904 = .ok (.iaload, 1) := by decide +kernel
theorem dc_256_905 : decode (ax_code 256) 905 = .ok (.aload_n 0, 1) := by decide +kernel
theorem dc_256_906 : decode (ax_code 256) 906 = .ok (.iload_n 3, 1) := by decide +kernel
theorem dc_256_907 : decode (ax_code 256) 907 = .ok (.iconst 4, 1) := by decide +kernel
theorem dc_256_908 : decode (ax_code 256) 908 = .ok (.iadd, 1) := by decide +kernel
theorem dc_256_909 : decode (ax_code 256) 909 = .ok (.iaload, 1) := by decide +kernel
theorem dc_256_910 : decode (ax_code 256) 910 = .ok (.aload_n 0, 1) := by decide +kernel
theorem dc_256_911 : decode (ax_code 256) 911 = .ok (.iload_n 3, 1) := by decide +kernel
theorem dc_256_912 : decode (ax_code 256) 912 = .ok (.iconst 5, 1) := by decide +kernel
theorem dc_256_913 : decode (ax_code 256) 913 = .ok (.iadd, 1) := by decide +kernel
theorem dc_256_914 : decode (ax_code 256) 914 = .ok (.iaload, 1) := by decide +kernel
theorem dc_256_915 : decode (ax_code 256) 915 = .ok (.aload_n 0, 1) := by decide +kernel
theorem dc_256_916 : decode (ax_code 256) 916 = .ok (.iload_n 3, 1) := by decide +kernel
theorem dc_256_917 : decode (ax_code 256) 917 = .ok (.bipush 6, 2) := by decide +kernel
theorem dc_256_919 : decode (ax_code 256) 919 = .ok (.iadd, 1) := by decide +kernel
theorem dc_256_920 : decode (ax_code 256) 920 = .ok (.iaload, 1) := by decide +kernel
theorem dc_256_921 : decode (ax_code 256) 921 = .ok (.aload_n 0, 1) := by decide +kernel
theorem dc_256_922 : decode (ax_code 256) 922 = .ok (.iload_n 3, 1) := by decide +kernel
theorem dc_256_923 : decode (ax_code 256) 923 = .ok (.bipush 7, 2) := by decide +kernel
theorem dc_256_925 : decode (ax_code 256) 925 = .ok (.iadd, 1) := by decide +kernel
theorem dc_256_926 : decode (ax_code 256) 926 = .ok (.iaload, 1) := by decide +kernel
theorem dc_256_927 : decode (ax_code 256) 927 = .ok (.invokevirtual 96, 3) := by decide +kernel
theorem dc_256_930 : decode (ax_code 256) 930 = .ok (.aload_n 2, 1) := by decide +kernel
theorem dc_256_931 : decode (ax_code 256) 931 = .ok (.aload_n 0, 1) := by decide +kernel
theorem dc_256_932 : decode (ax_code 256) 932 = .ok (.iload_n 3, 1) := by decide +kernel
theorem dc_256_933 : decode (ax_code 256) 933 = .ok (.iconst 1, 1) := by decide +kernel
theorem dc_256_934 : decode (ax_code 256) 934 = .ok (.iadd, 1) := by decide +kernel
theorem dc_256_935 : decode (ax_code 256) 935 = .ok (.iaload, 1) := by decide +kernel
theorem dc_256_936 : decode (ax_code 256) 936 = .ok (.aload_n 0, 1) := by decide +kernel
theorem dc_256_937 : decode (ax_code 256) 937 = .ok (.iload_n 3, 1) := by decide +kernel
theorem dc_256_938 : decode (ax_code 256) 938 = .ok (.iconst 2, 1) := by decide +kernel
theorem dc_256_939 : decode (ax_code 256) 939 = .ok (.iadd, 1) := by decide +kernel
theorem dc_256_940 : decode (ax_code 256) 940 = .ok (.iaload, 1) := by decide +kernel
theorem dc_256_941 : decode (ax_code 256) 941 = .ok (.aload_n 0, 1) := by decide +kernel
theorem dc_256_942 : decode (ax_code 256) 942 = .ok (.iload_n 3, 1) := by decide +kernel
theorem dc_256_943 : decode (ax_code 256) 943 = .ok (.iconst 3, 1) := by decide +kernel
theorem dc_256_944 : decode (ax_code 256) 944 = .ok (.iadd, 1) := by decide +kernel
theorem dc_256_945 : decode (ax_code 256) 945 = .ok (.iaload, 1) := by decide +kernel
theorem dc_256_946 : decode (ax_code 256) 946 = .ok (.aload_n 0, 1) := by decide +kernel
theorem dc_256_947 : decode (ax_code 256) 947 = .ok (.iload_n 3, 1) := by decide +kernel
theorem dc_256_948 : decode (ax_code 256) 948 = .ok (.iconst 4, 1) := by decide +kernel
theorem dc_256_949 : decode (ax_code 256) 949 = .ok (.iadd, 1) := by decide +kernel
theorem dc_256_950 : decode (ax_code 256) 950 = .ok (.iaload, 1) := by decide +kernel
theorem dc_256_951 : decode (ax_code 256) 951 = .ok (.aload_n 0, 1) := by decide +kernel
theorem dc_256_952 : decode (ax_code 256) 952 = .ok (.iload_n 3, 1) := by decide +kernel
theorem dc_256_953 : decode (ax_code 256) 953 = .ok (.iconst 5, 1) := by decide +kernel
theorem dc_256_954 : decode (ax_code 256) 954 = .ok (.iadd, 1) := by decide +kernel
theorem dc_256_955 : decode (ax_code 256) 955 = .ok (.iaload, 1) := by decide +kernel
theorem dc_256_956 : decode (ax_code 256) 956 = .ok (.aload_n 0, 1) := by decide +kernel
theorem dc_256_957 : decode (ax_code 256) 957 = .ok (.iload_n 3, 1) := by decide +kernel
theorem dc_256_958 : decode (ax_code 256) 958 = .ok (.bipush 6, 2) := by decide +kernel
theorem dc_256_960 : decode (ax_code 256) 960 = .ok (.iadd, 1) := by decide +kernel
theorem dc_256_961 : decode (ax_code 256) 961 = .ok (.iaload, 1) := by decide +kernel
theorem dc_256_962 : decode (ax_code 256) 962 = .ok (.aload_n 0, 1) := by decide +kernel
theorem dc_256_963 : decode (ax_code 256) 963 = .ok (.iload_n 3, 1) := by decide +kernel
theorem dc_256_964 : decode (ax_code 256) 964 = .ok (.bipush 7, 2) := by decide +kernel
theorem dc_256_966 : decode (ax_code 256) 966 = .ok (.iadd, 1) := by decide +kernel
theorem dc_256_967 : decode (ax_code 256) 967 = .ok (.iaload, 1) := by decide +kernel
theorem dc_256_968 : decode (ax_code 256) 968 = .ok (.invokevirtual 100, 3) := by decide +kernel
theorem dc_256_971 : decode (ax_code 256) 971 = .ok (.if_icmp .eq 834, 3) := by decide +kernel
theorem dc_256_974 : decode (ax_code 256) 974 = .ok (.iconst 0, 1) := by decide +kernel
theorem dc_256_975 : decode (ax_code 256) 975 = .ok (.ireturn, 1) := by decide +kernel
theorem dc_256_976 : decode (ax_code 256) 976 = .ok (.aload_n 1, 1) := by decide +kernel
theorem dc_256_977 : decode (ax_code 256) 977 = .ok (.aload_n 0, 1) := by decide +kernel
theorem dc_256_978 : decode (ax_code 256) 978 = .ok (.iload_n 3, 1) := by decide +kernel
theorem dc_256_979 : decode (ax_code 256) 979 = .ok (.iconst 1, 1) := by decide +kernel
theorem dc_256_980 : decode (ax_code 256) 980 = .ok (.iadd, 1) := by decide +kernel
theorem dc_256_981 : decode (ax_code 256) 981 = .ok (.iaload, 1) := by decide +kernel
theorem dc_256_982 : decode (ax_code 256) 982 = .ok (.aload_n 0, 1) := by decide +kernel
theorem dc_256_983 : decode (ax_code 256) 983 = .ok (.iload_n 3, 1) := by decide +kernel
theorem dc_256_984 : decode (ax_code 256) 984 = .ok (.iconst 2, 1) := by decide +kernel
theorem dc_256_985 : decode (ax_code 256) 985 = .ok (.iadd, 1) := by decide +kernel
theorem dc_256_986 : decode (ax_code 256) 986 = .ok (.iaload, 1) := by decide +kernel
theorem dc_256_987 : decode (ax_code 256) 987 = .ok (.invokevirtual 101, 3) := by decide +kernel
theorem dc_256_990 : decode (ax_code 256) 990 = .ok (.aload_n 2, 1) := by decide +kernel
theorem dc_256_991 : decode (ax_code 256) 991 = .ok (.aload_n 0, 1) := by decide +kernel
theorem dc_256_992 : decode (ax_code 256) 992 = .ok (.iload_n 3, 1) := by decide +kernel
theorem dc_256_993 : decode (ax_code 256) 993 = .ok (.iconst 1, 1) := by decide +kernel
theorem dc_256_994 : decode (ax_code 256) 994 = .ok (.iadd, 1) := by decide +kernel
theorem dc_256_995 : decode (ax_code 256) 995 = .ok (.iaload, 1) := by decide +kernel
theorem dc_256_996 : decode (ax_code 256) 996 = .ok (.aload_n 0, 1) := by decide +kernel
theorem dc_256_997 : decode (ax_code 256) 997 = .ok (.iload_n 3, 1) := by decide +kernel
theorem dc_256_998 : decode (ax_code 256) 998 = .ok (.iconst 2, 1) := by decide +kernel
theorem dc_256_999 : decode (ax_code 256) 999 = .ok (.iadd, 1) := by decide +kernel
theorem dc_256_1000 : decode (ax_code 256) 1000 = .ok (.iaload, 1) := by decide +kernel
theorem dc_256_1001 : decode (ax_code 256) 1001 = .ok (.invokevirtual 104, 3) := by decide +kernel
theorem dc_256_1004 : decode (ax_code 256) 1004 = .ok (.if_icmp .eq 801, 3) := by decide +kernel
theorem dc_256_1007 : decode (ax_code 256) 1007 = .ok (.iconst 0, 1) := by decide +kernel
theorem dc_256_1008 : decode (ax_code 256) 1008 = .ok (.ireturn, 1) := by decide +kernel
theorem dc_256_1009 : decode (ax_code 256) 1009 = .ok (.aload_n 1, 1) := by decide +kernel
theorem dc_256_1010 : decode (ax_code 256) 1010 = .ok (.invokevirtual 105, 3) := by decide +kernel
theorem dc_256_1013 : decode (ax_code 256) 1013 = .ok (.aload_n 2, 1) := by decide +kernel
theorem dc_256_1014 : decode (ax_code 256) 1014 = .ok (.invokevirtual 108, 3) := by decide +kernel
theorem dc_256_1017 : decode (ax_code 256) 1017 = .ok (.if_icmp .eq 788, 3) := by decide +kernel
theorem dc_256_1020 : decode (ax_code 256) 1020 = .ok (.iconst 0, 1) := by decide +kernel
theorem dc_256_1021 : decode (ax_code 256) 1021 = .ok (.ireturn, 1) := by decide +kernel
theorem dc_256_1022 : decode (ax_code 256) 1022 = .ok (.aload_n 1, 1) := by decide +kernel
theorem dc_256_1023 : decode (ax_code 256) 1023 = .ok (.aload_n 0, 1) := by decide +kernel
theorem dc_256_1024 : decode (ax_code 256) 1024 = .ok (.iload_n 3, 1) := by decide +kernel
theorem dc_256_1025 : decode (ax_code 256) 1025 = .ok (.iconst 1, 1) := by decide +kernel
theorem dc_256_1026 : decode (ax_code 256) 1026 = .ok (.iadd, 1) := by decide +kernel
theorem dc_256_1027 : decode (ax_code 256) 1027 = .ok (.iaload, 1) := by decide +kernel
theorem dc_256_1028 : decode (ax_code 256) 1028 = .ok (.aload_n 0, 1) := by decide +kernel
theorem dc_256_1029 : decode (ax_code 256) 1029 = .ok (.iload_n 3, 1) := by decide +kernel
theorem dc_256_1030 : decode (ax_code 256) 1030 = .ok (.iconst 2, 1) := by decide +kernel
theorem dc_256_1031 : decode (ax_code 256) 1031 = .ok (.iadd, 1) := by decide +kernel
theorem dc_256_1032 : decode (ax_code 256) 1032 = .ok (.iaload, 1) := by decide +kernel
theorem dc_256_1033 : decode (ax_code 256) 1033 = .ok (.invokevirtual 109, 3) := by decide +kernel
theorem dc_256_1036 : decode (ax_code 256) 1036 = .ok (.aload_n 2, 1) := by decide +kernel
theorem dc_256_1037 : decode (ax_code 256) 1037 = .ok (.aload_n 0, 1) := by decide +kernel
theorem dc_256_1038 : decode (ax_code 256) 1038 = .ok (.iload_n 3, 1) := by decide +kernel
theorem dc_256_1039 : decode (ax_code 256) 1039 = .ok (.iconst 1, 1) := by decide +kernel
theorem dc_256_1040 : decode (ax_code 256) 1040 = .ok (.iadd, 1) := by decide +kernel
theorem dc_256_1041 : decode (ax_code 256) 1041 = .ok (.iaload, 1) := by decide +kernel
theorem dc_256_1042 : decode (ax_code 256) 1042 = .ok (.aload_n 0, 1) := by decide +kernel
theorem dc_256_1043 : decode (ax_code 256) 1043 = .ok (.iload_n 3, 1) := by decide +kernel
theorem dc_256_1044 : decode (ax_code 256) 1044 = .ok (.iconst 2, 1) := by decide +kernel
theorem dc_256_1045 : decode (ax_code 256) 1045 = .ok (.iadd, 1) := by decide +kernel
theorem dc_256_1046 : decode (ax_code 256) 1046 = .ok (.iaload, 1) := by decide +kernel
theorem dc_256_1047 : decode (ax_code 256) 1047 = .ok (.invokevirtual 112, 3) := by decide +kernel
theorem dc_256_1050 : decode (ax_code 256) 1050 = .ok (.lcmp, 1) := by decide +kernel
theorem dc_256_1051 : decode (ax_code 256) 1051 = .ok (.ifCond .eq 754, 3) := by decide +kernel
theorem dc_256_1054 : decode (ax_code 256) 1054 = .ok (.iconst 0, 1) := by decide +kernel
theorem dc_256_1055 : decode (ax_code 256) 1055 = .ok (.ireturn, 1) := by decide +kernel
theorem dc_256_1056 : decode (ax_code 256) 1056 = .ok (.aload_n 1, 1) := by decide +kernel
theorem dc_256_1057 : decode (ax_code 256) 1057 = .ok (.aload_n 0, 1) := by decide +kernel
theorem dc_256_1058 : decode (ax_code 256) 1058 = .ok (.iload_n 3, 1) := by decide +kernel
theorem dc_256_1059 : decode (ax_code 256) 1059 = .ok (.iconst 1, 1) := by decide +kernel
theorem dc_256_1060 : decode (ax_code 256) 1060 = .ok (.iadd, 1) := by decide +kernel
theorem dc_256_1061 : decode (ax_code 256) 1061 = .ok (.iaload, 1) := by decide +kernel
theorem dc_256_1062 : decode (ax_code 256) 1062 = .ok (.aload_n 0, 1) := by decide +kernel
theorem dc_256_1063 : decode (ax_code 256) 1063 = .ok (.iload_n 3, 1) := by decide +kernel
theorem dc_256_1064 : decode (ax_code 256) 1064 = .ok (.iconst 2, 1) := by decide +kernel
theorem dc_256_1065 : decode (ax_code 256) 1065 = .ok (.iadd, 1) := by decide +kernel
theorem dc_256_1066 : decode (ax_code 256) 1066 = .ok (.iaload, 1) := by decide +kernel
theorem dc_256_1067 : decode (ax_code 256) 1067 = .ok (.invokevirtual 113, 3) := by decide +kernel
theorem dc_256_1070 : decode (ax_code 256) 1070 = .ok (.aload_n 2, 1) := by decide +kernel
theorem dc_256_1071 : decode (ax_code 256) 1071 = .ok (.aload_n 0, 1) := by decide +kernel
theorem dc_256_1072 : decode (ax_code 256) 1072 = .ok (.iload_n 3, 1) := by decide +kernel
theorem dc_256_1073 : decode (ax_code 256) 1073 = .ok (.iconst 1, 1) := by decide +kernel
theorem dc_256_1074 : decode (ax_code 256) 1074 = .ok (.iadd, 1) := by decide +kernel
theorem dc_256_1075 : decode (ax_code 256) 1075 = .ok (.iaload, 1) := by decide +kernel
theorem dc_256_1076 : decode (ax_code 256) 1076 = .ok (.aload_n 0, 1) := by decide +kernel
theorem dc_256_1077 : decode (ax_code 256) 1077 = .ok (.iload_n 3, 1) := by decide +kernel
theorem dc_256_1078 : decode (ax_code 256) 1078 = .ok (.iconst 2, 1) := by decide +kernel
theorem dc_256_1079 : decode (ax_code 256) 1079 = .ok (.iadd, 1) := by decide +kernel
theorem dc_256_1080 : decode (ax_code 256) 1080 = .ok (.iaload, 1) := by decide +kernel
theorem dc_256_1081 : decode (ax_code 256) 1081 = .ok (.invokevirtual 116, 3) := by decide +kernel
theorem dc_256_1084 : decode (ax_code 256) 1084 = .ok (.lcmp, 1) := by decide +kernel
theorem dc_256_1085 : decode (ax_code 256) 1085 = .ok (.ifCond .eq 720, 3) := by decide +kernel
theorem dc_256_1088 : decode (ax_code 256) 1088 = .ok (.iconst 0, 1) := by decide +kernel
theorem dc_256_1089 : decode (ax_code 256) 1089 = .ok (.ireturn, 1) := by decide +kernel
theorem dc_256_1090 : decode (ax_code 256) 1090 = .ok (.aload_n 1, 1) := by decide +kernel
theorem dc_256_1091 : decode (ax_code 256) 1091 = .ok (.aload_n 0, 1) := by decide +kernel
theorem dc_256_1092 : decode (ax_code 256) 1092 = .ok (.iload_n 3, 1) := by decide +kernel
theorem dc_256_1093 : decode (ax_code 256) 1093 = .ok (.iconst 1, 1) := by decide +kernel
theorem dc_256_1094 : decode (ax_code 256) 1094 = .ok (.iadd, 1) := by decide +kernel
theorem dc_256_1095 : decode (ax_code 256) 1095 = .ok (.iaload, 1) := by decide +kernel
theorem dc_256_1096 : decode (ax_code 256) 1096 = .ok (.aload_n 0, 1) := by decide +kernel
theorem dc_256_1097 : decode (ax_code 256) 1097 = .ok (.iload_n 3, 1) := by decide +kernel
theorem dc_256_1098 : decode (ax_code 256) 1098 = .ok (.iconst 2, 1) := by decide +kernel
theorem dc_256_1099 : decode (ax_code 256) 1099 = .ok (.iadd, 1) := by decide +kernel
theorem dc_256_1100 : decode (ax_code 256) 1100 = .ok (.iaload, 1) := by decide +kernel
theorem dc_256_1101 : decode (ax_code 256) 1101 = .ok (.invokevirtual 117, 3) := by decide +kernel
theorem dc_256_1104 : decode (ax_code 256) 1104 = .ok (.aload_n 2, 1) := by decide +kernel
theorem dc_256_1105 : decode (ax_code 256) 1105 = .ok (.aload_n 0, 1) := by decide +kernel
theorem dc_256_1106 : decode (ax_code 256) 1106 = .ok (.iload_n 3, 1) := by decide +kernel
theorem dc_256_1107 : decode (ax_code 256) 1107 = .ok (.iconst 1, 1) := by decide +kernel
theorem dc_256_1108 : decode (ax_code 256) 1108 = .ok (.iadd, 1) := by decide +kernel
theorem dc_256_1109 : decode (ax_code 256) 1109 = .ok (.iaload, 1) := by decide +kernel
theorem dc_256_1110 : decode (ax_code 256) 1110 = .ok (.aload_n 0, 1) := by decide +kernel
theorem dc_256_1111 : decode (ax_code 256) 1111 = .ok (.iload_n 3, 1) := by decide +kernel
theorem dc_256_1112 : decode (ax_code 256) 1112 = .ok (.iconst 2, 1) := by decide +kernel
theorem dc_256_1113 : decode (ax_code 256) 1113 = .ok (.iadd, 1) := by decide +kernel
theorem dc_256_1114 : decode (ax_code 256) 1114 = .ok (.iaload, 1) := by decide +kernel
theorem dc_256_1115 : decode (ax_code 256) 1115 = .ok (.invokevirtual 120, 3) := by decide +kernel
theorem dc_256_1118 : decode (ax_code 256) 1118 = .ok (.lcmp, 1) := by decide +kernel
theorem dc_256_1119 : decode (ax_code 256) 1119 = .ok (.ifCond .eq 686, 3) := by decide +kernel
theorem dc_256_1122 : decode (ax_code 256) 1122 = .ok (.iconst 0, 1) := by decide +kernel
theorem dc_256_1123 : decode (ax_code 256) 1123 = .ok (.ireturn, 1) := by decide +kernel
theorem dc_256_1124 : decode (ax_code 256) 1124 = .ok (.aload_n 1, 1) := by decide +kernel
theorem dc_256_1125 : decode (ax_code 256) 1125 = .ok (.aload_n 0, 1) := by decide +kernel
theorem dc_256_1126 : decode (ax_code 256) 1126 = .ok (.iload_n 3, 1) := by decide +kernel
theorem dc_256_1127 : decode (ax_code 256) 1127 = .ok (.iconst 1, 1) := by decide +kernel
theorem dc_256_1128 : decode (ax_code 256) 1128 = .ok (.iadd, 1) := by decide +kernel
theorem dc_256_1129 : decode (ax_code 256) 1129 = .ok (.iaload, 1) := by decide +kernel
theorem dc_256_1130 : decode (ax_code 256) 1130 = .ok (.invokevirtual 121, 3) := by decide +kernel
theorem dc_256_1133 : decode (ax_code 256) 1133 = .ok (.aload_n 2, 1) := by decide +kernel
theorem dc_256_1134 : decode (ax_code 256) 1134 = .ok (.aload_n 0, 1) := by decide +kernel
theorem dc_256_1135 : decode (ax_code 256) 1135 = .ok (.iload_n 3, 1) := by decide +kernel
theorem dc_256_1136 : decode (ax_code 256) 1136 = .ok (.iconst 1, 1) := by decide +kernel
theorem dc_256_1137 : decode (ax_code 256) 1137 = .ok (.iadd, 1) := by decide +kernel
theorem dc_256_1138 : decode (ax_code 256) 1138 = .ok (.iaload, 1) := by decide +kernel
theorem dc_256_1139 : decode (ax_code 256) 1139 = .ok (.invokevirtual 124, 3) := by decide +kernel
theorem dc_256_1142 : decode (ax_code 256) 1142 = .ok (.if_icmp .eq 663, 3) := by decide +kernel
theorem dc_256_1145 : decode (ax_code 256) 1145 = .ok (.iconst 0, 1) := by decide +kernel
theorem dc_256_1146 : decode (ax_code 256) 1146 = .ok (.ireturn, 1) := by decide +kernel
theorem dc_256_1147 : decode (ax_code 256) 1147 = .ok (.aload_n 1, 1) := by decide +kernel
theorem dc_256_1148 : decode (ax_code 256) 1148 = .ok (.invokevirtual 125, 3) := by decide +kernel
theorem dc_256_1151 : decode (ax_code 256) 1151 = .ok (.aload_n 2, 1) := by decide +kernel
theorem dc_256_1152 : decode (ax_code 256) 1152 = .ok (.invokevirtual 128, 3) := by decide +kernel
theorem dc_256_1155 : decode (ax_code 256) 1155 = .ok (.if_icmp .eq 650, 3) := by decide +kernel
theorem dc_256_1158 : decode (ax_code 256) 1158 = .ok (.iconst 0, 1) := by decide +kernel
theorem dc_256_1159 : decode (ax_code 256) 1159 = .ok (.ireturn, 1) := by decide +kernel
theorem dc_256_1160 : decode (ax_code 256) 1160 = .ok (.aload_n 1, 1) := by decide +kernel
theorem dc_256_1161 : decode (ax_code 256) 1161 = .ok (.aload_n 0, 1) := by decide +kernel
theorem dc_256_1162 : decode (ax_code 256) 1162 = .ok (.iload_n 3, 1) := by decide +kernel
theorem dc_256_1163 : decode (ax_code 256) 1163 = .ok (.iconst 1, 1) := by decide +kernel
theorem dc_256_1164 : decode (ax_code 256) 1164 = .ok (.iadd, 1) := by decide +kernel
theorem dc_256_1165 : decode (ax_code 256) 1165 = .ok (.iaload, 1) := by decide +kernel
theorem dc_256_1166 : decode (ax_code 256) 1166 = .ok (.i2l, 1) := by decide +kernel
theorem dc_256_1167 : decode (ax_code 256) 1167 = .ok (.bipush 32, 2) := by decide +kernel
theorem dc_256_1169 : decode (ax_code 256) 1169 = .ok (.lshl, 1) := by decide +kernel
theorem dc_256_1170 : decode (ax_code 256) 1170 = .ok (.aload_n 0, 1) := by decide +kernel
theorem dc_256_1171 : decode (ax_code 256) 1171 = .ok (.iload_n 3, 1) := by decide +kernel
theorem dc_256_1172 : decode (ax_code 256) 1172 = .ok (.iconst 2, 1) := by decide +kernel
theorem dc_256_1173 : decode (ax_code 256) 1173 = .ok (.iadd, 1) := by decide +kernel
theorem dc_256_1174 : decode (ax_code 256) 1174 = .ok (.iaload, 1) := by decide +kernel
theorem dc_256_1175 : decode (ax_code 256) 1175 = .ok (.i2l, 1) := by decide +kernel
theorem dc_256_1176 : decode (ax_code 256) 1176 = .ok (.ldc2_w 129, 3) := by decide +kernel
theorem dc_256_1179 : decode (ax_code 256) 1179 = .ok (.land, 1) := by decide +kernel
theorem dc_256_1180 : decode (ax_code 256) 1180 = .ok (.lor, 1) := by decide +kernel
theorem dc_256_1181 : decode (ax_code 256) 1181 = .ok (.invokevirtual 131, 3) := by decide +kernel
theorem dc_256_1184 : decode (ax_code 256) 1184 = .ok (.aload_n 2, 1) := by decide +kernel
theorem dc_256_1185 : decode (ax_code 256) 1185 = .ok (.aload_n 0, 1) := by decide +kernel
theorem dc_256_1186 : decode (ax_code 256) 1186 = .ok (.iload_n 3, 1) := by decide +kernel
theorem dc_256_1187 : decode (ax_code 256) 1187 = .ok (.iconst 1, 1) := by decide +kernel
theorem dc_256_1188 : decode (ax_code 256) 1188 = .ok (.iadd, 1) := by decide +kernel
theorem dc_256_1189 : decode (ax_code 256) 1189 = .ok (.iaload, 1) := by decide +kernel
theorem dc_256_1190 : decode (ax_code 256) 1190 = .ok (.i2l, 1) := by decide +kernel
theorem dc_256_1191 : decode (ax_code 256) 1191 = .ok (.bipush 32, 2) := by decide +kernel
theorem dc_256_1193 : decode (ax_code 256) 1193 = .ok (.lshl, 1) := by decide +kernel
theorem dc_256_1194 : decode (ax_code 256) 1194 = .ok (.aload_n 0, 1) := by decide +kernel
theorem dc_256_1195 : decode (ax_code 256) 1195 = .ok (.iload_n 3, 1) := by decide +kernel
theorem dc_256_1196 : decode (ax_code 256) 1196 = .ok (.iconst 2, 1) := by decide +kernel
theorem dc_256_1197 : decode (ax_code 256) 1197 = .ok (.iadd, 1) := by decide +kernel
theorem dc_256_1198 : decode (ax_code 256) 1198 = .ok (.iaload, 1) := by decide +kernel
theorem dc_256_1199 : decode (ax_code 256) 1199 = .ok (.i2l, 1) := by decide +kernel
theorem dc_256_1200 : decode (ax_code 256) 1200 = .ok (.ldc2_w 129, 3) := by decide +kernel
theorem dc_256_1203 : decode (ax_code 256) 1203 = .ok (.land, 1) := by decide +kernel
theorem dc_256_1204 : decode (ax_code 256) 1204 = .ok (.lor, 1) := by decide +kernel
theorem dc_256_1205 : decode (ax_code 256) 1205 = .ok (.invokevirtual 135, 3) := by decide +kernel
theorem dc_256_1208 : decode (ax_code 256) 1208 = .ok (.if_icmp .eq 597, 3) := by decide +kernel
theorem dc_256_1211 : decode (ax_code 256) 1211 = .ok (.iconst 0, 1) := by decide +kernel
theorem dc_256_1212 : decode (ax_code 256) 1212 = .ok (.ireturn, 1) := by decide +kernel
theorem dc_256_1213 : decode (ax_code 256) 1213 = .ok (.aload_n 1, 1) := by decide +kernel
theorem dc_256_1214 : decode (ax_code 256) 1214 = .ok (.aload_n 0, 1) := by decide +kernel
theorem dc_256_1215 : decode (ax_code 256) 1215 = .ok (.iload_n 3, 1) := by decide +kernel
theorem dc_256_1216 : decode (ax_code 256) 1216 = .ok (.iconst 1, 1) := by decide +kernel
theorem dc_256_1217 : decode (ax_code 256) 1217 = .ok (.iadd, 1) := by decide +kernel
theorem dc_256_1218 : decode (ax_code 256) 1218 = .ok (.iaload, 1) := by decide +kernel
theorem dc_256_1219 : decode (ax_code 256) 1219 = .ok (.aload_n 0, 1) := by decide +kernel
theorem dc_256_1220 : decode (ax_code 256) 1220 = .ok (.iload_n 3, 1) := by decide +kernel
theorem dc_256_1221 : decode (ax_code 256) 1221 = .ok (.iconst 2, 1) := by decide +kernel
theorem dc_256_1222 : decode (ax_code 256) 1222 = .ok (.iadd, 1) := by decide +kernel
theorem dc_256_1223 : decode (ax_code 256) 1223 = .ok (.iaload, 1) := by decide +kernel
theorem dc_256_1224 : decode (ax_code 256) 1224 = .ok (.invokevirtual 136, 3) := by decide +kernel
theorem dc_256_1227 : decode (ax_code 256) 1227 = .ok (.aload_n 2, 1) := by decide +kernel
theorem dc_256_1228 : decode (ax_code 256) 1228 = .ok (.aload_n 0, 1) := by decide +kernel
theorem dc_256_1229 : decode (ax_code 256) 1229 = .ok (.iload_n 3, 1) := by decide +kernel
theorem dc_256_1230 : decode (ax_code 256) 1230 = .ok (.iconst 1, 1) := by decide +kernel
theorem dc_256_1231 : decode (ax_code 256) 1231 = .ok (.iadd, 1) := by decide +kernel
theorem dc_256_1232 : decode (ax_code 256) 1232 = .ok (.iaload, 1) := by decide +kernel
theorem dc_256_1233 : decode (ax_code 256) 1233 = .ok (.aload_n 0, 1) := by decide +kernel
theorem dc_256_1234 : decode (ax_code 256) 1234 = .ok (.iload_n 3, 1) := by decide +kernel
theorem dc_256_1235 : decode (ax_code 256) 1235 = .ok (.iconst 2, 1) := by decide +kernel
theorem dc_256_1236 : decode (ax_code 256) 1236 = .ok (.iadd, 1) := by decide +kernel
theorem dc_256_1237 : decode (ax_code 256) 1237 = .ok (.iaload, 1) := by decide +kernel
theorem dc_256_1238 : decode (ax_code 256) 1238 = .ok (.invokevirtual 139, 3) := by decide +kernel
theorem dc_256_1241 : decode (ax_code 256) 1241 = .ok (.if_icmp .eq 564, 3) := by decide +kernel
theorem dc_256_1244 : decode (ax_code 256) 1244 = .ok (.iconst 0, 1) := by decide +kernel
theorem dc_256_1245 : decode (ax_code 256) 1245 = .ok (.ireturn, 1) := by decide +kernel
theorem dc_256_1246 : decode (ax_code 256) 1246 = .ok (.aload_n 1, 1) := by decide +kernel
theorem dc_256_1247 : decode (ax_code 256) 1247 = .ok (.invokevirtual 140, 3) := by decide +kernel
theorem dc_256_1250 : decode (ax_code 256) 1250 = .ok (.aload_n 2, 1) := by decide +kernel
theorem dc_256_1251 : decode (ax_code 256) 1251 = .ok (.invokevirtual 143, 3) := by decide +kernel
theorem dc_256_1254 : decode (ax_code 256) 1254 = .ok (.if_icmp .eq 551, 3) := by decide +kernel
theorem dc_256_1257 : decode (ax_code 256) 1257 = .ok (.iconst 0, 1) := by decide +kernel
theorem dc_256_1258 : decode (ax_code 256) 1258 = .ok (.ireturn, 1) := by decide +kernel
theorem dc_256_1259 : decode (ax_code 256) 1259 = .ok (.aload_n 1, 1) := by decide +kernel
theorem dc_256_1260 : decode (ax_code 256) 1260 = .ok (.aload_n 0, 1) := by decide +kernel
theorem dc_256_1261 : decode (ax_code 256) 1261 = .ok (.iload_n 3, 1) := by decide +kernel
theorem dc_256_1262 : decode (ax_code 256) 1262 = .ok (.iconst 1, 1) := by decide +kernel
theorem dc_256_1263 : decode (ax_code 256) 1263 = .ok (.iadd, 1) := by decide +kernel
theorem dc_256_1264 : decode (ax_code 256) 1264 = .ok (.iaload, 1) := by decide +kernel
theorem dc_256_1265 : decode (ax_code 256) 1265 = .ok (.aload_n 0, 1) := by decide +kernel
theorem dc_256_1266 : decode (ax_code 256) 1266 = .ok (.iload_n 3, 1) := by decide +kernel
theorem dc_256_1267 : decode (ax_code 256) 1267 = .ok (.iconst 2, 1) := by decide +kernel
theorem dc_256_1268 : decode (ax_code 256) 1268 = .ok (.iadd, 1) := by decide +kernel
theorem dc_256_1269 : decode (ax_code 256) 1269 = .ok (.iaload, 1) := by decide +kernel
theorem dc_256_1270 : decode (ax_code 256) 1270 = .ok (.invokevirtual 144, 3) := by decide +kernel
theorem dc_256_1273 : decode (ax_code 256) 1273 = .ok (.aload_n 2, 1) := by decide +kernel
theorem dc_256_1274 : decode (ax_code 256) 1274 = .ok (.aload_n 0, 1) := by decide +kernel
theorem dc_256_1275 : decode (ax_code 256) 1275 = .ok (.iload_n 3, 1) := by decide +kernel
theorem dc_256_1276 : decode (ax_code 256) 1276 = .ok (.iconst 1, 1) := by decide +kernel
theorem dc_256_1277 : decode (ax_code 256) 1277 = .ok (.iadd, 1) := by decide +kernel
theorem dc_256_1278 : decode (ax_code 256) 1278 = .ok (.iaload, 1) := by decide +kernel
theorem dc_256_1279 : decode (ax_code 256) 1279 = .ok (.aload_n 0, 1) := by decide +kernel
theorem dc_256_1280 : decode (ax_code 256) 1280 = .ok (.iload_n 3, 1) := by decide +kernel
theorem dc_256_1281 : decode (ax_code 256) 1281 = .ok (.iconst 2, 1) := by decide +kernel
theorem dc_256_1282 : decode (ax_code 256) 1282 = .ok (.iadd, 1) := by decide +kernel
theorem dc_256_1283 : decode (ax_code 256) 1283 = .ok (.iaload, 1) := by decide +kernel
theorem dc_256_1284 : decode (ax_code 256) 1284 = .ok (.invokevirtual 147, 3) := by decide +kernel
theorem dc_256_1287 : decode (ax_code 256) 1287 = .ok (.if_icmp .eq 518, 3) := by decide +kernel
theorem dc_256_1290 : decode (ax_code 256) 1290 = .ok (.iconst 0, 1) := by decide +kernel
theorem dc_256_1291 : decode (ax_code 256) 1291 = .ok (.ireturn, 1) := by decide +kernel
theorem dc_256_1292 : decode (ax_code 256) 1292 = .ok (.aload_n 1, 1) := by decide +kernel
theorem dc_256_1293 : decode (ax_code 256) 1293 = .ok (.aload_n 0, 1) := by decide +kernel
theorem dc_256_1294 : decode (ax_code 256) 1294 = .ok (.iload_n 3, 1) := by decide +kernel
theorem dc_256_1295 : decode (ax_code 256) 1295 = .ok (.iconst 1, 1) := by decide +kernel
theorem dc_256_1296 : decode (ax_code 256) 1296 = .ok (.iadd, 1) := by decide +kernel
theorem dc_256_1297 : decode (ax_code 256) 1297 = .ok (.iaload, 1) := by decide +kernel
theorem dc_256_1298 : decode (ax_code 256) 1298 = .ok (.aload_n 0, 1) := by decide +kernel
theorem dc_256_1299 : decode (ax_code 256) 1299 = .ok (.iload_n 3, 1) := by decide +kernel
theorem dc_256_1300 : decode (ax_code 256) 1300 = .ok (.iconst 2, 1) := by decide +kernel
theorem dc_256_1301 : decode (ax_code 256) 1301 = .ok (.iadd, 1) := by decide +kernel
theorem dc_256_1302 : decode (ax_code 256) 1302 = .ok (.iaload, 1) := by decide +kernel
theorem dc_256_1303 : decode (ax_code 256) 1303 = .ok (.aload_n 0, 1) := by decide +kernel
theorem dc_256_1304 : decode (ax_code 256) 1304 = .ok (.iload_n 3, 1) := by decide +kernel
theorem dc_256_1305 : decode (ax_code 256) 1305 = .ok (.iconst 3, 1) := by decide +kernel
theorem dc_256_1306 : decode (ax_code 256) 1306 = .ok (.iadd, 1) := by decide +kernel
theorem dc_256_1307 : decode (ax_code 256) 1307 = .ok (.iaload, 1) := by decide +kernel
theorem dc_256_1308 : decode (ax_code 256) 1308 = .ok (.invokevirtual 148, 3) := by decide +kernel
theorem dc_256_1311 : decode (ax_code 256) 1311 = .ok (.aload_n 2, 1) := by decide +kernel
theorem dc_256_1312 : decode (ax_code 256) 1312 = .ok (.aload_n 0, 1) := by decide +kernel
theorem dc_256_1313 : decode (ax_code 256) 1313 = .ok (.iload_n 3, 1) := by decide +kernel
theorem dc_256_1314 : decode (ax_code 256) 1314 = .ok (.iconst 1, 1) := by decide +kernel
theorem dc_256_1315 : decode (ax_code 256) 1315 = .ok (.iadd, 1) := by decide +kernel
theorem dc_256_1316 : decode (ax_code 256) 1316 = .ok (.iaload, 1) := by decide +kernel
theorem dc_256_1317 : decode (ax_code 256) 1317 = .ok (.aload_n 0, 1) := by decide +kernel
theorem dc_256_1318 : decode (ax_code 256) 1318 = .ok (.iload_n 3, 1) := by decide +kernel
theorem dc_256_1319 : decode (ax_code 256) 1319 = .ok (.iconst 2, 1) := by decide +kernel
theorem dc_256_1320 : decode (ax_code 256) 1320 = .ok (.iadd, 1) := by decide +kernel
theorem dc_256_1321 : decode (ax_code 256) 1321 = .ok (.iaload, 1) := by decide +kernel
theorem dc_256_1322 : decode (ax_code 256) 1322 = .ok (.aload_n 0, 1) := by decide +kernel
theorem dc_256_1323 : decode (ax_code 256) 1323 = .ok (.iload_n 3, 1) := by decide +kernel
theorem dc_256_1324 : decode (ax_code 256) 1324 = .ok (.iconst 3, 1) := by decide +kernel
theorem dc_256_1325 : decode (ax_code 256) 1325 = .ok (.iadd, 1) := by decide +kernel
theorem dc_256_1326 : decode (ax_code 256) 1326 = .ok (.iaload, 1) := by decide +kernel
theorem dc_256_1327 : decode (ax_code 256) 1327 = .ok (.invokevirtual 151, 3) := by decide +kernel
theorem dc_256_1330 : decode (ax_code 256) 1330 = .ok (.if_icmp .eq 475, 3) := by decide +kernel
theorem dc_256_1333 : decode (ax_code 256) 1333 = .ok (.iconst 0, 1) := by decide +kernel
theorem dc_256_1334 : decode (ax_code 256) 1334 = .ok (.ireturn, 1) := by decide +kernel
theorem dc_256_1335 : decode (ax_code 256) 1335 = .ok (.aload_n 1, 1) := by decide +kernel
theorem dc_256_1336 : decode (ax_code 256) 1336 = .ok (.aload_n 0, 1) := by decide +kernel
theorem dc_256_1337 : decode (ax_code 256) 1337 = .ok (.iload_n 3, 1) := by decide +kernel
theorem dc_256_1338 : decode (ax_code 256) 1338 = .ok (.iconst 1, 1) := by decide +kernel
theorem dc_256_1339 : decode (ax_code 256) 1339 = .ok (.iadd, 1) := by decide +kernel
theorem dc_256_1340 : decode (ax_code 256) 1340 = .ok (.iaload, 1) := by decide +kernel
theorem dc_256_1341 : decode (ax_code 256) 1341 = .ok (.invokevirtual 152, 3) := by decide +kernel
theorem dc_256_1344 : decode (ax_code 256) 1344 = .ok (.aload_n 2, 1) := by decide +kernel
theorem dc_256_1345 : decode (ax_code 256) 1345 = .ok (.aload_n 0, 1) := by decide +kernel
theorem dc_256_1346 : decode (ax_code 256) 1346 = .ok (.iload_n 3, 1) := by decide +kernel
theorem dc_256_1347 : decode (ax_code 256) 1347 = .ok (.iconst 1, 1) := by decide +kernel
theorem dc_256_1348 : decode (ax_code 256) 1348 = .ok (.iadd, 1) := by decide +kernel
theorem dc_256_1349 : decode (ax_code 256) 1349 = .ok (.iaload, 1) := by decide +kernel
theorem dc_256_1350 : decode (ax_code 256) 1350 = .ok (.invokevirtual 155, 3) := by decide +kernel
theorem dc_256_1353 : decode (ax_code 256) 1353 = .ok (.if_icmp .eq 452, 3) := by decide +kernel
theorem dc_256_1356 : decode (ax_code 256) 1356 = .ok (.iconst 0, 1) := by decide +kernel
theorem dc_256_1357 : decode (ax_code 256) 1357 = .ok (.ireturn, 1) := by decide +kernel
theorem dc_256_1358 : decode (ax_code 256) 1358 = .ok (.aload_n 1, 1) := by decide +kernel
theorem dc_256_1359 : decode (ax_code 256) 1359 = .ok (.aload_n 0, 1) := by decide +kernel
theorem dc_256_1360 : decode (ax_code 256) 1360 = .ok (.iload_n 3, 1) := by decide +kernel
theorem dc_256_1361 : decode (ax_code 256) 1361 = .ok (.iconst 1, 1) := by decide +kernel
theorem dc_256_1362 : decode (ax_code 256) 1362 = .ok (.iadd, 1) := by decide +kernel
theorem dc_256_1363 : decode (ax_code 256) 1363 = .ok (.iaload, 1) := by decide +kernel
theorem dc_256_1364 : decode (ax_code 256) 1364 = .ok (.aload_n 0, 1) := by decide +kernel
theorem dc_256_1365 : decode (ax_code 256) 1365 = .ok (.iload_n 3, 1) := by decide +kernel
theorem dc_256_1366 : decode (ax_code 256) 1366 = .ok (.iconst 2, 1) := by decide +kernel
theorem dc_256_1367 : decode (ax_code 256) 1367 = .ok (.iadd, 1) := by decide +kernel
theorem dc_256_1368 : decode (ax_code 256) 1368 = .ok (.iaload, 1) := by decide +kernel
theorem dc_256_1369 : decode (ax_code 256) 1369 = .ok (.aload_n 0, 1) := by decide +kernel
theorem dc_256_1370 : decode (ax_code 256) 1370 = .ok (.iload_n 3, 1) := by decide +kernel
theorem dc_256_1371 : decode (ax_code 256) 1371 = .ok (.iconst 3, 1) := by decide +kernel
theorem dc_256_1372 : decode (ax_code 256) 1372 = .ok (.iadd, 1) := by decide +kernel
theorem dc_256_1373 : decode (ax_code 256) 1373 = .ok (.iaload, 1) := by decide +kernel
theorem dc_256_1374 : decode (ax_code 256) 1374 = .ok (.aload_n 0, 1) := by decide +kernel
theorem dc_256_1375 : decode (ax_code 256) 1375 = .ok (.iload_n 3, 1) := by decide +kernel
theorem dc_256_1376 : decode (ax_code 256) 1376 = .ok (.iconst 4, 1) := by decide +kernel
theorem dc_256_1377 : decode (ax_code 256) 1377 = .ok (.iadd, 1) := by decide +kernel
theorem dc_256_1378 : decode (ax_code 256) 1378 = .ok (.iaload, 1) := by decide +kernel
theorem dc_256_1379 : decode (ax_code 256) 1379 = .ok (.aload_n 0, 1) := by decide +kernel
theorem dc_256_1380 : decode (ax_code 256) 1380 = .ok (.iload_n 3, 1) := by decide +kernel
theorem dc_256_1381 : decode (ax_code 256) 1381 = .ok (.iconst 5, 1) := by decide +kernel
theorem dc_256_1382 : decode (ax_code 256) 1382 = .ok (.iadd, 1) := by decide +kernel
theorem dc_256_1383 : decode (ax_code 256) 1383 = .ok (.iaload, 1) := by decide +kernel
theorem dc_256_1384 : decode (ax_code 256) 1384 = .ok (.invokevirtual 156, 3) := by decide +kernel
theorem dc_256_1387 : decode (ax_code 256) 1387 = .ok (.aload_n 2, 1) := by decide +kernel
theorem dc_256_1388 : decode (ax_code 256) 1388 = .ok (.aload_n 0, 1) := by decide +kernel
theorem dc_256_1389 : decode (ax_code 256) 1389 = .ok (.iload_n 3, 1) := by decide +kernel
theorem dc_256_1390 : decode (ax_code 256) 1390 = .ok (.iconst 1, 1) := by decide +kernel
theorem dc_256_1391 : decode (ax_code 256) 1391 = .ok (.iadd, 1) := by decide +kernel
theorem dc_256_1392 : decode (ax_code 256) 1392 = .ok (.iaload, 1) := by decide +kernel
theorem dc_256_1393 : decode (ax_code 256) 1393 = .ok (.aload_n 0, 1) := by decide +kernel
theorem dc_256_1394 : decode (ax_code 256) 1394 = .ok (.iload_n 3, 1) := by decide +kernel
theorem dc_256_1395 : decode (ax_code 256) 1395 = .ok (.iconst 2, 1) := by decide +kernel
theorem dc_256_1396 : decode (ax_code 256) 1396 = .ok (.iadd, 1) := by decide +kernel
theorem dc_256_1397 : decode (ax_code 256) 1397 = .ok (.iaload, 1) := by decide +kernel
theorem dc_256_1398 : decode (ax_code 256) 1398 = .ok (.aload_n 0, 1) := by decide +kernel
theorem dc_256_1399 : decode (ax_code 256) 1399 = .ok (.iload_n 3, 1) := by decide +kernel
theorem dc_256_1400 : decode (ax_code 256) 1400 = .ok (.iconst 3, 1) := by decide +kernel
theorem dc_256_1401 : decode (ax_code 256) 1401 = .ok (.iadd, 1) := by decide +kernel
theorem dc_256_1402 : decode (ax_code 256) 1402 = .ok (.iaload, 1) := by decide +kernel
theorem dc_256_1403 : decode (ax_code 256) 1403 = .ok (.aload_n 0, 1) := by decide +kernel
theorem dc_256_1404 : decode (ax_code 256) 1404 = .ok (.iload_n 3, 1) := by decide +kernel
theorem dc_256_1405 : decode (ax_code 256) 1405 = .ok (.iconst 4, 1) := by decide +kernel
theorem dc_256_1406 : decode (ax_code 256) 1406 = .ok (.iadd, 1) := by decide +kernel
theorem dc_256_1407 : decode (ax_code 256) 1407 = .ok (.iaload, 1) := by decide +kernel
theorem dc_256_1408 : decode (ax_code 256) 1408 = .ok (.aload_n 0, 1) := by decide +kernel
theorem dc_256_1409 : decode (ax_code 256) 1409 = .ok (.iload_n 3, 1) := by decide +kernel
theorem dc_256_1410 : decode (ax_code 256) 1410 = .ok (.iconst 5, 1) := by decide +kernel
theorem dc_256_1411 : decode (ax_code 256) 1411 = .ok (.iadd, 1) := by decide +kernel
theorem dc_256_1412 : decode (ax_code 256) 1412 = .ok (.iaload, 1) := by decide +kernel
theorem dc_256_1413 : decode (ax_code 256) 1413 = .ok (.invokevirtual 160, 3) := by decide +kernel
theorem dc_256_1416 : decode (ax_code 256) 1416 = .ok (.if_icmp .eq 389, 3) := by decide +kernel
theorem dc_256_1419 : decode (ax_code 256) 1419 = .ok (.iconst 0, 1) := by decide +kernel
theorem dc_256_1420 : decode (ax_code 256) 1420 = .ok (.ireturn, 1) := by decide +kernel
theorem dc_256_1421 : decode (ax_code 256) 1421 = .ok (.aload_n 1, 1) := by decide +kernel
theorem dc_256_1422 : decode (ax_code 256) 1422 = .ok (.aload_n 0, 1) := by decide +kernel
theorem dc_256_1423 : decode (ax_code 256) 1423 = .ok (.iload_n 3, 1) := by decide +kernel
theorem dc_256_1424 : decode (ax_code 256) 1424 = .ok (.iconst 1, 1) := by decide +kernel
theorem dc_256_1425 : decode (ax_code 256) 1425 = .ok (.iadd, 1) := by decide +kernel
theorem dc_256_1426 : decode (ax_code 256) 1426 = .ok (.iaload, 1) := by decide +kernel
theorem dc_256_1427 : decode (ax_code 256) 1427 = .ok (.aload_n 0, 1) := by decide +kernel
theorem dc_256_1428 : decode (ax_code 256) 1428 = .ok (.iload_n 3, 1) := by decide +kernel
theorem dc_256_1429 : decode (ax_code 256) 1429 = .ok (.iconst 2, 1) := by decide +kernel
theorem dc_256_1430 : decode (ax_code 256) 1430 = .ok (.iadd, 1) := by decide +kernel
theorem dc_256_1431 : decode (ax_code 256) 1431 = .ok (.iaload, 1) := by decide +kernel
theorem dc_256_1432 : decode (ax_code 256) 1432 = .ok (.aload_n 0, 1) := by decide +kernel
theorem dc_256_1433 : decode (ax_code 256) 1433 = .ok (.iload_n 3, 1) := by decide +kernel
theorem dc_256_1434 : decode (ax_code 256) 1434 = .ok (.iconst 3, 1) := by decide +kernel
theorem dc_256_1435 : decode (ax_code 256) 1435 = .ok (.iadd, 1) := by decide +kernel
theorem dc_256_1436 : decode (ax_code 256) 1436 = .ok (.iaload, 1) := by decide +kernel
theorem dc_256_1437 : decode (ax_code 256) 1437 = .ok (.invokevirtual 161, 3) := by decide +kernel
theorem dc_256_1440 : decode (ax_code 256) 1440 = .ok (.aload_n 2, 1) := by decide +kernel
theorem dc_256_1441 : decode (ax_code 256) 1441 = .ok (.aload_n 0, 1) := by decide +kernel
theorem dc_256_1442 : decode (ax_code 256) 1442 = .ok (.iload_n 3, 1) := by decide +kernel
theorem dc_256_1443 : decode (ax_code 256) 1443 = .ok (.iconst 1, 1) := by decide +kernel
theorem dc_256_1444 : decode (ax_code 256) 1444 = .ok (.iadd, 1) := by decide +kernel
theorem dc_256_1445 : decode (ax_code 256) 1445 = .ok (.iaload, 1) := by decide +kernel
theorem dc_256_1446 : decode (ax_code 256) 1446 = .ok (.aload_n 0, 1) := by decide +kernel
theorem dc_256_1447 : decode (ax_code 256) 1447 = .ok (.iload_n 3, 1) := by decide +kernel
theorem dc_256_1448 : decode (ax_code 256) 1448 = .ok (.iconst 2, 1) := by decide +kernel
theorem dc_256_1449 : decode (ax_code 256) 1449 = .ok (.iadd, 1) := by decide +kernel
theorem dc_256_1450 : decode (ax_code 256) 1450 = .ok (.iaload, 1) := by decide +kernel
theorem dc_256_1451 : decode (ax_code 256) 1451 = .ok (.aload_n 0, 1) := by decide +kernel
theorem dc_256_1452 : decode (ax_code 256) 1452 = .ok (.iload_n 3, 1) := by decide +kernel
theorem dc_256_1453 : decode (ax_code 256) 1453 = .ok (.iconst 3, 1) := by decide +kernel
theorem dc_256_1454 : decode (ax_code 256) 1454 = .ok (.iadd, 1) := by decide +kernel
theorem dc_256_1455 : decode (ax_code 256) 1455 = .ok (.iaload, 1) := by decide +kernel
theorem dc_256_1456 : decode (ax_code 256) 1456 = .ok (.invokevirtual 164, 3) := by decide +kernel
theorem dc_256_1459 : decode (ax_code 256) 1459 = .ok (.if_icmp .eq 346, 3) := by decide +kernel
theorem dc_256_1462 : decode (ax_code 256) 1462 = .ok (.iconst 0, 1) := by decide +kernel
theorem dc_256_1463 : decode (ax_code 256) 1463 = .ok (.ireturn, 1) := by decide +kernel
theorem dc_256_1464 : decode (ax_code 256) 1464 = .ok (.aload_n 1, 1) := by decide +kernel
theorem dc_256_1465 : decode (ax_code 256) 1465 = .ok (.aload_n 0, 1) := by decide +kernel
theorem dc_256_1466 : decode (ax_code 256) 1466 = .ok (.iload_n 3, 1) := by decide +kernel
theorem dc_256_1467 : decode (ax_code 256) 1467 = .ok (.iconst 1, 1) := by decide +kernel
theorem dc_256_1468 : decode (ax_code 256) 1468 = .ok (.iadd, 1) := by decide +kernel
theorem dc_256_1469 : decode (ax_code 256) 1469 = .ok (.iaload, 1) := by decide +kernel
theorem dc_256_1470 : decode (ax_code 256) 1470 = .ok (.aload_n 0, 1) := by decide +kernel
theorem dc_256_1471 : decode (ax_code 256) 1471 = .ok (.iload_n 3, 1) := by decide +kernel
theorem dc_256_1472 : decode (ax_code 256) 1472 = .ok (.iconst 2, 1) := by decide +kernel
theorem dc_256_1473 : decode (ax_code 256) 1473 = .ok (.iadd, 1) := by decide +kernel
theorem dc_256_1474 : decode (ax_code 256) 1474 = .ok (.iaload, 1) := by decide +kernel
theorem dc_256_1475 : decode (ax_code 256) 1475 = .ok (.aload_n 0, 1) := by decide +kernel
theorem dc_256_1476 : decode (ax_code 256) 1476 = .ok (.iload_n 3, 1) := by decide +kernel
theorem dc_256_1477 : decode (ax_code 256) 1477 = .ok (.iconst 3, 1) := by decide +kernel
theorem dc_256_1478 : decode (ax_code 256) 1478 = .ok (.iadd, 1) := by decide +kernel
theorem dc_256_1479 : decode (ax_code 256) 1479 = .ok (.iaload, 1) := by decide +kernel
theorem dc_256_1480 : decode (ax_code 256) 1480 = .ok (.invokevirtual 165, 3) := by decide +kernel
theorem dc_256_1483 : decode (ax_code 256) 1483 = .ok (.aload_n 2, 1) := by decide +kernel
theorem dc_256_1484 : decode (ax_code 256) 1484 = .ok (.aload_n 0, 1) := by decide +kernel
theorem dc_256_1485 : decode (ax_code 256) 1485 = .ok (.iload_n 3, 1) := by decide +kernel
theorem dc_256_1486 : decode (ax_code 256) 1486 = .ok (.iconst 1, 1) := by decide +kernel
theorem dc_256_1487 : decode (ax_code 256) 1487 = .ok (.iadd, 1) := by decide +kernel
theorem dc_256_1488 : decode (ax_code 256) 1488 = .ok (.iaload, 1) := by decide +kernel
theorem dc_256_1489 : decode (ax_code 256) 1489 = .ok (.aload_n 0, 1) := by decide +kernel
theorem dc_256_1490 : decode (ax_code 256) 1490 = .ok (.iload_n 3, 1) := by decide +kernel
theorem dc_256_1491 : decode (ax_code 256) 1491 = .ok (.iconst 2, 1) := by decide +kernel
theorem dc_256_1492 : decode (ax_code 256) 1492 = .ok (.iadd, 1) := by decide +kernel
theorem dc_256_1493 : decode (ax_code 256) 1493 = .ok (.iaload, 1) := by decide +kernel
theorem dc_256_1494 : decode (ax_code 256) 1494 = .ok (.aload_n 0, 1) := by decide +kernel
theorem dc_256_1495 : decode (ax_code 256) 1495 = .ok (.iload_n 3, 1) := by decide +kernel
theorem dc_256_1496 : decode (ax_code 256) 1496 = .ok (.iconst 3, 1) := by decide +kernel
theorem dc_256_1497 : decode (ax_code 256) 1497 = .ok (.iadd, 1) := by decide +kernel
theorem dc_256_1498 : decode (ax_code 256) 1498 = .ok (.iaload, 1) := by decide +kernel
theorem dc_256_1499 : decode (ax_code 256) 1499 = .ok (.invokevirtual 168, 3) := by decide +kernel
theorem dc_256_1502 : decode (ax_code 256) 1502 = .ok (.if_icmp .eq 303, 3) := by decide +kernel
theorem dc_256_1505 : decode (ax_code 256) 1505 = .ok (.iconst 0, 1) := by decide +kernel
theorem dc_256_1506 : decode (ax_code 256) 1506 = .ok (.ireturn, 1) := by decide +kernel
theorem dc_256_1507 : decode (ax_code 256) 1507 = .ok (.aload_n 1, 1) := by decide +kernel
theorem dc_256_1508 : decode (ax_code 256) 1508 = .ok (.aload_n 0, 1) := by decide +kernel
theorem dc_256_1509 : decode (ax_code 256) 1509 = .ok (.iload_n 3, 1) := by decide +kernel
theorem dc_256_1510 : decode (ax_code 256) 1510 = .ok (.iconst 1, 1) := by decide +kernel
theorem dc_256_1511 : decode (ax_code 256) 1511 = .ok (.iadd, 1) := by decide +kernel
theorem dc_256_1512 : decode (ax_code 256) 1512 = .ok (.iaload, 1) := by decide +kernel
theorem dc_256_1513 : decode (ax_code 256) 1513 = .ok (.aload_n 0, 1) := by decide +kernel
theorem dc_256_1514 : decode (ax_code 256) 1514 = .ok (.iload_n 3, 1) := by decide +kernel
theorem dc_256_1515 : decode (ax_code 256) 1515 = .ok (.iconst 2, 1) := by decide +kernel
theorem dc_256_1516 : decode (ax_code 256) 1516 = .ok (.iadd, 1) := by decide +kernel
theorem dc_256_1517 : decode (ax_code 256) 1517 = .ok (.iaload, 1) := by decide +kernel
theorem dc_256_1518 : decode (ax_code 256) 1518 = .ok (.invokevirtual 169, 3) := by decide +kernel
theorem dc_256_1521 : decode (ax_code 256) 1521 = .ok (.aload_n 2, 1) := by decide +kernel
theorem dc_256_1522 : decode (ax_code 256) 1522 = .ok (.aload_n 0, 1) := by decide +kernel
theorem dc_256_1523 : decode (ax_code 256) 1523 = .ok (.iload_n 3, 1) := by decide +kernel
theorem dc_256_1524 : decode (ax_code 256) 1524 = .ok (.iconst 1, 1) := by decide +kernel
theorem dc_256_1525 : decode (ax_code 256) 1525 = .ok (.iadd, 1) := by decide +kernel
theorem dc_256_1526 : decode (ax_code 256) 1526 = .ok (.iaload, 1) := by decide +kernel
theorem dc_256_1527 : decode (ax_code 256) 1527 = .ok (.aload_n 0, 1) := by decide +kernel
theorem dc_256_1528 : decode (ax_code 256) 1528 = .ok (.iload_n 3, 1) := by decide +kernel
theorem dc_256_1529 : decode (ax_code 256) 1529 = .ok (.iconst 2, 1) := by decide +kernel
theorem dc_256_1530 : decode (ax_code 256) 1530 = .ok (.iadd, 1) := by decide +kernel
theorem dc_256_1531 : decode (ax_code 256) 1531 = .ok (.iaload, 1) := by decide +kernel
theorem dc_256_1532 : decode (ax_code 256) 1532 = .ok (.invokevirtual 172, 3) := by decide +kernel
theorem dc_256_1535 : decode (ax_code 256) 1535 = .ok (.if_icmp .eq 270, 3) := by decide +kernel
theorem dc_256_1538 : decode (ax_code 256) 1538 = .ok (.iconst 0, 1) := by decide +kernel
theorem dc_256_1539 : decode (ax_code 256) 1539 = .ok (.ireturn, 1) := by decide +kernel
theorem dc_256_1540 : decode (ax_code 256) 1540 = .ok (.aload_n 1, 1) := by decide +kernel
theorem dc_256_1541 : decode (ax_code 256) 1541 = .ok (.aload_n 0, 1) := by decide +kernel
theorem dc_256_1542 : decode (ax_code 256) 1542 = .ok (.iload_n 3, 1) := by decide +kernel
theorem dc_256_1543 : decode (ax_code 256) 1543 = .ok (.iconst 1, 1) := by decide +kernel
theorem dc_256_1544 : decode (ax_code 256) 1544 = .ok (.iadd, 1) := by decide +kernel
theorem dc_256_1545 : decode (ax_code 256) 1545 = .ok (.iaload, 1) := by decide +kernel
theorem dc_256_1546 : decode (ax_code 256) 1546 = .ok (.aload_n 0, 1) := by decide +kernel
theorem dc_256_1547 : decode (ax_code 256) 1547 = .ok (.iload_n 3, 1) := by decide +kernel
theorem dc_256_1548 : decode (ax_code 256) 1548 = .ok (.iconst 2, 1) := by decide +kernel
theorem dc_256_1549 : decode (ax_code 256) 1549 = .ok (.iadd, 1) := by decide +kernel
theorem dc_256_1550 : decode (ax_code 256) 1550 = .ok (.iaload, 1) := by decide +kernel
theorem dc_256_1551 : decode (ax_code 256) 1551 = .ok (.invokevirtual 173, 3) := by decide +kernel
theorem dc_256_1554 : decode (ax_code 256) 1554 = .ok (.aload_n 2, 1) := by decide +kernel
theorem dc_256_1555 : decode (ax_code 256) 1555 = .ok (.aload_n 0, 1) := by decide +kernel
theorem dc_256_1556 : decode (ax_code 256) 1556 = .ok (.iload_n 3, 1) := by decide +kernel
theorem dc_256_1557 : decode (ax_code 256) 1557 = .ok (.iconst 1, 1) := by decide +kernel
theorem dc_256_1558 : decode (ax_code 256) 1558 = .ok (.iadd, 1) := by decide +kernel
theorem dc_256_1559 : decode (ax_code 256) 1559 = .ok (.iaload, 1) := by decide +kernel
theorem dc_256_1560 : decode (ax_code 256) 1560 = .ok (.aload_n 0, 1) := by decide +kernel
theorem dc_256_1561 : decode (ax_code 256) 1561 = .ok (.iload_n 3, 1) := by decide +kernel
theorem dc_256_1562 : decode (ax_code 256) 1562 = .ok (.iconst 2, 1) := by decide +kernel
theorem dc_256_1563 : decode (ax_code 256) 1563 = .ok (.iadd, 1) := by decide +kernel
theorem dc_256_1564 : decode (ax_code 256) 1564 = .ok (.iaload, 1) := by decide +kernel
theorem dc_256_1565 : decode (ax_code 256) 1565 = .ok (.invokevirtual 176, 3) := by decide +kernel
theorem dc_256_1568 : decode (ax_code 256) 1568 = .ok (.if_icmp .eq 237, 3) := by decide +kernel
theorem dc_256_1571 : decode (ax_code 256) 1571 = .ok (.iconst 0, 1) := by decide +kernel
theorem dc_256_1572 : decode (ax_code 256) 1572 = .ok (.ireturn, 1) := by decide +kernel
theorem dc_256_1573 : decode (ax_code 256) 1573 = .ok (.aload_n 1, 1) := by decide +kernel
theorem dc_256_1574 : decode (ax_code 256) 1574 = .ok (.aload_n 0, 1) := by decide +kernel
theorem dc_256_1575 : decode (ax_code 256) 1575 = .ok (.iload_n 3, 1) := by decide +kernel
theorem dc_256_1576 : decode (ax_code 256) 1576 = .ok (.iconst 1, 1) := by decide +kernel
theorem dc_256_1577 : decode (ax_code 256) 1577 = .ok (.iadd, 1) := by decide +kernel
theorem dc_256_1578 : decode (ax_code 256) 1578 = .ok (.iaload, 1) := by decide +kernel
theorem dc_256_1579 : decode (ax_code 256) 1579 = .ok (.aload_n 0, 1) := by decide +kernel
theorem dc_256_1580 : decode (ax_code 256) 1580 = .ok (.iload_n 3, 1) := by decide +kernel
theorem dc_256_1581 : decode (ax_code 256) 1581 = .ok (.iconst 2, 1) := by decide +kernel
theorem dc_256_1582 : decode (ax_code 256) 1582 = .ok (.iadd, 1) := by decide +kernel
theorem dc_256_1583 : decode (ax_code 256) 1583 = .ok (.iaload, 1) := by decide +kernel
theorem dc_256_1584 : decode (ax_code 256) 1584 = .ok (.aload_n 0, 1) := by decide +kernel
theorem dc_256_1585 : decode (ax_code 256) 1585 = .ok (.iload_n 3, 1) := by decide +kernel
theorem dc_256_1586 : decode (ax_code 256) 1586 = .ok (.iconst 3, 1) := by decide +kernel
theorem dc_256_1587 : decode (ax_code 256) 1587 = .ok (.iadd, 1) := by decide +kernel
theorem dc_256_1588 : decode (ax_code 256) 1588 = .ok (.iaload, 1) := by decide +kernel
theorem dc_256_1589 : decode (ax_code 256) 1589 = .ok (.i2l, 1) := by decide +kernel
theorem dc_256_1590 : decode (ax_code 256) 1590 = .ok (.bipush 32, 2) := by decide +kernel
theorem dc_256_1592 : decode (ax_code 256) 1592 = .ok (.lshl, 1) := by decide +kernel
theorem dc_256_1593 : decode (ax_code 256) 1593 = .ok (.aload_n 0, 1) := by decide +kernel
theorem dc_256_1594 : decode (ax_code 256) 1594 = .ok (.iload_n 3, 1) := by decide +kernel
theorem dc_256_1595 : decode (ax_code 256) 1595 = .ok (.iconst 4, 1) := by decide +kernel
theorem dc_256_1596 : decode (ax_code 256) 1596 = .ok (.iadd, 1) := by decide +kernel
theorem dc_256_1597 : decode (ax_code 256) 1597 = .ok (.iaload, 1) := by decide +kernel
theorem dc_256_1598 : decode (ax_code 256) 1598 = .ok (.i2l, 1) := by decide +kernel
theorem dc_256_1599 : decode (ax_code 256) 1599 = .ok (.ldc2_w 129, 3) := by decide +kernel
theorem dc_256_1602 : decode (ax_code 256) 1602 = .ok (.land, 1) := by decide +kernel
theorem dc_256_1603 : decode (ax_code 256) 1603 = .ok (.lor, 1) := by decide +kernel
theorem dc_256_1604 : decode (ax_code 256) 1604 = .ok (.invokevirtual 177, 3) := by decide +kernel
theorem dc_256_1607 : decode (ax_code 256) 1607 = .ok (.aload_n 2, 1) := by decide +kernel
theorem dc_256_1608 : decode (ax_code 256) 1608 = .ok (.aload_n 0, 1) := by decide +kernel
theorem dc_256_1609 : decode (ax_code 256) 1609 = .ok (.iload_n 3, 1) := by decide +kernel
theorem dc_256_1610 : decode (ax_code 256) 1610 = .ok (.iconst 1, 1) := by decide +kernel
theorem dc_256_1611 : decode (ax_code 256) 1611 = .ok (.iadd, 1) := by decide +kernel
theorem dc_256_1612 : decode (ax_code 256) 1612 = .ok (.iaload, 1) := by decide +kernel
theorem dc_256_1613 : decode (ax_code 256) 1613 = .ok (.aload_n 0, 1) := by decide +kernel
theorem dc_256_1614 : decode (ax_code 256) 1614 = .ok (.iload_n 3, 1) := by decide +kernel
theorem dc_256_1615 : decode (ax_code 256) 1615 = .ok (.iconst 2, 1) := by decide +kernel
theorem dc_256_1616 : decode (ax_code 256) 1616 = .ok (.iadd, 1) := by decide +kernel
theorem dc_256_1617 : decode (ax_code 256) 1617 = .ok (.iaload, 1) := by decide +kernel
theorem dc_256_1618 : decode (ax_code 256) 1618 = .ok (.aload_n 0, 1) := by decide +kernel
theorem dc_256_1619 : decode (ax_code 256) 1619 = .ok (.iload_n 3, 1) := by decide +kernel
theorem dc_256_1620 : decode (ax_code 256) 1620 = .ok (.iconst 3, 1) := by decide +kernel
theorem dc_256_1621 : decode (ax_code 256) 1621 = .ok (.iadd, 1) := by decide +kernel
theorem dc_256_1622 : decode (ax_code 256) 1622 = .ok (.iaload, 1) := by decide +kernel
theorem dc_256_1623 : decode (ax_code 256) 1623 = .ok (.i2l, 1) := by decide +kernel
theorem dc_256_1624 : decode (ax_code 256) 1624 = .ok (.bipush 32, 2) := by decide +kernel
theorem dc_256_1626 : decode (ax_code 256) 1626 = .ok (.lshl, 1) := by decide +kernel
theorem dc_256_1627 : decode (ax_code 256) 1627 = .ok (.aload_n 0, 1) := by decide +kernel
theorem dc_256_1628 : decode (ax_code 256) 1628 = .ok (.iload_n 3, 1) := by decide +kernel
theorem dc_256_1629 : decode (ax_code 256) 1629 = .ok (.iconst 4, 1) := by decide +kernel
theorem dc_256_1630 : decode (ax_code 256) 1630 = .ok (.iadd, 1) := by decide +kernel
theorem dc_256_1631 : decode (ax_code 256) 1631 = .ok (.iaload, 1) := by decide +kernel
theorem dc_256_1632 : decode (ax_code 256) 1632 = .ok (.i2l, 1) := by decide +kernel
theorem dc_256_1633 : decode (ax_code 256) 1633 = .ok (.ldc2_w 129, 3) := by decide +kernel
theorem dc_256_1636 : decode (ax_code 256) 1636 = .ok (.land, 1) := by decide +kernel
theorem dc_256_1637 : decode (ax_code 256) 1637 = .ok (.lor, 1) := by decide +kernel
theorem dc_256_1638 : decode (ax_code 256) 1638 = .ok (.invokevirtual 181, 3) := by decide +kernel
theorem dc_256_1641 : decode (ax_code 256) 1641 = .ok (.if_icmp .eq 164, 3) := by decide +kernel
theorem dc_256_1644 : decode (ax_code 256) 1644 = .ok (.iconst 0, 1) := by decide +kernel
theorem dc_256_1645 : decode (ax_code 256) 1645 = .ok (.ireturn, 1) := by decide +kernel
theorem dc_256_1646 : decode (ax_code 256) 1646 = .ok (.aload_n 1, 1) := by decide +kernel
theorem dc_256_1647 : decode (ax_code 256) 1647 = .ok (.aload_n 0, 1) := by decide +kernel
theorem dc_256_1648 : decode (ax_code 256) 1648 = .ok (.iload_n 3, 1) := by decide +kernel
theorem dc_256_1649 : decode (ax_code 256) 1649 = .ok (.iconst 1, 1) := by decide +kernel
theorem dc_256_1650 : decode (ax_code 256) 1650 = .ok (.iadd, 1) := by decide +kernel
theorem dc_256_1651 : decode (ax_code 256) 1651 = .ok (.iaload, 1) := by decide +kernel
theorem dc_256_1652 : decode (ax_code 256) 1652 = .ok (.aload_n 0, 1) := by decide +kernel
theorem dc_256_1653 : decode (ax_code 256) 1653 = .ok (.iload_n 3, 1) := by decide +kernel
theorem dc_256_1654 : decode (ax_code 256) 1654 = .ok (.iconst 2, 1) := by decide +kernel
theorem dc_256_1655 : decode (ax_code 256) 1655 = .ok (.iadd, 1) := by decide +kernel
theorem dc_256_1656 : decode (ax_code 256) 1656 = .ok (.iaload, 1) := by decide +kernel
theorem dc_256_1657 : decode (ax_code 256) 1657 = .ok (.invokevirtual 182, 3) := by decide +kernel
theorem dc_256_1660 : decode (ax_code 256) 1660 = .ok (.aload_n 2, 1) := by decide +kernel
theorem dc_256_1661 : decode (ax_code 256) 1661 = .ok (.aload_n 0, 1) := by decide +kernel
theorem dc_256_1662 : decode (ax_code 256) 1662 = .ok (.iload_n 3, 1) := by decide +kernel
theorem dc_256_1663 : decode (ax_code 256) 1663 = .ok (.iconst 1, 1) := by decide +kernel
theorem dc_256_1664 : decode (ax_code 256) 1664 = .ok (.iadd, 1) := by decide +kernel
theorem dc_256_1665 : decode (ax_code 256) 1665 = .ok (.iaload, 1) := by decide +kernel
theorem dc_256_1666 : decode (ax_code 256) 1666 = .ok (.aload_n 0, 1) := by decide +kernel
theorem dc_256_1667 : decode (ax_code 256) 1667 = .ok (.iload_n 3, 1) := by decide +kernel
theorem dc_256_1668 : decode (ax_code 256) 1668 = .ok (.iconst 2, 1) := by decide +kernel
theorem dc_256_1669 : decode (ax_code 256) 1669 = .ok (.iadd, 1) := by decide +kernel
theorem dc_256_1670 : decode (ax_code 256) 1670 = .ok (.iaload, 1) := by decide +kernel
theorem dc_256_1671 : decode (ax_code 256) 1671 = .ok (.invokevirtual 185, 3) := by decide +kernel
theorem dc_256_1674 : decode (ax_code 256) 1674 = .ok (.if_icmp .eq 131, 3) := by decide +kernel
theorem dc_256_1677 : decode (ax_code 256) 1677 = .ok (.iconst 0, 1) := by decide +kernel
theorem dc_256_1678 : decode (ax_code 256) 1678 = .ok (.ireturn, 1) := by decide +kernel
theorem dc_256_1679 : decode (ax_code 256) 1679 = .ok (.aload_n 1, 1) := by decide +kernel
theorem dc_256_1680 : decode (ax_code 256) 1680 = .ok (.aload_n 0, 1) := by decide +kernel
theorem dc_256_1681 : decode (ax_code 256) 1681 = .ok (.iload_n 3, 1) := by decide +kernel
theorem dc_256_1682 : decode (ax_code 256) 1682 = .ok (.iconst 1, 1) := by decide +kernel
theorem dc_256_1683 : decode (ax_code 256) 1683 = .ok (.iadd, 1) := by decide +kernel
theorem dc_256_1684 : decode (ax_code 256) 1684 = .ok (.iaload, 1) := by decide +kernel
theorem dc_256_1685 : decode (ax_code 256) 1685 = .ok (.aload_n 0, 1) := by decide +kernel
theorem dc_256_1686 : decode (ax_code 256) 1686 = .ok (.iload_n 3, 1) := by decide +kernel
theorem dc_256_1687 : decode (ax_code 256) 1687 = .ok (.iconst 2, 1) := by decide +kernel
theorem dc_256_1688 : decode (ax_code 256) 1688 = .ok (.iadd, 1) := by decide +kernel
theorem dc_256_1689 : decode (ax_code 256) 1689 = .ok (.iaload, 1) := by decide +kernel
theorem dc_256_1690 : decode (ax_code 256) 1690 = .ok (.invokevirtual 186, 3) := by decide +kernel
theorem dc_256_1693 : decode (ax_code 256) 1693 = .ok (.aload_n 2, 1) := by decide +kernel
theorem dc_256_1694 : decode (ax_code 256) 1694 = .ok (.aload_n 0, 1) := by decide +kernel
theorem dc_256_1695 : decode (ax_code 256) 1695 = .ok (.iload_n 3, 1) := by decide +kernel
theorem dc_256_1696 : decode (ax_code 256) 1696 = .ok (.iconst 1, 1) := by decide +kernel
theorem dc_256_1697 : decode (ax_code 256) 1697 = .ok (.iadd, 1) := by decide +kernel
theorem dc_256_1698 : decode (ax_code 256) 1698 = .ok (.iaload, 1) := by decide +kernel
theorem dc_256_1699 : decode (ax_code 256) 1699 = .ok (.aload_n 0, 1) := by decide +kernel
theorem dc_256_1700 : decode (ax_code 256) 1700 = .ok (.iload_n 3, 1) := by decide +kernel
theorem dc_256_1701 : decode (ax_code 256) 1701 = .ok (.iconst 2, 1) := by decide +kernel
theorem dc_256_1702 : decode (ax_code 256) 1702 = .ok (.iadd, 1) := by decide +kernel
theorem dc_256_1703 : decode (ax_code 256) 1703 = .ok (.iaload, 1) := by decide +kernel
theorem dc_256_1704 : decode (ax_code 256) 1704 = .ok (.invokevirtual 189, 3) := by decide +kernel
theorem dc_256_1707 : decode (ax_code 256) 1707 = .ok (.if_icmp .eq 98, 3) := by decide +kernel
theorem dc_256_1710 : decode (ax_code 256) 1710 = .ok (.iconst 0, 1) := by decide +kernel
theorem dc_256_1711 : decode (ax_code 256) 1711 = .ok (.ireturn, 1) := by decide +kernel
theorem dc_256_1712 : decode (ax_code 256) 1712 = .ok (.aload_n 1, 1) := by decide +kernel
theorem dc_256_1713 : decode (ax_code 256) 1713 = .ok (.aload_n 0, 1) := by decide +kernel
theorem dc_256_1714 : decode (ax_code 256) 1714 = .ok (.iload_n 3, 1) := by decide +kernel
theorem dc_256_1715 : decode (ax_code 256) 1715 = .ok (.iconst 1, 1) := by decide +kernel
theorem dc_256_1716 : decode (ax_code 256) 1716 = .ok (.iadd, 1) := by decide +kernel
theorem dc_256_1717 : decode (ax_code 256) 1717 = .ok (.iaload, 1) := by decide +kernel
theorem dc_256_1718 : decode (ax_code 256) 1718 = .ok (.aload_n 0, 1) := by decide +kernel
theorem dc_256_1719 : decode (ax_code 256) 1719 = .ok (.iload_n 3, 1) := by decide +kernel
theorem dc_256_1720 : decode (ax_code 256) 1720 = .ok (.iconst 2, 1) := by decide +kernel
theorem dc_256_1721 : decode (ax_code 256) 1721 = .ok (.iadd, 1) := by decide +kernel
theorem dc_256_1722 : decode (ax_code 256) 1722 = .ok (.iaload, 1) := by decide +kernel
theorem dc_256_1723 : decode (ax_code 256) 1723 = .ok (.aload_n 0, 1) := by decide +kernel
theorem dc_256_1724 : decode (ax_code 256) 1724 = .ok (.iload_n 3, 1) := by decide +kernel
theorem dc_256_1725 : decode (ax_code 256) 1725 = .ok (.iconst 3, 1) := by decide +kernel
theorem dc_256_1726 : decode (ax_code 256) 1726 = .ok (.iadd, 1) := by decide +kernel
theorem dc_256_1727 : decode (ax_code 256) 1727 = .ok (.iaload, 1) := by decide +kernel
theorem dc_256_1728 : decode (ax_code 256) 1728 = .ok (.invokevirtual 190, 3) := by decide +kernel
theorem dc_256_1731 : decode (ax_code 256) 1731 = .ok (.aload_n 2, 1) := by decide +kernel
theorem dc_256_1732 : decode (ax_code 256) 1732 = .ok (.aload_n 0, 1) := by decide +kernel
theorem dc_256_1733 : decode (ax_code 256) 1733 = .ok (.iload_n 3, 1) := by decide +kernel
theorem dc_256_1734 : decode (ax_code 256) 1734 = .ok (.iconst 1, 1) := by decide +kernel
theorem dc_256_1735 : decode (ax_code 256) 1735 = .ok (.iadd, 1) := by decide +kernel
theorem dc_256_1736 : decode (ax_code 256) 1736 = .ok (.iaload, 1) := by decide +kernel
theorem dc_256_1737 : decode (ax_code 256) 1737 = .ok (.aload_n 0, 1) := by decide +kernel
theorem dc_256_1738 : decode (ax_code 256) 1738 = .ok (.iload_n 3, 1) := by decide +kernel
theorem dc_256_1739 : decode (ax_code 256) 1739 = .ok (.iconst 2, 1) := by decide +kernel
theorem dc_256_1740 : decode (ax_code 256) 1740 = .ok (.iadd, 1) := by decide +kernel
theorem dc_256_1741 : decode (ax_code 256) 1741 = .ok (.iaload, 1) := by decide +kernel
theorem dc_256_1742 : decode (ax_code 256) 1742 = .ok (.aload_n 0, 1) := by decide +kernel
theorem dc_256_1743 : decode (ax_code 256) 1743 = .ok (.iload_n 3, 1) := by decide +kernel
theorem dc_256_1744 : decode (ax_code 256) 1744 = .ok (.iconst 3, 1) := by decide +kernel
theorem dc_256_1745 : decode (ax_code 256) 1745 = .ok (.iadd, 1) := by decide +kernel
theorem dc_256_1746 : decode (ax_code 256) 1746 = .ok (.iaload, 1) := by decide +kernel
theorem dc_256_1747 : decode (ax_code 256) 1747 = .ok (.invokevirtual 193, 3) := by decide +kernel
theorem dc_256_1750 : decode (ax_code 256) 1750 = .ok (.if_icmp .eq 55, 3) := by decide +kernel
theorem dc_256_1753 : decode (ax_code 256) 1753 = .ok (.iconst 0, 1) := by decide +kernel
theorem dc_256_1754 : decode (ax_code 256) 1754 = .ok (.ireturn, 1) := by decide +kernel
theorem dc_256_1755 : decode (ax_code 256) 1755 = .ok (.aload_n 1, 1) := by decide +kernel
theorem dc_256_1756 : decode (ax_code 256) 1756 = .ok (.invokevirtual 194, 3) := by decide +kernel
theorem dc_256_1759 : decode (ax_code 256) 1759 = .ok (.aload_n 2, 1) := by decide +kernel
theorem dc_256_1760 : decode (ax_code 256) 1760 = .ok (.invokevirtual 197, 3) := by decide +kernel
theorem dc_256_1763 : decode (ax_code 256) 1763 = .ok (.if_icmp .eq 42, 3) := by decide +kernel
theorem dc_256_1766 : decode (ax_code 256) 1766 = .ok (.iconst 0, 1) := by decide +kernel
theorem dc_256_1767 : decode (ax_code 256) 1767 = .ok (.ireturn, 1) := by decide +kernel
theorem dc_256_1768 : decode (ax_code 256) 1768 = .ok (.aload_n 1, 1) := by decide +kernel
theorem dc_256_1769 : decode (ax_code 256) 1769 = .ok (.invokevirtual 198, 3) := by decide +kernel
theorem dc_256_1772 : decode (ax_code 256) 1772 = .ok (.aload_n 2, 1) := by decide +kernel
theorem dc_256_1773 : decode (ax_code 256) 1773 = .ok (.invokevirtual 201, 3) := by decide +kernel
theorem dc_256_1776 : decode (ax_code 256) 1776 = .ok (.if_icmp .eq 29, 3) := by decide +kernel
theorem dc_256_1779 : decode (ax_code 256) 1779 = .ok (.iconst 0, 1) := by decide +kernel
theorem dc_256_1780 : decode (ax_code 256) 1780 = .ok (.ireturn, 1) := by decide +kernel
theorem dc_256_1781 : decode (ax_code 256) 1781 = .ok (.aload_n 1, 1) := by decide +kernel
theorem dc_256_1782 : decode (ax_code 256) 1782 = .ok (.aload_n 0, 1) := by decide +kernel
theorem dc_256_1783 : decode (ax_code 256) 1783 = .ok (.iload_n 3, 1) := by decide +kernel
theorem dc_256_1784 : decode (ax_code 256) 1784 = .ok (.iconst 1, 1) := by decide +kernel
theorem dc_256_1785 : decode (ax_code 256) 1785 = .ok (.iadd, 1) := by decide +kernel
theorem dc_256_1786 : decode (ax_code 256) 1786 = .ok (.iaload, 1) := by decide +kernel
theorem dc_256_1787 : decode (ax_code 256) 1787 = .ok (.invokevirtual 202, 3) := by decide +kernel
theorem dc_256_1790 : decode (ax_code 256) 1790 = .ok (.aload_n 2, 1) := by decide +kernel
theorem dc_256_1791 : decode (ax_code 256) 1791 = .ok (.aload_n 0, 1) := by decide +kernel
theorem dc_256_1792 : decode (ax_code 256) 1792 = .ok (.iload_n 3, 1) := by decide +kernel
theorem dc_256_1793 : decode (ax_code 256) 1793 = .ok (.iconst 1, 1) := by decide +kernel
theorem dc_256_1794 : decode (ax_code 256) 1794 = .ok (.iadd, 1) := by decide +kernel
theorem dc_256_1795 : decode (ax_code 256) 1795 = .ok (.iaload, 1) := by decide +kernel
theorem dc_256_1796 : decode (ax_code 256) 1796 = .ok (.invokevirtual 206, 3) := by decide +kernel
theorem dc_256_1799 : decode (ax_code 256) 1799 = .ok (.lcmp, 1) := by decide +kernel
theorem dc_256_1800 : decode (ax_code 256) 1800 = .ok (.ifCond .eq 5, 3) := by decide +kernel
theorem dc_256_1803 : decode (ax_code 256) 1803 = .ok (.iconst 0, 1) := by decide +kernel
theorem dc_256_1804 : decode (ax_code 256) 1804 = .ok (.ireturn, 1) := by decide +kernel
theorem dc_256_1805 : decode (ax_code 256) 1805 = .ok (.iinc 3 8, 3) := by decide +kernel
theorem dc_256_1808 : decode (ax_code 256) 1808 = .ok (.goto (-1790), 3) := by decide +kernel
theorem dc_256_1811 : decode (ax_code 256) 1811 = .ok (.iconst 1, 1) := by decide +kernel
theorem dc_256_1812 : decode (ax_code 256) 1812 = .ok (.ireturn, 1) := by decide +kernel
