/-! ROWS OF CELLS AND LINKS, by their numbers -/
theorem fl_11_7 : ax_fld 11 7 = some (11, 0) := by decide +kernel
theorem fl_11_13 : ax_fld 11 13 = some (11, 1) := by decide +kernel
theorem fl_11_17 : ax_fld 11 17 = some (11, 3) := by decide +kernel
theorem fl_11_20 : ax_fld 11 20 = some (11, 4) := by decide +kernel
theorem fl_11_23 : ax_fld 11 23 = some (11, 5) := by decide +kernel
theorem fl_11_26 : ax_fld 11 26 = some (11, 7) := by decide +kernel
theorem fl_11_29 : ax_fld 11 29 = some (11, 9) := by decide +kernel
theorem fl_11_32 : ax_fld 11 32 = some (11, 10) := by decide +kernel
theorem fl_11_36 : ax_fld 11 36 = some (11, 11) := by decide +kernel
theorem fl_11_39 : ax_fld 11 39 = some (11, 12) := by decide +kernel
theorem fl_11_42 : ax_fld 11 42 = some (11, 13) := by decide +kernel
theorem fl_11_45 : ax_fld 11 45 = some (11, 15) := by decide +kernel
theorem fl_11_48 : ax_fld 11 48 = some (11, 17) := by decide +kernel
theorem fl_11_51 : ax_fld 11 51 = some (11, 18) := by decide +kernel
theorem fl_11_54 : ax_fld 11 54 = some (11, 20) := by decide +kernel
theorem fl_11_57 : ax_fld 11 57 = some (11, 21) := by decide +kernel
theorem fl_11_60 : ax_fld 11 60 = some (11, 22) := by decide +kernel
theorem fl_11_63 : ax_fld 11 63 = some (11, 24) := by decide +kernel
theorem fl_11_84 : ax_fld 11 84 = some (11, 30) := by decide +kernel
theorem fl_11_88 : ax_fld 11 88 = some (11, 31) := by decide +kernel
theorem fl_11_91 : ax_fld 11 91 = some (11, 32) := by decide +kernel
theorem fl_11_94 : ax_fld 11 94 = some (11, 33) := by decide +kernel
theorem fl_11_97 : ax_fld 11 97 = some (11, 34) := by decide +kernel
theorem fl_11_100 : ax_fld 11 100 = some (11, 35) := by decide +kernel
theorem fl_11_103 : ax_fld 11 103 = some (11, 36) := by decide +kernel
theorem fl_11_106 : ax_fld 11 106 = some (11, 37) := by decide +kernel
theorem fl_11_109 : ax_fld 11 109 = some (11, 38) := by decide +kernel
theorem fl_11_113 : ax_fld 11 113 = some (11, 39) := by decide +kernel
theorem fl_11_116 : ax_fld 11 116 = some (11, 41) := by decide +kernel
theorem fl_11_127 : ax_fld 11 127 = some (11, 2) := by decide +kernel
theorem fl_11_136 : ax_fld 11 136 = some (11, 6) := by decide +kernel
theorem fl_11_139 : ax_fld 11 139 = some (11, 8) := by decide +kernel
theorem fl_11_232 : ax_fld 11 232 = some (11, 14) := by decide +kernel
theorem fl_11_249 : ax_fld 11 249 = some (11, 16) := by decide +kernel
theorem fl_11_286 : ax_fld 11 286 = some (11, 23) := by decide +kernel
theorem fl_11_298 : ax_fld 11 298 = some (11, 19) := by decide +kernel
theorem fl_11_313 : ax_fld 11 313 = some (11, 25) := by decide +kernel
theorem fl_11_316 : ax_fld 11 316 = some (11, 26) := by decide +kernel
theorem fl_11_319 : ax_fld 11 319 = some (11, 28) := by decide +kernel
theorem fl_11_322 : ax_fld 11 322 = some (11, 27) := by decide +kernel
theorem fl_11_346 : ax_fld 11 346 = some (11, 29) := by decide +kernel
theorem fl_11_384 : ax_fld 11 384 = some (11, 44) := by decide +kernel
theorem fl_11_388 : ax_fld 11 388 = some (11, 43) := by decide +kernel
theorem fl_11_398 : ax_fld 11 398 = some (11, 40) := by decide +kernel
theorem fl_11_405 : ax_fld 11 405 = some (11, 42) := by decide +kernel
theorem ow_116 : ax_own 116 = 13 := by decide +kernel
theorem ow_118 : ax_own 118 = 13 := by decide +kernel
theorem ow_154 : ax_own 154 = 11 := by decide +kernel
theorem ow_156 : ax_own 156 = 11 := by decide +kernel
theorem ow_157 : ax_own 157 = 11 := by decide +kernel
theorem ow_158 : ax_own 158 = 11 := by decide +kernel
theorem ow_159 : ax_own 159 = 11 := by decide +kernel
theorem ow_160 : ax_own 160 = 11 := by decide +kernel
theorem ow_162 : ax_own 162 = 11 := by decide +kernel
theorem ow_164 : ax_own 164 = 11 := by decide +kernel
theorem ow_165 : ax_own 165 = 11 := by decide +kernel
theorem ow_166 : ax_own 166 = 11 := by decide +kernel
theorem ow_167 : ax_own 167 = 11 := by decide +kernel
theorem ow_168 : ax_own 168 = 11 := by decide +kernel
theorem ow_169 : ax_own 169 = 11 := by decide +kernel
theorem ow_170 : ax_own 170 = 11 := by decide +kernel
theorem ow_171 : ax_own 171 = 11 := by decide +kernel
theorem ow_172 : ax_own 172 = 11 := by decide +kernel
theorem ow_173 : ax_own 173 = 11 := by decide +kernel
theorem ow_174 : ax_own 174 = 11 := by decide +kernel
theorem ow_175 : ax_own 175 = 11 := by decide +kernel
theorem ow_176 : ax_own 176 = 11 := by decide +kernel
theorem ow_177 : ax_own 177 = 11 := by decide +kernel
theorem ow_178 : ax_own 178 = 11 := by decide +kernel
theorem ow_179 : ax_own 179 = 11 := by decide +kernel
theorem ow_180 : ax_own 180 = 11 := by decide +kernel
theorem ow_181 : ax_own 181 = 11 := by decide +kernel
theorem ow_183 : ax_own 183 = 11 := by decide +kernel
theorem ow_184 : ax_own 184 = 11 := by decide +kernel
theorem ow_185 : ax_own 185 = 11 := by decide +kernel
theorem ow_186 : ax_own 186 = 11 := by decide +kernel
theorem ow_187 : ax_own 187 = 11 := by decide +kernel
theorem ow_188 : ax_own 188 = 11 := by decide +kernel
theorem ow_189 : ax_own 189 = 11 := by decide +kernel
theorem ow_190 : ax_own 190 = 11 := by decide +kernel
theorem ow_191 : ax_own 191 = 11 := by decide +kernel
theorem ow_193 : ax_own 193 = 11 := by decide +kernel
theorem ow_194 : ax_own 194 = 11 := by decide +kernel
theorem ow_195 : ax_own 195 = 11 := by decide +kernel
theorem ow_196 : ax_own 196 = 11 := by decide +kernel
theorem ow_197 : ax_own 197 = 11 := by decide +kernel
theorem ow_198 : ax_own 198 = 11 := by decide +kernel
theorem ow_199 : ax_own 199 = 11 := by decide +kernel
theorem ow_200 : ax_own 200 = 11 := by decide +kernel
theorem ow_201 : ax_own 201 = 11 := by decide +kernel
theorem ow_202 : ax_own 202 = 11 := by decide +kernel
theorem ow_203 : ax_own 203 = 11 := by decide +kernel
theorem ow_204 : ax_own 204 = 11 := by decide +kernel
theorem ow_205 : ax_own 205 = 11 := by decide +kernel
theorem ow_206 : ax_own 206 = 11 := by decide +kernel
theorem ow_207 : ax_own 207 = 11 := by decide +kernel
theorem ow_208 : ax_own 208 = 11 := by decide +kernel
theorem ow_209 : ax_own 209 = 11 := by decide +kernel
theorem ow_210 : ax_own 210 = 11 := by decide +kernel
theorem ow_211 : ax_own 211 = 11 := by decide +kernel
theorem ow_212 : ax_own 212 = 11 := by decide +kernel
theorem ow_213 : ax_own 213 = 11 := by decide +kernel
theorem ow_214 : ax_own 214 = 11 := by decide +kernel
theorem ow_215 : ax_own 215 = 11 := by decide +kernel
theorem ow_216 : ax_own 216 = 11 := by decide +kernel
theorem ow_217 : ax_own 217 = 11 := by decide +kernel
theorem ow_218 : ax_own 218 = 11 := by decide +kernel
theorem ow_219 : ax_own 219 = 11 := by decide +kernel
theorem ow_220 : ax_own 220 = 11 := by decide +kernel
theorem ow_221 : ax_own 221 = 11 := by decide +kernel
theorem ow_222 : ax_own 222 = 11 := by decide +kernel
theorem ow_223 : ax_own 223 = 11 := by decide +kernel
theorem ow_224 : ax_own 224 = 11 := by decide +kernel
theorem ow_225 : ax_own 225 = 11 := by decide +kernel
theorem ow_226 : ax_own 226 = 11 := by decide +kernel
theorem ow_227 : ax_own 227 = 11 := by decide +kernel
theorem ow_228 : ax_own 228 = 11 := by decide +kernel
theorem ow_229 : ax_own 229 = 11 := by decide +kernel
theorem ow_230 : ax_own 230 = 11 := by decide +kernel
theorem ow_231 : ax_own 231 = 11 := by decide +kernel
theorem ow_232 : ax_own 232 = 11 := by decide +kernel
theorem ow_233 : ax_own 233 = 11 := by decide +kernel
theorem ow_234 : ax_own 234 = 11 := by decide +kernel
theorem ow_235 : ax_own 235 = 11 := by decide +kernel
theorem ow_236 : ax_own 236 = 11 := by decide +kernel
theorem ow_237 : ax_own 237 = 11 := by decide +kernel
theorem ow_238 : ax_own 238 = 11 := by decide +kernel
theorem ow_239 : ax_own 239 = 11 := by decide +kernel
theorem ow_240 : ax_own 240 = 11 := by decide +kernel
theorem ow_241 : ax_own 241 = 11 := by decide +kernel
theorem ow_242 : ax_own 242 = 11 := by decide +kernel
theorem ow_243 : ax_own 243 = 11 := by decide +kernel
theorem ow_244 : ax_own 244 = 11 := by decide +kernel
theorem ow_245 : ax_own 245 = 11 := by decide +kernel
theorem ow_246 : ax_own 246 = 11 := by decide +kernel
theorem ow_247 : ax_own 247 = 11 := by decide +kernel
theorem ow_248 : ax_own 248 = 11 := by decide +kernel
theorem ow_249 : ax_own 249 = 11 := by decide +kernel
theorem ow_250 : ax_own 250 = 11 := by decide +kernel
theorem ow_251 : ax_own 251 = 11 := by decide +kernel
theorem ow_252 : ax_own 252 = 11 := by decide +kernel
theorem ow_253 : ax_own 253 = 11 := by decide +kernel
theorem ow_254 : ax_own 254 = 11 := by decide +kernel
theorem ow_255 : ax_own 255 = 11 := by decide +kernel
theorem aL_116 : ax_L 116 = 1 := by decide +kernel
theorem aL_118 : ax_L 118 = 2 := by decide +kernel
theorem aL_154 : ax_L 154 = 4 := by decide +kernel
theorem aL_155 : ax_L 155 = 6 := by decide +kernel
theorem aL_156 : ax_L 156 = 4 := by decide +kernel
theorem aL_158 : ax_L 158 = 5 := by decide +kernel
theorem aL_159 : ax_L 159 = 1 := by decide +kernel
theorem aL_160 : ax_L 160 = 1 := by decide +kernel
theorem aL_161 : ax_L 161 = 1 := by decide +kernel
theorem aL_162 : ax_L 162 = 2 := by decide +kernel
theorem aL_163 : ax_L 163 = 1 := by decide +kernel
theorem aL_164 : ax_L 164 = 4 := by decide +kernel
theorem aL_165 : ax_L 165 = 4 := by decide +kernel
theorem aL_167 : ax_L 167 = 2 := by decide +kernel
theorem aL_168 : ax_L 168 = 7 := by decide +kernel
theorem aL_170 : ax_L 170 = 2 := by decide +kernel
theorem aL_173 : ax_L 173 = 4 := by decide +kernel
theorem aL_174 : ax_L 174 = 2 := by decide +kernel
theorem aL_176 : ax_L 176 = 2 := by decide +kernel
theorem aL_177 : ax_L 177 = 8 := by decide +kernel
theorem aL_179 : ax_L 179 = 1 := by decide +kernel
theorem aL_180 : ax_L 180 = 1 := by decide +kernel
theorem aL_181 : ax_L 181 = 4 := by decide +kernel
theorem aL_182 : ax_L 182 = 1 := by decide +kernel
theorem aL_184 : ax_L 184 = 5 := by decide +kernel
theorem aL_186 : ax_L 186 = 8 := by decide +kernel
theorem aL_187 : ax_L 187 = 8 := by decide +kernel
theorem aL_188 : ax_L 188 = 13 := by decide +kernel
theorem aL_189 : ax_L 189 = 5 := by decide +kernel
theorem aL_190 : ax_L 190 = 5 := by decide +kernel
theorem aL_191 : ax_L 191 = 5 := by decide +kernel
theorem aL_192 : ax_L 192 = 10 := by decide +kernel
theorem aL_194 : ax_L 194 = 3 := by decide +kernel
theorem aL_195 : ax_L 195 = 9 := by decide +kernel
theorem aL_196 : ax_L 196 = 6 := by decide +kernel
theorem aL_197 : ax_L 197 = 3 := by decide +kernel
theorem aL_198 : ax_L 198 = 9 := by decide +kernel
theorem aL_199 : ax_L 199 = 6 := by decide +kernel
theorem aL_200 : ax_L 200 = 6 := by decide +kernel
theorem aL_201 : ax_L 201 = 5 := by decide +kernel
theorem aL_202 : ax_L 202 = 1 := by decide +kernel
theorem aL_203 : ax_L 203 = 2 := by decide +kernel
theorem aL_204 : ax_L 204 = 9 := by decide +kernel
theorem aL_206 : ax_L 206 = 5 := by decide +kernel
theorem aL_207 : ax_L 207 = 8 := by decide +kernel
theorem aL_209 : ax_L 209 = 5 := by decide +kernel
theorem aL_210 : ax_L 210 = 5 := by decide +kernel
theorem aL_211 : ax_L 211 = 6 := by decide +kernel
theorem aL_212 : ax_L 212 = 9 := by decide +kernel
theorem aL_213 : ax_L 213 = 6 := by decide +kernel
theorem aL_215 : ax_L 215 = 4 := by decide +kernel
theorem aL_216 : ax_L 216 = 7 := by decide +kernel
theorem aL_217 : ax_L 217 = 6 := by decide +kernel
theorem aL_218 : ax_L 218 = 4 := by decide +kernel
theorem aL_219 : ax_L 219 = 7 := by decide +kernel
theorem aL_220 : ax_L 220 = 2 := by decide +kernel
theorem aL_221 : ax_L 221 = 5 := by decide +kernel
theorem aL_222 : ax_L 222 = 2 := by decide +kernel
theorem aL_224 : ax_L 224 = 4 := by decide +kernel
theorem aL_225 : ax_L 225 = 5 := by decide +kernel
theorem aL_226 : ax_L 226 = 4 := by decide +kernel
theorem aL_227 : ax_L 227 = 1 := by decide +kernel
theorem aL_228 : ax_L 228 = 1 := by decide +kernel
theorem aL_229 : ax_L 229 = 4 := by decide +kernel
theorem aL_230 : ax_L 230 = 2 := by decide +kernel
theorem aL_231 : ax_L 231 = 4 := by decide +kernel
theorem aL_232 : ax_L 232 = 4 := by decide +kernel
theorem aL_233 : ax_L 233 = 1 := by decide +kernel
theorem aL_234 : ax_L 234 = 5 := by decide +kernel
theorem aL_235 : ax_L 235 = 4 := by decide +kernel
theorem aL_236 : ax_L 236 = 9 := by decide +kernel
theorem aL_237 : ax_L 237 = 1 := by decide +kernel
theorem aL_238 : ax_L 238 = 5 := by decide +kernel
theorem aL_240 : ax_L 240 = 5 := by decide +kernel
theorem aL_241 : ax_L 241 = 3 := by decide +kernel
theorem aL_242 : ax_L 242 = 4 := by decide +kernel
theorem aL_243 : ax_L 243 = 4 := by decide +kernel
theorem aL_244 : ax_L 244 = 7 := by decide +kernel
theorem aL_245 : ax_L 245 = 1 := by decide +kernel
theorem aL_246 : ax_L 246 = 5 := by decide +kernel
theorem aL_247 : ax_L 247 = 3 := by decide +kernel
theorem aL_248 : ax_L 248 = 4 := by decide +kernel
theorem aL_249 : ax_L 249 = 5 := by decide +kernel
theorem aL_251 : ax_L 251 = 2 := by decide +kernel
theorem aL_252 : ax_L 252 = 3 := by decide +kernel
theorem aL_253 : ax_L 253 = 3 := by decide +kernel
theorem rt_154 : ax_ret 154 = some .int := by decide +kernel
theorem rt_155 : ax_ret 155 = some .boolean := by decide +kernel
theorem rt_156 : ax_ret 156 = some .int := by decide +kernel
theorem rt_157 : ax_ret 157 = some .int := by decide +kernel
theorem rt_158 : ax_ret 158 = some .boolean := by decide +kernel
theorem rt_159 : ax_ret 159 = some .boolean := by decide +kernel
theorem rt_160 : ax_ret 160 = some .boolean := by decide +kernel
theorem rt_161 : ax_ret 161 = some .boolean := by decide +kernel
theorem rt_162 : ax_ret 162 = some .boolean := by decide +kernel
theorem rt_163 : ax_ret 163 = some .boolean := by decide +kernel
theorem rt_164 : ax_ret 164 = some .int := by decide +kernel
theorem rt_165 : ax_ret 165 = some .int := by decide +kernel
theorem rt_166 : ax_ret 166 = some .int := by decide +kernel
theorem rt_167 : ax_ret 167 = some .boolean := by decide +kernel
theorem rt_168 : ax_ret 168 = some .int := by decide +kernel
theorem rt_169 : ax_ret 169 = some .int := by decide +kernel
theorem rt_170 : ax_ret 170 = some .boolean := by decide +kernel
theorem rt_171 : ax_ret 171 = some .int := by decide +kernel
theorem rt_172 : ax_ret 172 = some .int := by decide +kernel
theorem rt_173 : ax_ret 173 = some .int := by decide +kernel
theorem rt_174 : ax_ret 174 = some .int := by decide +kernel
theorem rt_175 : ax_ret 175 = some .int := by decide +kernel
theorem rt_176 : ax_ret 176 = some .boolean := by decide +kernel
theorem rt_177 : ax_ret 177 = none := by decide +kernel
theorem rt_178 : ax_ret 178 = some .long := by decide +kernel
theorem rt_179 : ax_ret 179 = some .boolean := by decide +kernel
theorem rt_180 : ax_ret 180 = some .long := by decide +kernel
theorem rt_181 : ax_ret 181 = some .long := by decide +kernel
theorem rt_182 : ax_ret 182 = some .boolean := by decide +kernel
theorem rt_183 : ax_ret 183 = some .int := by decide +kernel
theorem rt_184 : ax_ret 184 = some .int := by decide +kernel
theorem rt_185 : ax_ret 185 = some .int := by decide +kernel
theorem rt_186 : ax_ret 186 = some .int := by decide +kernel
theorem rt_187 : ax_ret 187 = some .int := by decide +kernel
theorem rt_188 : ax_ret 188 = some .long := by decide +kernel
theorem rt_189 : ax_ret 189 = some .boolean := by decide +kernel
theorem rt_190 : ax_ret 190 = some .int := by decide +kernel
theorem rt_191 : ax_ret 191 = some .int := by decide +kernel
theorem rt_192 : ax_ret 192 = some .long := by decide +kernel
theorem rt_193 : ax_ret 193 = some .int := by decide +kernel
theorem rt_194 : ax_ret 194 = none := by decide +kernel
theorem rt_195 : ax_ret 195 = none := by decide +kernel
theorem rt_196 : ax_ret 196 = some .int := by decide +kernel
theorem rt_197 : ax_ret 197 = some .int := by decide +kernel
theorem rt_198 : ax_ret 198 = some .boolean := by decide +kernel
theorem rt_199 : ax_ret 199 = some .int := by decide +kernel
theorem rt_200 : ax_ret 200 = some .boolean := by decide +kernel
theorem rt_201 : ax_ret 201 = some .int := by decide +kernel
theorem rt_202 : ax_ret 202 = some .int := by decide +kernel
theorem rt_203 : ax_ret 203 = some .int := by decide +kernel
theorem rt_204 : ax_ret 204 = some .int := by decide +kernel
theorem rt_205 : ax_ret 205 = some .int := by decide +kernel
theorem rt_206 : ax_ret 206 = some .boolean := by decide +kernel
theorem rt_207 : ax_ret 207 = some .int := by decide +kernel
theorem rt_208 : ax_ret 208 = some .int := by decide +kernel
theorem rt_209 : ax_ret 209 = some .long := by decide +kernel
theorem rt_210 : ax_ret 210 = some .int := by decide +kernel
theorem rt_211 : ax_ret 211 = some .boolean := by decide +kernel
theorem rt_212 : ax_ret 212 = some .long := by decide +kernel
theorem rt_213 : ax_ret 213 = some .long := by decide +kernel
theorem rt_214 : ax_ret 214 = some .long := by decide +kernel
theorem rt_215 : ax_ret 215 = some .boolean := by decide +kernel
theorem rt_216 : ax_ret 216 = none := by decide +kernel
theorem rt_217 : ax_ret 217 = none := by decide +kernel
theorem rt_218 : ax_ret 218 = some .int := by decide +kernel
theorem rt_219 : ax_ret 219 = some .long := by decide +kernel
theorem rt_220 : ax_ret 220 = some .boolean := by decide +kernel
theorem rt_221 : ax_ret 221 = some .int := by decide +kernel
theorem rt_222 : ax_ret 222 = some .int := by decide +kernel
theorem rt_223 : ax_ret 223 = some .int := by decide +kernel
theorem rt_224 : ax_ret 224 = some .int := by decide +kernel
theorem rt_225 : ax_ret 225 = some .int := by decide +kernel
theorem rt_226 : ax_ret 226 = some .boolean := by decide +kernel
theorem rt_227 : ax_ret 227 = none := by decide +kernel
theorem rt_228 : ax_ret 228 = some .int := by decide +kernel
theorem rt_229 : ax_ret 229 = some .boolean := by decide +kernel
theorem rt_230 : ax_ret 230 = some .boolean := by decide +kernel
theorem rt_231 : ax_ret 231 = some .boolean := by decide +kernel
theorem rt_232 : ax_ret 232 = some .int := by decide +kernel
theorem rt_233 : ax_ret 233 = some .boolean := by decide +kernel
theorem rt_234 : ax_ret 234 = some .int := by decide +kernel
theorem rt_235 : ax_ret 235 = some .int := by decide +kernel
theorem rt_236 : ax_ret 236 = some .int := by decide +kernel
theorem rt_237 : ax_ret 237 = some .boolean := by decide +kernel
theorem rt_238 : ax_ret 238 = none := by decide +kernel
theorem rt_239 : ax_ret 239 = some .int := by decide +kernel
theorem rt_240 : ax_ret 240 = some .int := by decide +kernel
theorem rt_241 : ax_ret 241 = some .int := by decide +kernel
theorem rt_242 : ax_ret 242 = some .int := by decide +kernel
theorem rt_243 : ax_ret 243 = some .int := by decide +kernel
theorem rt_244 : ax_ret 244 = some .int := by decide +kernel
theorem rt_245 : ax_ret 245 = some .boolean := by decide +kernel
theorem rt_246 : ax_ret 246 = some .int := by decide +kernel
theorem rt_247 : ax_ret 247 = some .int := by decide +kernel
theorem rt_248 : ax_ret 248 = some .int := by decide +kernel
theorem rt_249 : ax_ret 249 = some .int := by decide +kernel
theorem rt_250 : ax_ret 250 = some .int := by decide +kernel
theorem rt_251 : ax_ret 251 = none := by decide +kernel
theorem rt_252 : ax_ret 252 = some .int := by decide +kernel
theorem rt_253 : ax_ret 253 = none := by decide +kernel
theorem rt_254 : ax_ret 254 = some .int := by decide +kernel
theorem rt_255 : ax_ret 255 = some .long := by decide +kernel
theorem ld_11_119 : ax_ldc 11 119 = some (.long (-lN 4611686018427387904)) := by decide +kernel
theorem ld_11_121 : ax_ldc 11 121 = some (.long (lN 2)) := by decide +kernel
theorem ld_11_134 : ax_ldc 11 134 = some (.long (lN 5)) := by decide +kernel
theorem ld_11_142 : ax_ldc 11 142 = some (.long (-lN 9)) := by decide +kernel
theorem ld_11_144 : ax_ldc 11 144 = some (.long (lN 9)) := by decide +kernel
theorem ld_11_152 : ax_ldc 11 152 = some (.long (lN 7)) := by decide +kernel
theorem ld_11_157 : ax_ldc 11 157 = some (.long (lN 3)) := by decide +kernel
theorem ld_11_252 : ax_ldc 11 252 = some (.int (nI 1103515245)) := by decide +kernel
theorem ld_11_257 : ax_ldc 11 257 = some (.long (lN 4)) := by decide +kernel
theorem ld_11_259 : ax_ldc 11 259 = some (.long (-lN 99)) := by decide +kernel
theorem ld_11_261 : ax_ldc 11 261 = some (.long (lN 99)) := by decide +kernel
theorem ld_11_272 : ax_ldc 11 272 = some (.long (-lN 9223372036854775808)) := by decide +kernel
theorem ld_11_274 : ax_ldc 11 274 = some (.long (-lN 1)) := by decide +kernel
theorem ld_11_311 : ax_ldc 11 311 = some (.long (lN 1000000000)) := by decide +kernel
theorem ld_11_328 : ax_ldc 11 328 = some (.long (lN 97)) := by decide +kernel
theorem ld_11_330 : ax_ldc 11 330 = some (.long (lN 122)) := by decide +kernel
theorem ld_11_332 : ax_ldc 11 332 = some (.long (lN 48)) := by decide +kernel
theorem ld_11_334 : ax_ldc 11 334 = some (.long (lN 57)) := by decide +kernel
theorem ld_11_363 : ax_ldc 11 363 = some (.ref 18) := by decide +kernel
theorem ca_11_123 : ax_cal 11 123 = some (1, 155, 3) := by decide +kernel
theorem ca_11_130 : ax_cal 11 130 = some (1, 161, 1) := by decide +kernel
theorem ca_11_146 : ax_cal 11 146 = some (1, 163, 1) := by decide +kernel
theorem ca_11_149 : ax_cal 11 149 = some (1, 159, 1) := by decide +kernel
theorem ca_11_154 : ax_cal 11 154 = some (1, 160, 1) := by decide +kernel
theorem ca_11_159 : ax_cal 11 159 = some (0, 164, 1) := by decide +kernel
theorem ca_11_163 : ax_cal 11 163 = some (0, 158, 3) := by decide +kernel
theorem ca_11_167 : ax_cal 11 167 = some (0, 162, 1) := by decide +kernel
theorem ca_11_170 : ax_cal 11 170 = some (0, 165, 3) := by decide +kernel
theorem ca_11_174 : ax_cal 11 174 = some (0, 167, 1) := by decide +kernel
theorem ca_11_177 : ax_cal 11 177 = some (0, 168, 2) := by decide +kernel
theorem ca_11_181 : ax_cal 11 181 = some (0, 170, 1) := by decide +kernel
theorem ca_11_184 : ax_cal 11 184 = some (0, 174, 1) := by decide +kernel
theorem ca_11_187 : ax_cal 11 187 = some (0, 173, 1) := by decide +kernel
theorem ca_11_190 : ax_cal 11 190 = some (0, 176, 1) := by decide +kernel
theorem ca_11_193 : ax_cal 11 193 = some (0, 177, 2) := by decide +kernel
theorem ca_11_197 : ax_cal 11 197 = some (1, 182, 1) := by decide +kernel
theorem ca_11_200 : ax_cal 11 200 = some (1, 179, 1) := by decide +kernel
theorem ca_11_203 : ax_cal 11 203 = some (1, 180, 1) := by decide +kernel
theorem ca_11_207 : ax_cal 11 207 = some (0, 181, 0) := by decide +kernel
theorem ca_11_211 : ax_cal 11 211 = some (0, 184, 2) := by decide +kernel
theorem ca_11_214 : ax_cal 11 214 = some (0, 186, 3) := by decide +kernel
theorem ca_11_218 : ax_cal 11 218 = some (0, 191, 3) := by decide +kernel
theorem ca_11_221 : ax_cal 11 221 = some (0, 190, 3) := by decide +kernel
theorem ca_11_224 : ax_cal 11 224 = some (0, 189, 2) := by decide +kernel
theorem ca_11_228 : ax_cal 11 228 = some (1, 192, 2) := by decide +kernel
theorem ca_11_235 : ax_cal 11 235 = some (0, 195, 2) := by decide +kernel
theorem ca_11_238 : ax_cal 11 238 = some (0, 194, 1) := by decide +kernel
theorem ca_11_242 : ax_cal 11 242 = some (0, 198, 2) := by decide +kernel
theorem ca_11_245 : ax_cal 11 245 = some (0, 200, 4) := by decide +kernel
theorem ca_11_253 : ax_cal 11 253 = some (0, 202, 0) := by decide +kernel
theorem ca_11_263 : ax_cal 11 263 = some (0, 206, 1) := by decide +kernel
theorem ca_11_266 : ax_cal 11 266 = some (0, 207, 3) := by decide +kernel
theorem ca_11_276 : ax_cal 11 276 = some (0, 210, 1) := by decide +kernel
theorem ca_11_279 : ax_cal 11 279 = some (1, 211, 2) := by decide +kernel
theorem ca_11_283 : ax_cal 11 283 = some (0, 213, 1) := by decide +kernel
theorem ca_11_289 : ax_cal 11 289 = some (0, 218, 2) := by decide +kernel
theorem ca_11_292 : ax_cal 11 292 = some (0, 217, 1) := by decide +kernel
theorem ca_11_295 : ax_cal 11 295 = some (0, 219, 0) := by decide +kernel
theorem ca_11_301 : ax_cal 11 301 = some (0, 220, 0) := by decide +kernel
theorem ca_11_305 : ax_cal 11 305 = some (0, 215, 1) := by decide +kernel
theorem ca_11_308 : ax_cal 11 308 = some (0, 216, 1) := by decide +kernel
theorem ca_11_325 : ax_cal 11 325 = some (0, 228, 0) := by decide +kernel
theorem ca_11_336 : ax_cal 11 336 = some (0, 116, 0) := by decide +kernel
theorem ca_11_339 : ax_cal 11 339 = some (0, 118, 1) := by decide +kernel
theorem ca_11_343 : ax_cal 11 343 = some (0, 227, 0) := by decide +kernel
theorem ca_11_349 : ax_cal 11 349 = some (0, 230, 1) := by decide +kernel
theorem ca_11_353 : ax_cal 11 353 = some (0, 229, 1) := by decide +kernel
theorem ca_11_357 : ax_cal 11 357 = some (0, 231, 2) := by decide +kernel
theorem ca_11_360 : ax_cal 11 360 = some (0, 226, 0) := by decide +kernel
theorem ca_11_365 : ax_cal 11 365 = some (1, 233, 1) := by decide +kernel
theorem ca_11_368 : ax_cal 11 368 = some (1, 237, 1) := by decide +kernel
theorem ca_11_371 : ax_cal 11 371 = some (0, 238, 3) := by decide +kernel
theorem ca_11_375 : ax_cal 11 375 = some (0, 241, 2) := by decide +kernel
theorem ca_11_378 : ax_cal 11 378 = some (1, 245, 1) := by decide +kernel
theorem ca_11_381 : ax_cal 11 381 = some (0, 247, 2) := by decide +kernel
theorem ca_11_391 : ax_cal 11 391 = some (0, 252, 1) := by decide +kernel
theorem ca_11_394 : ax_cal 11 394 = some (0, 253, 1) := by decide +kernel
theorem ca_11_401 : ax_cal 11 401 = some (0, 251, 1) := by decide +kernel
theorem xx_ite {c A B A' B' : Prop} [Decidable c] (hA : A ↔ A') (hB : B ↔ B') : (if c then A else B) ↔ (if c then A' else B') := by
  split
  · exact hA
  · exact hB
section R18
variable {ph : Bool} {d m pc : Nat} {ls st : List Value} {h : AH} {R : Option Value × AH}
theorem xr_zreturn2 {v : Int32} (hd : decode (ax_code m) pc = .ok (.ireturn, 1)) (hr : ax_ret m = some .boolean) : XX ph d m pc ls [.int v] h R ↔ (v = 0 ∨ v = 1) ∧ R = (some (.int v), h) := by
  by_cases hv : v = 0 ∨ v = 1
  · rw [xr_zreturn hd hr hv]; exact ⟨fun q => ⟨hv, q⟩, fun q => q.2⟩
  · rw [xx_stuck hd rfl (by
      simp only [ax_retv]
      rw [if_neg]
      rintro (q | ⟨-, q⟩ | ⟨q, -⟩ | ⟨q, -⟩)
      · rw [hr] at q; cases q
      · exact hv q
      · rw [hr] at q; cases q
      · rw [hr] at q; cases q) rfl]
    exact ⟨False.elim, fun q => absurd q.1 hv⟩
theorem xr_creturn2 {v : Int32} (hd : decode (ax_code m) pc = .ok (.ireturn, 1)) (hr : ax_ret m = some .char) : XX ph d m pc ls [.int v] h R ↔ v.toUInt32.toUInt16.toUInt32.toInt32 = v ∧ R = (some (.int v), h) := by
  by_cases hv : v.toUInt32.toUInt16.toUInt32.toInt32 = v
  · rw [xr_creturn hd hr hv]; exact ⟨fun q => ⟨hv, q⟩, fun q => q.2⟩
  · rw [xx_stuck hd rfl (by
      simp only [ax_retv]
      rw [if_neg]
      rintro (q | ⟨q, -⟩ | ⟨-, q⟩ | ⟨q, -⟩)
      · rw [hr] at q; cases q
      · rw [hr] at q; cases q
      · exact hv q
      · rw [hr] at q; cases q) rfl]
    exact ⟨False.elim, fun q => absurd q.1 hv⟩
theorem xr_breturn2 {v : Int32} (hd : decode (ax_code m) pc = .ok (.ireturn, 1)) (hr : ax_ret m = some .byte) : XX ph d m pc ls [.int v] h R ↔ v.toInt8.toInt32 = v ∧ R = (some (.int v), h) := by
  by_cases hv : v.toInt8.toInt32 = v
  · rw [xr_breturn hd hr hv]; exact ⟨fun q => ⟨hv, q⟩, fun q => q.2⟩
  · rw [xx_stuck hd rfl (by
      simp only [ax_retv]
      rw [if_neg]
      rintro (q | ⟨q, -⟩ | ⟨q, -⟩ | ⟨-, q⟩)
      · rw [hr] at q; cases q
      · rw [hr] at q; cases q
      · rw [hr] at q; cases q
      · exact hv q) rfl]
    exact ⟨False.elim, fun q => absurd q.1 hv⟩
theorem ax_in_lt {i : Int32} {n : Nat} (h : ax_in i n = true) : ix i < n := Nat.not_le.mp fun q => ax_in_inv h (Or.inr q)
theorem ty_str : ∀ k, k < 9 → ∀ h : AH, (ax_ty h (10 + k)).1 = 13
  | 0, _, _ => rfl | 1, _, _ => rfl | 2, _, _ => rfl | 3, _, _ => rfl | 4, _, _ => rfl | 5, _, _ => rfl | 6, _, _ => rfl | 7, _, _ => rfl | 8, _, _ => rfl
  | n + 9, h, _ => absurd h (by omega)
theorem rd_170 : ∀ k, k < 8 → ∀ h : AH, toR (ax_rd true h 170 k) = .ref (10 + k)
  | 0, _, _ => rfl | 1, _, _ => rfl | 2, _, _ => rfl | 3, _, _ => rfl | 4, _, _ => rfl | 5, _, _ => rfl | 6, _, _ => rfl | 7, _, _ => rfl
  | n + 8, h, _ => absurd h (by omega)
theorem aa_170 {i : Int32} (hd : decode (ax_code m) pc = .ok (.aaload, 1)) : XX true d m pc ls (.int i :: .ref 170 :: st) h R ↔ ax_in i 8 = true ∧ XX true d m (pc + 1) ls (.ref (10 + ix i) :: st) h R := by
  by_cases hi : ax_in i 8 = true
  · exact xr_aaload hd (ht := (rfl : ax_ty h 170 = (43, 8))) ⟨Or.inr (by decide), by decide⟩ rfl (rd_170 _ (ax_in_lt hi) h)
  · rw [xx_stuck hd (by simp only [ax_step]; rw [if_neg]; intro z; exact hi z.2.2.1) rfl rfl]; simp [hi]
theorem ty_153 (h : AH) : ax_ty h 153 = (11, 45) := rfl
theorem ty_154 (h : AH) : ax_ty h 154 = (20, 5) := rfl
theorem ty_155 (h : AH) : ax_ty h 155 = (20, 6) := rfl
theorem ty_156 (h : AH) : ax_ty h 156 = (20, 6) := rfl
theorem ty_157 (h : AH) : ax_ty h 157 = (20, 6) := rfl
theorem ty_158 (h : AH) : ax_ty h 158 = (20, 160) := rfl
theorem ty_159 (h : AH) : ax_ty h 159 = (20, 56) := rfl
theorem ty_160 (h : AH) : ax_ty h 160 = (20, 6) := rfl
theorem ty_161 (h : AH) : ax_ty h 161 = (20, 9720) := rfl
theorem ty_162 (h : AH) : ax_ty h 162 = (20, 9720) := rfl
theorem ty_163 (h : AH) : ax_ty h 163 = (20, 12) := rfl
theorem ty_164 (h : AH) : ax_ty h 164 = (20, 9720) := rfl
theorem ty_165 (h : AH) : ax_ty h 165 = (20, 9720) := rfl
theorem ty_166 (h : AH) : ax_ty h 166 = (20, 1620) := rfl
theorem ty_167 (h : AH) : ax_ty h 167 = (20, 9720) := rfl
theorem ty_168 (h : AH) : ax_ty h 168 = (20, 9720) := rfl
theorem ty_169 (h : AH) : ax_ty h 169 = (20, 120) := rfl
theorem ty_170 (h : AH) : ax_ty h 170 = (43, 8) := rfl
theorem ty_171 (h : AH) : ax_ty h 171 = (20, 2) := rfl
theorem ty_172 (h : AH) : ax_ty h 172 = (20, 48) := rfl
theorem ty_173 (h : AH) : ax_ty h 173 = (20, 4) := rfl
theorem ty_174 (h : AH) : ax_ty h 174 = (20, 4) := rfl
theorem ty_175 (h : AH) : ax_ty h 175 = (20, 160) := rfl
theorem ty_176 (h : AH) : ax_ty h 176 = (20, 4) := rfl
theorem ty_177 (h : AH) : ax_ty h 177 = (20, 4) := rfl
theorem ty_178 (h : AH) : ax_ty h 178 = (21, 4) := rfl
theorem ty_179 (h : AH) : ax_ty h 179 = (20, 224) := rfl
theorem ty_180 (h : AH) : ax_ty h 180 = (20, 243) := rfl
theorem gf_11_7_153 (hd : decode (ax_code m) pc = .ok (.getfield 7, 3)) (ho : ax_own m = 11) : XX true d m pc ls (.ref 153 :: st) h R ↔ XX true d m (pc + 3) ls (.int (hI h 153 0) :: st) h R := xr_getfield (q := (11, 0)) (t := 0) hd ho fl_11_7 (by decide) (by decide +kernel) rfl rfl rfl
theorem gf_11_13_153 (hd : decode (ax_code m) pc = .ok (.getfield 13, 3)) (ho : ax_own m = 11) : XX true d m pc ls (.ref 153 :: st) h R ↔ XX true d m (pc + 3) ls (.ref 154 :: st) h R := xr_getfield (q := (11, 1)) (t := 2) hd ho fl_11_13 (by decide) (by decide +kernel) rfl rfl rfl
theorem gf_11_17_153 (hd : decode (ax_code m) pc = .ok (.getfield 17, 3)) (ho : ax_own m = 11) : XX true d m pc ls (.ref 153 :: st) h R ↔ XX true d m (pc + 3) ls (.ref 155 :: st) h R := xr_getfield (q := (11, 3)) (t := 2) hd ho fl_11_17 (by decide) (by decide +kernel) rfl rfl rfl
theorem gf_11_20_153 (hd : decode (ax_code m) pc = .ok (.getfield 20, 3)) (ho : ax_own m = 11) : XX true d m pc ls (.ref 153 :: st) h R ↔ XX true d m (pc + 3) ls (.ref 156 :: st) h R := xr_getfield (q := (11, 4)) (t := 2) hd ho fl_11_20 (by decide) (by decide +kernel) rfl rfl rfl
theorem gf_11_23_153 (hd : decode (ax_code m) pc = .ok (.getfield 23, 3)) (ho : ax_own m = 11) : XX true d m pc ls (.ref 153 :: st) h R ↔ XX true d m (pc + 3) ls (.ref 157 :: st) h R := xr_getfield (q := (11, 5)) (t := 2) hd ho fl_11_23 (by decide) (by decide +kernel) rfl rfl rfl
theorem gf_11_26_153 (hd : decode (ax_code m) pc = .ok (.getfield 26, 3)) (ho : ax_own m = 11) : XX true d m pc ls (.ref 153 :: st) h R ↔ XX true d m (pc + 3) ls (.ref 158 :: st) h R := xr_getfield (q := (11, 7)) (t := 2) hd ho fl_11_26 (by decide) (by decide +kernel) rfl rfl rfl
theorem gf_11_29_153 (hd : decode (ax_code m) pc = .ok (.getfield 29, 3)) (ho : ax_own m = 11) : XX true d m pc ls (.ref 153 :: st) h R ↔ XX true d m (pc + 3) ls (.ref 159 :: st) h R := xr_getfield (q := (11, 9)) (t := 2) hd ho fl_11_29 (by decide) (by decide +kernel) rfl rfl rfl
theorem gf_11_32_153 (hd : decode (ax_code m) pc = .ok (.getfield 32, 3)) (ho : ax_own m = 11) : XX true d m pc ls (.ref 153 :: st) h R ↔ XX true d m (pc + 3) ls (.long (hL h 153 10) :: st) h R := xr_getfield (q := (11, 10)) (t := 1) hd ho fl_11_32 (by decide) (by decide +kernel) rfl rfl rfl
theorem gf_11_36_153 (hd : decode (ax_code m) pc = .ok (.getfield 36, 3)) (ho : ax_own m = 11) : XX true d m pc ls (.ref 153 :: st) h R ↔ XX true d m (pc + 3) ls (.ref 160 :: st) h R := xr_getfield (q := (11, 11)) (t := 2) hd ho fl_11_36 (by decide) (by decide +kernel) rfl rfl rfl
theorem gf_11_39_153 (hd : decode (ax_code m) pc = .ok (.getfield 39, 3)) (ho : ax_own m = 11) : XX true d m pc ls (.ref 153 :: st) h R ↔ XX true d m (pc + 3) ls (.ref 161 :: st) h R := xr_getfield (q := (11, 12)) (t := 2) hd ho fl_11_39 (by decide) (by decide +kernel) rfl rfl rfl
theorem gf_11_42_153 (hd : decode (ax_code m) pc = .ok (.getfield 42, 3)) (ho : ax_own m = 11) : XX true d m pc ls (.ref 153 :: st) h R ↔ XX true d m (pc + 3) ls (.ref 162 :: st) h R := xr_getfield (q := (11, 13)) (t := 2) hd ho fl_11_42 (by decide) (by decide +kernel) rfl rfl rfl
theorem gf_11_45_153 (hd : decode (ax_code m) pc = .ok (.getfield 45, 3)) (ho : ax_own m = 11) : XX true d m pc ls (.ref 153 :: st) h R ↔ XX true d m (pc + 3) ls (.ref 163 :: st) h R := xr_getfield (q := (11, 15)) (t := 2) hd ho fl_11_45 (by decide) (by decide +kernel) rfl rfl rfl
theorem gf_11_48_153 (hd : decode (ax_code m) pc = .ok (.getfield 48, 3)) (ho : ax_own m = 11) : XX true d m pc ls (.ref 153 :: st) h R ↔ XX true d m (pc + 3) ls (.ref 164 :: st) h R := xr_getfield (q := (11, 17)) (t := 2) hd ho fl_11_48 (by decide) (by decide +kernel) rfl rfl rfl
theorem gf_11_51_153 (hd : decode (ax_code m) pc = .ok (.getfield 51, 3)) (ho : ax_own m = 11) : XX true d m pc ls (.ref 153 :: st) h R ↔ XX true d m (pc + 3) ls (.ref 165 :: st) h R := xr_getfield (q := (11, 18)) (t := 2) hd ho fl_11_51 (by decide) (by decide +kernel) rfl rfl rfl
theorem gf_11_54_153 (hd : decode (ax_code m) pc = .ok (.getfield 54, 3)) (ho : ax_own m = 11) : XX true d m pc ls (.ref 153 :: st) h R ↔ XX true d m (pc + 3) ls (.ref 166 :: st) h R := xr_getfield (q := (11, 20)) (t := 2) hd ho fl_11_54 (by decide) (by decide +kernel) rfl rfl rfl
theorem gf_11_57_153 (hd : decode (ax_code m) pc = .ok (.getfield 57, 3)) (ho : ax_own m = 11) : XX true d m pc ls (.ref 153 :: st) h R ↔ XX true d m (pc + 3) ls (.ref 167 :: st) h R := xr_getfield (q := (11, 21)) (t := 2) hd ho fl_11_57 (by decide) (by decide +kernel) rfl rfl rfl
theorem gf_11_60_153 (hd : decode (ax_code m) pc = .ok (.getfield 60, 3)) (ho : ax_own m = 11) : XX true d m pc ls (.ref 153 :: st) h R ↔ XX true d m (pc + 3) ls (.ref 168 :: st) h R := xr_getfield (q := (11, 22)) (t := 2) hd ho fl_11_60 (by decide) (by decide +kernel) rfl rfl rfl
theorem gf_11_63_153 (hd : decode (ax_code m) pc = .ok (.getfield 63, 3)) (ho : ax_own m = 11) : XX true d m pc ls (.ref 153 :: st) h R ↔ XX true d m (pc + 3) ls (.ref 169 :: st) h R := xr_getfield (q := (11, 24)) (t := 2) hd ho fl_11_63 (by decide) (by decide +kernel) rfl rfl rfl
theorem gf_11_84_153 (hd : decode (ax_code m) pc = .ok (.getfield 84, 3)) (ho : ax_own m = 11) : XX true d m pc ls (.ref 153 :: st) h R ↔ XX true d m (pc + 3) ls (.ref 170 :: st) h R := xr_getfield (q := (11, 30)) (t := 2) hd ho fl_11_84 (by decide) (by decide +kernel) rfl rfl rfl
theorem gf_11_88_153 (hd : decode (ax_code m) pc = .ok (.getfield 88, 3)) (ho : ax_own m = 11) : XX true d m pc ls (.ref 153 :: st) h R ↔ XX true d m (pc + 3) ls (.ref 171 :: st) h R := xr_getfield (q := (11, 31)) (t := 2) hd ho fl_11_88 (by decide) (by decide +kernel) rfl rfl rfl
theorem gf_11_91_153 (hd : decode (ax_code m) pc = .ok (.getfield 91, 3)) (ho : ax_own m = 11) : XX true d m pc ls (.ref 153 :: st) h R ↔ XX true d m (pc + 3) ls (.ref 172 :: st) h R := xr_getfield (q := (11, 32)) (t := 2) hd ho fl_11_91 (by decide) (by decide +kernel) rfl rfl rfl
theorem gf_11_94_153 (hd : decode (ax_code m) pc = .ok (.getfield 94, 3)) (ho : ax_own m = 11) : XX true d m pc ls (.ref 153 :: st) h R ↔ XX true d m (pc + 3) ls (.ref 173 :: st) h R := xr_getfield (q := (11, 33)) (t := 2) hd ho fl_11_94 (by decide) (by decide +kernel) rfl rfl rfl
theorem gf_11_97_153 (hd : decode (ax_code m) pc = .ok (.getfield 97, 3)) (ho : ax_own m = 11) : XX true d m pc ls (.ref 153 :: st) h R ↔ XX true d m (pc + 3) ls (.ref 174 :: st) h R := xr_getfield (q := (11, 34)) (t := 2) hd ho fl_11_97 (by decide) (by decide +kernel) rfl rfl rfl
theorem gf_11_100_153 (hd : decode (ax_code m) pc = .ok (.getfield 100, 3)) (ho : ax_own m = 11) : XX true d m pc ls (.ref 153 :: st) h R ↔ XX true d m (pc + 3) ls (.ref 175 :: st) h R := xr_getfield (q := (11, 35)) (t := 2) hd ho fl_11_100 (by decide) (by decide +kernel) rfl rfl rfl
theorem gf_11_103_153 (hd : decode (ax_code m) pc = .ok (.getfield 103, 3)) (ho : ax_own m = 11) : XX true d m pc ls (.ref 153 :: st) h R ↔ XX true d m (pc + 3) ls (.ref 176 :: st) h R := xr_getfield (q := (11, 36)) (t := 2) hd ho fl_11_103 (by decide) (by decide +kernel) rfl rfl rfl
theorem gf_11_106_153 (hd : decode (ax_code m) pc = .ok (.getfield 106, 3)) (ho : ax_own m = 11) : XX true d m pc ls (.ref 153 :: st) h R ↔ XX true d m (pc + 3) ls (.ref 177 :: st) h R := xr_getfield (q := (11, 37)) (t := 2) hd ho fl_11_106 (by decide) (by decide +kernel) rfl rfl rfl
theorem gf_11_109_153 (hd : decode (ax_code m) pc = .ok (.getfield 109, 3)) (ho : ax_own m = 11) : XX true d m pc ls (.ref 153 :: st) h R ↔ XX true d m (pc + 3) ls (.ref 178 :: st) h R := xr_getfield (q := (11, 38)) (t := 2) hd ho fl_11_109 (by decide) (by decide +kernel) rfl rfl rfl
theorem gf_11_113_153 (hd : decode (ax_code m) pc = .ok (.getfield 113, 3)) (ho : ax_own m = 11) : XX true d m pc ls (.ref 153 :: st) h R ↔ XX true d m (pc + 3) ls (.ref 179 :: st) h R := xr_getfield (q := (11, 39)) (t := 2) hd ho fl_11_113 (by decide) (by decide +kernel) rfl rfl rfl
theorem gf_11_116_153 (hd : decode (ax_code m) pc = .ok (.getfield 116, 3)) (ho : ax_own m = 11) : XX true d m pc ls (.ref 153 :: st) h R ↔ XX true d m (pc + 3) ls (.ref 180 :: st) h R := xr_getfield (q := (11, 41)) (t := 2) hd ho fl_11_116 (by decide) (by decide +kernel) rfl rfl rfl
theorem gf_11_127_153 (hd : decode (ax_code m) pc = .ok (.getfield 127, 3)) (ho : ax_own m = 11) : XX true d m pc ls (.ref 153 :: st) h R ↔ XX true d m (pc + 3) ls (.int (hI h 153 2) :: st) h R := xr_getfield (q := (11, 2)) (t := 0) hd ho fl_11_127 (by decide) (by decide +kernel) rfl rfl rfl
theorem gf_11_136_153 (hd : decode (ax_code m) pc = .ok (.getfield 136, 3)) (ho : ax_own m = 11) : XX true d m pc ls (.ref 153 :: st) h R ↔ XX true d m (pc + 3) ls (.int (hI h 153 6) :: st) h R := xr_getfield (q := (11, 6)) (t := 0) hd ho fl_11_136 (by decide) (by decide +kernel) rfl rfl rfl
theorem gf_11_139_153 (hd : decode (ax_code m) pc = .ok (.getfield 139, 3)) (ho : ax_own m = 11) : XX true d m pc ls (.ref 153 :: st) h R ↔ XX true d m (pc + 3) ls (.int (hI h 153 8) :: st) h R := xr_getfield (q := (11, 8)) (t := 0) hd ho fl_11_139 (by decide) (by decide +kernel) rfl rfl rfl
theorem gf_11_232_153 (hd : decode (ax_code m) pc = .ok (.getfield 232, 3)) (ho : ax_own m = 11) : XX true d m pc ls (.ref 153 :: st) h R ↔ XX true d m (pc + 3) ls (.int (hI h 153 14) :: st) h R := xr_getfield (q := (11, 14)) (t := 0) hd ho fl_11_232 (by decide) (by decide +kernel) rfl rfl rfl
theorem gf_11_249_153 (hd : decode (ax_code m) pc = .ok (.getfield 249, 3)) (ho : ax_own m = 11) : XX true d m pc ls (.ref 153 :: st) h R ↔ XX true d m (pc + 3) ls (.int (hI h 153 16) :: st) h R := xr_getfield (q := (11, 16)) (t := 0) hd ho fl_11_249 (by decide) (by decide +kernel) rfl rfl rfl
theorem gf_11_286_153 (hd : decode (ax_code m) pc = .ok (.getfield 286, 3)) (ho : ax_own m = 11) : XX true d m pc ls (.ref 153 :: st) h R ↔ XX true d m (pc + 3) ls (.int (hI h 153 23) :: st) h R := xr_getfield (q := (11, 23)) (t := 0) hd ho fl_11_286 (by decide) (by decide +kernel) rfl rfl rfl
theorem gf_11_298_153 (hd : decode (ax_code m) pc = .ok (.getfield 298, 3)) (ho : ax_own m = 11) : XX true d m pc ls (.ref 153 :: st) h R ↔ XX true d m (pc + 3) ls (.long (hL h 153 19) :: st) h R := xr_getfield (q := (11, 19)) (t := 1) hd ho fl_11_298 (by decide) (by decide +kernel) rfl rfl rfl
theorem gf_11_313_153 (hd : decode (ax_code m) pc = .ok (.getfield 313, 3)) (ho : ax_own m = 11) : XX true d m pc ls (.ref 153 :: st) h R ↔ XX true d m (pc + 3) ls (.int (hI h 153 25) :: st) h R := xr_getfield (q := (11, 25)) (t := 0) hd ho fl_11_313 (by decide) (by decide +kernel) rfl rfl rfl
theorem gf_11_316_153 (hd : decode (ax_code m) pc = .ok (.getfield 316, 3)) (ho : ax_own m = 11) : XX true d m pc ls (.ref 153 :: st) h R ↔ XX true d m (pc + 3) ls (.int (hI h 153 26) :: st) h R := xr_getfield (q := (11, 26)) (t := 0) hd ho fl_11_316 (by decide) (by decide +kernel) rfl rfl rfl
theorem gf_11_319_153 (hd : decode (ax_code m) pc = .ok (.getfield 319, 3)) (ho : ax_own m = 11) : XX true d m pc ls (.ref 153 :: st) h R ↔ XX true d m (pc + 3) ls (.int (hI h 153 28) :: st) h R := xr_getfield (q := (11, 28)) (t := 0) hd ho fl_11_319 (by decide) (by decide +kernel) rfl rfl rfl
theorem gf_11_322_153 (hd : decode (ax_code m) pc = .ok (.getfield 322, 3)) (ho : ax_own m = 11) : XX true d m pc ls (.ref 153 :: st) h R ↔ XX true d m (pc + 3) ls (.int (hI h 153 27) :: st) h R := xr_getfield (q := (11, 27)) (t := 0) hd ho fl_11_322 (by decide) (by decide +kernel) rfl rfl rfl
theorem gf_11_346_153 (hd : decode (ax_code m) pc = .ok (.getfield 346, 3)) (ho : ax_own m = 11) : XX true d m pc ls (.ref 153 :: st) h R ↔ XX true d m (pc + 3) ls (.int (hI h 153 29) :: st) h R := xr_getfield (q := (11, 29)) (t := 0) hd ho fl_11_346 (by decide) (by decide +kernel) rfl rfl rfl
theorem gf_11_384_153 (hd : decode (ax_code m) pc = .ok (.getfield 384, 3)) (ho : ax_own m = 11) : XX true d m pc ls (.ref 153 :: st) h R ↔ XX true d m (pc + 3) ls (.int (hI h 153 44) :: st) h R := xr_getfield (q := (11, 44)) (t := 3) hd ho fl_11_384 (by decide) (by decide +kernel) rfl rfl rfl
theorem gf_11_388_153 (hd : decode (ax_code m) pc = .ok (.getfield 388, 3)) (ho : ax_own m = 11) : XX true d m pc ls (.ref 153 :: st) h R ↔ XX true d m (pc + 3) ls (.int (hI h 153 43) :: st) h R := xr_getfield (q := (11, 43)) (t := 0) hd ho fl_11_388 (by decide) (by decide +kernel) rfl rfl rfl
theorem gf_11_398_153 (hd : decode (ax_code m) pc = .ok (.getfield 398, 3)) (ho : ax_own m = 11) : XX true d m pc ls (.ref 153 :: st) h R ↔ XX true d m (pc + 3) ls (.int (hI h 153 40) :: st) h R := xr_getfield (q := (11, 40)) (t := 3) hd ho fl_11_398 (by decide) (by decide +kernel) rfl rfl rfl
theorem gf_11_405_153 (hd : decode (ax_code m) pc = .ok (.getfield 405, 3)) (ho : ax_own m = 11) : XX true d m pc ls (.ref 153 :: st) h R ↔ XX true d m (pc + 3) ls (.long (hL h 153 42) :: st) h R := xr_getfield (q := (11, 42)) (t := 1) hd ho fl_11_405 (by decide) (by decide +kernel) rfl rfl rfl
theorem pf_11_7_153 {v : Int32} (hd : decode (ax_code m) pc = .ok (.putfield 7, 3)) (ho : ax_own m = 11) : XX true d m pc ls (.int v :: .ref 153 :: st) h R ↔ XX true d m (pc + 3) ls st (ax_wr h 153 0 (.int v)) R := xr_putfield (q := (11, 0)) hd ho fl_11_7 rfl (by decide) rfl rfl (fun q => absurd q (by decide +kernel)) rfl (fun q => absurd q (by decide +kernel))
theorem pf_11_32_153 {v : Int64} (hd : decode (ax_code m) pc = .ok (.putfield 32, 3)) (ho : ax_own m = 11) : XX true d m pc ls (.long v :: .ref 153 :: st) h R ↔ XX true d m (pc + 3) ls st (ax_wr h 153 10 (.long v)) R := xr_putfield (q := (11, 10)) hd ho fl_11_32 rfl (by decide) rfl rfl (fun q => absurd q (by decide +kernel)) rfl (fun q => absurd q (by decide +kernel))
theorem pf_11_127_153 {v : Int32} (hd : decode (ax_code m) pc = .ok (.putfield 127, 3)) (ho : ax_own m = 11) : XX true d m pc ls (.int v :: .ref 153 :: st) h R ↔ XX true d m (pc + 3) ls st (ax_wr h 153 2 (.int v)) R := xr_putfield (q := (11, 2)) hd ho fl_11_127 rfl (by decide) rfl rfl (fun q => absurd q (by decide +kernel)) rfl (fun q => absurd q (by decide +kernel))
theorem pf_11_136_153 {v : Int32} (hd : decode (ax_code m) pc = .ok (.putfield 136, 3)) (ho : ax_own m = 11) : XX true d m pc ls (.int v :: .ref 153 :: st) h R ↔ XX true d m (pc + 3) ls st (ax_wr h 153 6 (.int v)) R := xr_putfield (q := (11, 6)) hd ho fl_11_136 rfl (by decide) rfl rfl (fun q => absurd q (by decide +kernel)) rfl (fun q => absurd q (by decide +kernel))
theorem pf_11_139_153 {v : Int32} (hd : decode (ax_code m) pc = .ok (.putfield 139, 3)) (ho : ax_own m = 11) : XX true d m pc ls (.int v :: .ref 153 :: st) h R ↔ XX true d m (pc + 3) ls st (ax_wr h 153 8 (.int v)) R := xr_putfield (q := (11, 8)) hd ho fl_11_139 rfl (by decide) rfl rfl (fun q => absurd q (by decide +kernel)) rfl (fun q => absurd q (by decide +kernel))
theorem pf_11_232_153 {v : Int32} (hd : decode (ax_code m) pc = .ok (.putfield 232, 3)) (ho : ax_own m = 11) : XX true d m pc ls (.int v :: .ref 153 :: st) h R ↔ XX true d m (pc + 3) ls st (ax_wr h 153 14 (.int v)) R := xr_putfield (q := (11, 14)) hd ho fl_11_232 rfl (by decide) rfl rfl (fun q => absurd q (by decide +kernel)) rfl (fun q => absurd q (by decide +kernel))
theorem pf_11_249_153 {v : Int32} (hd : decode (ax_code m) pc = .ok (.putfield 249, 3)) (ho : ax_own m = 11) : XX true d m pc ls (.int v :: .ref 153 :: st) h R ↔ XX true d m (pc + 3) ls st (ax_wr h 153 16 (.int v)) R := xr_putfield (q := (11, 16)) hd ho fl_11_249 rfl (by decide) rfl rfl (fun q => absurd q (by decide +kernel)) rfl (fun q => absurd q (by decide +kernel))
theorem pf_11_286_153 {v : Int32} (hd : decode (ax_code m) pc = .ok (.putfield 286, 3)) (ho : ax_own m = 11) : XX true d m pc ls (.int v :: .ref 153 :: st) h R ↔ XX true d m (pc + 3) ls st (ax_wr h 153 23 (.int v)) R := xr_putfield (q := (11, 23)) hd ho fl_11_286 rfl (by decide) rfl rfl (fun q => absurd q (by decide +kernel)) rfl (fun q => absurd q (by decide +kernel))
theorem pf_11_298_153 {v : Int64} (hd : decode (ax_code m) pc = .ok (.putfield 298, 3)) (ho : ax_own m = 11) : XX true d m pc ls (.long v :: .ref 153 :: st) h R ↔ XX true d m (pc + 3) ls st (ax_wr h 153 19 (.long v)) R := xr_putfield (q := (11, 19)) hd ho fl_11_298 rfl (by decide) rfl rfl (fun q => absurd q (by decide +kernel)) rfl (fun q => absurd q (by decide +kernel))
theorem pf_11_313_153 {v : Int32} (hd : decode (ax_code m) pc = .ok (.putfield 313, 3)) (ho : ax_own m = 11) : XX true d m pc ls (.int v :: .ref 153 :: st) h R ↔ XX true d m (pc + 3) ls st (ax_wr h 153 25 (.int v)) R := xr_putfield (q := (11, 25)) hd ho fl_11_313 rfl (by decide) rfl rfl (fun q => absurd q (by decide +kernel)) rfl (fun q => absurd q (by decide +kernel))
theorem pf_11_316_153 {v : Int32} (hd : decode (ax_code m) pc = .ok (.putfield 316, 3)) (ho : ax_own m = 11) : XX true d m pc ls (.int v :: .ref 153 :: st) h R ↔ XX true d m (pc + 3) ls st (ax_wr h 153 26 (.int v)) R := xr_putfield (q := (11, 26)) hd ho fl_11_316 rfl (by decide) rfl rfl (fun q => absurd q (by decide +kernel)) rfl (fun q => absurd q (by decide +kernel))
theorem pf_11_319_153 {v : Int32} (hd : decode (ax_code m) pc = .ok (.putfield 319, 3)) (ho : ax_own m = 11) : XX true d m pc ls (.int v :: .ref 153 :: st) h R ↔ XX true d m (pc + 3) ls st (ax_wr h 153 28 (.int v)) R := xr_putfield (q := (11, 28)) hd ho fl_11_319 rfl (by decide) rfl rfl (fun q => absurd q (by decide +kernel)) rfl (fun q => absurd q (by decide +kernel))
theorem pf_11_322_153 {v : Int32} (hd : decode (ax_code m) pc = .ok (.putfield 322, 3)) (ho : ax_own m = 11) : XX true d m pc ls (.int v :: .ref 153 :: st) h R ↔ XX true d m (pc + 3) ls st (ax_wr h 153 27 (.int v)) R := xr_putfield (q := (11, 27)) hd ho fl_11_322 rfl (by decide) rfl rfl (fun q => absurd q (by decide +kernel)) rfl (fun q => absurd q (by decide +kernel))
theorem pf_11_346_153 {v : Int32} (hd : decode (ax_code m) pc = .ok (.putfield 346, 3)) (ho : ax_own m = 11) : XX true d m pc ls (.int v :: .ref 153 :: st) h R ↔ XX true d m (pc + 3) ls st (ax_wr h 153 29 (.int v)) R := xr_putfield (q := (11, 29)) hd ho fl_11_346 rfl (by decide) rfl rfl (fun q => absurd q (by decide +kernel)) rfl (fun q => absurd q (by decide +kernel))
theorem pf_11_384_153 {v : Int32} (hd : decode (ax_code m) pc = .ok (.putfield 384, 3)) (ho : ax_own m = 11) (hv : v = 0 ∨ v = 1) : XX true d m pc ls (.int v :: .ref 153 :: st) h R ↔ XX true d m (pc + 3) ls st (ax_wr h 153 44 (.int v)) R := xr_putfield (q := (11, 44)) hd ho fl_11_384 rfl (by decide) rfl rfl (fun q => absurd q (by decide +kernel)) rfl (fun _ => hv)
theorem pf_11_388_153 {v : Int32} (hd : decode (ax_code m) pc = .ok (.putfield 388, 3)) (ho : ax_own m = 11) : XX true d m pc ls (.int v :: .ref 153 :: st) h R ↔ XX true d m (pc + 3) ls st (ax_wr h 153 43 (.int v)) R := xr_putfield (q := (11, 43)) hd ho fl_11_388 rfl (by decide) rfl rfl (fun q => absurd q (by decide +kernel)) rfl (fun q => absurd q (by decide +kernel))
theorem pf_11_398_153 {v : Int32} (hd : decode (ax_code m) pc = .ok (.putfield 398, 3)) (ho : ax_own m = 11) (hv : v = 0 ∨ v = 1) : XX true d m pc ls (.int v :: .ref 153 :: st) h R ↔ XX true d m (pc + 3) ls st (ax_wr h 153 40 (.int v)) R := xr_putfield (q := (11, 40)) hd ho fl_11_398 rfl (by decide) rfl rfl (fun q => absurd q (by decide +kernel)) rfl (fun _ => hv)
theorem pf_11_405_153 {v : Int64} (hd : decode (ax_code m) pc = .ok (.putfield 405, 3)) (ho : ax_own m = 11) : XX true d m pc ls (.long v :: .ref 153 :: st) h R ↔ XX true d m (pc + 3) ls st (ax_wr h 153 42 (.long v)) R := xr_putfield (q := (11, 42)) hd ho fl_11_405 rfl (by decide) rfl rfl (fun q => absurd q (by decide +kernel)) rfl (fun q => absurd q (by decide +kernel))
end R18
