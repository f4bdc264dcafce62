theorem dX8_against_120 : decode cX8_against 120 = .ok (.iload 5, 2) := DdX8_against_111.2.2.2.2.1
theorem dX8_against_122 : decode cX8_against 122 = .ok (.aload_n 0, 1) := DdX8_against_111.2.2.2.2.2.1
theorem dX8_against_123 : decode cX8_against 123 = .ok (.getfield 88, 3) := DdX8_against_111.2.2.2.2.2.2.1
theorem dX8_against_126 : decode cX8_against 126 = .ok (.iload 5, 2) := DdX8_against_111.2.2.2.2.2.2.2.1
theorem dX8_against_128 : decode cX8_against 128 = .ok (.iaload, 1) := DdX8_against_111.2.2.2.2.2.2.2.2.1
theorem dX8_against_129 : decode cX8_against 129 = .ok (.iastore, 1) := DdX8_against_111.2.2.2.2.2.2.2.2.2.1
theorem dX8_against_130 : decode cX8_against 130 = .ok (.aload_n 0, 1) := DdX8_against_111.2.2.2.2.2.2.2.2.2.2.1
theorem dX8_against_131 : decode cX8_against 131 = .ok (.getfield 38, 3) := DdX8_against_111.2.2.2.2.2.2.2.2.2.2.2.1
theorem dX8_against_134 : decode cX8_against 134 = .ok (.iconst 4, 1) := DdX8_against_111.2.2.2.2.2.2.2.2.2.2.2.2.1
theorem dX8_against_135 : decode cX8_against 135 = .ok (.iaload, 1) := DdX8_against_111.2.2.2.2.2.2.2.2.2.2.2.2.2.1
theorem dX8_against_136 : decode cX8_against 136 = .ok (.iconst 1, 1) := DdX8_against_111.2.2.2.2.2.2.2.2.2.2.2.2.2.2.1
theorem dX8_against_137 : decode cX8_against 137 = .ok (.if_icmp .ne 13, 3) := DdX8_against_111.2.2.2.2.2.2.2.2.2.2.2.2.2.2.2
theorem DdX8_against_140 : (decode cX8_against 140 = .ok (.iload_n 2, 1)) ∧ (decode cX8_against 141 = .ok (.aload_n 0, 1)) ∧ (decode cX8_against 142 = .ok (.getfield 38, 3)) ∧ (decode cX8_against 145 = .ok (.iconst 0, 1)) ∧ (decode cX8_against 146 = .ok (.iaload, 1)) ∧ (decode cX8_against 147 = .ok (.if_icmp .eq 18, 3)) ∧ (decode cX8_against 150 = .ok (.aload_n 0, 1)) ∧ (decode cX8_against 151 = .ok (.iload_n 3, 1)) ∧ (decode cX8_against 152 = .ok (.iload 4, 2)) ∧ (decode cX8_against 154 = .ok (.iload_n 2, 1)) ∧ (decode cX8_against 155 = .ok (.invokevirtual 185, 3)) ∧ (decode cX8_against 158 = .ok (.ifCond .eq 7, 3)) ∧ (decode cX8_against 161 = .ok (.iconst 1, 1)) ∧ (decode cX8_against 162 = .ok (.goto 4, 3)) ∧ (decode cX8_against 165 = .ok (.iconst 0, 1)) ∧ (decode cX8_against 166 = .ok (.istore 6, 2)) := by decide +kernel
theorem dX8_against_140 : decode cX8_against 140 = .ok (.iload_n 2, 1) := DdX8_against_140.1
theorem dX8_against_141 : decode cX8_against 141 = .ok (.aload_n 0, 1) := DdX8_against_140.2.1
theorem dX8_against_142 : decode cX8_against 142 = .ok (.getfield 38, 3) := DdX8_against_140.2.2.1
theorem dX8_against_145 : decode cX8_against 145 = .ok (.iconst 0, 1) := DdX8_against_140.2.2.2.1
theorem dX8_against_146 : decode cX8_against 146 = .ok (.iaload, 1) := DdX8_against_140.2.2.2.2.1
theorem dX8_against_147 : decode cX8_against 147 = .ok (.if_icmp .eq 18, 3) := DdX8_against_140.2.2.2.2.2.1
theorem dX8_against_150 : decode cX8_against 150 = .ok (.aload_n 0, 1) := DdX8_against_140.2.2.2.2.2.2.1
theorem dX8_against_151 : decode cX8_against 151 = .ok (.iload_n 3, 1) := DdX8_against_140.2.2.2.2.2.2.2.1
theorem dX8_against_152 : decode cX8_against 152 = .ok (.iload 4, 2) := DdX8_against_140.2.2.2.2.2.2.2.2.1
theorem dX8_against_154 : decode cX8_against 154 = .ok (.iload_n 2, 1) := DdX8_against_140.2.2.2.2.2.2.2.2.2.1
theorem dX8_against_155 : decode cX8_against 155 = .ok (.invokevirtual 185, 3) := DdX8_against_140.2.2.2.2.2.2.2.2.2.2.1
theorem dX8_against_158 : decode cX8_against 158 = .ok (.ifCond .eq 7, 3) := DdX8_against_140.2.2.2.2.2.2.2.2.2.2.2.1
theorem dX8_against_161 : decode cX8_against 161 = .ok (.iconst 1, 1) := DdX8_against_140.2.2.2.2.2.2.2.2.2.2.2.2.1
theorem dX8_against_162 : decode cX8_against 162 = .ok (.goto 4, 3) := DdX8_against_140.2.2.2.2.2.2.2.2.2.2.2.2.2.1
theorem dX8_against_165 : decode cX8_against 165 = .ok (.iconst 0, 1) := DdX8_against_140.2.2.2.2.2.2.2.2.2.2.2.2.2.2.1
theorem dX8_against_166 : decode cX8_against 166 = .ok (.istore 6, 2) := DdX8_against_140.2.2.2.2.2.2.2.2.2.2.2.2.2.2.2
theorem DdX8_against_168 : (decode cX8_against 168 = .ok (.aload_n 0, 1)) ∧ (decode cX8_against 169 = .ok (.iload_n 3, 1)) ∧ (decode cX8_against 170 = .ok (.iload_n 2, 1)) ∧ (decode cX8_against 171 = .ok (.invokevirtual 182, 3)) ∧ (decode cX8_against 174 = .ok (.ifCond .eq 7, 3)) ∧ (decode cX8_against 177 = .ok (.iconst 0, 1)) ∧ (decode cX8_against 178 = .ok (.goto 4, 3)) ∧ (decode cX8_against 181 = .ok (.iconst 1, 1)) ∧ (decode cX8_against 182 = .ok (.iload_n 3, 1)) ∧ (decode cX8_against 183 = .ok (.iconst 1, 1)) ∧ (decode cX8_against 184 = .ok (.iadd, 1)) ∧ (decode cX8_against 185 = .ok (.aload_n 0, 1)) ∧ (decode cX8_against 186 = .ok (.getfield 179, 3)) ∧ (decode cX8_against 189 = .ok (.if_icmp .eq 8, 3)) ∧ (decode cX8_against 192 = .ok (.iload 6, 2)) ∧ (decode cX8_against 194 = .ok (.ifCond .ne 7, 3)) := by decide +kernel
theorem dX8_against_168 : decode cX8_against 168 = .ok (.aload_n 0, 1) := DdX8_against_168.1
theorem dX8_against_169 : decode cX8_against 169 = .ok (.iload_n 3, 1) := DdX8_against_168.2.1
theorem dX8_against_170 : decode cX8_against 170 = .ok (.iload_n 2, 1) := DdX8_against_168.2.2.1
theorem dX8_against_171 : decode cX8_against 171 = .ok (.invokevirtual 182, 3) := DdX8_against_168.2.2.2.1
theorem dX8_against_174 : decode cX8_against 174 = .ok (.ifCond .eq 7, 3) := DdX8_against_168.2.2.2.2.1
theorem dX8_against_177 : decode cX8_against 177 = .ok (.iconst 0, 1) := DdX8_against_168.2.2.2.2.2.1
theorem dX8_against_178 : decode cX8_against 178 = .ok (.goto 4, 3) := DdX8_against_168.2.2.2.2.2.2.1
theorem dX8_against_181 : decode cX8_against 181 = .ok (.iconst 1, 1) := DdX8_against_168.2.2.2.2.2.2.2.1
theorem dX8_against_182 : decode cX8_against 182 = .ok (.iload_n 3, 1) := DdX8_against_168.2.2.2.2.2.2.2.2.1
theorem dX8_against_183 : decode cX8_against 183 = .ok (.iconst 1, 1) := DdX8_against_168.2.2.2.2.2.2.2.2.2.1
theorem dX8_against_184 : decode cX8_against 184 = .ok (.iadd, 1) := DdX8_against_168.2.2.2.2.2.2.2.2.2.2.1
theorem dX8_against_185 : decode cX8_against 185 = .ok (.aload_n 0, 1) := DdX8_against_168.2.2.2.2.2.2.2.2.2.2.2.1
theorem dX8_against_186 : decode cX8_against 186 = .ok (.getfield 179, 3) := DdX8_against_168.2.2.2.2.2.2.2.2.2.2.2.2.1
theorem dX8_against_189 : decode cX8_against 189 = .ok (.if_icmp .eq 8, 3) := DdX8_against_168.2.2.2.2.2.2.2.2.2.2.2.2.2.1
theorem dX8_against_192 : decode cX8_against 192 = .ok (.iload 6, 2) := DdX8_against_168.2.2.2.2.2.2.2.2.2.2.2.2.2.2.1
theorem dX8_against_194 : decode cX8_against 194 = .ok (.ifCond .ne 7, 3) := DdX8_against_168.2.2.2.2.2.2.2.2.2.2.2.2.2.2.2
theorem DdX8_against_197 : (decode cX8_against 197 = .ok (.iconst 0, 1)) ∧ (decode cX8_against 198 = .ok (.goto 17, 3)) ∧ (decode cX8_against 201 = .ok (.aload_n 0, 1)) ∧ (decode cX8_against 202 = .ok (.getfield 85, 3)) ∧ (decode cX8_against 205 = .ok (.iload_n 3, 1)) ∧ (decode cX8_against 206 = .ok (.iconst 1, 1)) ∧ (decode cX8_against 207 = .ok (.iadd, 1)) ∧ (decode cX8_against 208 = .ok (.iload_n 2, 1)) ∧ (decode cX8_against 209 = .ok (.iconst 0, 1)) ∧ (decode cX8_against 210 = .ok (.iconst 0, 1)) ∧ (decode cX8_against 211 = .ok (.invokestatic 247, 3)) ∧ (decode cX8_against 214 = .ok (.iaload, 1)) ∧ (decode cX8_against 215 = .ok (.iadd, 1)) ∧ (decode cX8_against 216 = .ok (.istore 7, 2)) ∧ (decode cX8_against 218 = .ok (.aload_n 0, 1)) ∧ (decode cX8_against 219 = .ok (.getfield 85, 3)) := by decide +kernel
theorem dX8_against_197 : decode cX8_against 197 = .ok (.iconst 0, 1) := DdX8_against_197.1
theorem dX8_against_198 : decode cX8_against 198 = .ok (.goto 17, 3) := DdX8_against_197.2.1
theorem dX8_against_201 : decode cX8_against 201 = .ok (.aload_n 0, 1) := DdX8_against_197.2.2.1
theorem dX8_against_202 : decode cX8_against 202 = .ok (.getfield 85, 3) := DdX8_against_197.2.2.2.1
theorem dX8_against_205 : decode cX8_against 205 = .ok (.iload_n 3, 1) := DdX8_against_197.2.2.2.2.1
theorem dX8_against_206 : decode cX8_against 206 = .ok (.iconst 1, 1) := DdX8_against_197.2.2.2.2.2.1
theorem dX8_against_207 : decode cX8_against 207 = .ok (.iadd, 1) := DdX8_against_197.2.2.2.2.2.2.1
theorem dX8_against_208 : decode cX8_against 208 = .ok (.iload_n 2, 1) := DdX8_against_197.2.2.2.2.2.2.2.1
theorem dX8_against_209 : decode cX8_against 209 = .ok (.iconst 0, 1) := DdX8_against_197.2.2.2.2.2.2.2.2.1
theorem dX8_against_210 : decode cX8_against 210 = .ok (.iconst 0, 1) := DdX8_against_197.2.2.2.2.2.2.2.2.2.1
theorem dX8_against_211 : decode cX8_against 211 = .ok (.invokestatic 247, 3) := DdX8_against_197.2.2.2.2.2.2.2.2.2.2.1
theorem dX8_against_214 : decode cX8_against 214 = .ok (.iaload, 1) := DdX8_against_197.2.2.2.2.2.2.2.2.2.2.2.1
theorem dX8_against_215 : decode cX8_against 215 = .ok (.iadd, 1) := DdX8_against_197.2.2.2.2.2.2.2.2.2.2.2.2.1
theorem dX8_against_216 : decode cX8_against 216 = .ok (.istore 7, 2) := DdX8_against_197.2.2.2.2.2.2.2.2.2.2.2.2.2.1
theorem dX8_against_218 : decode cX8_against 218 = .ok (.aload_n 0, 1) := DdX8_against_197.2.2.2.2.2.2.2.2.2.2.2.2.2.2.1
theorem dX8_against_219 : decode cX8_against 219 = .ok (.getfield 85, 3) := DdX8_against_197.2.2.2.2.2.2.2.2.2.2.2.2.2.2.2
theorem DdX8_against_222 : (decode cX8_against 222 = .ok (.iload 5, 2)) ∧ (decode cX8_against 224 = .ok (.iload 6, 2)) ∧ (decode cX8_against 226 = .ok (.ifCond .eq 20, 3)) ∧ (decode cX8_against 229 = .ok (.iload 7, 2)) ∧ (decode cX8_against 231 = .ok (.aload_n 0, 1)) ∧ (decode cX8_against 232 = .ok (.getfield 85, 3)) ∧ (decode cX8_against 235 = .ok (.iload 5, 2)) ∧ (decode cX8_against 237 = .ok (.iaload, 1)) ∧ (decode cX8_against 238 = .ok (.if_icmp .ge 8, 3)) ∧ (decode cX8_against 241 = .ok (.iload 7, 2)) ∧ (decode cX8_against 243 = .ok (.goto 10, 3)) ∧ (decode cX8_against 246 = .ok (.aload_n 0, 1)) ∧ (decode cX8_against 247 = .ok (.getfield 85, 3)) ∧ (decode cX8_against 250 = .ok (.iload 5, 2)) ∧ (decode cX8_against 252 = .ok (.iaload, 1)) ∧ (decode cX8_against 253 = .ok (.iastore, 1)) := by decide +kernel
theorem dX8_against_222 : decode cX8_against 222 = .ok (.iload 5, 2) := DdX8_against_222.1
theorem dX8_against_224 : decode cX8_against 224 = .ok (.iload 6, 2) := DdX8_against_222.2.1
theorem dX8_against_226 : decode cX8_against 226 = .ok (.ifCond .eq 20, 3) := DdX8_against_222.2.2.1
theorem dX8_against_229 : decode cX8_against 229 = .ok (.iload 7, 2) := DdX8_against_222.2.2.2.1
theorem dX8_against_231 : decode cX8_against 231 = .ok (.aload_n 0, 1) := DdX8_against_222.2.2.2.2.1
theorem dX8_against_232 : decode cX8_against 232 = .ok (.getfield 85, 3) := DdX8_against_222.2.2.2.2.2.1
theorem dX8_against_235 : decode cX8_against 235 = .ok (.iload 5, 2) := DdX8_against_222.2.2.2.2.2.2.1
theorem dX8_against_237 : decode cX8_against 237 = .ok (.iaload, 1) := DdX8_against_222.2.2.2.2.2.2.2.1
theorem dX8_against_238 : decode cX8_against 238 = .ok (.if_icmp .ge 8, 3) := DdX8_against_222.2.2.2.2.2.2.2.2.1
theorem dX8_against_241 : decode cX8_against 241 = .ok (.iload 7, 2) := DdX8_against_222.2.2.2.2.2.2.2.2.2.1
theorem dX8_against_243 : decode cX8_against 243 = .ok (.goto 10, 3) := DdX8_against_222.2.2.2.2.2.2.2.2.2.2.1
theorem dX8_against_246 : decode cX8_against 246 = .ok (.aload_n 0, 1) := DdX8_against_222.2.2.2.2.2.2.2.2.2.2.2.1
theorem dX8_against_247 : decode cX8_against 247 = .ok (.getfield 85, 3) := DdX8_against_222.2.2.2.2.2.2.2.2.2.2.2.2.1
theorem dX8_against_250 : decode cX8_against 250 = .ok (.iload 5, 2) := DdX8_against_222.2.2.2.2.2.2.2.2.2.2.2.2.2.1
theorem dX8_against_252 : decode cX8_against 252 = .ok (.iaload, 1) := DdX8_against_222.2.2.2.2.2.2.2.2.2.2.2.2.2.2.1
theorem dX8_against_253 : decode cX8_against 253 = .ok (.iastore, 1) := DdX8_against_222.2.2.2.2.2.2.2.2.2.2.2.2.2.2.2
theorem DdX8_against_254 : (decode cX8_against 254 = .ok (.iinc 4 1, 3)) ∧ (decode cX8_against 257 = .ok (.goto (-176), 3)) ∧ (decode cX8_against 260 = .ok (.iinc 3 (-1), 3)) ∧ (decode cX8_against 263 = .ok (.goto (-189), 3)) ∧ (decode cX8_against 266 = .ok (.aload_n 0, 1)) ∧ (decode cX8_against 267 = .ok (.iload_n 2, 1)) ∧ (decode cX8_against 268 = .ok (.iconst 0, 1)) ∧ (decode cX8_against 269 = .ok (.iconst 0, 1)) ∧ (decode cX8_against 270 = .ok (.invokevirtual 255, 3)) ∧ (decode cX8_against 273 = .ok (.aload_n 0, 1)) ∧ (decode cX8_against 274 = .ok (.invokevirtual 259, 3)) ∧ (decode cX8_against 277 = .ok (.iinc 2 (-1), 3)) ∧ (decode cX8_against 280 = .ok (.goto (-223), 3)) ∧ (decode cX8_against 283 = .ok (.aload_n 0, 1)) ∧ (decode cX8_against 284 = .ok (.iload_n 1, 1)) ∧ (decode cX8_against 285 = .ok (.iconst 0, 1)) := by decide +kernel
theorem dX8_against_254 : decode cX8_against 254 = .ok (.iinc 4 1, 3) := DdX8_against_254.1
theorem dX8_against_257 : decode cX8_against 257 = .ok (.goto (-176), 3) := DdX8_against_254.2.1
theorem dX8_against_260 : decode cX8_against 260 = .ok (.iinc 3 (-1), 3) := DdX8_against_254.2.2.1
theorem dX8_against_263 : decode cX8_against 263 = .ok (.goto (-189), 3) := DdX8_against_254.2.2.2.1
theorem dX8_against_266 : decode cX8_against 266 = .ok (.aload_n 0, 1) := DdX8_against_254.2.2.2.2.1
theorem dX8_against_267 : decode cX8_against 267 = .ok (.iload_n 2, 1) := DdX8_against_254.2.2.2.2.2.1
theorem dX8_against_268 : decode cX8_against 268 = .ok (.iconst 0, 1) := DdX8_against_254.2.2.2.2.2.2.1
theorem dX8_against_269 : decode cX8_against 269 = .ok (.iconst 0, 1) := DdX8_against_254.2.2.2.2.2.2.2.1
theorem dX8_against_270 : decode cX8_against 270 = .ok (.invokevirtual 255, 3) := DdX8_against_254.2.2.2.2.2.2.2.2.1
theorem dX8_against_273 : decode cX8_against 273 = .ok (.aload_n 0, 1) := DdX8_against_254.2.2.2.2.2.2.2.2.2.1
theorem dX8_against_274 : decode cX8_against 274 = .ok (.invokevirtual 259, 3) := DdX8_against_254.2.2.2.2.2.2.2.2.2.2.1
theorem dX8_against_277 : decode cX8_against 277 = .ok (.iinc 2 (-1), 3) := DdX8_against_254.2.2.2.2.2.2.2.2.2.2.2.1
theorem dX8_against_280 : decode cX8_against 280 = .ok (.goto (-223), 3) := DdX8_against_254.2.2.2.2.2.2.2.2.2.2.2.2.1
theorem dX8_against_283 : decode cX8_against 283 = .ok (.aload_n 0, 1) := DdX8_against_254.2.2.2.2.2.2.2.2.2.2.2.2.2.1
theorem dX8_against_284 : decode cX8_against 284 = .ok (.iload_n 1, 1) := DdX8_against_254.2.2.2.2.2.2.2.2.2.2.2.2.2.2.1
theorem dX8_against_285 : decode cX8_against 285 = .ok (.iconst 0, 1) := DdX8_against_254.2.2.2.2.2.2.2.2.2.2.2.2.2.2.2
theorem DdX8_against_286 : (decode cX8_against 286 = .ok (.iconst 0, 1)) ∧ (decode cX8_against 287 = .ok (.invokevirtual 266, 3)) ∧ (decode cX8_against 290 = .ok (.istore_n 2, 1)) ∧ (decode cX8_against 291 = .ok (.iload_n 2, 1)) ∧ (decode cX8_against 292 = .ok (.sipush 9999, 3)) ∧ (decode cX8_against 295 = .ok (.if_icmp .lt 8, 3)) ∧ (decode cX8_against 298 = .ok (.bipush (-9), 2)) ∧ (decode cX8_against 300 = .ok (.goto 4, 3)) ∧ (decode cX8_against 303 = .ok (.iload_n 2, 1)) ∧ (decode cX8_against 304 = .ok (.ireturn, 1)) := by decide +kernel
theorem dX8_against_286 : decode cX8_against 286 = .ok (.iconst 0, 1) := DdX8_against_286.1
theorem dX8_against_287 : decode cX8_against 287 = .ok (.invokevirtual 266, 3) := DdX8_against_286.2.1
theorem dX8_against_290 : decode cX8_against 290 = .ok (.istore_n 2, 1) := DdX8_against_286.2.2.1
theorem dX8_against_291 : decode cX8_against 291 = .ok (.iload_n 2, 1) := DdX8_against_286.2.2.2.1
theorem dX8_against_292 : decode cX8_against 292 = .ok (.sipush 9999, 3) := DdX8_against_286.2.2.2.2.1
theorem dX8_against_295 : decode cX8_against 295 = .ok (.if_icmp .lt 8, 3) := DdX8_against_286.2.2.2.2.2.1
theorem dX8_against_298 : decode cX8_against 298 = .ok (.bipush (-9), 2) := DdX8_against_286.2.2.2.2.2.2.1
theorem dX8_against_300 : decode cX8_against 300 = .ok (.goto 4, 3) := DdX8_against_286.2.2.2.2.2.2.2.1
theorem dX8_against_303 : decode cX8_against 303 = .ok (.iload_n 2, 1) := DdX8_against_286.2.2.2.2.2.2.2.2.1
theorem dX8_against_304 : decode cX8_against 304 = .ok (.ireturn, 1) := DdX8_against_286.2.2.2.2.2.2.2.2.2
theorem DdX8_sure_0 : (decode cX8_sure 0 = .ok (.iload_n 1, 1)) ∧ (decode cX8_sure 1 = .ok (.invokestatic 169, 3)) ∧ (decode cX8_sure 4 = .ok (.ifCond .eq 23, 3)) ∧ (decode cX8_sure 7 = .ok (.iload_n 2, 1)) ∧ (decode cX8_sure 8 = .ok (.iconst 0, 1)) ∧ (decode cX8_sure 9 = .ok (.bipush 6, 2)) ∧ (decode cX8_sure 11 = .ok (.invokestatic 106, 3)) ∧ (decode cX8_sure 14 = .ok (.ifCond .eq 13, 3)) ∧ (decode cX8_sure 17 = .ok (.iload_n 3, 1)) ∧ (decode cX8_sure 18 = .ok (.iconst 0, 1)) ∧ (decode cX8_sure 19 = .ok (.bipush 6, 2)) ∧ (decode cX8_sure 21 = .ok (.invokestatic 106, 3)) ∧ (decode cX8_sure 24 = .ok (.ifCond .ne 5, 3)) ∧ (decode cX8_sure 27 = .ok (.iconst (-1), 1)) ∧ (decode cX8_sure 28 = .ok (.ireturn, 1)) ∧ (decode cX8_sure 29 = .ok (.aload_n 0, 1)) := by decide +kernel
theorem dX8_sure_0 : decode cX8_sure 0 = .ok (.iload_n 1, 1) := DdX8_sure_0.1
theorem dX8_sure_1 : decode cX8_sure 1 = .ok (.invokestatic 169, 3) := DdX8_sure_0.2.1
theorem dX8_sure_4 : decode cX8_sure 4 = .ok (.ifCond .eq 23, 3) := DdX8_sure_0.2.2.1
theorem dX8_sure_7 : decode cX8_sure 7 = .ok (.iload_n 2, 1) := DdX8_sure_0.2.2.2.1
theorem dX8_sure_8 : decode cX8_sure 8 = .ok (.iconst 0, 1) := DdX8_sure_0.2.2.2.2.1
theorem dX8_sure_9 : decode cX8_sure 9 = .ok (.bipush 6, 2) := DdX8_sure_0.2.2.2.2.2.1
theorem dX8_sure_11 : decode cX8_sure 11 = .ok (.invokestatic 106, 3) := DdX8_sure_0.2.2.2.2.2.2.1
theorem dX8_sure_14 : decode cX8_sure 14 = .ok (.ifCond .eq 13, 3) := DdX8_sure_0.2.2.2.2.2.2.2.1
theorem dX8_sure_17 : decode cX8_sure 17 = .ok (.iload_n 3, 1) := DdX8_sure_0.2.2.2.2.2.2.2.2.1
theorem dX8_sure_18 : decode cX8_sure 18 = .ok (.iconst 0, 1) := DdX8_sure_0.2.2.2.2.2.2.2.2.2.1
theorem dX8_sure_19 : decode cX8_sure 19 = .ok (.bipush 6, 2) := DdX8_sure_0.2.2.2.2.2.2.2.2.2.2.1
theorem dX8_sure_21 : decode cX8_sure 21 = .ok (.invokestatic 106, 3) := DdX8_sure_0.2.2.2.2.2.2.2.2.2.2.2.1
theorem dX8_sure_24 : decode cX8_sure 24 = .ok (.ifCond .ne 5, 3) := DdX8_sure_0.2.2.2.2.2.2.2.2.2.2.2.2.1
theorem dX8_sure_27 : decode cX8_sure 27 = .ok (.iconst (-1), 1) := DdX8_sure_0.2.2.2.2.2.2.2.2.2.2.2.2.2.1
theorem dX8_sure_28 : decode cX8_sure 28 = .ok (.ireturn, 1) := DdX8_sure_0.2.2.2.2.2.2.2.2.2.2.2.2.2.2.1
theorem dX8_sure_29 : decode cX8_sure 29 = .ok (.aload_n 0, 1) := DdX8_sure_0.2.2.2.2.2.2.2.2.2.2.2.2.2.2.2
theorem DdX8_sure_30 : (decode cX8_sure 30 = .ok (.iload_n 1, 1)) ∧ (decode cX8_sure 31 = .ok (.invokevirtual 238, 3)) ∧ (decode cX8_sure 34 = .ok (.ifCond .ne 6, 3)) ∧ (decode cX8_sure 37 = .ok (.bipush (-2), 2)) ∧ (decode cX8_sure 39 = .ok (.ireturn, 1)) ∧ (decode cX8_sure 40 = .ok (.aload_n 0, 1)) ∧ (decode cX8_sure 41 = .ok (.iload_n 1, 1)) ∧ (decode cX8_sure 42 = .ok (.iload_n 2, 1)) ∧ (decode cX8_sure 43 = .ok (.iload_n 3, 1)) ∧ (decode cX8_sure 44 = .ok (.invokevirtual 269, 3)) ∧ (decode cX8_sure 47 = .ok (.aload_n 0, 1)) ∧ (decode cX8_sure 48 = .ok (.iload_n 1, 1)) ∧ (decode cX8_sure 49 = .ok (.iload_n 2, 1)) ∧ (decode cX8_sure 50 = .ok (.iload_n 3, 1)) ∧ (decode cX8_sure 51 = .ok (.invokevirtual 266, 3)) ∧ (decode cX8_sure 54 = .ok (.istore 4, 2)) := by decide +kernel
theorem dX8_sure_30 : decode cX8_sure 30 = .ok (.iload_n 1, 1) := DdX8_sure_30.1
theorem dX8_sure_31 : decode cX8_sure 31 = .ok (.invokevirtual 238, 3) := DdX8_sure_30.2.1
theorem dX8_sure_34 : decode cX8_sure 34 = .ok (.ifCond .ne 6, 3) := DdX8_sure_30.2.2.1
theorem dX8_sure_37 : decode cX8_sure 37 = .ok (.bipush (-2), 2) := DdX8_sure_30.2.2.2.1
theorem dX8_sure_39 : decode cX8_sure 39 = .ok (.ireturn, 1) := DdX8_sure_30.2.2.2.2.1
theorem dX8_sure_40 : decode cX8_sure 40 = .ok (.aload_n 0, 1) := DdX8_sure_30.2.2.2.2.2.1
theorem dX8_sure_41 : decode cX8_sure 41 = .ok (.iload_n 1, 1) := DdX8_sure_30.2.2.2.2.2.2.1
theorem dX8_sure_42 : decode cX8_sure 42 = .ok (.iload_n 2, 1) := DdX8_sure_30.2.2.2.2.2.2.2.1
theorem dX8_sure_43 : decode cX8_sure 43 = .ok (.iload_n 3, 1) := DdX8_sure_30.2.2.2.2.2.2.2.2.1
theorem dX8_sure_44 : decode cX8_sure 44 = .ok (.invokevirtual 269, 3) := DdX8_sure_30.2.2.2.2.2.2.2.2.2.1
theorem dX8_sure_47 : decode cX8_sure 47 = .ok (.aload_n 0, 1) := DdX8_sure_30.2.2.2.2.2.2.2.2.2.2.1
theorem dX8_sure_48 : decode cX8_sure 48 = .ok (.iload_n 1, 1) := DdX8_sure_30.2.2.2.2.2.2.2.2.2.2.2.1
theorem dX8_sure_49 : decode cX8_sure 49 = .ok (.iload_n 2, 1) := DdX8_sure_30.2.2.2.2.2.2.2.2.2.2.2.2.1
theorem dX8_sure_50 : decode cX8_sure 50 = .ok (.iload_n 3, 1) := DdX8_sure_30.2.2.2.2.2.2.2.2.2.2.2.2.2.1
theorem dX8_sure_51 : decode cX8_sure 51 = .ok (.invokevirtual 266, 3) := DdX8_sure_30.2.2.2.2.2.2.2.2.2.2.2.2.2.2.1
theorem dX8_sure_54 : decode cX8_sure 54 = .ok (.istore 4, 2) := DdX8_sure_30.2.2.2.2.2.2.2.2.2.2.2.2.2.2.2
theorem DdX8_sure_56 : (decode cX8_sure 56 = .ok (.iload 4, 2)) ∧ (decode cX8_sure 58 = .ok (.sipush 9999, 3)) ∧ (decode cX8_sure 61 = .ok (.if_icmp .ne 8, 3)) ∧ (decode cX8_sure 64 = .ok (.bipush (-9), 2)) ∧ (decode cX8_sure 66 = .ok (.goto 5, 3)) ∧ (decode cX8_sure 69 = .ok (.iload 4, 2)) ∧ (decode cX8_sure 71 = .ok (.ireturn, 1)) := by decide +kernel
theorem dX8_sure_56 : decode cX8_sure 56 = .ok (.iload 4, 2) := DdX8_sure_56.1
theorem dX8_sure_58 : decode cX8_sure 58 = .ok (.sipush 9999, 3) := DdX8_sure_56.2.1
theorem dX8_sure_61 : decode cX8_sure 61 = .ok (.if_icmp .ne 8, 3) := DdX8_sure_56.2.2.1
theorem dX8_sure_64 : decode cX8_sure 64 = .ok (.bipush (-9), 2) := DdX8_sure_56.2.2.2.1
theorem dX8_sure_66 : decode cX8_sure 66 = .ok (.goto 5, 3) := DdX8_sure_56.2.2.2.2.1
theorem dX8_sure_69 : decode cX8_sure 69 = .ok (.iload 4, 2) := DdX8_sure_56.2.2.2.2.2.1
theorem dX8_sure_71 : decode cX8_sure 71 = .ok (.ireturn, 1) := DdX8_sure_56.2.2.2.2.2.2
theorem DdX8_delay_0 : (decode cX8_delay 0 = .ok (.iload_n 1, 1)) ∧ (decode cX8_delay 1 = .ok (.invokestatic 169, 3)) ∧ (decode cX8_delay 4 = .ok (.ifCond .eq 11, 3)) ∧ (decode cX8_delay 7 = .ok (.aload_n 0, 1)) ∧ (decode cX8_delay 8 = .ok (.iload_n 2, 1)) ∧ (decode cX8_delay 9 = .ok (.invokevirtual 195, 3)) ∧ (decode cX8_delay 12 = .ok (.ifCond .ne 5, 3)) ∧ (decode cX8_delay 15 = .ok (.iconst (-1), 1)) ∧ (decode cX8_delay 16 = .ok (.ireturn, 1)) ∧ (decode cX8_delay 17 = .ok (.aload_n 0, 1)) ∧ (decode cX8_delay 18 = .ok (.iload_n 1, 1)) ∧ (decode cX8_delay 19 = .ok (.invokevirtual 238, 3)) ∧ (decode cX8_delay 22 = .ok (.ifCond .ne 6, 3)) ∧ (decode cX8_delay 25 = .ok (.bipush (-2), 2)) ∧ (decode cX8_delay 27 = .ok (.ireturn, 1)) ∧ (decode cX8_delay 28 = .ok (.aload_n 0, 1)) := by decide +kernel
theorem dX8_delay_0 : decode cX8_delay 0 = .ok (.iload_n 1, 1) := DdX8_delay_0.1
theorem dX8_delay_1 : decode cX8_delay 1 = .ok (.invokestatic 169, 3) := DdX8_delay_0.2.1
theorem dX8_delay_4 : decode cX8_delay 4 = .ok (.ifCond .eq 11, 3) := DdX8_delay_0.2.2.1
theorem dX8_delay_7 : decode cX8_delay 7 = .ok (.aload_n 0, 1) := DdX8_delay_0.2.2.2.1
theorem dX8_delay_8 : decode cX8_delay 8 = .ok (.iload_n 2, 1) := DdX8_delay_0.2.2.2.2.1
theorem dX8_delay_9 : decode cX8_delay 9 = .ok (.invokevirtual 195, 3) := DdX8_delay_0.2.2.2.2.2.1
theorem dX8_delay_12 : decode cX8_delay 12 = .ok (.ifCond .ne 5, 3) := DdX8_delay_0.2.2.2.2.2.2.1
theorem dX8_delay_15 : decode cX8_delay 15 = .ok (.iconst (-1), 1) := DdX8_delay_0.2.2.2.2.2.2.2.1
theorem dX8_delay_16 : decode cX8_delay 16 = .ok (.ireturn, 1) := DdX8_delay_0.2.2.2.2.2.2.2.2.1
theorem dX8_delay_17 : decode cX8_delay 17 = .ok (.aload_n 0, 1) := DdX8_delay_0.2.2.2.2.2.2.2.2.2.1
theorem dX8_delay_18 : decode cX8_delay 18 = .ok (.iload_n 1, 1) := DdX8_delay_0.2.2.2.2.2.2.2.2.2.2.1
theorem dX8_delay_19 : decode cX8_delay 19 = .ok (.invokevirtual 238, 3) := DdX8_delay_0.2.2.2.2.2.2.2.2.2.2.2.1
theorem dX8_delay_22 : decode cX8_delay 22 = .ok (.ifCond .ne 6, 3) := DdX8_delay_0.2.2.2.2.2.2.2.2.2.2.2.2.1
theorem dX8_delay_25 : decode cX8_delay 25 = .ok (.bipush (-2), 2) := DdX8_delay_0.2.2.2.2.2.2.2.2.2.2.2.2.2.1
theorem dX8_delay_27 : decode cX8_delay 27 = .ok (.ireturn, 1) := DdX8_delay_0.2.2.2.2.2.2.2.2.2.2.2.2.2.2.1
theorem dX8_delay_28 : decode cX8_delay 28 = .ok (.aload_n 0, 1) := DdX8_delay_0.2.2.2.2.2.2.2.2.2.2.2.2.2.2.2
theorem DdX8_delay_29 : (decode cX8_delay 29 = .ok (.getfield 38, 3)) ∧ (decode cX8_delay 32 = .ok (.bipush 20, 2)) ∧ (decode cX8_delay 34 = .ok (.iload_n 2, 1)) ∧ (decode cX8_delay 35 = .ok (.iadd, 1)) ∧ (decode cX8_delay 36 = .ok (.iaload, 1)) ∧ (decode cX8_delay 37 = .ok (.istore_n 3, 1)) ∧ (decode cX8_delay 38 = .ok (.aload_n 0, 1)) ∧ (decode cX8_delay 39 = .ok (.iload_n 1, 1)) ∧ (decode cX8_delay 40 = .ok (.aload_n 0, 1)) ∧ (decode cX8_delay 41 = .ok (.getfield 52, 3)) ∧ (decode cX8_delay 44 = .ok (.iload_n 2, 1)) ∧ (decode cX8_delay 45 = .ok (.iaload, 1)) ∧ (decode cX8_delay 46 = .ok (.iconst 1, 1)) ∧ (decode cX8_delay 47 = .ok (.if_icmp .ne 7, 3)) ∧ (decode cX8_delay 50 = .ok (.iload_n 3, 1)) ∧ (decode cX8_delay 51 = .ok (.goto 4, 3)) := by decide +kernel
theorem dX8_delay_29 : decode cX8_delay 29 = .ok (.getfield 38, 3) := DdX8_delay_29.1
theorem dX8_delay_32 : decode cX8_delay 32 = .ok (.bipush 20, 2) := DdX8_delay_29.2.1
theorem dX8_delay_34 : decode cX8_delay 34 = .ok (.iload_n 2, 1) := DdX8_delay_29.2.2.1
theorem dX8_delay_35 : decode cX8_delay 35 = .ok (.iadd, 1) := DdX8_delay_29.2.2.2.1
theorem dX8_delay_36 : decode cX8_delay 36 = .ok (.iaload, 1) := DdX8_delay_29.2.2.2.2.1
theorem dX8_delay_37 : decode cX8_delay 37 = .ok (.istore_n 3, 1) := DdX8_delay_29.2.2.2.2.2.1
theorem dX8_delay_38 : decode cX8_delay 38 = .ok (.aload_n 0, 1) := DdX8_delay_29.2.2.2.2.2.2.1
theorem dX8_delay_39 : decode cX8_delay 39 = .ok (.iload_n 1, 1) := DdX8_delay_29.2.2.2.2.2.2.2.1
theorem dX8_delay_40 : decode cX8_delay 40 = .ok (.aload_n 0, 1) := DdX8_delay_29.2.2.2.2.2.2.2.2.1
theorem dX8_delay_41 : decode cX8_delay 41 = .ok (.getfield 52, 3) := DdX8_delay_29.2.2.2.2.2.2.2.2.2.1
theorem dX8_delay_44 : decode cX8_delay 44 = .ok (.iload_n 2, 1) := DdX8_delay_29.2.2.2.2.2.2.2.2.2.2.1
theorem dX8_delay_45 : decode cX8_delay 45 = .ok (.iaload, 1) := DdX8_delay_29.2.2.2.2.2.2.2.2.2.2.2.1
theorem dX8_delay_46 : decode cX8_delay 46 = .ok (.iconst 1, 1) := DdX8_delay_29.2.2.2.2.2.2.2.2.2.2.2.2.1
theorem dX8_delay_47 : decode cX8_delay 47 = .ok (.if_icmp .ne 7, 3) := DdX8_delay_29.2.2.2.2.2.2.2.2.2.2.2.2.2.1
theorem dX8_delay_50 : decode cX8_delay 50 = .ok (.iload_n 3, 1) := DdX8_delay_29.2.2.2.2.2.2.2.2.2.2.2.2.2.2.1
theorem dX8_delay_51 : decode cX8_delay 51 = .ok (.goto 4, 3) := DdX8_delay_29.2.2.2.2.2.2.2.2.2.2.2.2.2.2.2
theorem DdX8_delay_54 : (decode cX8_delay 54 = .ok (.iconst 0, 1)) ∧ (decode cX8_delay 55 = .ok (.aload_n 0, 1)) ∧ (decode cX8_delay 56 = .ok (.getfield 52, 3)) ∧ (decode cX8_delay 59 = .ok (.iload_n 2, 1)) ∧ (decode cX8_delay 60 = .ok (.iaload, 1)) ∧ (decode cX8_delay 61 = .ok (.iconst 2, 1)) ∧ (decode cX8_delay 62 = .ok (.if_icmp .ne 7, 3)) ∧ (decode cX8_delay 65 = .ok (.iload_n 3, 1)) ∧ (decode cX8_delay 66 = .ok (.goto 4, 3)) ∧ (decode cX8_delay 69 = .ok (.iconst 0, 1)) ∧ (decode cX8_delay 70 = .ok (.invokevirtual 269, 3)) ∧ (decode cX8_delay 73 = .ok (.aload_n 0, 1)) ∧ (decode cX8_delay 74 = .ok (.iload_n 1, 1)) ∧ (decode cX8_delay 75 = .ok (.iconst 0, 1)) ∧ (decode cX8_delay 76 = .ok (.iconst 0, 1)) ∧ (decode cX8_delay 77 = .ok (.invokevirtual 266, 3)) := by decide +kernel
theorem dX8_delay_54 : decode cX8_delay 54 = .ok (.iconst 0, 1) := DdX8_delay_54.1
theorem dX8_delay_55 : decode cX8_delay 55 = .ok (.aload_n 0, 1) := DdX8_delay_54.2.1
theorem dX8_delay_56 : decode cX8_delay 56 = .ok (.getfield 52, 3) := DdX8_delay_54.2.2.1
theorem dX8_delay_59 : decode cX8_delay 59 = .ok (.iload_n 2, 1) := DdX8_delay_54.2.2.2.1
theorem dX8_delay_60 : decode cX8_delay 60 = .ok (.iaload, 1) := DdX8_delay_54.2.2.2.2.1
theorem dX8_delay_61 : decode cX8_delay 61 = .ok (.iconst 2, 1) := DdX8_delay_54.2.2.2.2.2.1
theorem dX8_delay_62 : decode cX8_delay 62 = .ok (.if_icmp .ne 7, 3) := DdX8_delay_54.2.2.2.2.2.2.1
theorem dX8_delay_65 : decode cX8_delay 65 = .ok (.iload_n 3, 1) := DdX8_delay_54.2.2.2.2.2.2.2.1
theorem dX8_delay_66 : decode cX8_delay 66 = .ok (.goto 4, 3) := DdX8_delay_54.2.2.2.2.2.2.2.2.1
theorem dX8_delay_69 : decode cX8_delay 69 = .ok (.iconst 0, 1) := DdX8_delay_54.2.2.2.2.2.2.2.2.2.1
theorem dX8_delay_70 : decode cX8_delay 70 = .ok (.invokevirtual 269, 3) := DdX8_delay_54.2.2.2.2.2.2.2.2.2.2.1
theorem dX8_delay_73 : decode cX8_delay 73 = .ok (.aload_n 0, 1) := DdX8_delay_54.2.2.2.2.2.2.2.2.2.2.2.1
theorem dX8_delay_74 : decode cX8_delay 74 = .ok (.iload_n 1, 1) := DdX8_delay_54.2.2.2.2.2.2.2.2.2.2.2.2.1
theorem dX8_delay_75 : decode cX8_delay 75 = .ok (.iconst 0, 1) := DdX8_delay_54.2.2.2.2.2.2.2.2.2.2.2.2.2.1
theorem dX8_delay_76 : decode cX8_delay 76 = .ok (.iconst 0, 1) := DdX8_delay_54.2.2.2.2.2.2.2.2.2.2.2.2.2.2.1
theorem dX8_delay_77 : decode cX8_delay 77 = .ok (.invokevirtual 266, 3) := DdX8_delay_54.2.2.2.2.2.2.2.2.2.2.2.2.2.2.2
theorem DdX8_delay_80 : (decode cX8_delay 80 = .ok (.istore 4, 2)) ∧ (decode cX8_delay 82 = .ok (.aload_n 0, 1)) ∧ (decode cX8_delay 83 = .ok (.iload_n 1, 1)) ∧ (decode cX8_delay 84 = .ok (.aload_n 0, 1)) ∧ (decode cX8_delay 85 = .ok (.getfield 52, 3)) ∧ (decode cX8_delay 88 = .ok (.iload_n 2, 1)) ∧ (decode cX8_delay 89 = .ok (.iaload, 1)) ∧ (decode cX8_delay 90 = .ok (.iconst 1, 1)) ∧ (decode cX8_delay 91 = .ok (.if_icmp .ne 7, 3)) ∧ (decode cX8_delay 94 = .ok (.iload_n 3, 1)) ∧ (decode cX8_delay 95 = .ok (.goto 4, 3)) ∧ (decode cX8_delay 98 = .ok (.iconst 0, 1)) ∧ (decode cX8_delay 99 = .ok (.aload_n 0, 1)) ∧ (decode cX8_delay 100 = .ok (.getfield 52, 3)) ∧ (decode cX8_delay 103 = .ok (.iload_n 2, 1)) ∧ (decode cX8_delay 104 = .ok (.iaload, 1)) := by decide +kernel
theorem dX8_delay_80 : decode cX8_delay 80 = .ok (.istore 4, 2) := DdX8_delay_80.1
theorem dX8_delay_82 : decode cX8_delay 82 = .ok (.aload_n 0, 1) := DdX8_delay_80.2.1
theorem dX8_delay_83 : decode cX8_delay 83 = .ok (.iload_n 1, 1) := DdX8_delay_80.2.2.1
theorem dX8_delay_84 : decode cX8_delay 84 = .ok (.aload_n 0, 1) := DdX8_delay_80.2.2.2.1
theorem dX8_delay_85 : decode cX8_delay 85 = .ok (.getfield 52, 3) := DdX8_delay_80.2.2.2.2.1
theorem dX8_delay_88 : decode cX8_delay 88 = .ok (.iload_n 2, 1) := DdX8_delay_80.2.2.2.2.2.1
theorem dX8_delay_89 : decode cX8_delay 89 = .ok (.iaload, 1) := DdX8_delay_80.2.2.2.2.2.2.1
theorem dX8_delay_90 : decode cX8_delay 90 = .ok (.iconst 1, 1) := DdX8_delay_80.2.2.2.2.2.2.2.1
theorem dX8_delay_91 : decode cX8_delay 91 = .ok (.if_icmp .ne 7, 3) := DdX8_delay_80.2.2.2.2.2.2.2.2.1
theorem dX8_delay_94 : decode cX8_delay 94 = .ok (.iload_n 3, 1) := DdX8_delay_80.2.2.2.2.2.2.2.2.2.1
theorem dX8_delay_95 : decode cX8_delay 95 = .ok (.goto 4, 3) := DdX8_delay_80.2.2.2.2.2.2.2.2.2.2.1
theorem dX8_delay_98 : decode cX8_delay 98 = .ok (.iconst 0, 1) := DdX8_delay_80.2.2.2.2.2.2.2.2.2.2.2.1
theorem dX8_delay_99 : decode cX8_delay 99 = .ok (.aload_n 0, 1) := DdX8_delay_80.2.2.2.2.2.2.2.2.2.2.2.2.1
theorem dX8_delay_100 : decode cX8_delay 100 = .ok (.getfield 52, 3) := DdX8_delay_80.2.2.2.2.2.2.2.2.2.2.2.2.2.1
theorem dX8_delay_103 : decode cX8_delay 103 = .ok (.iload_n 2, 1) := DdX8_delay_80.2.2.2.2.2.2.2.2.2.2.2.2.2.2.1
theorem dX8_delay_104 : decode cX8_delay 104 = .ok (.iaload, 1) := DdX8_delay_80.2.2.2.2.2.2.2.2.2.2.2.2.2.2.2
theorem DdX8_delay_105 : (decode cX8_delay 105 = .ok (.iconst 2, 1)) ∧ (decode cX8_delay 106 = .ok (.if_icmp .ne 7, 3)) ∧ (decode cX8_delay 109 = .ok (.iload_n 3, 1)) ∧ (decode cX8_delay 110 = .ok (.goto 4, 3)) ∧ (decode cX8_delay 113 = .ok (.iconst 0, 1)) ∧ (decode cX8_delay 114 = .ok (.invokevirtual 266, 3)) ∧ (decode cX8_delay 117 = .ok (.istore 5, 2)) ∧ (decode cX8_delay 119 = .ok (.iload 4, 2)) ∧ (decode cX8_delay 121 = .ok (.sipush 9999, 3)) ∧ (decode cX8_delay 124 = .ok (.if_icmp .ne 8, 3)) ∧ (decode cX8_delay 127 = .ok (.bipush (-2), 2)) ∧ (decode cX8_delay 129 = .ok (.goto 21, 3)) ∧ (decode cX8_delay 132 = .ok (.iload 5, 2)) ∧ (decode cX8_delay 134 = .ok (.sipush 9999, 3)) ∧ (decode cX8_delay 137 = .ok (.if_icmp .ne 8, 3)) ∧ (decode cX8_delay 140 = .ok (.bipush (-9), 2)) := by decide +kernel
theorem dX8_delay_105 : decode cX8_delay 105 = .ok (.iconst 2, 1) := DdX8_delay_105.1
theorem dX8_delay_106 : decode cX8_delay 106 = .ok (.if_icmp .ne 7, 3) := DdX8_delay_105.2.1
theorem dX8_delay_109 : decode cX8_delay 109 = .ok (.iload_n 3, 1) := DdX8_delay_105.2.2.1
theorem dX8_delay_110 : decode cX8_delay 110 = .ok (.goto 4, 3) := DdX8_delay_105.2.2.2.1
theorem dX8_delay_113 : decode cX8_delay 113 = .ok (.iconst 0, 1) := DdX8_delay_105.2.2.2.2.1
theorem dX8_delay_114 : decode cX8_delay 114 = .ok (.invokevirtual 266, 3) := DdX8_delay_105.2.2.2.2.2.1
theorem dX8_delay_117 : decode cX8_delay 117 = .ok (.istore 5, 2) := DdX8_delay_105.2.2.2.2.2.2.1
theorem dX8_delay_119 : decode cX8_delay 119 = .ok (.iload 4, 2) := DdX8_delay_105.2.2.2.2.2.2.2.1
theorem dX8_delay_121 : decode cX8_delay 121 = .ok (.sipush 9999, 3) := DdX8_delay_105.2.2.2.2.2.2.2.2.1
theorem dX8_delay_124 : decode cX8_delay 124 = .ok (.if_icmp .ne 8, 3) := DdX8_delay_105.2.2.2.2.2.2.2.2.2.1
theorem dX8_delay_127 : decode cX8_delay 127 = .ok (.bipush (-2), 2) := DdX8_delay_105.2.2.2.2.2.2.2.2.2.2.1
theorem dX8_delay_129 : decode cX8_delay 129 = .ok (.goto 21, 3) := DdX8_delay_105.2.2.2.2.2.2.2.2.2.2.2.1
theorem dX8_delay_132 : decode cX8_delay 132 = .ok (.iload 5, 2) := DdX8_delay_105.2.2.2.2.2.2.2.2.2.2.2.2.1
theorem dX8_delay_134 : decode cX8_delay 134 = .ok (.sipush 9999, 3) := DdX8_delay_105.2.2.2.2.2.2.2.2.2.2.2.2.2.1
theorem dX8_delay_137 : decode cX8_delay 137 = .ok (.if_icmp .ne 8, 3) := DdX8_delay_105.2.2.2.2.2.2.2.2.2.2.2.2.2.2.1
theorem dX8_delay_140 : decode cX8_delay 140 = .ok (.bipush (-9), 2) := DdX8_delay_105.2.2.2.2.2.2.2.2.2.2.2.2.2.2.2
theorem DdX8_delay_142 : (decode cX8_delay 142 = .ok (.goto 8, 3)) ∧ (decode cX8_delay 145 = .ok (.iload 5, 2)) ∧ (decode cX8_delay 147 = .ok (.iload 4, 2)) ∧ (decode cX8_delay 149 = .ok (.isub, 1)) ∧ (decode cX8_delay 150 = .ok (.ireturn, 1)) := by decide +kernel
theorem dX8_delay_142 : decode cX8_delay 142 = .ok (.goto 8, 3) := DdX8_delay_142.1
theorem dX8_delay_145 : decode cX8_delay 145 = .ok (.iload 5, 2) := DdX8_delay_142.2.1
theorem dX8_delay_147 : decode cX8_delay 147 = .ok (.iload 4, 2) := DdX8_delay_142.2.2.1
theorem dX8_delay_149 : decode cX8_delay 149 = .ok (.isub, 1) := DdX8_delay_142.2.2.2.1
theorem dX8_delay_150 : decode cX8_delay 150 = .ok (.ireturn, 1) := DdX8_delay_142.2.2.2.2
theorem DdX8_bitsIn_0 : (decode cX8_bitsIn 0 = .ok (.iconst 0, 1)) ∧ (decode cX8_bitsIn 1 = .ok (.istore_n 1, 1)) ∧ (decode cX8_bitsIn 2 = .ok (.iconst 0, 1)) ∧ (decode cX8_bitsIn 3 = .ok (.istore_n 2, 1)) ∧ (decode cX8_bitsIn 4 = .ok (.iload_n 2, 1)) ∧ (decode cX8_bitsIn 5 = .ok (.bipush 9, 2)) ∧ (decode cX8_bitsIn 7 = .ok (.if_icmp .ge 17, 3)) ∧ (decode cX8_bitsIn 10 = .ok (.iload_n 1, 1)) ∧ (decode cX8_bitsIn 11 = .ok (.iload_n 0, 1)) ∧ (decode cX8_bitsIn 12 = .ok (.iload_n 2, 1)) ∧ (decode cX8_bitsIn 13 = .ok (.ishr, 1)) ∧ (decode cX8_bitsIn 14 = .ok (.iconst 1, 1)) ∧ (decode cX8_bitsIn 15 = .ok (.iand, 1)) ∧ (decode cX8_bitsIn 16 = .ok (.iadd, 1)) ∧ (decode cX8_bitsIn 17 = .ok (.istore_n 1, 1)) ∧ (decode cX8_bitsIn 18 = .ok (.iinc 2 1, 3)) := by decide +kernel
theorem dX8_bitsIn_0 : decode cX8_bitsIn 0 = .ok (.iconst 0, 1) := DdX8_bitsIn_0.1
theorem dX8_bitsIn_1 : decode cX8_bitsIn 1 = .ok (.istore_n 1, 1) := DdX8_bitsIn_0.2.1
theorem dX8_bitsIn_2 : decode cX8_bitsIn 2 = .ok (.iconst 0, 1) := DdX8_bitsIn_0.2.2.1
theorem dX8_bitsIn_3 : decode cX8_bitsIn 3 = .ok (.istore_n 2, 1) := DdX8_bitsIn_0.2.2.2.1
theorem dX8_bitsIn_4 : decode cX8_bitsIn 4 = .ok (.iload_n 2, 1) := DdX8_bitsIn_0.2.2.2.2.1
theorem dX8_bitsIn_5 : decode cX8_bitsIn 5 = .ok (.bipush 9, 2) := DdX8_bitsIn_0.2.2.2.2.2.1
theorem dX8_bitsIn_7 : decode cX8_bitsIn 7 = .ok (.if_icmp .ge 17, 3) := DdX8_bitsIn_0.2.2.2.2.2.2.1
theorem dX8_bitsIn_10 : decode cX8_bitsIn 10 = .ok (.iload_n 1, 1) := DdX8_bitsIn_0.2.2.2.2.2.2.2.1
theorem dX8_bitsIn_11 : decode cX8_bitsIn 11 = .ok (.iload_n 0, 1) := DdX8_bitsIn_0.2.2.2.2.2.2.2.2.1
theorem dX8_bitsIn_12 : decode cX8_bitsIn 12 = .ok (.iload_n 2, 1) := DdX8_bitsIn_0.2.2.2.2.2.2.2.2.2.1
theorem dX8_bitsIn_13 : decode cX8_bitsIn 13 = .ok (.ishr, 1) := DdX8_bitsIn_0.2.2.2.2.2.2.2.2.2.2.1
theorem dX8_bitsIn_14 : decode cX8_bitsIn 14 = .ok (.iconst 1, 1) := DdX8_bitsIn_0.2.2.2.2.2.2.2.2.2.2.2.1
theorem dX8_bitsIn_15 : decode cX8_bitsIn 15 = .ok (.iand, 1) := DdX8_bitsIn_0.2.2.2.2.2.2.2.2.2.2.2.2.1
theorem dX8_bitsIn_16 : decode cX8_bitsIn 16 = .ok (.iadd, 1) := DdX8_bitsIn_0.2.2.2.2.2.2.2.2.2.2.2.2.2.1
theorem dX8_bitsIn_17 : decode cX8_bitsIn 17 = .ok (.istore_n 1, 1) := DdX8_bitsIn_0.2.2.2.2.2.2.2.2.2.2.2.2.2.2.1
theorem dX8_bitsIn_18 : decode cX8_bitsIn 18 = .ok (.iinc 2 1, 3) := DdX8_bitsIn_0.2.2.2.2.2.2.2.2.2.2.2.2.2.2.2
theorem DdX8_bitsIn_21 : (decode cX8_bitsIn 21 = .ok (.goto (-17), 3)) ∧ (decode cX8_bitsIn 24 = .ok (.iload_n 1, 1)) ∧ (decode cX8_bitsIn 25 = .ok (.ireturn, 1)) := by decide +kernel
theorem dX8_bitsIn_21 : decode cX8_bitsIn 21 = .ok (.goto (-17), 3) := DdX8_bitsIn_21.1
theorem dX8_bitsIn_24 : decode cX8_bitsIn 24 = .ok (.iload_n 1, 1) := DdX8_bitsIn_21.2.1
theorem dX8_bitsIn_25 : decode cX8_bitsIn 25 = .ok (.ireturn, 1) := DdX8_bitsIn_21.2.2
theorem DdX8_stop_0 : (decode cX8_stop 0 = .ok (.iload_n 1, 1)) ∧ (decode cX8_stop 1 = .ok (.invokestatic 169, 3)) ∧ (decode cX8_stop 4 = .ok (.ifCond .eq 12, 3)) ∧ (decode cX8_stop 7 = .ok (.iload_n 2, 1)) ∧ (decode cX8_stop 8 = .ok (.iconst 0, 1)) ∧ (decode cX8_stop 9 = .ok (.iconst 1, 1)) ∧ (decode cX8_stop 10 = .ok (.invokestatic 106, 3)) ∧ (decode cX8_stop 13 = .ok (.ifCond .ne 5, 3)) ∧ (decode cX8_stop 16 = .ok (.iconst (-1), 1)) ∧ (decode cX8_stop 17 = .ok (.ireturn, 1)) ∧ (decode cX8_stop 18 = .ok (.aload_n 0, 1)) ∧ (decode cX8_stop 19 = .ok (.iload_n 1, 1)) ∧ (decode cX8_stop 20 = .ok (.invokevirtual 238, 3)) ∧ (decode cX8_stop 23 = .ok (.ifCond .ne 6, 3)) ∧ (decode cX8_stop 26 = .ok (.bipush (-2), 2)) ∧ (decode cX8_stop 28 = .ok (.ireturn, 1)) := by decide +kernel
theorem dX8_stop_0 : decode cX8_stop 0 = .ok (.iload_n 1, 1) := DdX8_stop_0.1
theorem dX8_stop_1 : decode cX8_stop 1 = .ok (.invokestatic 169, 3) := DdX8_stop_0.2.1
theorem dX8_stop_4 : decode cX8_stop 4 = .ok (.ifCond .eq 12, 3) := DdX8_stop_0.2.2.1
theorem dX8_stop_7 : decode cX8_stop 7 = .ok (.iload_n 2, 1) := DdX8_stop_0.2.2.2.1
theorem dX8_stop_8 : decode cX8_stop 8 = .ok (.iconst 0, 1) := DdX8_stop_0.2.2.2.2.1
theorem dX8_stop_9 : decode cX8_stop 9 = .ok (.iconst 1, 1) := DdX8_stop_0.2.2.2.2.2.1
theorem dX8_stop_10 : decode cX8_stop 10 = .ok (.invokestatic 106, 3) := DdX8_stop_0.2.2.2.2.2.2.1
theorem dX8_stop_13 : decode cX8_stop 13 = .ok (.ifCond .ne 5, 3) := DdX8_stop_0.2.2.2.2.2.2.2.1
theorem dX8_stop_16 : decode cX8_stop 16 = .ok (.iconst (-1), 1) := DdX8_stop_0.2.2.2.2.2.2.2.2.1
theorem dX8_stop_17 : decode cX8_stop 17 = .ok (.ireturn, 1) := DdX8_stop_0.2.2.2.2.2.2.2.2.2.1
theorem dX8_stop_18 : decode cX8_stop 18 = .ok (.aload_n 0, 1) := DdX8_stop_0.2.2.2.2.2.2.2.2.2.2.1
theorem dX8_stop_19 : decode cX8_stop 19 = .ok (.iload_n 1, 1) := DdX8_stop_0.2.2.2.2.2.2.2.2.2.2.2.1
theorem dX8_stop_20 : decode cX8_stop 20 = .ok (.invokevirtual 238, 3) := DdX8_stop_0.2.2.2.2.2.2.2.2.2.2.2.2.1
theorem dX8_stop_23 : decode cX8_stop 23 = .ok (.ifCond .ne 6, 3) := DdX8_stop_0.2.2.2.2.2.2.2.2.2.2.2.2.2.1
theorem dX8_stop_26 : decode cX8_stop 26 = .ok (.bipush (-2), 2) := DdX8_stop_0.2.2.2.2.2.2.2.2.2.2.2.2.2.2.1
theorem dX8_stop_28 : decode cX8_stop 28 = .ok (.ireturn, 1) := DdX8_stop_0.2.2.2.2.2.2.2.2.2.2.2.2.2.2.2
theorem DdX8_stop_29 : (decode cX8_stop 29 = .ok (.aload_n 0, 1)) ∧ (decode cX8_stop 30 = .ok (.iload_n 1, 1)) ∧ (decode cX8_stop 31 = .ok (.bipush 6, 2)) ∧ (decode cX8_stop 33 = .ok (.bipush 6, 2)) ∧ (decode cX8_stop 35 = .ok (.invokevirtual 269, 3)) ∧ (decode cX8_stop 38 = .ok (.bipush (-9), 2)) ∧ (decode cX8_stop 40 = .ok (.istore_n 3, 1)) ∧ (decode cX8_stop 41 = .ok (.iconst 0, 1)) ∧ (decode cX8_stop 42 = .ok (.istore 4, 2)) ∧ (decode cX8_stop 44 = .ok (.iload 4, 2)) ∧ (decode cX8_stop 46 = .ok (.iconst 1, 1)) ∧ (decode cX8_stop 47 = .ok (.aload_n 0, 1)) ∧ (decode cX8_stop 48 = .ok (.getfield 158, 3)) ∧ (decode cX8_stop 51 = .ok (.ishl, 1)) ∧ (decode cX8_stop 52 = .ok (.if_icmp .ge 167, 3)) ∧ (decode cX8_stop 55 = .ok (.iconst 0, 1)) := by decide +kernel
theorem dX8_stop_29 : decode cX8_stop 29 = .ok (.aload_n 0, 1) := DdX8_stop_29.1
theorem dX8_stop_30 : decode cX8_stop 30 = .ok (.iload_n 1, 1) := DdX8_stop_29.2.1
theorem dX8_stop_31 : decode cX8_stop 31 = .ok (.bipush 6, 2) := DdX8_stop_29.2.2.1
theorem dX8_stop_33 : decode cX8_stop 33 = .ok (.bipush 6, 2) := DdX8_stop_29.2.2.2.1
theorem dX8_stop_35 : decode cX8_stop 35 = .ok (.invokevirtual 269, 3) := DdX8_stop_29.2.2.2.2.1
theorem dX8_stop_38 : decode cX8_stop 38 = .ok (.bipush (-9), 2) := DdX8_stop_29.2.2.2.2.2.1
theorem dX8_stop_40 : decode cX8_stop 40 = .ok (.istore_n 3, 1) := DdX8_stop_29.2.2.2.2.2.2.1
theorem dX8_stop_41 : decode cX8_stop 41 = .ok (.iconst 0, 1) := DdX8_stop_29.2.2.2.2.2.2.2.1
theorem dX8_stop_42 : decode cX8_stop 42 = .ok (.istore 4, 2) := DdX8_stop_29.2.2.2.2.2.2.2.2.1
theorem dX8_stop_44 : decode cX8_stop 44 = .ok (.iload 4, 2) := DdX8_stop_29.2.2.2.2.2.2.2.2.2.1
theorem dX8_stop_46 : decode cX8_stop 46 = .ok (.iconst 1, 1) := DdX8_stop_29.2.2.2.2.2.2.2.2.2.2.1
theorem dX8_stop_47 : decode cX8_stop 47 = .ok (.aload_n 0, 1) := DdX8_stop_29.2.2.2.2.2.2.2.2.2.2.2.1
theorem dX8_stop_48 : decode cX8_stop 48 = .ok (.getfield 158, 3) := DdX8_stop_29.2.2.2.2.2.2.2.2.2.2.2.2.1
theorem dX8_stop_51 : decode cX8_stop 51 = .ok (.ishl, 1) := DdX8_stop_29.2.2.2.2.2.2.2.2.2.2.2.2.2.1
theorem dX8_stop_52 : decode cX8_stop 52 = .ok (.if_icmp .ge 167, 3) := DdX8_stop_29.2.2.2.2.2.2.2.2.2.2.2.2.2.2.1
theorem dX8_stop_55 : decode cX8_stop 55 = .ok (.iconst 0, 1) := DdX8_stop_29.2.2.2.2.2.2.2.2.2.2.2.2.2.2.2
theorem DdX8_stop_56 : (decode cX8_stop 56 = .ok (.istore 5, 2)) ∧ (decode cX8_stop 58 = .ok (.iconst 0, 1)) ∧ (decode cX8_stop 59 = .ok (.istore 6, 2)) ∧ (decode cX8_stop 61 = .ok (.iconst 0, 1)) ∧ (decode cX8_stop 62 = .ok (.istore 7, 2)) ∧ (decode cX8_stop 64 = .ok (.iload 7, 2)) ∧ (decode cX8_stop 66 = .ok (.aload_n 0, 1)) ∧ (decode cX8_stop 67 = .ok (.getfield 158, 3)) ∧ (decode cX8_stop 70 = .ok (.if_icmp .ge 91, 3)) ∧ (decode cX8_stop 73 = .ok (.iload 5, 2)) ∧ (decode cX8_stop 75 = .ok (.iload 4, 2)) ∧ (decode cX8_stop 77 = .ok (.iload 7, 2)) ∧ (decode cX8_stop 79 = .ok (.ishr, 1)) ∧ (decode cX8_stop 80 = .ok (.iconst 1, 1)) ∧ (decode cX8_stop 81 = .ok (.iand, 1)) ∧ (decode cX8_stop 82 = .ok (.iconst 1, 1)) := by decide +kernel
theorem dX8_stop_56 : decode cX8_stop 56 = .ok (.istore 5, 2) := DdX8_stop_56.1
theorem dX8_stop_58 : decode cX8_stop 58 = .ok (.iconst 0, 1) := DdX8_stop_56.2.1
theorem dX8_stop_59 : decode cX8_stop 59 = .ok (.istore 6, 2) := DdX8_stop_56.2.2.1
theorem dX8_stop_61 : decode cX8_stop 61 = .ok (.iconst 0, 1) := DdX8_stop_56.2.2.2.1
theorem dX8_stop_62 : decode cX8_stop 62 = .ok (.istore 7, 2) := DdX8_stop_56.2.2.2.2.1
theorem dX8_stop_64 : decode cX8_stop 64 = .ok (.iload 7, 2) := DdX8_stop_56.2.2.2.2.2.1
theorem dX8_stop_66 : decode cX8_stop 66 = .ok (.aload_n 0, 1) := DdX8_stop_56.2.2.2.2.2.2.1
theorem dX8_stop_67 : decode cX8_stop 67 = .ok (.getfield 158, 3) := DdX8_stop_56.2.2.2.2.2.2.2.1
theorem dX8_stop_70 : decode cX8_stop 70 = .ok (.if_icmp .ge 91, 3) := DdX8_stop_56.2.2.2.2.2.2.2.2.1
theorem dX8_stop_73 : decode cX8_stop 73 = .ok (.iload 5, 2) := DdX8_stop_56.2.2.2.2.2.2.2.2.2.1
theorem dX8_stop_75 : decode cX8_stop 75 = .ok (.iload 4, 2) := DdX8_stop_56.2.2.2.2.2.2.2.2.2.2.1
theorem dX8_stop_77 : decode cX8_stop 77 = .ok (.iload 7, 2) := DdX8_stop_56.2.2.2.2.2.2.2.2.2.2.2.1
theorem dX8_stop_79 : decode cX8_stop 79 = .ok (.ishr, 1) := DdX8_stop_56.2.2.2.2.2.2.2.2.2.2.2.2.1
theorem dX8_stop_80 : decode cX8_stop 80 = .ok (.iconst 1, 1) := DdX8_stop_56.2.2.2.2.2.2.2.2.2.2.2.2.2.1
theorem dX8_stop_81 : decode cX8_stop 81 = .ok (.iand, 1) := DdX8_stop_56.2.2.2.2.2.2.2.2.2.2.2.2.2.2.1
theorem dX8_stop_82 : decode cX8_stop 82 = .ok (.iconst 1, 1) := DdX8_stop_56.2.2.2.2.2.2.2.2.2.2.2.2.2.2.2
theorem DdX8_stop_83 : (decode cX8_stop 83 = .ok (.if_icmp .ne 27, 3)) ∧ (decode cX8_stop 86 = .ok (.aload_n 0, 1)) ∧ (decode cX8_stop 87 = .ok (.getfield 52, 3)) ∧ (decode cX8_stop 90 = .ok (.iload 7, 2)) ∧ (decode cX8_stop 92 = .ok (.iaload, 1)) ∧ (decode cX8_stop 93 = .ok (.iconst 1, 1)) ∧ (decode cX8_stop 94 = .ok (.if_icmp .ne 16, 3)) ∧ (decode cX8_stop 97 = .ok (.aload_n 0, 1)) ∧ (decode cX8_stop 98 = .ok (.getfield 38, 3)) ∧ (decode cX8_stop 101 = .ok (.bipush 20, 2)) ∧ (decode cX8_stop 103 = .ok (.iload 7, 2)) ∧ (decode cX8_stop 105 = .ok (.iadd, 1)) ∧ (decode cX8_stop 106 = .ok (.iaload, 1)) ∧ (decode cX8_stop 107 = .ok (.goto 4, 3)) ∧ (decode cX8_stop 110 = .ok (.iconst 0, 1)) ∧ (decode cX8_stop 111 = .ok (.iadd, 1)) := by decide +kernel
theorem dX8_stop_83 : decode cX8_stop 83 = .ok (.if_icmp .ne 27, 3) := DdX8_stop_83.1
theorem dX8_stop_86 : decode cX8_stop 86 = .ok (.aload_n 0, 1) := DdX8_stop_83.2.1
theorem dX8_stop_87 : decode cX8_stop 87 = .ok (.getfield 52, 3) := DdX8_stop_83.2.2.1
theorem dX8_stop_90 : decode cX8_stop 90 = .ok (.iload 7, 2) := DdX8_stop_83.2.2.2.1
theorem dX8_stop_92 : decode cX8_stop 92 = .ok (.iaload, 1) := DdX8_stop_83.2.2.2.2.1
theorem dX8_stop_93 : decode cX8_stop 93 = .ok (.iconst 1, 1) := DdX8_stop_83.2.2.2.2.2.1
theorem dX8_stop_94 : decode cX8_stop 94 = .ok (.if_icmp .ne 16, 3) := DdX8_stop_83.2.2.2.2.2.2.1
theorem dX8_stop_97 : decode cX8_stop 97 = .ok (.aload_n 0, 1) := DdX8_stop_83.2.2.2.2.2.2.2.1
theorem dX8_stop_98 : decode cX8_stop 98 = .ok (.getfield 38, 3) := DdX8_stop_83.2.2.2.2.2.2.2.2.1
theorem dX8_stop_101 : decode cX8_stop 101 = .ok (.bipush 20, 2) := DdX8_stop_83.2.2.2.2.2.2.2.2.2.1
theorem dX8_stop_103 : decode cX8_stop 103 = .ok (.iload 7, 2) := DdX8_stop_83.2.2.2.2.2.2.2.2.2.2.1
theorem dX8_stop_105 : decode cX8_stop 105 = .ok (.iadd, 1) := DdX8_stop_83.2.2.2.2.2.2.2.2.2.2.2.1
theorem dX8_stop_106 : decode cX8_stop 106 = .ok (.iaload, 1) := DdX8_stop_83.2.2.2.2.2.2.2.2.2.2.2.2.1
theorem dX8_stop_107 : decode cX8_stop 107 = .ok (.goto 4, 3) := DdX8_stop_83.2.2.2.2.2.2.2.2.2.2.2.2.2.1
theorem dX8_stop_110 : decode cX8_stop 110 = .ok (.iconst 0, 1) := DdX8_stop_83.2.2.2.2.2.2.2.2.2.2.2.2.2.2.1
theorem dX8_stop_111 : decode cX8_stop 111 = .ok (.iadd, 1) := DdX8_stop_83.2.2.2.2.2.2.2.2.2.2.2.2.2.2.2
theorem DdX8_stop_112 : (decode cX8_stop 112 = .ok (.istore 5, 2)) ∧ (decode cX8_stop 114 = .ok (.iload 6, 2)) ∧ (decode cX8_stop 116 = .ok (.iload 4, 2)) ∧ (decode cX8_stop 118 = .ok (.iload 7, 2)) ∧ (decode cX8_stop 120 = .ok (.ishr, 1)) ∧ (decode cX8_stop 121 = .ok (.iconst 1, 1)) ∧ (decode cX8_stop 122 = .ok (.iand, 1)) ∧ (decode cX8_stop 123 = .ok (.iconst 1, 1)) ∧ (decode cX8_stop 124 = .ok (.if_icmp .ne 27, 3)) ∧ (decode cX8_stop 127 = .ok (.aload_n 0, 1)) ∧ (decode cX8_stop 128 = .ok (.getfield 52, 3)) ∧ (decode cX8_stop 131 = .ok (.iload 7, 2)) ∧ (decode cX8_stop 133 = .ok (.iaload, 1)) ∧ (decode cX8_stop 134 = .ok (.iconst 2, 1)) ∧ (decode cX8_stop 135 = .ok (.if_icmp .ne 16, 3)) ∧ (decode cX8_stop 138 = .ok (.aload_n 0, 1)) := by decide +kernel
theorem dX8_stop_112 : decode cX8_stop 112 = .ok (.istore 5, 2) := DdX8_stop_112.1
theorem dX8_stop_114 : decode cX8_stop 114 = .ok (.iload 6, 2) := DdX8_stop_112.2.1
theorem dX8_stop_116 : decode cX8_stop 116 = .ok (.iload 4, 2) := DdX8_stop_112.2.2.1
theorem dX8_stop_118 : decode cX8_stop 118 = .ok (.iload 7, 2) := DdX8_stop_112.2.2.2.1
theorem dX8_stop_120 : decode cX8_stop 120 = .ok (.ishr, 1) := DdX8_stop_112.2.2.2.2.1
theorem dX8_stop_121 : decode cX8_stop 121 = .ok (.iconst 1, 1) := DdX8_stop_112.2.2.2.2.2.1
theorem dX8_stop_122 : decode cX8_stop 122 = .ok (.iand, 1) := DdX8_stop_112.2.2.2.2.2.2.1
theorem dX8_stop_123 : decode cX8_stop 123 = .ok (.iconst 1, 1) := DdX8_stop_112.2.2.2.2.2.2.2.1
theorem dX8_stop_124 : decode cX8_stop 124 = .ok (.if_icmp .ne 27, 3) := DdX8_stop_112.2.2.2.2.2.2.2.2.1
theorem dX8_stop_127 : decode cX8_stop 127 = .ok (.aload_n 0, 1) := DdX8_stop_112.2.2.2.2.2.2.2.2.2.1
theorem dX8_stop_128 : decode cX8_stop 128 = .ok (.getfield 52, 3) := DdX8_stop_112.2.2.2.2.2.2.2.2.2.2.1
theorem dX8_stop_131 : decode cX8_stop 131 = .ok (.iload 7, 2) := DdX8_stop_112.2.2.2.2.2.2.2.2.2.2.2.1
theorem dX8_stop_133 : decode cX8_stop 133 = .ok (.iaload, 1) := DdX8_stop_112.2.2.2.2.2.2.2.2.2.2.2.2.1
theorem dX8_stop_134 : decode cX8_stop 134 = .ok (.iconst 2, 1) := DdX8_stop_112.2.2.2.2.2.2.2.2.2.2.2.2.2.1
theorem dX8_stop_135 : decode cX8_stop 135 = .ok (.if_icmp .ne 16, 3) := DdX8_stop_112.2.2.2.2.2.2.2.2.2.2.2.2.2.2.1
theorem dX8_stop_138 : decode cX8_stop 138 = .ok (.aload_n 0, 1) := DdX8_stop_112.2.2.2.2.2.2.2.2.2.2.2.2.2.2.2
theorem DdX8_stop_139 : (decode cX8_stop 139 = .ok (.getfield 38, 3)) ∧ (decode cX8_stop 142 = .ok (.bipush 20, 2)) ∧ (decode cX8_stop 144 = .ok (.iload 7, 2)) ∧ (decode cX8_stop 146 = .ok (.iadd, 1)) ∧ (decode cX8_stop 147 = .ok (.iaload, 1)) ∧ (decode cX8_stop 148 = .ok (.goto 4, 3)) ∧ (decode cX8_stop 151 = .ok (.iconst 0, 1)) ∧ (decode cX8_stop 152 = .ok (.iadd, 1)) ∧ (decode cX8_stop 153 = .ok (.istore 6, 2)) ∧ (decode cX8_stop 155 = .ok (.iinc 7 1, 3)) ∧ (decode cX8_stop 158 = .ok (.goto (-94), 3)) ∧ (decode cX8_stop 161 = .ok (.iload_n 3, 1)) ∧ (decode cX8_stop 162 = .ok (.bipush (-9), 2)) ∧ (decode cX8_stop 164 = .ok (.if_icmp .eq 15, 3)) ∧ (decode cX8_stop 167 = .ok (.iload 4, 2)) ∧ (decode cX8_stop 169 = .ok (.invokestatic 272, 3)) := by decide +kernel
theorem dX8_stop_139 : decode cX8_stop 139 = .ok (.getfield 38, 3) := DdX8_stop_139.1
theorem dX8_stop_142 : decode cX8_stop 142 = .ok (.bipush 20, 2) := DdX8_stop_139.2.1
theorem dX8_stop_144 : decode cX8_stop 144 = .ok (.iload 7, 2) := DdX8_stop_139.2.2.1
theorem dX8_stop_146 : decode cX8_stop 146 = .ok (.iadd, 1) := DdX8_stop_139.2.2.2.1
theorem dX8_stop_147 : decode cX8_stop 147 = .ok (.iaload, 1) := DdX8_stop_139.2.2.2.2.1
theorem dX8_stop_148 : decode cX8_stop 148 = .ok (.goto 4, 3) := DdX8_stop_139.2.2.2.2.2.1
theorem dX8_stop_151 : decode cX8_stop 151 = .ok (.iconst 0, 1) := DdX8_stop_139.2.2.2.2.2.2.1
theorem dX8_stop_152 : decode cX8_stop 152 = .ok (.iadd, 1) := DdX8_stop_139.2.2.2.2.2.2.2.1
theorem dX8_stop_153 : decode cX8_stop 153 = .ok (.istore 6, 2) := DdX8_stop_139.2.2.2.2.2.2.2.2.1
theorem dX8_stop_155 : decode cX8_stop 155 = .ok (.iinc 7 1, 3) := DdX8_stop_139.2.2.2.2.2.2.2.2.2.1
theorem dX8_stop_158 : decode cX8_stop 158 = .ok (.goto (-94), 3) := DdX8_stop_139.2.2.2.2.2.2.2.2.2.2.1
theorem dX8_stop_161 : decode cX8_stop 161 = .ok (.iload_n 3, 1) := DdX8_stop_139.2.2.2.2.2.2.2.2.2.2.2.1
theorem dX8_stop_162 : decode cX8_stop 162 = .ok (.bipush (-9), 2) := DdX8_stop_139.2.2.2.2.2.2.2.2.2.2.2.2.1
theorem dX8_stop_164 : decode cX8_stop 164 = .ok (.if_icmp .eq 15, 3) := DdX8_stop_139.2.2.2.2.2.2.2.2.2.2.2.2.2.1
theorem dX8_stop_167 : decode cX8_stop 167 = .ok (.iload 4, 2) := DdX8_stop_139.2.2.2.2.2.2.2.2.2.2.2.2.2.2.1
theorem dX8_stop_169 : decode cX8_stop 169 = .ok (.invokestatic 272, 3) := DdX8_stop_139.2.2.2.2.2.2.2.2.2.2.2.2.2.2.2
theorem DdX8_stop_172 : (decode cX8_stop 172 = .ok (.iload_n 3, 1)) ∧ (decode cX8_stop 173 = .ok (.invokestatic 272, 3)) ∧ (decode cX8_stop 176 = .ok (.if_icmp .ge 7, 3)) ∧ (decode cX8_stop 179 = .ok (.iconst 1, 1)) ∧ (decode cX8_stop 180 = .ok (.goto 4, 3)) ∧ (decode cX8_stop 183 = .ok (.iconst 0, 1)) ∧ (decode cX8_stop 184 = .ok (.istore 7, 2)) ∧ (decode cX8_stop 186 = .ok (.iload 7, 2)) ∧ (decode cX8_stop 188 = .ok (.ifCond .eq 23, 3)) ∧ (decode cX8_stop 191 = .ok (.aload_n 0, 1)) ∧ (decode cX8_stop 192 = .ok (.iload_n 1, 1)) ∧ (decode cX8_stop 193 = .ok (.iload 5, 2)) ∧ (decode cX8_stop 195 = .ok (.iload 6, 2)) ∧ (decode cX8_stop 197 = .ok (.invokevirtual 266, 3)) ∧ (decode cX8_stop 200 = .ok (.sipush 9999, 3)) ∧ (decode cX8_stop 203 = .ok (.if_icmp .ne 8, 3)) := by decide +kernel
theorem dX8_stop_172 : decode cX8_stop 172 = .ok (.iload_n 3, 1) := DdX8_stop_172.1
theorem dX8_stop_173 : decode cX8_stop 173 = .ok (.invokestatic 272, 3) := DdX8_stop_172.2.1
theorem dX8_stop_176 : decode cX8_stop 176 = .ok (.if_icmp .ge 7, 3) := DdX8_stop_172.2.2.1
theorem dX8_stop_179 : decode cX8_stop 179 = .ok (.iconst 1, 1) := DdX8_stop_172.2.2.2.1
theorem dX8_stop_180 : decode cX8_stop 180 = .ok (.goto 4, 3) := DdX8_stop_172.2.2.2.2.1
theorem dX8_stop_183 : decode cX8_stop 183 = .ok (.iconst 0, 1) := DdX8_stop_172.2.2.2.2.2.1
theorem dX8_stop_184 : decode cX8_stop 184 = .ok (.istore 7, 2) := DdX8_stop_172.2.2.2.2.2.2.1
theorem dX8_stop_186 : decode cX8_stop 186 = .ok (.iload 7, 2) := DdX8_stop_172.2.2.2.2.2.2.2.1
theorem dX8_stop_188 : decode cX8_stop 188 = .ok (.ifCond .eq 23, 3) := DdX8_stop_172.2.2.2.2.2.2.2.2.1
theorem dX8_stop_191 : decode cX8_stop 191 = .ok (.aload_n 0, 1) := DdX8_stop_172.2.2.2.2.2.2.2.2.2.1
theorem dX8_stop_192 : decode cX8_stop 192 = .ok (.iload_n 1, 1) := DdX8_stop_172.2.2.2.2.2.2.2.2.2.2.1
theorem dX8_stop_193 : decode cX8_stop 193 = .ok (.iload 5, 2) := DdX8_stop_172.2.2.2.2.2.2.2.2.2.2.2.1
theorem dX8_stop_195 : decode cX8_stop 195 = .ok (.iload 6, 2) := DdX8_stop_172.2.2.2.2.2.2.2.2.2.2.2.2.1
theorem dX8_stop_197 : decode cX8_stop 197 = .ok (.invokevirtual 266, 3) := DdX8_stop_172.2.2.2.2.2.2.2.2.2.2.2.2.2.1
theorem dX8_stop_200 : decode cX8_stop 200 = .ok (.sipush 9999, 3) := DdX8_stop_172.2.2.2.2.2.2.2.2.2.2.2.2.2.2.1
theorem dX8_stop_203 : decode cX8_stop 203 = .ok (.if_icmp .ne 8, 3) := DdX8_stop_172.2.2.2.2.2.2.2.2.2.2.2.2.2.2.2
theorem DdX8_stop_206 : (decode cX8_stop 206 = .ok (.iload 4, 2)) ∧ (decode cX8_stop 208 = .ok (.goto 4, 3)) ∧ (decode cX8_stop 211 = .ok (.iload_n 3, 1)) ∧ (decode cX8_stop 212 = .ok (.istore_n 3, 1)) ∧ (decode cX8_stop 213 = .ok (.iinc 4 1, 3)) ∧ (decode cX8_stop 216 = .ok (.goto (-172), 3)) ∧ (decode cX8_stop 219 = .ok (.iload_n 3, 1)) ∧ (decode cX8_stop 220 = .ok (.bipush (-9), 2)) ∧ (decode cX8_stop 222 = .ok (.if_icmp .eq 8, 3)) ∧ (decode cX8_stop 225 = .ok (.iload_n 2, 1)) ∧ (decode cX8_stop 226 = .ok (.iconst 1, 1)) ∧ (decode cX8_stop 227 = .ok (.if_icmp .ne 7, 3)) ∧ (decode cX8_stop 230 = .ok (.iload_n 3, 1)) ∧ (decode cX8_stop 231 = .ok (.goto 7, 3)) ∧ (decode cX8_stop 234 = .ok (.iload_n 3, 1)) ∧ (decode cX8_stop 235 = .ok (.invokestatic 272, 3)) := by decide +kernel
theorem dX8_stop_206 : decode cX8_stop 206 = .ok (.iload 4, 2) := DdX8_stop_206.1
theorem dX8_stop_208 : decode cX8_stop 208 = .ok (.goto 4, 3) := DdX8_stop_206.2.1
theorem dX8_stop_211 : decode cX8_stop 211 = .ok (.iload_n 3, 1) := DdX8_stop_206.2.2.1
theorem dX8_stop_212 : decode cX8_stop 212 = .ok (.istore_n 3, 1) := DdX8_stop_206.2.2.2.1
theorem dX8_stop_213 : decode cX8_stop 213 = .ok (.iinc 4 1, 3) := DdX8_stop_206.2.2.2.2.1
theorem dX8_stop_216 : decode cX8_stop 216 = .ok (.goto (-172), 3) := DdX8_stop_206.2.2.2.2.2.1
theorem dX8_stop_219 : decode cX8_stop 219 = .ok (.iload_n 3, 1) := DdX8_stop_206.2.2.2.2.2.2.1
theorem dX8_stop_220 : decode cX8_stop 220 = .ok (.bipush (-9), 2) := DdX8_stop_206.2.2.2.2.2.2.2.1
theorem dX8_stop_222 : decode cX8_stop 222 = .ok (.if_icmp .eq 8, 3) := DdX8_stop_206.2.2.2.2.2.2.2.2.1
theorem dX8_stop_225 : decode cX8_stop 225 = .ok (.iload_n 2, 1) := DdX8_stop_206.2.2.2.2.2.2.2.2.2.1
theorem dX8_stop_226 : decode cX8_stop 226 = .ok (.iconst 1, 1) := DdX8_stop_206.2.2.2.2.2.2.2.2.2.2.1
theorem dX8_stop_227 : decode cX8_stop 227 = .ok (.if_icmp .ne 7, 3) := DdX8_stop_206.2.2.2.2.2.2.2.2.2.2.2.1
theorem dX8_stop_230 : decode cX8_stop 230 = .ok (.iload_n 3, 1) := DdX8_stop_206.2.2.2.2.2.2.2.2.2.2.2.2.1
theorem dX8_stop_231 : decode cX8_stop 231 = .ok (.goto 7, 3) := DdX8_stop_206.2.2.2.2.2.2.2.2.2.2.2.2.2.1
theorem dX8_stop_234 : decode cX8_stop 234 = .ok (.iload_n 3, 1) := DdX8_stop_206.2.2.2.2.2.2.2.2.2.2.2.2.2.2.1
theorem dX8_stop_235 : decode cX8_stop 235 = .ok (.invokestatic 272, 3) := DdX8_stop_206.2.2.2.2.2.2.2.2.2.2.2.2.2.2.2
theorem dX8_stop_238 : decode cX8_stop 238 = .ok (.ireturn, 1) := by decide +kernel
theorem DdX8_group_0 : (decode cX8_group 0 = .ok (.aload_n 0, 1)) ∧ (decode cX8_group 1 = .ok (.getfield 275, 3)) ∧ (decode cX8_group 4 = .ok (.bipush 9, 2)) ∧ (decode cX8_group 6 = .ok (.if_icmp .ne 6, 3)) ∧ (decode cX8_group 9 = .ok (.bipush (-3), 2)) ∧ (decode cX8_group 11 = .ok (.ireturn, 1)) ∧ (decode cX8_group 12 = .ok (.iconst 0, 1)) ∧ (decode cX8_group 13 = .ok (.istore_n 1, 1)) ∧ (decode cX8_group 14 = .ok (.iload_n 1, 1)) ∧ (decode cX8_group 15 = .ok (.bipush 6, 2)) ∧ (decode cX8_group 17 = .ok (.if_icmp .ge 24, 3)) ∧ (decode cX8_group 20 = .ok (.aload_n 0, 1)) ∧ (decode cX8_group 21 = .ok (.getfield 91, 3)) ∧ (decode cX8_group 24 = .ok (.bipush 6, 2)) ∧ (decode cX8_group 26 = .ok (.aload_n 0, 1)) ∧ (decode cX8_group 27 = .ok (.getfield 275, 3)) := by decide +kernel
theorem dX8_group_0 : decode cX8_group 0 = .ok (.aload_n 0, 1) := DdX8_group_0.1
theorem dX8_group_1 : decode cX8_group 1 = .ok (.getfield 275, 3) := DdX8_group_0.2.1
theorem dX8_group_4 : decode cX8_group 4 = .ok (.bipush 9, 2) := DdX8_group_0.2.2.1
theorem dX8_group_6 : decode cX8_group 6 = .ok (.if_icmp .ne 6, 3) := DdX8_group_0.2.2.2.1
theorem dX8_group_9 : decode cX8_group 9 = .ok (.bipush (-3), 2) := DdX8_group_0.2.2.2.2.1
theorem dX8_group_11 : decode cX8_group 11 = .ok (.ireturn, 1) := DdX8_group_0.2.2.2.2.2.1
theorem dX8_group_12 : decode cX8_group 12 = .ok (.iconst 0, 1) := DdX8_group_0.2.2.2.2.2.2.1
theorem dX8_group_13 : decode cX8_group 13 = .ok (.istore_n 1, 1) := DdX8_group_0.2.2.2.2.2.2.2.1
theorem dX8_group_14 : decode cX8_group 14 = .ok (.iload_n 1, 1) := DdX8_group_0.2.2.2.2.2.2.2.2.1
theorem dX8_group_15 : decode cX8_group 15 = .ok (.bipush 6, 2) := DdX8_group_0.2.2.2.2.2.2.2.2.2.1
theorem dX8_group_17 : decode cX8_group 17 = .ok (.if_icmp .ge 24, 3) := DdX8_group_0.2.2.2.2.2.2.2.2.2.2.1
theorem dX8_group_20 : decode cX8_group 20 = .ok (.aload_n 0, 1) := DdX8_group_0.2.2.2.2.2.2.2.2.2.2.2.1
theorem dX8_group_21 : decode cX8_group 21 = .ok (.getfield 91, 3) := DdX8_group_0.2.2.2.2.2.2.2.2.2.2.2.2.1
theorem dX8_group_24 : decode cX8_group 24 = .ok (.bipush 6, 2) := DdX8_group_0.2.2.2.2.2.2.2.2.2.2.2.2.2.1
theorem dX8_group_26 : decode cX8_group 26 = .ok (.aload_n 0, 1) := DdX8_group_0.2.2.2.2.2.2.2.2.2.2.2.2.2.2.1
theorem dX8_group_27 : decode cX8_group 27 = .ok (.getfield 275, 3) := DdX8_group_0.2.2.2.2.2.2.2.2.2.2.2.2.2.2.2
theorem DdX8_group_30 : (decode cX8_group 30 = .ok (.imul, 1)) ∧ (decode cX8_group 31 = .ok (.iload_n 1, 1)) ∧ (decode cX8_group 32 = .ok (.iadd, 1)) ∧ (decode cX8_group 33 = .ok (.iconst 0, 1)) ∧ (decode cX8_group 34 = .ok (.iastore, 1)) ∧ (decode cX8_group 35 = .ok (.iinc 1 1, 3)) ∧ (decode cX8_group 38 = .ok (.goto (-24), 3)) ∧ (decode cX8_group 41 = .ok (.aload_n 0, 1)) ∧ (decode cX8_group 42 = .ok (.dup, 1)) ∧ (decode cX8_group 43 = .ok (.getfield 275, 3)) ∧ (decode cX8_group 46 = .ok (.iconst 1, 1)) ∧ (decode cX8_group 47 = .ok (.iadd, 1)) ∧ (decode cX8_group 48 = .ok (.putfield 275, 3)) ∧ (decode cX8_group 51 = .ok (.aload_n 0, 1)) ∧ (decode cX8_group 52 = .ok (.getfield 275, 3)) ∧ (decode cX8_group 55 = .ok (.iconst 1, 1)) := by decide +kernel
theorem dX8_group_30 : decode cX8_group 30 = .ok (.imul, 1) := DdX8_group_30.1
theorem dX8_group_31 : decode cX8_group 31 = .ok (.iload_n 1, 1) := DdX8_group_30.2.1
theorem dX8_group_32 : decode cX8_group 32 = .ok (.iadd, 1) := DdX8_group_30.2.2.1
theorem dX8_group_33 : decode cX8_group 33 = .ok (.iconst 0, 1) := DdX8_group_30.2.2.2.1
theorem dX8_group_34 : decode cX8_group 34 = .ok (.iastore, 1) := DdX8_group_30.2.2.2.2.1
theorem dX8_group_35 : decode cX8_group 35 = .ok (.iinc 1 1, 3) := DdX8_group_30.2.2.2.2.2.1
theorem dX8_group_38 : decode cX8_group 38 = .ok (.goto (-24), 3) := DdX8_group_30.2.2.2.2.2.2.1
theorem dX8_group_41 : decode cX8_group 41 = .ok (.aload_n 0, 1) := DdX8_group_30.2.2.2.2.2.2.2.1
theorem dX8_group_42 : decode cX8_group 42 = .ok (.dup, 1) := DdX8_group_30.2.2.2.2.2.2.2.2.1
theorem dX8_group_43 : decode cX8_group 43 = .ok (.getfield 275, 3) := DdX8_group_30.2.2.2.2.2.2.2.2.2.1
theorem dX8_group_46 : decode cX8_group 46 = .ok (.iconst 1, 1) := DdX8_group_30.2.2.2.2.2.2.2.2.2.2.1
theorem dX8_group_47 : decode cX8_group 47 = .ok (.iadd, 1) := DdX8_group_30.2.2.2.2.2.2.2.2.2.2.2.1
theorem dX8_group_48 : decode cX8_group 48 = .ok (.putfield 275, 3) := DdX8_group_30.2.2.2.2.2.2.2.2.2.2.2.2.1
theorem dX8_group_51 : decode cX8_group 51 = .ok (.aload_n 0, 1) := DdX8_group_30.2.2.2.2.2.2.2.2.2.2.2.2.2.1
theorem dX8_group_52 : decode cX8_group 52 = .ok (.getfield 275, 3) := DdX8_group_30.2.2.2.2.2.2.2.2.2.2.2.2.2.2.1
theorem dX8_group_55 : decode cX8_group 55 = .ok (.iconst 1, 1) := DdX8_group_30.2.2.2.2.2.2.2.2.2.2.2.2.2.2.2
theorem DdX8_group_56 : (decode cX8_group 56 = .ok (.isub, 1)) ∧ (decode cX8_group 57 = .ok (.ireturn, 1)) := by decide +kernel
theorem dX8_group_56 : decode cX8_group 56 = .ok (.isub, 1) := DdX8_group_56.1
theorem dX8_group_57 : decode cX8_group 57 = .ok (.ireturn, 1) := DdX8_group_56.2
theorem DdX8_wish_0 : (decode cX8_wish 0 = .ok (.iload_n 1, 1)) ∧ (decode cX8_wish 1 = .ok (.iconst 0, 1)) ∧ (decode cX8_wish 2 = .ok (.aload_n 0, 1)) ∧ (decode cX8_wish 3 = .ok (.getfield 275, 3)) ∧ (decode cX8_wish 6 = .ok (.iconst 1, 1)) ∧ (decode cX8_wish 7 = .ok (.isub, 1)) ∧ (decode cX8_wish 8 = .ok (.invokestatic 106, 3)) ∧ (decode cX8_wish 11 = .ok (.ifCond .eq 23, 3)) ∧ (decode cX8_wish 14 = .ok (.iload_n 2, 1)) ∧ (decode cX8_wish 15 = .ok (.iconst 0, 1)) ∧ (decode cX8_wish 16 = .ok (.iconst 5, 1)) ∧ (decode cX8_wish 17 = .ok (.invokestatic 106, 3)) ∧ (decode cX8_wish 20 = .ok (.ifCond .eq 14, 3)) ∧ (decode cX8_wish 23 = .ok (.iload_n 3, 1)) ∧ (decode cX8_wish 24 = .ok (.bipush (-9), 2)) ∧ (decode cX8_wish 26 = .ok (.bipush 9, 2)) := by decide +kernel
theorem dX8_wish_0 : decode cX8_wish 0 = .ok (.iload_n 1, 1) := DdX8_wish_0.1
theorem dX8_wish_1 : decode cX8_wish 1 = .ok (.iconst 0, 1) := DdX8_wish_0.2.1
theorem dX8_wish_2 : decode cX8_wish 2 = .ok (.aload_n 0, 1) := DdX8_wish_0.2.2.1
theorem dX8_wish_3 : decode cX8_wish 3 = .ok (.getfield 275, 3) := DdX8_wish_0.2.2.2.1
theorem dX8_wish_6 : decode cX8_wish 6 = .ok (.iconst 1, 1) := DdX8_wish_0.2.2.2.2.1
theorem dX8_wish_7 : decode cX8_wish 7 = .ok (.isub, 1) := DdX8_wish_0.2.2.2.2.2.1
theorem dX8_wish_8 : decode cX8_wish 8 = .ok (.invokestatic 106, 3) := DdX8_wish_0.2.2.2.2.2.2.1
theorem dX8_wish_11 : decode cX8_wish 11 = .ok (.ifCond .eq 23, 3) := DdX8_wish_0.2.2.2.2.2.2.2.1
theorem dX8_wish_14 : decode cX8_wish 14 = .ok (.iload_n 2, 1) := DdX8_wish_0.2.2.2.2.2.2.2.2.1
theorem dX8_wish_15 : decode cX8_wish 15 = .ok (.iconst 0, 1) := DdX8_wish_0.2.2.2.2.2.2.2.2.2.1
theorem dX8_wish_16 : decode cX8_wish 16 = .ok (.iconst 5, 1) := DdX8_wish_0.2.2.2.2.2.2.2.2.2.2.1
theorem dX8_wish_17 : decode cX8_wish 17 = .ok (.invokestatic 106, 3) := DdX8_wish_0.2.2.2.2.2.2.2.2.2.2.2.1
theorem dX8_wish_20 : decode cX8_wish 20 = .ok (.ifCond .eq 14, 3) := DdX8_wish_0.2.2.2.2.2.2.2.2.2.2.2.2.1
theorem dX8_wish_23 : decode cX8_wish 23 = .ok (.iload_n 3, 1) := DdX8_wish_0.2.2.2.2.2.2.2.2.2.2.2.2.2.1
theorem dX8_wish_24 : decode cX8_wish 24 = .ok (.bipush (-9), 2) := DdX8_wish_0.2.2.2.2.2.2.2.2.2.2.2.2.2.2.1
theorem dX8_wish_26 : decode cX8_wish 26 = .ok (.bipush 9, 2) := DdX8_wish_0.2.2.2.2.2.2.2.2.2.2.2.2.2.2.2
theorem DdX8_wish_28 : (decode cX8_wish 28 = .ok (.invokestatic 106, 3)) ∧ (decode cX8_wish 31 = .ok (.ifCond .ne 6, 3)) ∧ (decode cX8_wish 34 = .ok (.bipush (-100), 2)) ∧ (decode cX8_wish 36 = .ok (.ireturn, 1)) ∧ (decode cX8_wish 37 = .ok (.aload_n 0, 1)) ∧ (decode cX8_wish 38 = .ok (.getfield 91, 3)) ∧ (decode cX8_wish 41 = .ok (.bipush 6, 2)) ∧ (decode cX8_wish 43 = .ok (.iload_n 1, 1)) ∧ (decode cX8_wish 44 = .ok (.imul, 1)) ∧ (decode cX8_wish 45 = .ok (.iload_n 2, 1)) ∧ (decode cX8_wish 46 = .ok (.iadd, 1)) ∧ (decode cX8_wish 47 = .ok (.iaload, 1)) ∧ (decode cX8_wish 48 = .ok (.istore 4, 2)) ∧ (decode cX8_wish 50 = .ok (.aload_n 0, 1)) ∧ (decode cX8_wish 51 = .ok (.getfield 91, 3)) ∧ (decode cX8_wish 54 = .ok (.bipush 6, 2)) := by decide +kernel
theorem dX8_wish_28 : decode cX8_wish 28 = .ok (.invokestatic 106, 3) := DdX8_wish_28.1
theorem dX8_wish_31 : decode cX8_wish 31 = .ok (.ifCond .ne 6, 3) := DdX8_wish_28.2.1
theorem dX8_wish_34 : decode cX8_wish 34 = .ok (.bipush (-100), 2) := DdX8_wish_28.2.2.1
theorem dX8_wish_36 : decode cX8_wish 36 = .ok (.ireturn, 1) := DdX8_wish_28.2.2.2.1
theorem dX8_wish_37 : decode cX8_wish 37 = .ok (.aload_n 0, 1) := DdX8_wish_28.2.2.2.2.1
theorem dX8_wish_38 : decode cX8_wish 38 = .ok (.getfield 91, 3) := DdX8_wish_28.2.2.2.2.2.1
theorem dX8_wish_41 : decode cX8_wish 41 = .ok (.bipush 6, 2) := DdX8_wish_28.2.2.2.2.2.2.1
theorem dX8_wish_43 : decode cX8_wish 43 = .ok (.iload_n 1, 1) := DdX8_wish_28.2.2.2.2.2.2.2.1
theorem dX8_wish_44 : decode cX8_wish 44 = .ok (.imul, 1) := DdX8_wish_28.2.2.2.2.2.2.2.2.1
theorem dX8_wish_45 : decode cX8_wish 45 = .ok (.iload_n 2, 1) := DdX8_wish_28.2.2.2.2.2.2.2.2.2.1
theorem dX8_wish_46 : decode cX8_wish 46 = .ok (.iadd, 1) := DdX8_wish_28.2.2.2.2.2.2.2.2.2.2.1
theorem dX8_wish_47 : decode cX8_wish 47 = .ok (.iaload, 1) := DdX8_wish_28.2.2.2.2.2.2.2.2.2.2.2.1
theorem dX8_wish_48 : decode cX8_wish 48 = .ok (.istore 4, 2) := DdX8_wish_28.2.2.2.2.2.2.2.2.2.2.2.2.1
theorem dX8_wish_50 : decode cX8_wish 50 = .ok (.aload_n 0, 1) := DdX8_wish_28.2.2.2.2.2.2.2.2.2.2.2.2.2.1
theorem dX8_wish_51 : decode cX8_wish 51 = .ok (.getfield 91, 3) := DdX8_wish_28.2.2.2.2.2.2.2.2.2.2.2.2.2.2.1
theorem dX8_wish_54 : decode cX8_wish 54 = .ok (.bipush 6, 2) := DdX8_wish_28.2.2.2.2.2.2.2.2.2.2.2.2.2.2.2
theorem DdX8_wish_56 : (decode cX8_wish 56 = .ok (.iload_n 1, 1)) ∧ (decode cX8_wish 57 = .ok (.imul, 1)) ∧ (decode cX8_wish 58 = .ok (.iload_n 2, 1)) ∧ (decode cX8_wish 59 = .ok (.iadd, 1)) ∧ (decode cX8_wish 60 = .ok (.iload_n 3, 1)) ∧ (decode cX8_wish 61 = .ok (.iastore, 1)) ∧ (decode cX8_wish 62 = .ok (.iload 4, 2)) ∧ (decode cX8_wish 64 = .ok (.ireturn, 1)) := by decide +kernel
theorem dX8_wish_56 : decode cX8_wish 56 = .ok (.iload_n 1, 1) := DdX8_wish_56.1
theorem dX8_wish_57 : decode cX8_wish 57 = .ok (.imul, 1) := DdX8_wish_56.2.1
theorem dX8_wish_58 : decode cX8_wish 58 = .ok (.iload_n 2, 1) := DdX8_wish_56.2.2.1
theorem dX8_wish_59 : decode cX8_wish 59 = .ok (.iadd, 1) := DdX8_wish_56.2.2.2.1
theorem dX8_wish_60 : decode cX8_wish 60 = .ok (.iload_n 3, 1) := DdX8_wish_56.2.2.2.2.1
theorem dX8_wish_61 : decode cX8_wish 61 = .ok (.iastore, 1) := DdX8_wish_56.2.2.2.2.2.1
theorem dX8_wish_62 : decode cX8_wish 62 = .ok (.iload 4, 2) := DdX8_wish_56.2.2.2.2.2.2.1
theorem dX8_wish_64 : decode cX8_wish 64 = .ok (.ireturn, 1) := DdX8_wish_56.2.2.2.2.2.2.2
theorem DdX8_doesPass_0 : (decode cX8_doesPass 0 = .ok (.iconst 0, 1)) ∧ (decode cX8_doesPass 1 = .ok (.istore_n 2, 1)) ∧ (decode cX8_doesPass 2 = .ok (.iconst 0, 1)) ∧ (decode cX8_doesPass 3 = .ok (.istore_n 3, 1)) ∧ (decode cX8_doesPass 4 = .ok (.iload_n 3, 1)) ∧ (decode cX8_doesPass 5 = .ok (.aload_n 0, 1)) ∧ (decode cX8_doesPass 6 = .ok (.getfield 275, 3)) ∧ (decode cX8_doesPass 9 = .ok (.if_icmp .ge 81, 3)) ∧ (decode cX8_doesPass 12 = .ok (.iconst 0, 1)) ∧ (decode cX8_doesPass 13 = .ok (.istore 4, 2)) ∧ (decode cX8_doesPass 15 = .ok (.iconst 0, 1)) ∧ (decode cX8_doesPass 16 = .ok (.istore 5, 2)) ∧ (decode cX8_doesPass 18 = .ok (.iload 5, 2)) ∧ (decode cX8_doesPass 20 = .ok (.bipush 6, 2)) ∧ (decode cX8_doesPass 22 = .ok (.if_icmp .ge 40, 3)) ∧ (decode cX8_doesPass 25 = .ok (.iload 4, 2)) := by decide +kernel
theorem dX8_doesPass_0 : decode cX8_doesPass 0 = .ok (.iconst 0, 1) := DdX8_doesPass_0.1
theorem dX8_doesPass_1 : decode cX8_doesPass 1 = .ok (.istore_n 2, 1) := DdX8_doesPass_0.2.1
theorem dX8_doesPass_2 : decode cX8_doesPass 2 = .ok (.iconst 0, 1) := DdX8_doesPass_0.2.2.1
theorem dX8_doesPass_3 : decode cX8_doesPass 3 = .ok (.istore_n 3, 1) := DdX8_doesPass_0.2.2.2.1
theorem dX8_doesPass_4 : decode cX8_doesPass 4 = .ok (.iload_n 3, 1) := DdX8_doesPass_0.2.2.2.2.1
theorem dX8_doesPass_5 : decode cX8_doesPass 5 = .ok (.aload_n 0, 1) := DdX8_doesPass_0.2.2.2.2.2.1
theorem dX8_doesPass_6 : decode cX8_doesPass 6 = .ok (.getfield 275, 3) := DdX8_doesPass_0.2.2.2.2.2.2.1
theorem dX8_doesPass_9 : decode cX8_doesPass 9 = .ok (.if_icmp .ge 81, 3) := DdX8_doesPass_0.2.2.2.2.2.2.2.1
theorem dX8_doesPass_12 : decode cX8_doesPass 12 = .ok (.iconst 0, 1) := DdX8_doesPass_0.2.2.2.2.2.2.2.2.1
theorem dX8_doesPass_13 : decode cX8_doesPass 13 = .ok (.istore 4, 2) := DdX8_doesPass_0.2.2.2.2.2.2.2.2.2.1
theorem dX8_doesPass_15 : decode cX8_doesPass 15 = .ok (.iconst 0, 1) := DdX8_doesPass_0.2.2.2.2.2.2.2.2.2.2.1
theorem dX8_doesPass_16 : decode cX8_doesPass 16 = .ok (.istore 5, 2) := DdX8_doesPass_0.2.2.2.2.2.2.2.2.2.2.2.1
theorem dX8_doesPass_18 : decode cX8_doesPass 18 = .ok (.iload 5, 2) := DdX8_doesPass_0.2.2.2.2.2.2.2.2.2.2.2.2.1
theorem dX8_doesPass_20 : decode cX8_doesPass 20 = .ok (.bipush 6, 2) := DdX8_doesPass_0.2.2.2.2.2.2.2.2.2.2.2.2.2.1
theorem dX8_doesPass_22 : decode cX8_doesPass 22 = .ok (.if_icmp .ge 40, 3) := DdX8_doesPass_0.2.2.2.2.2.2.2.2.2.2.2.2.2.2.1
theorem dX8_doesPass_25 : decode cX8_doesPass 25 = .ok (.iload 4, 2) := DdX8_doesPass_0.2.2.2.2.2.2.2.2.2.2.2.2.2.2.2
theorem DdX8_doesPass_27 : (decode cX8_doesPass 27 = .ok (.iload_n 1, 1)) ∧ (decode cX8_doesPass 28 = .ok (.iload 5, 2)) ∧ (decode cX8_doesPass 30 = .ok (.ishr, 1)) ∧ (decode cX8_doesPass 31 = .ok (.iconst 1, 1)) ∧ (decode cX8_doesPass 32 = .ok (.iand, 1)) ∧ (decode cX8_doesPass 33 = .ok (.iconst 1, 1)) ∧ (decode cX8_doesPass 34 = .ok (.if_icmp .ne 18, 3)) ∧ (decode cX8_doesPass 37 = .ok (.aload_n 0, 1)) ∧ (decode cX8_doesPass 38 = .ok (.getfield 91, 3)) ∧ (decode cX8_doesPass 41 = .ok (.bipush 6, 2)) ∧ (decode cX8_doesPass 43 = .ok (.iload_n 3, 1)) ∧ (decode cX8_doesPass 44 = .ok (.imul, 1)) ∧ (decode cX8_doesPass 45 = .ok (.iload 5, 2)) ∧ (decode cX8_doesPass 47 = .ok (.iadd, 1)) ∧ (decode cX8_doesPass 48 = .ok (.iaload, 1)) ∧ (decode cX8_doesPass 49 = .ok (.goto 4, 3)) := by decide +kernel
theorem dX8_doesPass_27 : decode cX8_doesPass 27 = .ok (.iload_n 1, 1) := DdX8_doesPass_27.1
theorem dX8_doesPass_28 : decode cX8_doesPass 28 = .ok (.iload 5, 2) := DdX8_doesPass_27.2.1
theorem dX8_doesPass_30 : decode cX8_doesPass 30 = .ok (.ishr, 1) := DdX8_doesPass_27.2.2.1
theorem dX8_doesPass_31 : decode cX8_doesPass 31 = .ok (.iconst 1, 1) := DdX8_doesPass_27.2.2.2.1
theorem dX8_doesPass_32 : decode cX8_doesPass 32 = .ok (.iand, 1) := DdX8_doesPass_27.2.2.2.2.1
theorem dX8_doesPass_33 : decode cX8_doesPass 33 = .ok (.iconst 1, 1) := DdX8_doesPass_27.2.2.2.2.2.1
theorem dX8_doesPass_34 : decode cX8_doesPass 34 = .ok (.if_icmp .ne 18, 3) := DdX8_doesPass_27.2.2.2.2.2.2.1
theorem dX8_doesPass_37 : decode cX8_doesPass 37 = .ok (.aload_n 0, 1) := DdX8_doesPass_27.2.2.2.2.2.2.2.1
theorem dX8_doesPass_38 : decode cX8_doesPass 38 = .ok (.getfield 91, 3) := DdX8_doesPass_27.2.2.2.2.2.2.2.2.1
theorem dX8_doesPass_41 : decode cX8_doesPass 41 = .ok (.bipush 6, 2) := DdX8_doesPass_27.2.2.2.2.2.2.2.2.2.1
theorem dX8_doesPass_43 : decode cX8_doesPass 43 = .ok (.iload_n 3, 1) := DdX8_doesPass_27.2.2.2.2.2.2.2.2.2.2.1
theorem dX8_doesPass_44 : decode cX8_doesPass 44 = .ok (.imul, 1) := DdX8_doesPass_27.2.2.2.2.2.2.2.2.2.2.2.1
theorem dX8_doesPass_45 : decode cX8_doesPass 45 = .ok (.iload 5, 2) := DdX8_doesPass_27.2.2.2.2.2.2.2.2.2.2.2.2.1
theorem dX8_doesPass_47 : decode cX8_doesPass 47 = .ok (.iadd, 1) := DdX8_doesPass_27.2.2.2.2.2.2.2.2.2.2.2.2.2.1
theorem dX8_doesPass_48 : decode cX8_doesPass 48 = .ok (.iaload, 1) := DdX8_doesPass_27.2.2.2.2.2.2.2.2.2.2.2.2.2.2.1
theorem dX8_doesPass_49 : decode cX8_doesPass 49 = .ok (.goto 4, 3) := DdX8_doesPass_27.2.2.2.2.2.2.2.2.2.2.2.2.2.2.2
theorem DdX8_doesPass_52 : (decode cX8_doesPass 52 = .ok (.iconst 0, 1)) ∧ (decode cX8_doesPass 53 = .ok (.iadd, 1)) ∧ (decode cX8_doesPass 54 = .ok (.istore 4, 2)) ∧ (decode cX8_doesPass 56 = .ok (.iinc 5 1, 3)) ∧ (decode cX8_doesPass 59 = .ok (.goto (-41), 3)) ∧ (decode cX8_doesPass 62 = .ok (.iload_n 2, 1)) ∧ (decode cX8_doesPass 63 = .ok (.iload 4, 2)) ∧ (decode cX8_doesPass 65 = .ok (.ifCond .le 7, 3)) ∧ (decode cX8_doesPass 68 = .ok (.iconst 1, 1)) ∧ (decode cX8_doesPass 69 = .ok (.goto 13, 3)) ∧ (decode cX8_doesPass 72 = .ok (.iload 4, 2)) ∧ (decode cX8_doesPass 74 = .ok (.ifCond .ge 7, 3)) ∧ (decode cX8_doesPass 77 = .ok (.iconst (-1), 1)) ∧ (decode cX8_doesPass 78 = .ok (.goto 4, 3)) ∧ (decode cX8_doesPass 81 = .ok (.iconst 0, 1)) ∧ (decode cX8_doesPass 82 = .ok (.iadd, 1)) := by decide +kernel
theorem dX8_doesPass_52 : decode cX8_doesPass 52 = .ok (.iconst 0, 1) := DdX8_doesPass_52.1
theorem dX8_doesPass_53 : decode cX8_doesPass 53 = .ok (.iadd, 1) := DdX8_doesPass_52.2.1
theorem dX8_doesPass_54 : decode cX8_doesPass 54 = .ok (.istore 4, 2) := DdX8_doesPass_52.2.2.1
theorem dX8_doesPass_56 : decode cX8_doesPass 56 = .ok (.iinc 5 1, 3) := DdX8_doesPass_52.2.2.2.1
theorem dX8_doesPass_59 : decode cX8_doesPass 59 = .ok (.goto (-41), 3) := DdX8_doesPass_52.2.2.2.2.1
theorem dX8_doesPass_62 : decode cX8_doesPass 62 = .ok (.iload_n 2, 1) := DdX8_doesPass_52.2.2.2.2.2.1
theorem dX8_doesPass_63 : decode cX8_doesPass 63 = .ok (.iload 4, 2) := DdX8_doesPass_52.2.2.2.2.2.2.1
theorem dX8_doesPass_65 : decode cX8_doesPass 65 = .ok (.ifCond .le 7, 3) := DdX8_doesPass_52.2.2.2.2.2.2.2.1
theorem dX8_doesPass_68 : decode cX8_doesPass 68 = .ok (.iconst 1, 1) := DdX8_doesPass_52.2.2.2.2.2.2.2.2.1
theorem dX8_doesPass_69 : decode cX8_doesPass 69 = .ok (.goto 13, 3) := DdX8_doesPass_52.2.2.2.2.2.2.2.2.2.1
theorem dX8_doesPass_72 : decode cX8_doesPass 72 = .ok (.iload 4, 2) := DdX8_doesPass_52.2.2.2.2.2.2.2.2.2.2.1
theorem dX8_doesPass_74 : decode cX8_doesPass 74 = .ok (.ifCond .ge 7, 3) := DdX8_doesPass_52.2.2.2.2.2.2.2.2.2.2.2.1
theorem dX8_doesPass_77 : decode cX8_doesPass 77 = .ok (.iconst (-1), 1) := DdX8_doesPass_52.2.2.2.2.2.2.2.2.2.2.2.2.1
theorem dX8_doesPass_78 : decode cX8_doesPass 78 = .ok (.goto 4, 3) := DdX8_doesPass_52.2.2.2.2.2.2.2.2.2.2.2.2.2.1
theorem dX8_doesPass_81 : decode cX8_doesPass 81 = .ok (.iconst 0, 1) := DdX8_doesPass_52.2.2.2.2.2.2.2.2.2.2.2.2.2.2.1
theorem dX8_doesPass_82 : decode cX8_doesPass 82 = .ok (.iadd, 1) := DdX8_doesPass_52.2.2.2.2.2.2.2.2.2.2.2.2.2.2.2
theorem DdX8_doesPass_83 : (decode cX8_doesPass 83 = .ok (.istore_n 2, 1)) ∧ (decode cX8_doesPass 84 = .ok (.iinc 3 1, 3)) ∧ (decode cX8_doesPass 87 = .ok (.goto (-83), 3)) ∧ (decode cX8_doesPass 90 = .ok (.iload_n 2, 1)) ∧ (decode cX8_doesPass 91 = .ok (.ifCond .le 7, 3)) ∧ (decode cX8_doesPass 94 = .ok (.iconst 1, 1)) ∧ (decode cX8_doesPass 95 = .ok (.goto 4, 3)) ∧ (decode cX8_doesPass 98 = .ok (.iconst 0, 1)) ∧ (decode cX8_doesPass 99 = .ok (.ireturn, 1)) := by decide +kernel
theorem dX8_doesPass_83 : decode cX8_doesPass 83 = .ok (.istore_n 2, 1) := DdX8_doesPass_83.1
theorem dX8_doesPass_84 : decode cX8_doesPass 84 = .ok (.iinc 3 1, 3) := DdX8_doesPass_83.2.1
theorem dX8_doesPass_87 : decode cX8_doesPass 87 = .ok (.goto (-83), 3) := DdX8_doesPass_83.2.2.1
theorem dX8_doesPass_90 : decode cX8_doesPass 90 = .ok (.iload_n 2, 1) := DdX8_doesPass_83.2.2.2.1
theorem dX8_doesPass_91 : decode cX8_doesPass 91 = .ok (.ifCond .le 7, 3) := DdX8_doesPass_83.2.2.2.2.1
theorem dX8_doesPass_94 : decode cX8_doesPass 94 = .ok (.iconst 1, 1) := DdX8_doesPass_83.2.2.2.2.2.1
theorem dX8_doesPass_95 : decode cX8_doesPass 95 = .ok (.goto 4, 3) := DdX8_doesPass_83.2.2.2.2.2.2.1
theorem dX8_doesPass_98 : decode cX8_doesPass 98 = .ok (.iconst 0, 1) := DdX8_doesPass_83.2.2.2.2.2.2.2.1
theorem dX8_doesPass_99 : decode cX8_doesPass 99 = .ok (.ireturn, 1) := DdX8_doesPass_83.2.2.2.2.2.2.2.2
theorem DdX8_passes_0 : (decode cX8_passes 0 = .ok (.iload_n 1, 1)) ∧ (decode cX8_passes 1 = .ok (.iconst 1, 1)) ∧ (decode cX8_passes 2 = .ok (.bipush 63, 2)) ∧ (decode cX8_passes 4 = .ok (.invokestatic 106, 3)) ∧ (decode cX8_passes 7 = .ok (.ifCond .ne 7, 3)) ∧ (decode cX8_passes 10 = .ok (.iconst (-1), 1)) ∧ (decode cX8_passes 11 = .ok (.goto 16, 3)) ∧ (decode cX8_passes 14 = .ok (.aload_n 0, 1)) ∧ (decode cX8_passes 15 = .ok (.iload_n 1, 1)) ∧ (decode cX8_passes 16 = .ok (.invokevirtual 278, 3)) ∧ (decode cX8_passes 19 = .ok (.ifCond .eq 7, 3)) ∧ (decode cX8_passes 22 = .ok (.iconst 1, 1)) ∧ (decode cX8_passes 23 = .ok (.goto 4, 3)) ∧ (decode cX8_passes 26 = .ok (.iconst 0, 1)) ∧ (decode cX8_passes 27 = .ok (.ireturn, 1)) := by decide +kernel
theorem dX8_passes_0 : decode cX8_passes 0 = .ok (.iload_n 1, 1) := DdX8_passes_0.1
theorem dX8_passes_1 : decode cX8_passes 1 = .ok (.iconst 1, 1) := DdX8_passes_0.2.1
theorem dX8_passes_2 : decode cX8_passes 2 = .ok (.bipush 63, 2) := DdX8_passes_0.2.2.1
theorem dX8_passes_4 : decode cX8_passes 4 = .ok (.invokestatic 106, 3) := DdX8_passes_0.2.2.2.1
theorem dX8_passes_7 : decode cX8_passes 7 = .ok (.ifCond .ne 7, 3) := DdX8_passes_0.2.2.2.2.1
theorem dX8_passes_10 : decode cX8_passes 10 = .ok (.iconst (-1), 1) := DdX8_passes_0.2.2.2.2.2.1
theorem dX8_passes_11 : decode cX8_passes 11 = .ok (.goto 16, 3) := DdX8_passes_0.2.2.2.2.2.2.1
theorem dX8_passes_14 : decode cX8_passes 14 = .ok (.aload_n 0, 1) := DdX8_passes_0.2.2.2.2.2.2.2.1
theorem dX8_passes_15 : decode cX8_passes 15 = .ok (.iload_n 1, 1) := DdX8_passes_0.2.2.2.2.2.2.2.2.1
theorem dX8_passes_16 : decode cX8_passes 16 = .ok (.invokevirtual 278, 3) := DdX8_passes_0.2.2.2.2.2.2.2.2.2.1
theorem dX8_passes_19 : decode cX8_passes 19 = .ok (.ifCond .eq 7, 3) := DdX8_passes_0.2.2.2.2.2.2.2.2.2.2.1
theorem dX8_passes_22 : decode cX8_passes 22 = .ok (.iconst 1, 1) := DdX8_passes_0.2.2.2.2.2.2.2.2.2.2.2.1
theorem dX8_passes_23 : decode cX8_passes 23 = .ok (.goto 4, 3) := DdX8_passes_0.2.2.2.2.2.2.2.2.2.2.2.2.1
theorem dX8_passes_26 : decode cX8_passes 26 = .ok (.iconst 0, 1) := DdX8_passes_0.2.2.2.2.2.2.2.2.2.2.2.2.2.1
theorem dX8_passes_27 : decode cX8_passes 27 = .ok (.ireturn, 1) := DdX8_passes_0.2.2.2.2.2.2.2.2.2.2.2.2.2.2
theorem DdX8_ride_0 : (decode cX8_ride 0 = .ok (.iload_n 1, 1)) ∧ (decode cX8_ride 1 = .ok (.iconst 0, 1)) ∧ (decode cX8_ride 2 = .ok (.iconst 5, 1)) ∧ (decode cX8_ride 3 = .ok (.invokestatic 106, 3)) ∧ (decode cX8_ride 6 = .ok (.ifCond .eq 12, 3)) ∧ (decode cX8_ride 9 = .ok (.iload_n 2, 1)) ∧ (decode cX8_ride 10 = .ok (.iconst 0, 1)) ∧ (decode cX8_ride 11 = .ok (.iconst 1, 1)) ∧ (decode cX8_ride 12 = .ok (.invokestatic 106, 3)) ∧ (decode cX8_ride 15 = .ok (.ifCond .ne 5, 3)) ∧ (decode cX8_ride 18 = .ok (.iconst (-1), 1)) ∧ (decode cX8_ride 19 = .ok (.ireturn, 1)) ∧ (decode cX8_ride 20 = .ok (.bipush (-9), 2)) ∧ (decode cX8_ride 22 = .ok (.istore_n 3, 1)) ∧ (decode cX8_ride 23 = .ok (.iconst 0, 1)) ∧ (decode cX8_ride 24 = .ok (.istore 4, 2)) := by decide +kernel
theorem dX8_ride_0 : decode cX8_ride 0 = .ok (.iload_n 1, 1) := DdX8_ride_0.1
theorem dX8_ride_1 : decode cX8_ride 1 = .ok (.iconst 0, 1) := DdX8_ride_0.2.1
theorem dX8_ride_2 : decode cX8_ride 2 = .ok (.iconst 5, 1) := DdX8_ride_0.2.2.1
theorem dX8_ride_3 : decode cX8_ride 3 = .ok (.invokestatic 106, 3) := DdX8_ride_0.2.2.2.1
theorem dX8_ride_6 : decode cX8_ride 6 = .ok (.ifCond .eq 12, 3) := DdX8_ride_0.2.2.2.2.1
theorem dX8_ride_9 : decode cX8_ride 9 = .ok (.iload_n 2, 1) := DdX8_ride_0.2.2.2.2.2.1
theorem dX8_ride_10 : decode cX8_ride 10 = .ok (.iconst 0, 1) := DdX8_ride_0.2.2.2.2.2.2.1
theorem dX8_ride_11 : decode cX8_ride 11 = .ok (.iconst 1, 1) := DdX8_ride_0.2.2.2.2.2.2.2.1
theorem dX8_ride_12 : decode cX8_ride 12 = .ok (.invokestatic 106, 3) := DdX8_ride_0.2.2.2.2.2.2.2.2.1
theorem dX8_ride_15 : decode cX8_ride 15 = .ok (.ifCond .ne 5, 3) := DdX8_ride_0.2.2.2.2.2.2.2.2.2.1
theorem dX8_ride_18 : decode cX8_ride 18 = .ok (.iconst (-1), 1) := DdX8_ride_0.2.2.2.2.2.2.2.2.2.2.1
theorem dX8_ride_19 : decode cX8_ride 19 = .ok (.ireturn, 1) := DdX8_ride_0.2.2.2.2.2.2.2.2.2.2.2.1
theorem dX8_ride_20 : decode cX8_ride 20 = .ok (.bipush (-9), 2) := DdX8_ride_0.2.2.2.2.2.2.2.2.2.2.2.2.1
theorem dX8_ride_22 : decode cX8_ride 22 = .ok (.istore_n 3, 1) := DdX8_ride_0.2.2.2.2.2.2.2.2.2.2.2.2.2.1
theorem dX8_ride_23 : decode cX8_ride 23 = .ok (.iconst 0, 1) := DdX8_ride_0.2.2.2.2.2.2.2.2.2.2.2.2.2.2.1
theorem dX8_ride_24 : decode cX8_ride 24 = .ok (.istore 4, 2) := DdX8_ride_0.2.2.2.2.2.2.2.2.2.2.2.2.2.2.2
theorem DdX8_ride_26 : (decode cX8_ride 26 = .ok (.iload 4, 2)) ∧ (decode cX8_ride 28 = .ok (.bipush 64, 2)) ∧ (decode cX8_ride 30 = .ok (.if_icmp .ge 68, 3)) ∧ (decode cX8_ride 33 = .ok (.iload_n 3, 1)) ∧ (decode cX8_ride 34 = .ok (.bipush (-9), 2)) ∧ (decode cX8_ride 36 = .ok (.if_icmp .eq 15, 3)) ∧ (decode cX8_ride 39 = .ok (.iload 4, 2)) ∧ (decode cX8_ride 41 = .ok (.invokestatic 272, 3)) ∧ (decode cX8_ride 44 = .ok (.iload_n 3, 1)) ∧ (decode cX8_ride 45 = .ok (.invokestatic 272, 3)) ∧ (decode cX8_ride 48 = .ok (.if_icmp .ge 7, 3)) ∧ (decode cX8_ride 51 = .ok (.iconst 1, 1)) ∧ (decode cX8_ride 52 = .ok (.goto 4, 3)) ∧ (decode cX8_ride 55 = .ok (.iconst 0, 1)) ∧ (decode cX8_ride 56 = .ok (.istore 5, 2)) ∧ (decode cX8_ride 58 = .ok (.iload 4, 2)) := by decide +kernel
theorem dX8_ride_26 : decode cX8_ride 26 = .ok (.iload 4, 2) := DdX8_ride_26.1
theorem dX8_ride_28 : decode cX8_ride 28 = .ok (.bipush 64, 2) := DdX8_ride_26.2.1
theorem dX8_ride_30 : decode cX8_ride 30 = .ok (.if_icmp .ge 68, 3) := DdX8_ride_26.2.2.1
theorem dX8_ride_33 : decode cX8_ride 33 = .ok (.iload_n 3, 1) := DdX8_ride_26.2.2.2.1
theorem dX8_ride_34 : decode cX8_ride 34 = .ok (.bipush (-9), 2) := DdX8_ride_26.2.2.2.2.1
theorem dX8_ride_36 : decode cX8_ride 36 = .ok (.if_icmp .eq 15, 3) := DdX8_ride_26.2.2.2.2.2.1
theorem dX8_ride_39 : decode cX8_ride 39 = .ok (.iload 4, 2) := DdX8_ride_26.2.2.2.2.2.2.1
theorem dX8_ride_41 : decode cX8_ride 41 = .ok (.invokestatic 272, 3) := DdX8_ride_26.2.2.2.2.2.2.2.1
theorem dX8_ride_44 : decode cX8_ride 44 = .ok (.iload_n 3, 1) := DdX8_ride_26.2.2.2.2.2.2.2.2.1
theorem dX8_ride_45 : decode cX8_ride 45 = .ok (.invokestatic 272, 3) := DdX8_ride_26.2.2.2.2.2.2.2.2.2.1
theorem dX8_ride_48 : decode cX8_ride 48 = .ok (.if_icmp .ge 7, 3) := DdX8_ride_26.2.2.2.2.2.2.2.2.2.2.1
theorem dX8_ride_51 : decode cX8_ride 51 = .ok (.iconst 1, 1) := DdX8_ride_26.2.2.2.2.2.2.2.2.2.2.2.1
theorem dX8_ride_52 : decode cX8_ride 52 = .ok (.goto 4, 3) := DdX8_ride_26.2.2.2.2.2.2.2.2.2.2.2.2.1
theorem dX8_ride_55 : decode cX8_ride 55 = .ok (.iconst 0, 1) := DdX8_ride_26.2.2.2.2.2.2.2.2.2.2.2.2.2.1
theorem dX8_ride_56 : decode cX8_ride 56 = .ok (.istore 5, 2) := DdX8_ride_26.2.2.2.2.2.2.2.2.2.2.2.2.2.2.1
theorem dX8_ride_58 : decode cX8_ride 58 = .ok (.iload 4, 2) := DdX8_ride_26.2.2.2.2.2.2.2.2.2.2.2.2.2.2.2
theorem DdX8_ride_60 : (decode cX8_ride 60 = .ok (.iload_n 1, 1)) ∧ (decode cX8_ride 61 = .ok (.ishr, 1)) ∧ (decode cX8_ride 62 = .ok (.iconst 1, 1)) ∧ (decode cX8_ride 63 = .ok (.iand, 1)) ∧ (decode cX8_ride 64 = .ok (.ifCond .ne 26, 3)) ∧ (decode cX8_ride 67 = .ok (.iload 5, 2)) ∧ (decode cX8_ride 69 = .ok (.ifCond .eq 21, 3)) ∧ (decode cX8_ride 72 = .ok (.aload_n 0, 1)) ∧ (decode cX8_ride 73 = .ok (.iload 4, 2)) ∧ (decode cX8_ride 75 = .ok (.iconst 1, 1)) ∧ (decode cX8_ride 76 = .ok (.iload_n 1, 1)) ∧ (decode cX8_ride 77 = .ok (.ishl, 1)) ∧ (decode cX8_ride 78 = .ok (.ior, 1)) ∧ (decode cX8_ride 79 = .ok (.invokevirtual 278, 3)) ∧ (decode cX8_ride 82 = .ok (.ifCond .eq 8, 3)) ∧ (decode cX8_ride 85 = .ok (.iload 4, 2)) := by decide +kernel
theorem dX8_ride_60 : decode cX8_ride 60 = .ok (.iload_n 1, 1) := DdX8_ride_60.1
theorem dX8_ride_61 : decode cX8_ride 61 = .ok (.ishr, 1) := DdX8_ride_60.2.1
theorem dX8_ride_62 : decode cX8_ride 62 = .ok (.iconst 1, 1) := DdX8_ride_60.2.2.1
theorem dX8_ride_63 : decode cX8_ride 63 = .ok (.iand, 1) := DdX8_ride_60.2.2.2.1
theorem dX8_ride_64 : decode cX8_ride 64 = .ok (.ifCond .ne 26, 3) := DdX8_ride_60.2.2.2.2.1
theorem dX8_ride_67 : decode cX8_ride 67 = .ok (.iload 5, 2) := DdX8_ride_60.2.2.2.2.2.1
theorem dX8_ride_69 : decode cX8_ride 69 = .ok (.ifCond .eq 21, 3) := DdX8_ride_60.2.2.2.2.2.2.1
theorem dX8_ride_72 : decode cX8_ride 72 = .ok (.aload_n 0, 1) := DdX8_ride_60.2.2.2.2.2.2.2.1
theorem dX8_ride_73 : decode cX8_ride 73 = .ok (.iload 4, 2) := DdX8_ride_60.2.2.2.2.2.2.2.2.1
theorem dX8_ride_75 : decode cX8_ride 75 = .ok (.iconst 1, 1) := DdX8_ride_60.2.2.2.2.2.2.2.2.2.1
theorem dX8_ride_76 : decode cX8_ride 76 = .ok (.iload_n 1, 1) := DdX8_ride_60.2.2.2.2.2.2.2.2.2.2.1
theorem dX8_ride_77 : decode cX8_ride 77 = .ok (.ishl, 1) := DdX8_ride_60.2.2.2.2.2.2.2.2.2.2.2.1
theorem dX8_ride_78 : decode cX8_ride 78 = .ok (.ior, 1) := DdX8_ride_60.2.2.2.2.2.2.2.2.2.2.2.2.1
theorem dX8_ride_79 : decode cX8_ride 79 = .ok (.invokevirtual 278, 3) := DdX8_ride_60.2.2.2.2.2.2.2.2.2.2.2.2.2.1
theorem dX8_ride_82 : decode cX8_ride 82 = .ok (.ifCond .eq 8, 3) := DdX8_ride_60.2.2.2.2.2.2.2.2.2.2.2.2.2.2.1
theorem dX8_ride_85 : decode cX8_ride 85 = .ok (.iload 4, 2) := DdX8_ride_60.2.2.2.2.2.2.2.2.2.2.2.2.2.2.2
theorem DdX8_ride_87 : (decode cX8_ride 87 = .ok (.goto 4, 3)) ∧ (decode cX8_ride 90 = .ok (.iload_n 3, 1)) ∧ (decode cX8_ride 91 = .ok (.istore_n 3, 1)) ∧ (decode cX8_ride 92 = .ok (.iinc 4 1, 3)) ∧ (decode cX8_ride 95 = .ok (.goto (-69), 3)) ∧ (decode cX8_ride 98 = .ok (.iload_n 3, 1)) ∧ (decode cX8_ride 99 = .ok (.bipush (-9), 2)) ∧ (decode cX8_ride 101 = .ok (.if_icmp .eq 8, 3)) ∧ (decode cX8_ride 104 = .ok (.iload_n 2, 1)) ∧ (decode cX8_ride 105 = .ok (.iconst 1, 1)) ∧ (decode cX8_ride 106 = .ok (.if_icmp .ne 7, 3)) ∧ (decode cX8_ride 109 = .ok (.iload_n 3, 1)) ∧ (decode cX8_ride 110 = .ok (.goto 7, 3)) ∧ (decode cX8_ride 113 = .ok (.iload_n 3, 1)) ∧ (decode cX8_ride 114 = .ok (.invokestatic 272, 3)) ∧ (decode cX8_ride 117 = .ok (.ireturn, 1)) := by decide +kernel
theorem dX8_ride_87 : decode cX8_ride 87 = .ok (.goto 4, 3) := DdX8_ride_87.1
theorem dX8_ride_90 : decode cX8_ride 90 = .ok (.iload_n 3, 1) := DdX8_ride_87.2.1
theorem dX8_ride_91 : decode cX8_ride 91 = .ok (.istore_n 3, 1) := DdX8_ride_87.2.2.1
theorem dX8_ride_92 : decode cX8_ride 92 = .ok (.iinc 4 1, 3) := DdX8_ride_87.2.2.2.1
theorem dX8_ride_95 : decode cX8_ride 95 = .ok (.goto (-69), 3) := DdX8_ride_87.2.2.2.2.1
theorem dX8_ride_98 : decode cX8_ride 98 = .ok (.iload_n 3, 1) := DdX8_ride_87.2.2.2.2.2.1
theorem dX8_ride_99 : decode cX8_ride 99 = .ok (.bipush (-9), 2) := DdX8_ride_87.2.2.2.2.2.2.1
theorem dX8_ride_101 : decode cX8_ride 101 = .ok (.if_icmp .eq 8, 3) := DdX8_ride_87.2.2.2.2.2.2.2.1
theorem dX8_ride_104 : decode cX8_ride 104 = .ok (.iload_n 2, 1) := DdX8_ride_87.2.2.2.2.2.2.2.2.1
theorem dX8_ride_105 : decode cX8_ride 105 = .ok (.iconst 1, 1) := DdX8_ride_87.2.2.2.2.2.2.2.2.2.1
theorem dX8_ride_106 : decode cX8_ride 106 = .ok (.if_icmp .ne 7, 3) := DdX8_ride_87.2.2.2.2.2.2.2.2.2.2.1
theorem dX8_ride_109 : decode cX8_ride 109 = .ok (.iload_n 3, 1) := DdX8_ride_87.2.2.2.2.2.2.2.2.2.2.2.1
theorem dX8_ride_110 : decode cX8_ride 110 = .ok (.goto 7, 3) := DdX8_ride_87.2.2.2.2.2.2.2.2.2.2.2.2.1
theorem dX8_ride_113 : decode cX8_ride 113 = .ok (.iload_n 3, 1) := DdX8_ride_87.2.2.2.2.2.2.2.2.2.2.2.2.2.1
theorem dX8_ride_114 : decode cX8_ride 114 = .ok (.invokestatic 272, 3) := DdX8_ride_87.2.2.2.2.2.2.2.2.2.2.2.2.2.2.1
theorem dX8_ride_117 : decode cX8_ride 117 = .ok (.ireturn, 1) := DdX8_ride_87.2.2.2.2.2.2.2.2.2.2.2.2.2.2.2
theorem DdX8_tears_0 : (decode cX8_tears 0 = .ok (.iload_n 1, 1)) ∧ (decode cX8_tears 1 = .ok (.iconst 1, 1)) ∧ (decode cX8_tears 2 = .ok (.bipush 63, 2)) ∧ (decode cX8_tears 4 = .ok (.invokestatic 106, 3)) ∧ (decode cX8_tears 7 = .ok (.ifCond .ne 5, 3)) ∧ (decode cX8_tears 10 = .ok (.iconst (-1), 1)) ∧ (decode cX8_tears 11 = .ok (.ireturn, 1)) ∧ (decode cX8_tears 12 = .ok (.iconst 0, 1)) ∧ (decode cX8_tears 13 = .ok (.istore_n 2, 1)) ∧ (decode cX8_tears 14 = .ok (.iconst 0, 1)) ∧ (decode cX8_tears 15 = .ok (.istore_n 3, 1)) ∧ (decode cX8_tears 16 = .ok (.iload_n 3, 1)) ∧ (decode cX8_tears 17 = .ok (.bipush 6, 2)) ∧ (decode cX8_tears 19 = .ok (.if_icmp .ge 44, 3)) ∧ (decode cX8_tears 22 = .ok (.aload_n 0, 1)) ∧ (decode cX8_tears 23 = .ok (.iload_n 1, 1)) := by decide +kernel
theorem dX8_tears_0 : decode cX8_tears 0 = .ok (.iload_n 1, 1) := DdX8_tears_0.1
theorem dX8_tears_1 : decode cX8_tears 1 = .ok (.iconst 1, 1) := DdX8_tears_0.2.1
theorem dX8_tears_2 : decode cX8_tears 2 = .ok (.bipush 63, 2) := DdX8_tears_0.2.2.1
theorem dX8_tears_4 : decode cX8_tears 4 = .ok (.invokestatic 106, 3) := DdX8_tears_0.2.2.2.1
theorem dX8_tears_7 : decode cX8_tears 7 = .ok (.ifCond .ne 5, 3) := DdX8_tears_0.2.2.2.2.1
theorem dX8_tears_10 : decode cX8_tears 10 = .ok (.iconst (-1), 1) := DdX8_tears_0.2.2.2.2.2.1
theorem dX8_tears_11 : decode cX8_tears 11 = .ok (.ireturn, 1) := DdX8_tears_0.2.2.2.2.2.2.1
theorem dX8_tears_12 : decode cX8_tears 12 = .ok (.iconst 0, 1) := DdX8_tears_0.2.2.2.2.2.2.2.1
theorem dX8_tears_13 : decode cX8_tears 13 = .ok (.istore_n 2, 1) := DdX8_tears_0.2.2.2.2.2.2.2.2.1
theorem dX8_tears_14 : decode cX8_tears 14 = .ok (.iconst 0, 1) := DdX8_tears_0.2.2.2.2.2.2.2.2.2.1
theorem dX8_tears_15 : decode cX8_tears 15 = .ok (.istore_n 3, 1) := DdX8_tears_0.2.2.2.2.2.2.2.2.2.2.1
theorem dX8_tears_16 : decode cX8_tears 16 = .ok (.iload_n 3, 1) := DdX8_tears_0.2.2.2.2.2.2.2.2.2.2.2.1
theorem dX8_tears_17 : decode cX8_tears 17 = .ok (.bipush 6, 2) := DdX8_tears_0.2.2.2.2.2.2.2.2.2.2.2.2.1
theorem dX8_tears_19 : decode cX8_tears 19 = .ok (.if_icmp .ge 44, 3) := DdX8_tears_0.2.2.2.2.2.2.2.2.2.2.2.2.2.1
theorem dX8_tears_22 : decode cX8_tears 22 = .ok (.aload_n 0, 1) := DdX8_tears_0.2.2.2.2.2.2.2.2.2.2.2.2.2.2.1
theorem dX8_tears_23 : decode cX8_tears 23 = .ok (.iload_n 1, 1) := DdX8_tears_0.2.2.2.2.2.2.2.2.2.2.2.2.2.2.2
theorem DdX8_tears_24 : (decode cX8_tears 24 = .ok (.invokevirtual 278, 3)) ∧ (decode cX8_tears 27 = .ok (.ifCond .eq 36, 3)) ∧ (decode cX8_tears 30 = .ok (.iload_n 2, 1)) ∧ (decode cX8_tears 31 = .ok (.iload_n 1, 1)) ∧ (decode cX8_tears 32 = .ok (.iload_n 3, 1)) ∧ (decode cX8_tears 33 = .ok (.ishr, 1)) ∧ (decode cX8_tears 34 = .ok (.iconst 1, 1)) ∧ (decode cX8_tears 35 = .ok (.iand, 1)) ∧ (decode cX8_tears 36 = .ok (.iconst 1, 1)) ∧ (decode cX8_tears 37 = .ok (.if_icmp .ne 17, 3)) ∧ (decode cX8_tears 40 = .ok (.aload_n 0, 1)) ∧ (decode cX8_tears 41 = .ok (.iconst 1, 1)) ∧ (decode cX8_tears 42 = .ok (.iload_n 3, 1)) ∧ (decode cX8_tears 43 = .ok (.ishl, 1)) ∧ (decode cX8_tears 44 = .ok (.invokevirtual 278, 3)) ∧ (decode cX8_tears 47 = .ok (.ifCond .ne 7, 3)) := by decide +kernel
theorem dX8_tears_24 : decode cX8_tears 24 = .ok (.invokevirtual 278, 3) := DdX8_tears_24.1
theorem dX8_tears_27 : decode cX8_tears 27 = .ok (.ifCond .eq 36, 3) := DdX8_tears_24.2.1
theorem dX8_tears_30 : decode cX8_tears 30 = .ok (.iload_n 2, 1) := DdX8_tears_24.2.2.1
theorem dX8_tears_31 : decode cX8_tears 31 = .ok (.iload_n 1, 1) := DdX8_tears_24.2.2.2.1
theorem dX8_tears_32 : decode cX8_tears 32 = .ok (.iload_n 3, 1) := DdX8_tears_24.2.2.2.2.1
theorem dX8_tears_33 : decode cX8_tears 33 = .ok (.ishr, 1) := DdX8_tears_24.2.2.2.2.2.1
theorem dX8_tears_34 : decode cX8_tears 34 = .ok (.iconst 1, 1) := DdX8_tears_24.2.2.2.2.2.2.1
theorem dX8_tears_35 : decode cX8_tears 35 = .ok (.iand, 1) := DdX8_tears_24.2.2.2.2.2.2.2.1
theorem dX8_tears_36 : decode cX8_tears 36 = .ok (.iconst 1, 1) := DdX8_tears_24.2.2.2.2.2.2.2.2.1
theorem dX8_tears_37 : decode cX8_tears 37 = .ok (.if_icmp .ne 17, 3) := DdX8_tears_24.2.2.2.2.2.2.2.2.2.1
theorem dX8_tears_40 : decode cX8_tears 40 = .ok (.aload_n 0, 1) := DdX8_tears_24.2.2.2.2.2.2.2.2.2.2.1
theorem dX8_tears_41 : decode cX8_tears 41 = .ok (.iconst 1, 1) := DdX8_tears_24.2.2.2.2.2.2.2.2.2.2.2.1
theorem dX8_tears_42 : decode cX8_tears 42 = .ok (.iload_n 3, 1) := DdX8_tears_24.2.2.2.2.2.2.2.2.2.2.2.2.1
theorem dX8_tears_43 : decode cX8_tears 43 = .ok (.ishl, 1) := DdX8_tears_24.2.2.2.2.2.2.2.2.2.2.2.2.2.1
theorem dX8_tears_44 : decode cX8_tears 44 = .ok (.invokevirtual 278, 3) := DdX8_tears_24.2.2.2.2.2.2.2.2.2.2.2.2.2.2.1
theorem dX8_tears_47 : decode cX8_tears 47 = .ok (.ifCond .ne 7, 3) := DdX8_tears_24.2.2.2.2.2.2.2.2.2.2.2.2.2.2.2
theorem DdX8_tears_50 : (decode cX8_tears 50 = .ok (.iconst 1, 1)) ∧ (decode cX8_tears 51 = .ok (.goto 4, 3)) ∧ (decode cX8_tears 54 = .ok (.iconst 0, 1)) ∧ (decode cX8_tears 55 = .ok (.iadd, 1)) ∧ (decode cX8_tears 56 = .ok (.istore_n 2, 1)) ∧ (decode cX8_tears 57 = .ok (.iinc 3 1, 3)) ∧ (decode cX8_tears 60 = .ok (.goto (-44), 3)) ∧ (decode cX8_tears 63 = .ok (.iload_n 2, 1)) ∧ (decode cX8_tears 64 = .ok (.ireturn, 1)) := by decide +kernel
theorem dX8_tears_50 : decode cX8_tears 50 = .ok (.iconst 1, 1) := DdX8_tears_50.1
theorem dX8_tears_51 : decode cX8_tears 51 = .ok (.goto 4, 3) := DdX8_tears_50.2.1
theorem dX8_tears_54 : decode cX8_tears 54 = .ok (.iconst 0, 1) := DdX8_tears_50.2.2.1
theorem dX8_tears_55 : decode cX8_tears 55 = .ok (.iadd, 1) := DdX8_tears_50.2.2.2.1
theorem dX8_tears_56 : decode cX8_tears 56 = .ok (.istore_n 2, 1) := DdX8_tears_50.2.2.2.2.1
theorem dX8_tears_57 : decode cX8_tears 57 = .ok (.iinc 3 1, 3) := DdX8_tears_50.2.2.2.2.2.1
theorem dX8_tears_60 : decode cX8_tears 60 = .ok (.goto (-44), 3) := DdX8_tears_50.2.2.2.2.2.2.1
theorem dX8_tears_63 : decode cX8_tears 63 = .ok (.iload_n 2, 1) := DdX8_tears_50.2.2.2.2.2.2.2.1
theorem dX8_tears_64 : decode cX8_tears 64 = .ok (.ireturn, 1) := DdX8_tears_50.2.2.2.2.2.2.2.2
theorem DdX8_word_0 : (decode cX8_word 0 = .ok (.iload_n 1, 1)) ∧ (decode cX8_word 1 = .ok (.iconst 0, 1)) ∧ (decode cX8_word 2 = .ok (.iconst 4, 1)) ∧ (decode cX8_word 3 = .ok (.invokestatic 106, 3)) ∧ (decode cX8_word 6 = .ok (.ifCond .eq 54, 3)) ∧ (decode cX8_word 9 = .ok (.iload_n 2, 1)) ∧ (decode cX8_word 10 = .ok (.iconst 0, 1)) ∧ (decode cX8_word 11 = .ok (.iconst 3, 1)) ∧ (decode cX8_word 12 = .ok (.invokestatic 106, 3)) ∧ (decode cX8_word 15 = .ok (.ifCond .eq 45, 3)) ∧ (decode cX8_word 18 = .ok (.iload_n 3, 1)) ∧ (decode cX8_word 19 = .ok (.iconst 0, 1)) ∧ (decode cX8_word 20 = .ok (.iload_n 2, 1)) ∧ (decode cX8_word 21 = .ok (.iconst 2, 1)) ∧ (decode cX8_word 22 = .ok (.if_icmp .ge 7, 3)) ∧ (decode cX8_word 25 = .ok (.iconst 1, 1)) := by decide +kernel
theorem dX8_word_0 : decode cX8_word 0 = .ok (.iload_n 1, 1) := DdX8_word_0.1
theorem dX8_word_1 : decode cX8_word 1 = .ok (.iconst 0, 1) := DdX8_word_0.2.1
theorem dX8_word_2 : decode cX8_word 2 = .ok (.iconst 4, 1) := DdX8_word_0.2.2.1
theorem dX8_word_3 : decode cX8_word 3 = .ok (.invokestatic 106, 3) := DdX8_word_0.2.2.2.1
theorem dX8_word_6 : decode cX8_word 6 = .ok (.ifCond .eq 54, 3) := DdX8_word_0.2.2.2.2.1
theorem dX8_word_9 : decode cX8_word 9 = .ok (.iload_n 2, 1) := DdX8_word_0.2.2.2.2.2.1
theorem dX8_word_10 : decode cX8_word 10 = .ok (.iconst 0, 1) := DdX8_word_0.2.2.2.2.2.2.1
theorem dX8_word_11 : decode cX8_word 11 = .ok (.iconst 3, 1) := DdX8_word_0.2.2.2.2.2.2.2.1
theorem dX8_word_12 : decode cX8_word 12 = .ok (.invokestatic 106, 3) := DdX8_word_0.2.2.2.2.2.2.2.2.1
theorem dX8_word_15 : decode cX8_word 15 = .ok (.ifCond .eq 45, 3) := DdX8_word_0.2.2.2.2.2.2.2.2.2.1
theorem dX8_word_18 : decode cX8_word 18 = .ok (.iload_n 3, 1) := DdX8_word_0.2.2.2.2.2.2.2.2.2.2.1
theorem dX8_word_19 : decode cX8_word 19 = .ok (.iconst 0, 1) := DdX8_word_0.2.2.2.2.2.2.2.2.2.2.2.1
theorem dX8_word_20 : decode cX8_word 20 = .ok (.iload_n 2, 1) := DdX8_word_0.2.2.2.2.2.2.2.2.2.2.2.2.1
theorem dX8_word_21 : decode cX8_word 21 = .ok (.iconst 2, 1) := DdX8_word_0.2.2.2.2.2.2.2.2.2.2.2.2.2.1
theorem dX8_word_22 : decode cX8_word 22 = .ok (.if_icmp .ge 7, 3) := DdX8_word_0.2.2.2.2.2.2.2.2.2.2.2.2.2.2.1
theorem dX8_word_25 : decode cX8_word 25 = .ok (.iconst 1, 1) := DdX8_word_0.2.2.2.2.2.2.2.2.2.2.2.2.2.2.2
theorem DdX8_word_26 : (decode cX8_word 26 = .ok (.goto 4, 3)) ∧ (decode cX8_word 29 = .ok (.iconst 3, 1)) ∧ (decode cX8_word 30 = .ok (.invokestatic 106, 3)) ∧ (decode cX8_word 33 = .ok (.ifCond .eq 27, 3)) ∧ (decode cX8_word 36 = .ok (.iload 4, 2)) ∧ (decode cX8_word 38 = .ok (.iconst 0, 1)) ∧ (decode cX8_word 39 = .ok (.iload_n 2, 1)) ∧ (decode cX8_word 40 = .ok (.iconst 3, 1)) ∧ (decode cX8_word 41 = .ok (.if_icmp .ne 7, 3)) ∧ (decode cX8_word 44 = .ok (.iconst 3, 1)) ∧ (decode cX8_word 45 = .ok (.goto 5, 3)) ∧ (decode cX8_word 48 = .ok (.bipush 59, 2)) ∧ (decode cX8_word 50 = .ok (.invokestatic 106, 3)) ∧ (decode cX8_word 53 = .ok (.ifCond .eq 7, 3)) ∧ (decode cX8_word 56 = .ok (.iconst 1, 1)) ∧ (decode cX8_word 57 = .ok (.goto 4, 3)) := by decide +kernel
theorem dX8_word_26 : decode cX8_word 26 = .ok (.goto 4, 3) := DdX8_word_26.1
theorem dX8_word_29 : decode cX8_word 29 = .ok (.iconst 3, 1) := DdX8_word_26.2.1
theorem dX8_word_30 : decode cX8_word 30 = .ok (.invokestatic 106, 3) := DdX8_word_26.2.2.1
theorem dX8_word_33 : decode cX8_word 33 = .ok (.ifCond .eq 27, 3) := DdX8_word_26.2.2.2.1
theorem dX8_word_36 : decode cX8_word 36 = .ok (.iload 4, 2) := DdX8_word_26.2.2.2.2.1
theorem dX8_word_38 : decode cX8_word 38 = .ok (.iconst 0, 1) := DdX8_word_26.2.2.2.2.2.1
theorem dX8_word_39 : decode cX8_word 39 = .ok (.iload_n 2, 1) := DdX8_word_26.2.2.2.2.2.2.1
theorem dX8_word_40 : decode cX8_word 40 = .ok (.iconst 3, 1) := DdX8_word_26.2.2.2.2.2.2.2.1
theorem dX8_word_41 : decode cX8_word 41 = .ok (.if_icmp .ne 7, 3) := DdX8_word_26.2.2.2.2.2.2.2.2.1
theorem dX8_word_44 : decode cX8_word 44 = .ok (.iconst 3, 1) := DdX8_word_26.2.2.2.2.2.2.2.2.2.1
theorem dX8_word_45 : decode cX8_word 45 = .ok (.goto 5, 3) := DdX8_word_26.2.2.2.2.2.2.2.2.2.2.1
theorem dX8_word_48 : decode cX8_word 48 = .ok (.bipush 59, 2) := DdX8_word_26.2.2.2.2.2.2.2.2.2.2.2.1
theorem dX8_word_50 : decode cX8_word 50 = .ok (.invokestatic 106, 3) := DdX8_word_26.2.2.2.2.2.2.2.2.2.2.2.2.1
theorem dX8_word_53 : decode cX8_word 53 = .ok (.ifCond .eq 7, 3) := DdX8_word_26.2.2.2.2.2.2.2.2.2.2.2.2.2.1
theorem dX8_word_56 : decode cX8_word 56 = .ok (.iconst 1, 1) := DdX8_word_26.2.2.2.2.2.2.2.2.2.2.2.2.2.2.1
theorem dX8_word_57 : decode cX8_word 57 = .ok (.goto 4, 3) := DdX8_word_26.2.2.2.2.2.2.2.2.2.2.2.2.2.2.2
theorem DdX8_word_60 : (decode cX8_word 60 = .ok (.iconst 0, 1)) ∧ (decode cX8_word 61 = .ok (.istore 5, 2)) ∧ (decode cX8_word 63 = .ok (.iload 5, 2)) ∧ (decode cX8_word 65 = .ok (.ifCond .ne 5, 3)) ∧ (decode cX8_word 68 = .ok (.iconst (-1), 1)) ∧ (decode cX8_word 69 = .ok (.ireturn, 1)) ∧ (decode cX8_word 70 = .ok (.aload_n 0, 1)) ∧ (decode cX8_word 71 = .ok (.getfield 94, 3)) ∧ (decode cX8_word 74 = .ok (.iload_n 1, 1)) ∧ (decode cX8_word 75 = .ok (.iaload, 1)) ∧ (decode cX8_word 76 = .ok (.istore 6, 2)) ∧ (decode cX8_word 78 = .ok (.aload_n 0, 1)) ∧ (decode cX8_word 79 = .ok (.getfield 94, 3)) ∧ (decode cX8_word 82 = .ok (.iload_n 1, 1)) ∧ (decode cX8_word 83 = .ok (.iload_n 2, 1)) ∧ (decode cX8_word 84 = .ok (.iastore, 1)) := by decide +kernel
theorem dX8_word_60 : decode cX8_word 60 = .ok (.iconst 0, 1) := DdX8_word_60.1
theorem dX8_word_61 : decode cX8_word 61 = .ok (.istore 5, 2) := DdX8_word_60.2.1
theorem dX8_word_63 : decode cX8_word 63 = .ok (.iload 5, 2) := DdX8_word_60.2.2.1
theorem dX8_word_65 : decode cX8_word 65 = .ok (.ifCond .ne 5, 3) := DdX8_word_60.2.2.2.1
theorem dX8_word_68 : decode cX8_word 68 = .ok (.iconst (-1), 1) := DdX8_word_60.2.2.2.2.1
theorem dX8_word_69 : decode cX8_word 69 = .ok (.ireturn, 1) := DdX8_word_60.2.2.2.2.2.1
theorem dX8_word_70 : decode cX8_word 70 = .ok (.aload_n 0, 1) := DdX8_word_60.2.2.2.2.2.2.1
theorem dX8_word_71 : decode cX8_word 71 = .ok (.getfield 94, 3) := DdX8_word_60.2.2.2.2.2.2.2.1
theorem dX8_word_74 : decode cX8_word 74 = .ok (.iload_n 1, 1) := DdX8_word_60.2.2.2.2.2.2.2.2.1
theorem dX8_word_75 : decode cX8_word 75 = .ok (.iaload, 1) := DdX8_word_60.2.2.2.2.2.2.2.2.2.1
theorem dX8_word_76 : decode cX8_word 76 = .ok (.istore 6, 2) := DdX8_word_60.2.2.2.2.2.2.2.2.2.2.1
theorem dX8_word_78 : decode cX8_word 78 = .ok (.aload_n 0, 1) := DdX8_word_60.2.2.2.2.2.2.2.2.2.2.2.1
theorem dX8_word_79 : decode cX8_word 79 = .ok (.getfield 94, 3) := DdX8_word_60.2.2.2.2.2.2.2.2.2.2.2.2.1
theorem dX8_word_82 : decode cX8_word 82 = .ok (.iload_n 1, 1) := DdX8_word_60.2.2.2.2.2.2.2.2.2.2.2.2.2.1
theorem dX8_word_83 : decode cX8_word 83 = .ok (.iload_n 2, 1) := DdX8_word_60.2.2.2.2.2.2.2.2.2.2.2.2.2.2.1
theorem dX8_word_84 : decode cX8_word 84 = .ok (.iastore, 1) := DdX8_word_60.2.2.2.2.2.2.2.2.2.2.2.2.2.2.2
theorem DdX8_word_85 : (decode cX8_word 85 = .ok (.aload_n 0, 1)) ∧ (decode cX8_word 86 = .ok (.getfield 97, 3)) ∧ (decode cX8_word 89 = .ok (.iload_n 1, 1)) ∧ (decode cX8_word 90 = .ok (.iload_n 3, 1)) ∧ (decode cX8_word 91 = .ok (.iastore, 1)) ∧ (decode cX8_word 92 = .ok (.aload_n 0, 1)) ∧ (decode cX8_word 93 = .ok (.getfield 100, 3)) ∧ (decode cX8_word 96 = .ok (.iload_n 1, 1)) ∧ (decode cX8_word 97 = .ok (.iload 4, 2)) ∧ (decode cX8_word 99 = .ok (.iastore, 1)) ∧ (decode cX8_word 100 = .ok (.iload 6, 2)) ∧ (decode cX8_word 102 = .ok (.ireturn, 1)) := by decide +kernel
theorem dX8_word_85 : decode cX8_word 85 = .ok (.aload_n 0, 1) := DdX8_word_85.1
theorem dX8_word_86 : decode cX8_word 86 = .ok (.getfield 97, 3) := DdX8_word_85.2.1
theorem dX8_word_89 : decode cX8_word 89 = .ok (.iload_n 1, 1) := DdX8_word_85.2.2.1
theorem dX8_word_90 : decode cX8_word 90 = .ok (.iload_n 3, 1) := DdX8_word_85.2.2.2.1
theorem dX8_word_91 : decode cX8_word 91 = .ok (.iastore, 1) := DdX8_word_85.2.2.2.2.1
theorem dX8_word_92 : decode cX8_word 92 = .ok (.aload_n 0, 1) := DdX8_word_85.2.2.2.2.2.1
theorem dX8_word_93 : decode cX8_word 93 = .ok (.getfield 100, 3) := DdX8_word_85.2.2.2.2.2.2.1
theorem dX8_word_96 : decode cX8_word 96 = .ok (.iload_n 1, 1) := DdX8_word_85.2.2.2.2.2.2.2.1
theorem dX8_word_97 : decode cX8_word 97 = .ok (.iload 4, 2) := DdX8_word_85.2.2.2.2.2.2.2.2.1
theorem dX8_word_99 : decode cX8_word 99 = .ok (.iastore, 1) := DdX8_word_85.2.2.2.2.2.2.2.2.2.1
theorem dX8_word_100 : decode cX8_word 100 = .ok (.iload 6, 2) := DdX8_word_85.2.2.2.2.2.2.2.2.2.2.1
theorem dX8_word_102 : decode cX8_word 102 = .ok (.ireturn, 1) := DdX8_word_85.2.2.2.2.2.2.2.2.2.2.2
theorem DdX8_less_0 : (decode cX8_less 0 = .ok (.iload_n 0, 1)) ∧ (decode cX8_less 1 = .ok (.iload_n 1, 1)) ∧ (decode cX8_less 2 = .ok (.if_icmp .le 9, 3)) ∧ (decode cX8_less 5 = .ok (.iload_n 0, 1)) ∧ (decode cX8_less 6 = .ok (.iload_n 1, 1)) ∧ (decode cX8_less 7 = .ok (.isub, 1)) ∧ (decode cX8_less 8 = .ok (.goto 4, 3)) ∧ (decode cX8_less 11 = .ok (.iconst 0, 1)) ∧ (decode cX8_less 12 = .ok (.ireturn, 1)) := by decide +kernel
theorem dX8_less_0 : decode cX8_less 0 = .ok (.iload_n 0, 1) := DdX8_less_0.1
theorem dX8_less_1 : decode cX8_less 1 = .ok (.iload_n 1, 1) := DdX8_less_0.2.1
theorem dX8_less_2 : decode cX8_less 2 = .ok (.if_icmp .le 9, 3) := DdX8_less_0.2.2.1
theorem dX8_less_5 : decode cX8_less 5 = .ok (.iload_n 0, 1) := DdX8_less_0.2.2.2.1
theorem dX8_less_6 : decode cX8_less 6 = .ok (.iload_n 1, 1) := DdX8_less_0.2.2.2.2.1
theorem dX8_less_7 : decode cX8_less 7 = .ok (.isub, 1) := DdX8_less_0.2.2.2.2.2.1
theorem dX8_less_8 : decode cX8_less 8 = .ok (.goto 4, 3) := DdX8_less_0.2.2.2.2.2.2.1
theorem dX8_less_11 : decode cX8_less 11 = .ok (.iconst 0, 1) := DdX8_less_0.2.2.2.2.2.2.2.1
theorem dX8_less_12 : decode cX8_less 12 = .ok (.ireturn, 1) := DdX8_less_0.2.2.2.2.2.2.2.2
theorem DdX8_sureWith_0 : (decode cX8_sureWith 0 = .ok (.aload_n 0, 1)) ∧ (decode cX8_sureWith 1 = .ok (.iload_n 1, 1)) ∧ (decode cX8_sureWith 2 = .ok (.iconst 0, 1)) ∧ (decode cX8_sureWith 3 = .ok (.invokevirtual 188, 3)) ∧ (decode cX8_sureWith 6 = .ok (.aload_n 0, 1)) ∧ (decode cX8_sureWith 7 = .ok (.iconst 1, 1)) ∧ (decode cX8_sureWith 8 = .ok (.invokevirtual 192, 3)) ∧ (decode cX8_sureWith 11 = .ok (.istore_n 3, 1)) ∧ (decode cX8_sureWith 12 = .ok (.aload_n 0, 1)) ∧ (decode cX8_sureWith 13 = .ok (.iconst 2, 1)) ∧ (decode cX8_sureWith 14 = .ok (.invokevirtual 192, 3)) ∧ (decode cX8_sureWith 17 = .ok (.istore 4, 2)) ∧ (decode cX8_sureWith 19 = .ok (.iconst 0, 1)) ∧ (decode cX8_sureWith 20 = .ok (.istore 5, 2)) ∧ (decode cX8_sureWith 22 = .ok (.iload 5, 2)) ∧ (decode cX8_sureWith 24 = .ok (.iconst 5, 1)) := by decide +kernel
theorem dX8_sureWith_0 : decode cX8_sureWith 0 = .ok (.aload_n 0, 1) := DdX8_sureWith_0.1
theorem dX8_sureWith_1 : decode cX8_sureWith 1 = .ok (.iload_n 1, 1) := DdX8_sureWith_0.2.1
theorem dX8_sureWith_2 : decode cX8_sureWith 2 = .ok (.iconst 0, 1) := DdX8_sureWith_0.2.2.1
theorem dX8_sureWith_3 : decode cX8_sureWith 3 = .ok (.invokevirtual 188, 3) := DdX8_sureWith_0.2.2.2.1
theorem dX8_sureWith_6 : decode cX8_sureWith 6 = .ok (.aload_n 0, 1) := DdX8_sureWith_0.2.2.2.2.1
theorem dX8_sureWith_7 : decode cX8_sureWith 7 = .ok (.iconst 1, 1) := DdX8_sureWith_0.2.2.2.2.2.1
theorem dX8_sureWith_8 : decode cX8_sureWith 8 = .ok (.invokevirtual 192, 3) := DdX8_sureWith_0.2.2.2.2.2.2.1
theorem dX8_sureWith_11 : decode cX8_sureWith 11 = .ok (.istore_n 3, 1) := DdX8_sureWith_0.2.2.2.2.2.2.2.1
theorem dX8_sureWith_12 : decode cX8_sureWith 12 = .ok (.aload_n 0, 1) := DdX8_sureWith_0.2.2.2.2.2.2.2.2.1
theorem dX8_sureWith_13 : decode cX8_sureWith 13 = .ok (.iconst 2, 1) := DdX8_sureWith_0.2.2.2.2.2.2.2.2.2.1
theorem dX8_sureWith_14 : decode cX8_sureWith 14 = .ok (.invokevirtual 192, 3) := DdX8_sureWith_0.2.2.2.2.2.2.2.2.2.2.1
theorem dX8_sureWith_17 : decode cX8_sureWith 17 = .ok (.istore 4, 2) := DdX8_sureWith_0.2.2.2.2.2.2.2.2.2.2.2.1
theorem dX8_sureWith_19 : decode cX8_sureWith 19 = .ok (.iconst 0, 1) := DdX8_sureWith_0.2.2.2.2.2.2.2.2.2.2.2.2.1
theorem dX8_sureWith_20 : decode cX8_sureWith 20 = .ok (.istore 5, 2) := DdX8_sureWith_0.2.2.2.2.2.2.2.2.2.2.2.2.2.1
theorem dX8_sureWith_22 : decode cX8_sureWith 22 = .ok (.iload 5, 2) := DdX8_sureWith_0.2.2.2.2.2.2.2.2.2.2.2.2.2.2.1
theorem dX8_sureWith_24 : decode cX8_sureWith 24 = .ok (.iconst 5, 1) := DdX8_sureWith_0.2.2.2.2.2.2.2.2.2.2.2.2.2.2.2
theorem DdX8_sureWith_25 : (decode cX8_sureWith 25 = .ok (.if_icmp .ge 164, 3)) ∧ (decode cX8_sureWith 28 = .ok (.iload_n 2, 1)) ∧ (decode cX8_sureWith 29 = .ok (.iload 5, 2)) ∧ (decode cX8_sureWith 31 = .ok (.ishr, 1)) ∧ (decode cX8_sureWith 32 = .ok (.iconst 1, 1)) ∧ (decode cX8_sureWith 33 = .ok (.iand, 1)) ∧ (decode cX8_sureWith 34 = .ok (.iconst 1, 1)) ∧ (decode cX8_sureWith 35 = .ok (.if_icmp .ne 148, 3)) ∧ (decode cX8_sureWith 38 = .ok (.aload_n 0, 1)) ∧ (decode cX8_sureWith 39 = .ok (.getfield 97, 3)) ∧ (decode cX8_sureWith 42 = .ok (.iload 5, 2)) ∧ (decode cX8_sureWith 44 = .ok (.iaload, 1)) ∧ (decode cX8_sureWith 45 = .ok (.istore 6, 2)) ∧ (decode cX8_sureWith 47 = .ok (.aload_n 0, 1)) ∧ (decode cX8_sureWith 48 = .ok (.getfield 100, 3)) ∧ (decode cX8_sureWith 51 = .ok (.iload 5, 2)) := by decide +kernel
theorem dX8_sureWith_25 : decode cX8_sureWith 25 = .ok (.if_icmp .ge 164, 3) := DdX8_sureWith_25.1
theorem dX8_sureWith_28 : decode cX8_sureWith 28 = .ok (.iload_n 2, 1) := DdX8_sureWith_25.2.1
theorem dX8_sureWith_29 : decode cX8_sureWith 29 = .ok (.iload 5, 2) := DdX8_sureWith_25.2.2.1
theorem dX8_sureWith_31 : decode cX8_sureWith 31 = .ok (.ishr, 1) := DdX8_sureWith_25.2.2.2.1
theorem dX8_sureWith_32 : decode cX8_sureWith 32 = .ok (.iconst 1, 1) := DdX8_sureWith_25.2.2.2.2.1
theorem dX8_sureWith_33 : decode cX8_sureWith 33 = .ok (.iand, 1) := DdX8_sureWith_25.2.2.2.2.2.1
theorem dX8_sureWith_34 : decode cX8_sureWith 34 = .ok (.iconst 1, 1) := DdX8_sureWith_25.2.2.2.2.2.2.1
theorem dX8_sureWith_35 : decode cX8_sureWith 35 = .ok (.if_icmp .ne 148, 3) := DdX8_sureWith_25.2.2.2.2.2.2.2.1
theorem dX8_sureWith_38 : decode cX8_sureWith 38 = .ok (.aload_n 0, 1) := DdX8_sureWith_25.2.2.2.2.2.2.2.2.1
theorem dX8_sureWith_39 : decode cX8_sureWith 39 = .ok (.getfield 97, 3) := DdX8_sureWith_25.2.2.2.2.2.2.2.2.2.1
theorem dX8_sureWith_42 : decode cX8_sureWith 42 = .ok (.iload 5, 2) := DdX8_sureWith_25.2.2.2.2.2.2.2.2.2.2.1
theorem dX8_sureWith_44 : decode cX8_sureWith 44 = .ok (.iaload, 1) := DdX8_sureWith_25.2.2.2.2.2.2.2.2.2.2.2.1
theorem dX8_sureWith_45 : decode cX8_sureWith 45 = .ok (.istore 6, 2) := DdX8_sureWith_25.2.2.2.2.2.2.2.2.2.2.2.2.1
theorem dX8_sureWith_47 : decode cX8_sureWith 47 = .ok (.aload_n 0, 1) := DdX8_sureWith_25.2.2.2.2.2.2.2.2.2.2.2.2.2.1
theorem dX8_sureWith_48 : decode cX8_sureWith 48 = .ok (.getfield 100, 3) := DdX8_sureWith_25.2.2.2.2.2.2.2.2.2.2.2.2.2.2.1
theorem dX8_sureWith_51 : decode cX8_sureWith 51 = .ok (.iload 5, 2) := DdX8_sureWith_25.2.2.2.2.2.2.2.2.2.2.2.2.2.2.2
theorem DdX8_sureWith_53 : (decode cX8_sureWith 53 = .ok (.iaload, 1)) ∧ (decode cX8_sureWith 54 = .ok (.istore 7, 2)) ∧ (decode cX8_sureWith 56 = .ok (.aload_n 0, 1)) ∧ (decode cX8_sureWith 57 = .ok (.getfield 94, 3)) ∧ (decode cX8_sureWith 60 = .ok (.iload 5, 2)) ∧ (decode cX8_sureWith 62 = .ok (.iaload, 1)) ∧ (decode cX8_sureWith 63 = .ok (.iconst 1, 1)) ∧ (decode cX8_sureWith 64 = .ok (.if_icmp .ne 17, 3)) ∧ (decode cX8_sureWith 67 = .ok (.iload 6, 2)) ∧ (decode cX8_sureWith 69 = .ok (.ifCond .ne 12, 3)) ∧ (decode cX8_sureWith 72 = .ok (.iload_n 3, 1)) ∧ (decode cX8_sureWith 73 = .ok (.iload 7, 2)) ∧ (decode cX8_sureWith 75 = .ok (.invokestatic 281, 3)) ∧ (decode cX8_sureWith 78 = .ok (.goto 4, 3)) ∧ (decode cX8_sureWith 81 = .ok (.iload_n 3, 1)) ∧ (decode cX8_sureWith 82 = .ok (.istore_n 3, 1)) := by decide +kernel
theorem dX8_sureWith_53 : decode cX8_sureWith 53 = .ok (.iaload, 1) := DdX8_sureWith_53.1
theorem dX8_sureWith_54 : decode cX8_sureWith 54 = .ok (.istore 7, 2) := DdX8_sureWith_53.2.1
theorem dX8_sureWith_56 : decode cX8_sureWith 56 = .ok (.aload_n 0, 1) := DdX8_sureWith_53.2.2.1
theorem dX8_sureWith_57 : decode cX8_sureWith 57 = .ok (.getfield 94, 3) := DdX8_sureWith_53.2.2.2.1
theorem dX8_sureWith_60 : decode cX8_sureWith 60 = .ok (.iload 5, 2) := DdX8_sureWith_53.2.2.2.2.1
theorem dX8_sureWith_62 : decode cX8_sureWith 62 = .ok (.iaload, 1) := DdX8_sureWith_53.2.2.2.2.2.1
theorem dX8_sureWith_63 : decode cX8_sureWith 63 = .ok (.iconst 1, 1) := DdX8_sureWith_53.2.2.2.2.2.2.1
theorem dX8_sureWith_64 : decode cX8_sureWith 64 = .ok (.if_icmp .ne 17, 3) := DdX8_sureWith_53.2.2.2.2.2.2.2.1
theorem dX8_sureWith_67 : decode cX8_sureWith 67 = .ok (.iload 6, 2) := DdX8_sureWith_53.2.2.2.2.2.2.2.2.1
theorem dX8_sureWith_69 : decode cX8_sureWith 69 = .ok (.ifCond .ne 12, 3) := DdX8_sureWith_53.2.2.2.2.2.2.2.2.2.1
theorem dX8_sureWith_72 : decode cX8_sureWith 72 = .ok (.iload_n 3, 1) := DdX8_sureWith_53.2.2.2.2.2.2.2.2.2.2.1
theorem dX8_sureWith_73 : decode cX8_sureWith 73 = .ok (.iload 7, 2) := DdX8_sureWith_53.2.2.2.2.2.2.2.2.2.2.2.1
theorem dX8_sureWith_75 : decode cX8_sureWith 75 = .ok (.invokestatic 281, 3) := DdX8_sureWith_53.2.2.2.2.2.2.2.2.2.2.2.2.1
theorem dX8_sureWith_78 : decode cX8_sureWith 78 = .ok (.goto 4, 3) := DdX8_sureWith_53.2.2.2.2.2.2.2.2.2.2.2.2.2.1
theorem dX8_sureWith_81 : decode cX8_sureWith 81 = .ok (.iload_n 3, 1) := DdX8_sureWith_53.2.2.2.2.2.2.2.2.2.2.2.2.2.2.1
theorem dX8_sureWith_82 : decode cX8_sureWith 82 = .ok (.istore_n 3, 1) := DdX8_sureWith_53.2.2.2.2.2.2.2.2.2.2.2.2.2.2.2
theorem DdX8_sureWith_83 : (decode cX8_sureWith 83 = .ok (.aload_n 0, 1)) ∧ (decode cX8_sureWith 84 = .ok (.getfield 94, 3)) ∧ (decode cX8_sureWith 87 = .ok (.iload 5, 2)) ∧ (decode cX8_sureWith 89 = .ok (.iaload, 1)) ∧ (decode cX8_sureWith 90 = .ok (.iconst 1, 1)) ∧ (decode cX8_sureWith 91 = .ok (.if_icmp .ne 19, 3)) ∧ (decode cX8_sureWith 94 = .ok (.iload 6, 2)) ∧ (decode cX8_sureWith 96 = .ok (.iconst 1, 1)) ∧ (decode cX8_sureWith 97 = .ok (.if_icmp .ne 13, 3)) ∧ (decode cX8_sureWith 100 = .ok (.iload 4, 2)) ∧ (decode cX8_sureWith 102 = .ok (.iload 7, 2)) ∧ (decode cX8_sureWith 104 = .ok (.invokestatic 281, 3)) ∧ (decode cX8_sureWith 107 = .ok (.goto 5, 3)) ∧ (decode cX8_sureWith 110 = .ok (.iload 4, 2)) ∧ (decode cX8_sureWith 112 = .ok (.istore 4, 2)) ∧ (decode cX8_sureWith 114 = .ok (.aload_n 0, 1)) := by decide +kernel
theorem dX8_sureWith_83 : decode cX8_sureWith 83 = .ok (.aload_n 0, 1) := DdX8_sureWith_83.1
theorem dX8_sureWith_84 : decode cX8_sureWith 84 = .ok (.getfield 94, 3) := DdX8_sureWith_83.2.1
theorem dX8_sureWith_87 : decode cX8_sureWith 87 = .ok (.iload 5, 2) := DdX8_sureWith_83.2.2.1
theorem dX8_sureWith_89 : decode cX8_sureWith 89 = .ok (.iaload, 1) := DdX8_sureWith_83.2.2.2.1
theorem dX8_sureWith_90 : decode cX8_sureWith 90 = .ok (.iconst 1, 1) := DdX8_sureWith_83.2.2.2.2.1
theorem dX8_sureWith_91 : decode cX8_sureWith 91 = .ok (.if_icmp .ne 19, 3) := DdX8_sureWith_83.2.2.2.2.2.1
theorem dX8_sureWith_94 : decode cX8_sureWith 94 = .ok (.iload 6, 2) := DdX8_sureWith_83.2.2.2.2.2.2.1
theorem dX8_sureWith_96 : decode cX8_sureWith 96 = .ok (.iconst 1, 1) := DdX8_sureWith_83.2.2.2.2.2.2.2.1
theorem dX8_sureWith_97 : decode cX8_sureWith 97 = .ok (.if_icmp .ne 13, 3) := DdX8_sureWith_83.2.2.2.2.2.2.2.2.1
theorem dX8_sureWith_100 : decode cX8_sureWith 100 = .ok (.iload 4, 2) := DdX8_sureWith_83.2.2.2.2.2.2.2.2.2.1
theorem dX8_sureWith_102 : decode cX8_sureWith 102 = .ok (.iload 7, 2) := DdX8_sureWith_83.2.2.2.2.2.2.2.2.2.2.1
theorem dX8_sureWith_104 : decode cX8_sureWith 104 = .ok (.invokestatic 281, 3) := DdX8_sureWith_83.2.2.2.2.2.2.2.2.2.2.2.1
theorem dX8_sureWith_107 : decode cX8_sureWith 107 = .ok (.goto 5, 3) := DdX8_sureWith_83.2.2.2.2.2.2.2.2.2.2.2.2.1
theorem dX8_sureWith_110 : decode cX8_sureWith 110 = .ok (.iload 4, 2) := DdX8_sureWith_83.2.2.2.2.2.2.2.2.2.2.2.2.2.1
theorem dX8_sureWith_112 : decode cX8_sureWith 112 = .ok (.istore 4, 2) := DdX8_sureWith_83.2.2.2.2.2.2.2.2.2.2.2.2.2.2.1
theorem dX8_sureWith_114 : decode cX8_sureWith 114 = .ok (.aload_n 0, 1) := DdX8_sureWith_83.2.2.2.2.2.2.2.2.2.2.2.2.2.2.2
theorem DdX8_sureWith_115 : (decode cX8_sureWith 115 = .ok (.getfield 67, 3)) ∧ (decode cX8_sureWith 118 = .ok (.iload 6, 2)) ∧ (decode cX8_sureWith 120 = .ok (.aload_n 0, 1)) ∧ (decode cX8_sureWith 121 = .ok (.getfield 94, 3)) ∧ (decode cX8_sureWith 124 = .ok (.iload 5, 2)) ∧ (decode cX8_sureWith 126 = .ok (.iaload, 1)) ∧ (decode cX8_sureWith 127 = .ok (.iconst 2, 1)) ∧ (decode cX8_sureWith 128 = .ok (.if_icmp .ne 18, 3)) ∧ (decode cX8_sureWith 131 = .ok (.aload_n 0, 1)) ∧ (decode cX8_sureWith 132 = .ok (.getfield 67, 3)) ∧ (decode cX8_sureWith 135 = .ok (.iload 6, 2)) ∧ (decode cX8_sureWith 137 = .ok (.iaload, 1)) ∧ (decode cX8_sureWith 138 = .ok (.iload 7, 2)) ∧ (decode cX8_sureWith 140 = .ok (.invokestatic 281, 3)) ∧ (decode cX8_sureWith 143 = .ok (.goto 10, 3)) ∧ (decode cX8_sureWith 146 = .ok (.aload_n 0, 1)) := by decide +kernel
theorem dX8_sureWith_115 : decode cX8_sureWith 115 = .ok (.getfield 67, 3) := DdX8_sureWith_115.1
theorem dX8_sureWith_118 : decode cX8_sureWith 118 = .ok (.iload 6, 2) := DdX8_sureWith_115.2.1
theorem dX8_sureWith_120 : decode cX8_sureWith 120 = .ok (.aload_n 0, 1) := DdX8_sureWith_115.2.2.1
theorem dX8_sureWith_121 : decode cX8_sureWith 121 = .ok (.getfield 94, 3) := DdX8_sureWith_115.2.2.2.1
theorem dX8_sureWith_124 : decode cX8_sureWith 124 = .ok (.iload 5, 2) := DdX8_sureWith_115.2.2.2.2.1
theorem dX8_sureWith_126 : decode cX8_sureWith 126 = .ok (.iaload, 1) := DdX8_sureWith_115.2.2.2.2.2.1
theorem dX8_sureWith_127 : decode cX8_sureWith 127 = .ok (.iconst 2, 1) := DdX8_sureWith_115.2.2.2.2.2.2.1
theorem dX8_sureWith_128 : decode cX8_sureWith 128 = .ok (.if_icmp .ne 18, 3) := DdX8_sureWith_115.2.2.2.2.2.2.2.1
theorem dX8_sureWith_131 : decode cX8_sureWith 131 = .ok (.aload_n 0, 1) := DdX8_sureWith_115.2.2.2.2.2.2.2.2.1
theorem dX8_sureWith_132 : decode cX8_sureWith 132 = .ok (.getfield 67, 3) := DdX8_sureWith_115.2.2.2.2.2.2.2.2.2.1
theorem dX8_sureWith_135 : decode cX8_sureWith 135 = .ok (.iload 6, 2) := DdX8_sureWith_115.2.2.2.2.2.2.2.2.2.2.1
theorem dX8_sureWith_137 : decode cX8_sureWith 137 = .ok (.iaload, 1) := DdX8_sureWith_115.2.2.2.2.2.2.2.2.2.2.2.1
theorem dX8_sureWith_138 : decode cX8_sureWith 138 = .ok (.iload 7, 2) := DdX8_sureWith_115.2.2.2.2.2.2.2.2.2.2.2.2.1
theorem dX8_sureWith_140 : decode cX8_sureWith 140 = .ok (.invokestatic 281, 3) := DdX8_sureWith_115.2.2.2.2.2.2.2.2.2.2.2.2.2.1
theorem dX8_sureWith_143 : decode cX8_sureWith 143 = .ok (.goto 10, 3) := DdX8_sureWith_115.2.2.2.2.2.2.2.2.2.2.2.2.2.2.1
theorem dX8_sureWith_146 : decode cX8_sureWith 146 = .ok (.aload_n 0, 1) := DdX8_sureWith_115.2.2.2.2.2.2.2.2.2.2.2.2.2.2.2
theorem DdX8_sureWith_147 : (decode cX8_sureWith 147 = .ok (.getfield 67, 3)) ∧ (decode cX8_sureWith 150 = .ok (.iload 6, 2)) ∧ (decode cX8_sureWith 152 = .ok (.iaload, 1)) ∧ (decode cX8_sureWith 153 = .ok (.iastore, 1)) ∧ (decode cX8_sureWith 154 = .ok (.aload_n 0, 1)) ∧ (decode cX8_sureWith 155 = .ok (.getfield 64, 3)) ∧ (decode cX8_sureWith 158 = .ok (.iload 6, 2)) ∧ (decode cX8_sureWith 160 = .ok (.dup2, 1)) ∧ (decode cX8_sureWith 161 = .ok (.iaload, 1)) ∧ (decode cX8_sureWith 162 = .ok (.aload_n 0, 1)) ∧ (decode cX8_sureWith 163 = .ok (.getfield 94, 3)) ∧ (decode cX8_sureWith 166 = .ok (.iload 5, 2)) ∧ (decode cX8_sureWith 168 = .ok (.iaload, 1)) ∧ (decode cX8_sureWith 169 = .ok (.iconst 3, 1)) ∧ (decode cX8_sureWith 170 = .ok (.if_icmp .ne 10, 3)) ∧ (decode cX8_sureWith 173 = .ok (.iconst 1, 1)) := by decide +kernel
theorem dX8_sureWith_147 : decode cX8_sureWith 147 = .ok (.getfield 67, 3) := DdX8_sureWith_147.1
theorem dX8_sureWith_150 : decode cX8_sureWith 150 = .ok (.iload 6, 2) := DdX8_sureWith_147.2.1
theorem dX8_sureWith_152 : decode cX8_sureWith 152 = .ok (.iaload, 1) := DdX8_sureWith_147.2.2.1
theorem dX8_sureWith_153 : decode cX8_sureWith 153 = .ok (.iastore, 1) := DdX8_sureWith_147.2.2.2.1
theorem dX8_sureWith_154 : decode cX8_sureWith 154 = .ok (.aload_n 0, 1) := DdX8_sureWith_147.2.2.2.2.1
theorem dX8_sureWith_155 : decode cX8_sureWith 155 = .ok (.getfield 64, 3) := DdX8_sureWith_147.2.2.2.2.2.1
theorem dX8_sureWith_158 : decode cX8_sureWith 158 = .ok (.iload 6, 2) := DdX8_sureWith_147.2.2.2.2.2.2.1
theorem dX8_sureWith_160 : decode cX8_sureWith 160 = .ok (.dup2, 1) := DdX8_sureWith_147.2.2.2.2.2.2.2.1
theorem dX8_sureWith_161 : decode cX8_sureWith 161 = .ok (.iaload, 1) := DdX8_sureWith_147.2.2.2.2.2.2.2.2.1
theorem dX8_sureWith_162 : decode cX8_sureWith 162 = .ok (.aload_n 0, 1) := DdX8_sureWith_147.2.2.2.2.2.2.2.2.2.1
theorem dX8_sureWith_163 : decode cX8_sureWith 163 = .ok (.getfield 94, 3) := DdX8_sureWith_147.2.2.2.2.2.2.2.2.2.2.1
theorem dX8_sureWith_166 : decode cX8_sureWith 166 = .ok (.iload 5, 2) := DdX8_sureWith_147.2.2.2.2.2.2.2.2.2.2.2.1
theorem dX8_sureWith_168 : decode cX8_sureWith 168 = .ok (.iaload, 1) := DdX8_sureWith_147.2.2.2.2.2.2.2.2.2.2.2.2.1
theorem dX8_sureWith_169 : decode cX8_sureWith 169 = .ok (.iconst 3, 1) := DdX8_sureWith_147.2.2.2.2.2.2.2.2.2.2.2.2.2.1
theorem dX8_sureWith_170 : decode cX8_sureWith 170 = .ok (.if_icmp .ne 10, 3) := DdX8_sureWith_147.2.2.2.2.2.2.2.2.2.2.2.2.2.2.1
theorem dX8_sureWith_173 : decode cX8_sureWith 173 = .ok (.iconst 1, 1) := DdX8_sureWith_147.2.2.2.2.2.2.2.2.2.2.2.2.2.2.2
theorem DdX8_sureWith_174 : (decode cX8_sureWith 174 = .ok (.iload 7, 2)) ∧ (decode cX8_sureWith 176 = .ok (.ishl, 1)) ∧ (decode cX8_sureWith 177 = .ok (.goto 4, 3)) ∧ (decode cX8_sureWith 180 = .ok (.iconst 0, 1)) ∧ (decode cX8_sureWith 181 = .ok (.ior, 1)) ∧ (decode cX8_sureWith 182 = .ok (.iastore, 1)) ∧ (decode cX8_sureWith 183 = .ok (.iinc 5 1, 3)) ∧ (decode cX8_sureWith 186 = .ok (.goto (-164), 3)) ∧ (decode cX8_sureWith 189 = .ok (.aload_n 0, 1)) ∧ (decode cX8_sureWith 190 = .ok (.getfield 179, 3)) ∧ (decode cX8_sureWith 193 = .ok (.ifCond .ne 5, 3)) ∧ (decode cX8_sureWith 196 = .ok (.iconst 0, 1)) ∧ (decode cX8_sureWith 197 = .ok (.ireturn, 1)) ∧ (decode cX8_sureWith 198 = .ok (.aload_n 0, 1)) ∧ (decode cX8_sureWith 199 = .ok (.iconst 0, 1)) ∧ (decode cX8_sureWith 200 = .ok (.iconst 0, 1)) := by decide +kernel
theorem dX8_sureWith_174 : decode cX8_sureWith 174 = .ok (.iload 7, 2) := DdX8_sureWith_174.1
theorem dX8_sureWith_176 : decode cX8_sureWith 176 = .ok (.ishl, 1) := DdX8_sureWith_174.2.1
theorem dX8_sureWith_177 : decode cX8_sureWith 177 = .ok (.goto 4, 3) := DdX8_sureWith_174.2.2.1
theorem dX8_sureWith_180 : decode cX8_sureWith 180 = .ok (.iconst 0, 1) := DdX8_sureWith_174.2.2.2.1
theorem dX8_sureWith_181 : decode cX8_sureWith 181 = .ok (.ior, 1) := DdX8_sureWith_174.2.2.2.2.1
theorem dX8_sureWith_182 : decode cX8_sureWith 182 = .ok (.iastore, 1) := DdX8_sureWith_174.2.2.2.2.2.1
theorem dX8_sureWith_183 : decode cX8_sureWith 183 = .ok (.iinc 5 1, 3) := DdX8_sureWith_174.2.2.2.2.2.2.1
theorem dX8_sureWith_186 : decode cX8_sureWith 186 = .ok (.goto (-164), 3) := DdX8_sureWith_174.2.2.2.2.2.2.2.1
theorem dX8_sureWith_189 : decode cX8_sureWith 189 = .ok (.aload_n 0, 1) := DdX8_sureWith_174.2.2.2.2.2.2.2.2.1
theorem dX8_sureWith_190 : decode cX8_sureWith 190 = .ok (.getfield 179, 3) := DdX8_sureWith_174.2.2.2.2.2.2.2.2.2.1
theorem dX8_sureWith_193 : decode cX8_sureWith 193 = .ok (.ifCond .ne 5, 3) := DdX8_sureWith_174.2.2.2.2.2.2.2.2.2.2.1
theorem dX8_sureWith_196 : decode cX8_sureWith 196 = .ok (.iconst 0, 1) := DdX8_sureWith_174.2.2.2.2.2.2.2.2.2.2.2.1
theorem dX8_sureWith_197 : decode cX8_sureWith 197 = .ok (.ireturn, 1) := DdX8_sureWith_174.2.2.2.2.2.2.2.2.2.2.2.2.1
theorem dX8_sureWith_198 : decode cX8_sureWith 198 = .ok (.aload_n 0, 1) := DdX8_sureWith_174.2.2.2.2.2.2.2.2.2.2.2.2.2.1
theorem dX8_sureWith_199 : decode cX8_sureWith 199 = .ok (.iconst 0, 1) := DdX8_sureWith_174.2.2.2.2.2.2.2.2.2.2.2.2.2.2.1
theorem dX8_sureWith_200 : decode cX8_sureWith 200 = .ok (.iconst 0, 1) := DdX8_sureWith_174.2.2.2.2.2.2.2.2.2.2.2.2.2.2.2
theorem DdX8_sureWith_201 : (decode cX8_sureWith 201 = .ok (.iload_n 3, 1)) ∧ (decode cX8_sureWith 202 = .ok (.iload 4, 2)) ∧ (decode cX8_sureWith 204 = .ok (.invokevirtual 262, 3)) ∧ (decode cX8_sureWith 207 = .ok (.aload_n 0, 1)) ∧ (decode cX8_sureWith 208 = .ok (.getfield 88, 3)) ∧ (decode cX8_sureWith 211 = .ok (.iconst 0, 1)) ∧ (decode cX8_sureWith 212 = .ok (.iconst 0, 1)) ∧ (decode cX8_sureWith 213 = .ok (.iload_n 3, 1)) ∧ (decode cX8_sureWith 214 = .ok (.iload 4, 2)) ∧ (decode cX8_sureWith 216 = .ok (.invokestatic 247, 3)) ∧ (decode cX8_sureWith 219 = .ok (.iaload, 1)) ∧ (decode cX8_sureWith 220 = .ok (.ireturn, 1)) := by decide +kernel
theorem dX8_sureWith_201 : decode cX8_sureWith 201 = .ok (.iload_n 3, 1) := DdX8_sureWith_201.1
theorem dX8_sureWith_202 : decode cX8_sureWith 202 = .ok (.iload 4, 2) := DdX8_sureWith_201.2.1
theorem dX8_sureWith_204 : decode cX8_sureWith 204 = .ok (.invokevirtual 262, 3) := DdX8_sureWith_201.2.2.1
theorem dX8_sureWith_207 : decode cX8_sureWith 207 = .ok (.aload_n 0, 1) := DdX8_sureWith_201.2.2.2.1
theorem dX8_sureWith_208 : decode cX8_sureWith 208 = .ok (.getfield 88, 3) := DdX8_sureWith_201.2.2.2.2.1
theorem dX8_sureWith_211 : decode cX8_sureWith 211 = .ok (.iconst 0, 1) := DdX8_sureWith_201.2.2.2.2.2.1
theorem dX8_sureWith_212 : decode cX8_sureWith 212 = .ok (.iconst 0, 1) := DdX8_sureWith_201.2.2.2.2.2.2.1
theorem dX8_sureWith_213 : decode cX8_sureWith 213 = .ok (.iload_n 3, 1) := DdX8_sureWith_201.2.2.2.2.2.2.2.1
theorem dX8_sureWith_214 : decode cX8_sureWith 214 = .ok (.iload 4, 2) := DdX8_sureWith_201.2.2.2.2.2.2.2.2.1
theorem dX8_sureWith_216 : decode cX8_sureWith 216 = .ok (.invokestatic 247, 3) := DdX8_sureWith_201.2.2.2.2.2.2.2.2.2.1
theorem dX8_sureWith_219 : decode cX8_sureWith 219 = .ok (.iaload, 1) := DdX8_sureWith_201.2.2.2.2.2.2.2.2.2.2.1
theorem dX8_sureWith_220 : decode cX8_sureWith 220 = .ok (.ireturn, 1) := DdX8_sureWith_201.2.2.2.2.2.2.2.2.2.2.2
theorem DdX8_mended_0 : (decode cX8_mended 0 = .ok (.iload_n 1, 1)) ∧ (decode cX8_mended 1 = .ok (.iconst 0, 1)) ∧ (decode cX8_mended 2 = .ok (.iconst 2, 1)) ∧ (decode cX8_mended 3 = .ok (.invokestatic 106, 3)) ∧ (decode cX8_mended 6 = .ok (.ifCond .ne 5, 3)) ∧ (decode cX8_mended 9 = .ok (.iconst (-1), 1)) ∧ (decode cX8_mended 10 = .ok (.ireturn, 1)) ∧ (decode cX8_mended 11 = .ok (.iconst 0, 1)) ∧ (decode cX8_mended 12 = .ok (.istore_n 2, 1)) ∧ (decode cX8_mended 13 = .ok (.iload_n 2, 1)) ∧ (decode cX8_mended 14 = .ok (.iconst 5, 1)) ∧ (decode cX8_mended 15 = .ok (.if_icmp .gt 107, 3)) ∧ (decode cX8_mended 18 = .ok (.bipush (-9), 2)) ∧ (decode cX8_mended 20 = .ok (.istore_n 3, 1)) ∧ (decode cX8_mended 21 = .ok (.iconst 0, 1)) ∧ (decode cX8_mended 22 = .ok (.istore 4, 2)) := by decide +kernel
theorem dX8_mended_0 : decode cX8_mended 0 = .ok (.iload_n 1, 1) := DdX8_mended_0.1
theorem dX8_mended_1 : decode cX8_mended 1 = .ok (.iconst 0, 1) := DdX8_mended_0.2.1
theorem dX8_mended_2 : decode cX8_mended 2 = .ok (.iconst 2, 1) := DdX8_mended_0.2.2.1
theorem dX8_mended_3 : decode cX8_mended 3 = .ok (.invokestatic 106, 3) := DdX8_mended_0.2.2.2.1
theorem dX8_mended_6 : decode cX8_mended 6 = .ok (.ifCond .ne 5, 3) := DdX8_mended_0.2.2.2.2.1
theorem dX8_mended_9 : decode cX8_mended 9 = .ok (.iconst (-1), 1) := DdX8_mended_0.2.2.2.2.2.1
theorem dX8_mended_10 : decode cX8_mended 10 = .ok (.ireturn, 1) := DdX8_mended_0.2.2.2.2.2.2.1
theorem dX8_mended_11 : decode cX8_mended 11 = .ok (.iconst 0, 1) := DdX8_mended_0.2.2.2.2.2.2.2.1
theorem dX8_mended_12 : decode cX8_mended 12 = .ok (.istore_n 2, 1) := DdX8_mended_0.2.2.2.2.2.2.2.2.1
theorem dX8_mended_13 : decode cX8_mended 13 = .ok (.iload_n 2, 1) := DdX8_mended_0.2.2.2.2.2.2.2.2.2.1
theorem dX8_mended_14 : decode cX8_mended 14 = .ok (.iconst 5, 1) := DdX8_mended_0.2.2.2.2.2.2.2.2.2.2.1
theorem dX8_mended_15 : decode cX8_mended 15 = .ok (.if_icmp .gt 107, 3) := DdX8_mended_0.2.2.2.2.2.2.2.2.2.2.2.1
theorem dX8_mended_18 : decode cX8_mended 18 = .ok (.bipush (-9), 2) := DdX8_mended_0.2.2.2.2.2.2.2.2.2.2.2.2.1
theorem dX8_mended_20 : decode cX8_mended 20 = .ok (.istore_n 3, 1) := DdX8_mended_0.2.2.2.2.2.2.2.2.2.2.2.2.2.1
theorem dX8_mended_21 : decode cX8_mended 21 = .ok (.iconst 0, 1) := DdX8_mended_0.2.2.2.2.2.2.2.2.2.2.2.2.2.2.1
theorem dX8_mended_22 : decode cX8_mended 22 = .ok (.istore 4, 2) := DdX8_mended_0.2.2.2.2.2.2.2.2.2.2.2.2.2.2.2
theorem DdX8_mended_24 : (decode cX8_mended 24 = .ok (.iconst 0, 1)) ∧ (decode cX8_mended 25 = .ok (.istore 5, 2)) ∧ (decode cX8_mended 27 = .ok (.iload 5, 2)) ∧ (decode cX8_mended 29 = .ok (.bipush 32, 2)) ∧ (decode cX8_mended 31 = .ok (.if_icmp .ge 60, 3)) ∧ (decode cX8_mended 34 = .ok (.iload 5, 2)) ∧ (decode cX8_mended 36 = .ok (.invokestatic 272, 3)) ∧ (decode cX8_mended 39 = .ok (.iload_n 2, 1)) ∧ (decode cX8_mended 40 = .ok (.if_icmp .ne 45, 3)) ∧ (decode cX8_mended 43 = .ok (.aload_n 0, 1)) ∧ (decode cX8_mended 44 = .ok (.iconst 0, 1)) ∧ (decode cX8_mended 45 = .ok (.iload 5, 2)) ∧ (decode cX8_mended 47 = .ok (.invokevirtual 284, 3)) ∧ (decode cX8_mended 50 = .ok (.sipush 9999, 3)) ∧ (decode cX8_mended 53 = .ok (.if_icmp .eq 32, 3)) ∧ (decode cX8_mended 56 = .ok (.aload_n 0, 1)) := by decide +kernel
theorem dX8_mended_24 : decode cX8_mended 24 = .ok (.iconst 0, 1) := DdX8_mended_24.1
theorem dX8_mended_25 : decode cX8_mended 25 = .ok (.istore 5, 2) := DdX8_mended_24.2.1
theorem dX8_mended_27 : decode cX8_mended 27 = .ok (.iload 5, 2) := DdX8_mended_24.2.2.1
theorem dX8_mended_29 : decode cX8_mended 29 = .ok (.bipush 32, 2) := DdX8_mended_24.2.2.2.1
theorem dX8_mended_31 : decode cX8_mended 31 = .ok (.if_icmp .ge 60, 3) := DdX8_mended_24.2.2.2.2.1
theorem dX8_mended_34 : decode cX8_mended 34 = .ok (.iload 5, 2) := DdX8_mended_24.2.2.2.2.2.1
theorem dX8_mended_36 : decode cX8_mended 36 = .ok (.invokestatic 272, 3) := DdX8_mended_24.2.2.2.2.2.2.1
theorem dX8_mended_39 : decode cX8_mended 39 = .ok (.iload_n 2, 1) := DdX8_mended_24.2.2.2.2.2.2.2.1
theorem dX8_mended_40 : decode cX8_mended 40 = .ok (.if_icmp .ne 45, 3) := DdX8_mended_24.2.2.2.2.2.2.2.2.1
theorem dX8_mended_43 : decode cX8_mended 43 = .ok (.aload_n 0, 1) := DdX8_mended_24.2.2.2.2.2.2.2.2.2.1
theorem dX8_mended_44 : decode cX8_mended 44 = .ok (.iconst 0, 1) := DdX8_mended_24.2.2.2.2.2.2.2.2.2.2.1
theorem dX8_mended_45 : decode cX8_mended 45 = .ok (.iload 5, 2) := DdX8_mended_24.2.2.2.2.2.2.2.2.2.2.2.1
theorem dX8_mended_47 : decode cX8_mended 47 = .ok (.invokevirtual 284, 3) := DdX8_mended_24.2.2.2.2.2.2.2.2.2.2.2.2.1
theorem dX8_mended_50 : decode cX8_mended 50 = .ok (.sipush 9999, 3) := DdX8_mended_24.2.2.2.2.2.2.2.2.2.2.2.2.2.1
theorem dX8_mended_53 : decode cX8_mended 53 = .ok (.if_icmp .eq 32, 3) := DdX8_mended_24.2.2.2.2.2.2.2.2.2.2.2.2.2.2.1
theorem dX8_mended_56 : decode cX8_mended 56 = .ok (.aload_n 0, 1) := DdX8_mended_24.2.2.2.2.2.2.2.2.2.2.2.2.2.2.2
theorem DdX8_mended_57 : (decode cX8_mended 57 = .ok (.iconst 1, 1)) ∧ (decode cX8_mended 58 = .ok (.iload 5, 2)) ∧ (decode cX8_mended 60 = .ok (.invokevirtual 284, 3)) ∧ (decode cX8_mended 63 = .ok (.sipush 9999, 3)) ∧ (decode cX8_mended 66 = .ok (.if_icmp .ne 19, 3)) ∧ (decode cX8_mended 69 = .ok (.iload_n 3, 1)) ∧ (decode cX8_mended 70 = .ok (.bipush (-9), 2)) ∧ (decode cX8_mended 72 = .ok (.if_icmp .ne 8, 3)) ∧ (decode cX8_mended 75 = .ok (.iload 5, 2)) ∧ (decode cX8_mended 77 = .ok (.goto 4, 3)) ∧ (decode cX8_mended 80 = .ok (.iload_n 3, 1)) ∧ (decode cX8_mended 81 = .ok (.istore_n 3, 1)) ∧ (decode cX8_mended 82 = .ok (.iinc 4 1, 3)) ∧ (decode cX8_mended 85 = .ok (.iinc 5 1, 3)) ∧ (decode cX8_mended 88 = .ok (.goto (-61), 3)) ∧ (decode cX8_mended 91 = .ok (.iload 4, 2)) := by decide +kernel
theorem dX8_mended_57 : decode cX8_mended 57 = .ok (.iconst 1, 1) := DdX8_mended_57.1
theorem dX8_mended_58 : decode cX8_mended 58 = .ok (.iload 5, 2) := DdX8_mended_57.2.1
theorem dX8_mended_60 : decode cX8_mended 60 = .ok (.invokevirtual 284, 3) := DdX8_mended_57.2.2.1
theorem dX8_mended_63 : decode cX8_mended 63 = .ok (.sipush 9999, 3) := DdX8_mended_57.2.2.2.1
theorem dX8_mended_66 : decode cX8_mended 66 = .ok (.if_icmp .ne 19, 3) := DdX8_mended_57.2.2.2.2.1
theorem dX8_mended_69 : decode cX8_mended 69 = .ok (.iload_n 3, 1) := DdX8_mended_57.2.2.2.2.2.1
theorem dX8_mended_70 : decode cX8_mended 70 = .ok (.bipush (-9), 2) := DdX8_mended_57.2.2.2.2.2.2.1
theorem dX8_mended_72 : decode cX8_mended 72 = .ok (.if_icmp .ne 8, 3) := DdX8_mended_57.2.2.2.2.2.2.2.1
theorem dX8_mended_75 : decode cX8_mended 75 = .ok (.iload 5, 2) := DdX8_mended_57.2.2.2.2.2.2.2.2.1
theorem dX8_mended_77 : decode cX8_mended 77 = .ok (.goto 4, 3) := DdX8_mended_57.2.2.2.2.2.2.2.2.2.1
theorem dX8_mended_80 : decode cX8_mended 80 = .ok (.iload_n 3, 1) := DdX8_mended_57.2.2.2.2.2.2.2.2.2.2.1
theorem dX8_mended_81 : decode cX8_mended 81 = .ok (.istore_n 3, 1) := DdX8_mended_57.2.2.2.2.2.2.2.2.2.2.2.1
theorem dX8_mended_82 : decode cX8_mended 82 = .ok (.iinc 4 1, 3) := DdX8_mended_57.2.2.2.2.2.2.2.2.2.2.2.2.1
theorem dX8_mended_85 : decode cX8_mended 85 = .ok (.iinc 5 1, 3) := DdX8_mended_57.2.2.2.2.2.2.2.2.2.2.2.2.2.1
theorem dX8_mended_88 : decode cX8_mended 88 = .ok (.goto (-61), 3) := DdX8_mended_57.2.2.2.2.2.2.2.2.2.2.2.2.2.2.1
theorem dX8_mended_91 : decode cX8_mended 91 = .ok (.iload 4, 2) := DdX8_mended_57.2.2.2.2.2.2.2.2.2.2.2.2.2.2.2
theorem DdX8_mended_93 : (decode cX8_mended 93 = .ok (.ifCond .le 23, 3)) ∧ (decode cX8_mended 96 = .ok (.iload_n 1, 1)) ∧ (decode cX8_mended 97 = .ok (.ifCond .ne 7, 3)) ∧ (decode cX8_mended 100 = .ok (.iload_n 2, 1)) ∧ (decode cX8_mended 101 = .ok (.goto 14, 3)) ∧ (decode cX8_mended 104 = .ok (.iload_n 1, 1)) ∧ (decode cX8_mended 105 = .ok (.iconst 1, 1)) ∧ (decode cX8_mended 106 = .ok (.if_icmp .ne 7, 3)) ∧ (decode cX8_mended 109 = .ok (.iload_n 3, 1)) ∧ (decode cX8_mended 110 = .ok (.goto 5, 3)) ∧ (decode cX8_mended 113 = .ok (.iload 4, 2)) ∧ (decode cX8_mended 115 = .ok (.ireturn, 1)) ∧ (decode cX8_mended 116 = .ok (.iinc 2 1, 3)) ∧ (decode cX8_mended 119 = .ok (.goto (-106), 3)) ∧ (decode cX8_mended 122 = .ok (.bipush (-9), 2)) ∧ (decode cX8_mended 124 = .ok (.ireturn, 1)) := by decide +kernel
theorem dX8_mended_93 : decode cX8_mended 93 = .ok (.ifCond .le 23, 3) := DdX8_mended_93.1
theorem dX8_mended_96 : decode cX8_mended 96 = .ok (.iload_n 1, 1) := DdX8_mended_93.2.1
theorem dX8_mended_97 : decode cX8_mended 97 = .ok (.ifCond .ne 7, 3) := DdX8_mended_93.2.2.1
theorem dX8_mended_100 : decode cX8_mended 100 = .ok (.iload_n 2, 1) := DdX8_mended_93.2.2.2.1
theorem dX8_mended_101 : decode cX8_mended 101 = .ok (.goto 14, 3) := DdX8_mended_93.2.2.2.2.1
theorem dX8_mended_104 : decode cX8_mended 104 = .ok (.iload_n 1, 1) := DdX8_mended_93.2.2.2.2.2.1
theorem dX8_mended_105 : decode cX8_mended 105 = .ok (.iconst 1, 1) := DdX8_mended_93.2.2.2.2.2.2.1
theorem dX8_mended_106 : decode cX8_mended 106 = .ok (.if_icmp .ne 7, 3) := DdX8_mended_93.2.2.2.2.2.2.2.1
theorem dX8_mended_109 : decode cX8_mended 109 = .ok (.iload_n 3, 1) := DdX8_mended_93.2.2.2.2.2.2.2.2.1
theorem dX8_mended_110 : decode cX8_mended 110 = .ok (.goto 5, 3) := DdX8_mended_93.2.2.2.2.2.2.2.2.2.1
theorem dX8_mended_113 : decode cX8_mended 113 = .ok (.iload 4, 2) := DdX8_mended_93.2.2.2.2.2.2.2.2.2.2.1
theorem dX8_mended_115 : decode cX8_mended 115 = .ok (.ireturn, 1) := DdX8_mended_93.2.2.2.2.2.2.2.2.2.2.2.1
theorem dX8_mended_116 : decode cX8_mended 116 = .ok (.iinc 2 1, 3) := DdX8_mended_93.2.2.2.2.2.2.2.2.2.2.2.2.1
theorem dX8_mended_119 : decode cX8_mended 119 = .ok (.goto (-106), 3) := DdX8_mended_93.2.2.2.2.2.2.2.2.2.2.2.2.2.1
theorem dX8_mended_122 : decode cX8_mended 122 = .ok (.bipush (-9), 2) := DdX8_mended_93.2.2.2.2.2.2.2.2.2.2.2.2.2.2.1
theorem dX8_mended_124 : decode cX8_mended 124 = .ok (.ireturn, 1) := DdX8_mended_93.2.2.2.2.2.2.2.2.2.2.2.2.2.2.2
theorem DdX8_price_0 : (decode cX8_price 0 = .ok (.iload_n 1, 1)) ∧ (decode cX8_price 1 = .ok (.iconst 0, 1)) ∧ (decode cX8_price 2 = .ok (.bipush 6, 2)) ∧ (decode cX8_price 4 = .ok (.invokestatic 106, 3)) ∧ (decode cX8_price 7 = .ok (.ifCond .eq 11, 3)) ∧ (decode cX8_price 10 = .ok (.aload_n 0, 1)) ∧ (decode cX8_price 11 = .ok (.iload_n 2, 1)) ∧ (decode cX8_price 12 = .ok (.invokevirtual 161, 3)) ∧ (decode cX8_price 15 = .ok (.ifCond .ne 5, 3)) ∧ (decode cX8_price 18 = .ok (.iconst (-1), 1)) ∧ (decode cX8_price 19 = .ok (.ireturn, 1)) ∧ (decode cX8_price 20 = .ok (.aload_n 0, 1)) ∧ (decode cX8_price 21 = .ok (.iload_n 2, 1)) ∧ (decode cX8_price 22 = .ok (.invokevirtual 165, 3)) ∧ (decode cX8_price 25 = .ok (.iconst 1, 1)) ∧ (decode cX8_price 26 = .ok (.iadd, 1)) := by decide +kernel
theorem dX8_price_0 : decode cX8_price 0 = .ok (.iload_n 1, 1) := DdX8_price_0.1
theorem dX8_price_1 : decode cX8_price 1 = .ok (.iconst 0, 1) := DdX8_price_0.2.1
theorem dX8_price_2 : decode cX8_price 2 = .ok (.bipush 6, 2) := DdX8_price_0.2.2.1
theorem dX8_price_4 : decode cX8_price 4 = .ok (.invokestatic 106, 3) := DdX8_price_0.2.2.2.1
theorem dX8_price_7 : decode cX8_price 7 = .ok (.ifCond .eq 11, 3) := DdX8_price_0.2.2.2.2.1
theorem dX8_price_10 : decode cX8_price 10 = .ok (.aload_n 0, 1) := DdX8_price_0.2.2.2.2.2.1
theorem dX8_price_11 : decode cX8_price 11 = .ok (.iload_n 2, 1) := DdX8_price_0.2.2.2.2.2.2.1
theorem dX8_price_12 : decode cX8_price 12 = .ok (.invokevirtual 161, 3) := DdX8_price_0.2.2.2.2.2.2.2.1
theorem dX8_price_15 : decode cX8_price 15 = .ok (.ifCond .ne 5, 3) := DdX8_price_0.2.2.2.2.2.2.2.2.1
theorem dX8_price_18 : decode cX8_price 18 = .ok (.iconst (-1), 1) := DdX8_price_0.2.2.2.2.2.2.2.2.2.1
theorem dX8_price_19 : decode cX8_price 19 = .ok (.ireturn, 1) := DdX8_price_0.2.2.2.2.2.2.2.2.2.2.1
theorem dX8_price_20 : decode cX8_price 20 = .ok (.aload_n 0, 1) := DdX8_price_0.2.2.2.2.2.2.2.2.2.2.2.1
theorem dX8_price_21 : decode cX8_price 21 = .ok (.iload_n 2, 1) := DdX8_price_0.2.2.2.2.2.2.2.2.2.2.2.2.1
theorem dX8_price_22 : decode cX8_price 22 = .ok (.invokevirtual 165, 3) := DdX8_price_0.2.2.2.2.2.2.2.2.2.2.2.2.2.1
theorem dX8_price_25 : decode cX8_price 25 = .ok (.iconst 1, 1) := DdX8_price_0.2.2.2.2.2.2.2.2.2.2.2.2.2.2.1
theorem dX8_price_26 : decode cX8_price 26 = .ok (.iadd, 1) := DdX8_price_0.2.2.2.2.2.2.2.2.2.2.2.2.2.2.2
theorem DdX8_price_27 : (decode cX8_price 27 = .ok (.istore_n 3, 1)) ∧ (decode cX8_price 28 = .ok (.iconst 0, 1)) ∧ (decode cX8_price 29 = .ok (.istore 4, 2)) ∧ (decode cX8_price 31 = .ok (.iconst 0, 1)) ∧ (decode cX8_price 32 = .ok (.istore 5, 2)) ∧ (decode cX8_price 34 = .ok (.iconst 0, 1)) ∧ (decode cX8_price 35 = .ok (.istore 6, 2)) ∧ (decode cX8_price 37 = .ok (.iload 6, 2)) ∧ (decode cX8_price 39 = .ok (.iconst 2, 1)) ∧ (decode cX8_price 40 = .ok (.if_icmp .ge 75, 3)) ∧ (decode cX8_price 43 = .ok (.iload 5, 2)) ∧ (decode cX8_price 45 = .ok (.aload_n 0, 1)) ∧ (decode cX8_price 46 = .ok (.getfield 16, 3)) ∧ (decode cX8_price 49 = .ok (.iload 6, 2)) ∧ (decode cX8_price 51 = .ok (.iaload, 1)) ∧ (decode cX8_price 52 = .ok (.ifCond .le 7, 3)) := by decide +kernel
theorem dX8_price_27 : decode cX8_price 27 = .ok (.istore_n 3, 1) := DdX8_price_27.1
theorem dX8_price_28 : decode cX8_price 28 = .ok (.iconst 0, 1) := DdX8_price_27.2.1
theorem dX8_price_29 : decode cX8_price 29 = .ok (.istore 4, 2) := DdX8_price_27.2.2.1
theorem dX8_price_31 : decode cX8_price 31 = .ok (.iconst 0, 1) := DdX8_price_27.2.2.2.1
theorem dX8_price_32 : decode cX8_price 32 = .ok (.istore 5, 2) := DdX8_price_27.2.2.2.2.1
theorem dX8_price_34 : decode cX8_price 34 = .ok (.iconst 0, 1) := DdX8_price_27.2.2.2.2.2.1
theorem dX8_price_35 : decode cX8_price 35 = .ok (.istore 6, 2) := DdX8_price_27.2.2.2.2.2.2.1
theorem dX8_price_37 : decode cX8_price 37 = .ok (.iload 6, 2) := DdX8_price_27.2.2.2.2.2.2.2.1
theorem dX8_price_39 : decode cX8_price 39 = .ok (.iconst 2, 1) := DdX8_price_27.2.2.2.2.2.2.2.2.1
theorem dX8_price_40 : decode cX8_price 40 = .ok (.if_icmp .ge 75, 3) := DdX8_price_27.2.2.2.2.2.2.2.2.2.1
theorem dX8_price_43 : decode cX8_price 43 = .ok (.iload 5, 2) := DdX8_price_27.2.2.2.2.2.2.2.2.2.2.1
theorem dX8_price_45 : decode cX8_price 45 = .ok (.aload_n 0, 1) := DdX8_price_27.2.2.2.2.2.2.2.2.2.2.2.1
theorem dX8_price_46 : decode cX8_price 46 = .ok (.getfield 16, 3) := DdX8_price_27.2.2.2.2.2.2.2.2.2.2.2.2.1
theorem dX8_price_49 : decode cX8_price 49 = .ok (.iload 6, 2) := DdX8_price_27.2.2.2.2.2.2.2.2.2.2.2.2.2.1
theorem dX8_price_51 : decode cX8_price 51 = .ok (.iaload, 1) := DdX8_price_27.2.2.2.2.2.2.2.2.2.2.2.2.2.2.1
theorem dX8_price_52 : decode cX8_price 52 = .ok (.ifCond .le 7, 3) := DdX8_price_27.2.2.2.2.2.2.2.2.2.2.2.2.2.2.2
theorem DdX8_price_55 : (decode cX8_price 55 = .ok (.iconst 1, 1)) ∧ (decode cX8_price 56 = .ok (.goto 4, 3)) ∧ (decode cX8_price 59 = .ok (.iconst 0, 1)) ∧ (decode cX8_price 60 = .ok (.iadd, 1)) ∧ (decode cX8_price 61 = .ok (.istore 5, 2)) ∧ (decode cX8_price 63 = .ok (.iconst 0, 1)) ∧ (decode cX8_price 64 = .ok (.istore 7, 2)) ∧ (decode cX8_price 66 = .ok (.iload 7, 2)) ∧ (decode cX8_price 68 = .ok (.aload_n 0, 1)) ∧ (decode cX8_price 69 = .ok (.getfield 16, 3)) ∧ (decode cX8_price 72 = .ok (.iload 6, 2)) ∧ (decode cX8_price 74 = .ok (.iaload, 1)) ∧ (decode cX8_price 75 = .ok (.if_icmp .ge 34, 3)) ∧ (decode cX8_price 78 = .ok (.iload 4, 2)) ∧ (decode cX8_price 80 = .ok (.aload_n 0, 1)) ∧ (decode cX8_price 81 = .ok (.getfield 19, 3)) := by decide +kernel
theorem dX8_price_55 : decode cX8_price 55 = .ok (.iconst 1, 1) := DdX8_price_55.1
theorem dX8_price_56 : decode cX8_price 56 = .ok (.goto 4, 3) := DdX8_price_55.2.1
theorem dX8_price_59 : decode cX8_price 59 = .ok (.iconst 0, 1) := DdX8_price_55.2.2.1
theorem dX8_price_60 : decode cX8_price 60 = .ok (.iadd, 1) := DdX8_price_55.2.2.2.1
theorem dX8_price_61 : decode cX8_price 61 = .ok (.istore 5, 2) := DdX8_price_55.2.2.2.2.1
theorem dX8_price_63 : decode cX8_price 63 = .ok (.iconst 0, 1) := DdX8_price_55.2.2.2.2.2.1
theorem dX8_price_64 : decode cX8_price 64 = .ok (.istore 7, 2) := DdX8_price_55.2.2.2.2.2.2.1
theorem dX8_price_66 : decode cX8_price 66 = .ok (.iload 7, 2) := DdX8_price_55.2.2.2.2.2.2.2.1
theorem dX8_price_68 : decode cX8_price 68 = .ok (.aload_n 0, 1) := DdX8_price_55.2.2.2.2.2.2.2.2.1
theorem dX8_price_69 : decode cX8_price 69 = .ok (.getfield 16, 3) := DdX8_price_55.2.2.2.2.2.2.2.2.2.1
theorem dX8_price_72 : decode cX8_price 72 = .ok (.iload 6, 2) := DdX8_price_55.2.2.2.2.2.2.2.2.2.2.1
theorem dX8_price_74 : decode cX8_price 74 = .ok (.iaload, 1) := DdX8_price_55.2.2.2.2.2.2.2.2.2.2.2.1
theorem dX8_price_75 : decode cX8_price 75 = .ok (.if_icmp .ge 34, 3) := DdX8_price_55.2.2.2.2.2.2.2.2.2.2.2.2.1
theorem dX8_price_78 : decode cX8_price 78 = .ok (.iload 4, 2) := DdX8_price_55.2.2.2.2.2.2.2.2.2.2.2.2.2.1
theorem dX8_price_80 : decode cX8_price 80 = .ok (.aload_n 0, 1) := DdX8_price_55.2.2.2.2.2.2.2.2.2.2.2.2.2.2.1
theorem dX8_price_81 : decode cX8_price 81 = .ok (.getfield 19, 3) := DdX8_price_55.2.2.2.2.2.2.2.2.2.2.2.2.2.2.2
theorem DdX8_price_84 : (decode cX8_price 84 = .ok (.iconst 4, 1)) ∧ (decode cX8_price 85 = .ok (.iload 6, 2)) ∧ (decode cX8_price 87 = .ok (.imul, 1)) ∧ (decode cX8_price 88 = .ok (.iload 7, 2)) ∧ (decode cX8_price 90 = .ok (.iadd, 1)) ∧ (decode cX8_price 91 = .ok (.iaload, 1)) ∧ (decode cX8_price 92 = .ok (.aload_n 0, 1)) ∧ (decode cX8_price 93 = .ok (.iload_n 2, 1)) ∧ (decode cX8_price 94 = .ok (.invokevirtual 165, 3)) ∧ (decode cX8_price 97 = .ok (.ishr, 1)) ∧ (decode cX8_price 98 = .ok (.iconst 1, 1)) ∧ (decode cX8_price 99 = .ok (.iand, 1)) ∧ (decode cX8_price 100 = .ok (.iadd, 1)) ∧ (decode cX8_price 101 = .ok (.istore 4, 2)) ∧ (decode cX8_price 103 = .ok (.iinc 7 1, 3)) ∧ (decode cX8_price 106 = .ok (.goto (-40), 3)) := by decide +kernel
theorem dX8_price_84 : decode cX8_price 84 = .ok (.iconst 4, 1) := DdX8_price_84.1
theorem dX8_price_85 : decode cX8_price 85 = .ok (.iload 6, 2) := DdX8_price_84.2.1
theorem dX8_price_87 : decode cX8_price 87 = .ok (.imul, 1) := DdX8_price_84.2.2.1
theorem dX8_price_88 : decode cX8_price 88 = .ok (.iload 7, 2) := DdX8_price_84.2.2.2.1
theorem dX8_price_90 : decode cX8_price 90 = .ok (.iadd, 1) := DdX8_price_84.2.2.2.2.1
theorem dX8_price_91 : decode cX8_price 91 = .ok (.iaload, 1) := DdX8_price_84.2.2.2.2.2.1
theorem dX8_price_92 : decode cX8_price 92 = .ok (.aload_n 0, 1) := DdX8_price_84.2.2.2.2.2.2.1
theorem dX8_price_93 : decode cX8_price 93 = .ok (.iload_n 2, 1) := DdX8_price_84.2.2.2.2.2.2.2.1
theorem dX8_price_94 : decode cX8_price 94 = .ok (.invokevirtual 165, 3) := DdX8_price_84.2.2.2.2.2.2.2.2.1
theorem dX8_price_97 : decode cX8_price 97 = .ok (.ishr, 1) := DdX8_price_84.2.2.2.2.2.2.2.2.2.1
theorem dX8_price_98 : decode cX8_price 98 = .ok (.iconst 1, 1) := DdX8_price_84.2.2.2.2.2.2.2.2.2.2.1
theorem dX8_price_99 : decode cX8_price 99 = .ok (.iand, 1) := DdX8_price_84.2.2.2.2.2.2.2.2.2.2.2.1
theorem dX8_price_100 : decode cX8_price 100 = .ok (.iadd, 1) := DdX8_price_84.2.2.2.2.2.2.2.2.2.2.2.2.1
theorem dX8_price_101 : decode cX8_price 101 = .ok (.istore 4, 2) := DdX8_price_84.2.2.2.2.2.2.2.2.2.2.2.2.2.1
theorem dX8_price_103 : decode cX8_price 103 = .ok (.iinc 7 1, 3) := DdX8_price_84.2.2.2.2.2.2.2.2.2.2.2.2.2.2.1
theorem dX8_price_106 : decode cX8_price 106 = .ok (.goto (-40), 3) := DdX8_price_84.2.2.2.2.2.2.2.2.2.2.2.2.2.2.2
theorem DdX8_price_109 : (decode cX8_price 109 = .ok (.iinc 6 1, 3)) ∧ (decode cX8_price 112 = .ok (.goto (-75), 3)) ∧ (decode cX8_price 115 = .ok (.iload_n 1, 1)) ∧ (decode cX8_price 116 = .ok (.tableswitch 167 0 5 #[40, 52, 69, 85, 112, 147], 40)) ∧ (decode cX8_price 156 = .ok (.aload_n 0, 1)) ∧ (decode cX8_price 157 = .ok (.dup, 1)) ∧ (decode cX8_price 158 = .ok (.getfield 287, 3)) ∧ (decode cX8_price 161 = .ok (.lconst 1, 1)) ∧ (decode cX8_price 162 = .ok (.ladd, 1)) ∧ (decode cX8_price 163 = .ok (.putfield 287, 3)) ∧ (decode cX8_price 166 = .ok (.iload_n 3, 1)) ∧ (decode cX8_price 167 = .ok (.ireturn, 1)) ∧ (decode cX8_price 168 = .ok (.aload_n 0, 1)) ∧ (decode cX8_price 169 = .ok (.dup, 1)) ∧ (decode cX8_price 170 = .ok (.getfield 287, 3)) ∧ (decode cX8_price 173 = .ok (.ldc2_w 291, 3)) := by decide +kernel
theorem dX8_price_109 : decode cX8_price 109 = .ok (.iinc 6 1, 3) := DdX8_price_109.1
theorem dX8_price_112 : decode cX8_price 112 = .ok (.goto (-75), 3) := DdX8_price_109.2.1
theorem dX8_price_115 : decode cX8_price 115 = .ok (.iload_n 1, 1) := DdX8_price_109.2.2.1
theorem dX8_price_116 : decode cX8_price 116 = .ok (.tableswitch 167 0 5 #[40, 52, 69, 85, 112, 147], 40) := DdX8_price_109.2.2.2.1
theorem dX8_price_156 : decode cX8_price 156 = .ok (.aload_n 0, 1) := DdX8_price_109.2.2.2.2.1
theorem dX8_price_157 : decode cX8_price 157 = .ok (.dup, 1) := DdX8_price_109.2.2.2.2.2.1
theorem dX8_price_158 : decode cX8_price 158 = .ok (.getfield 287, 3) := DdX8_price_109.2.2.2.2.2.2.1
theorem dX8_price_161 : decode cX8_price 161 = .ok (.lconst 1, 1) := DdX8_price_109.2.2.2.2.2.2.2.1
theorem dX8_price_162 : decode cX8_price 162 = .ok (.ladd, 1) := DdX8_price_109.2.2.2.2.2.2.2.2.1
theorem dX8_price_163 : decode cX8_price 163 = .ok (.putfield 287, 3) := DdX8_price_109.2.2.2.2.2.2.2.2.2.1
theorem dX8_price_166 : decode cX8_price 166 = .ok (.iload_n 3, 1) := DdX8_price_109.2.2.2.2.2.2.2.2.2.2.1
theorem dX8_price_167 : decode cX8_price 167 = .ok (.ireturn, 1) := DdX8_price_109.2.2.2.2.2.2.2.2.2.2.2.1
theorem dX8_price_168 : decode cX8_price 168 = .ok (.aload_n 0, 1) := DdX8_price_109.2.2.2.2.2.2.2.2.2.2.2.2.1
theorem dX8_price_169 : decode cX8_price 169 = .ok (.dup, 1) := DdX8_price_109.2.2.2.2.2.2.2.2.2.2.2.2.2.1
theorem dX8_price_170 : decode cX8_price 170 = .ok (.getfield 287, 3) := DdX8_price_109.2.2.2.2.2.2.2.2.2.2.2.2.2.2.1
theorem dX8_price_173 : decode cX8_price 173 = .ok (.ldc2_w 291, 3) := DdX8_price_109.2.2.2.2.2.2.2.2.2.2.2.2.2.2.2
theorem DdX8_price_176 : (decode cX8_price 176 = .ok (.ladd, 1)) ∧ (decode cX8_price 177 = .ok (.putfield 287, 3)) ∧ (decode cX8_price 180 = .ok (.iload_n 3, 1)) ∧ (decode cX8_price 181 = .ok (.iload 4, 2)) ∧ (decode cX8_price 183 = .ok (.iadd, 1)) ∧ (decode cX8_price 184 = .ok (.ireturn, 1)) ∧ (decode cX8_price 185 = .ok (.aload_n 0, 1)) ∧ (decode cX8_price 186 = .ok (.dup, 1)) ∧ (decode cX8_price 187 = .ok (.getfield 287, 3)) ∧ (decode cX8_price 190 = .ok (.ldc2_w 293, 3)) ∧ (decode cX8_price 193 = .ok (.ladd, 1)) ∧ (decode cX8_price 194 = .ok (.putfield 287, 3)) ∧ (decode cX8_price 197 = .ok (.iconst 3, 1)) ∧ (decode cX8_price 198 = .ok (.iload_n 3, 1)) ∧ (decode cX8_price 199 = .ok (.imul, 1)) ∧ (decode cX8_price 200 = .ok (.ireturn, 1)) := by decide +kernel
theorem dX8_price_176 : decode cX8_price 176 = .ok (.ladd, 1) := DdX8_price_176.1
theorem dX8_price_177 : decode cX8_price 177 = .ok (.putfield 287, 3) := DdX8_price_176.2.1
theorem dX8_price_180 : decode cX8_price 180 = .ok (.iload_n 3, 1) := DdX8_price_176.2.2.1
theorem dX8_price_181 : decode cX8_price 181 = .ok (.iload 4, 2) := DdX8_price_176.2.2.2.1
theorem dX8_price_183 : decode cX8_price 183 = .ok (.iadd, 1) := DdX8_price_176.2.2.2.2.1
theorem dX8_price_184 : decode cX8_price 184 = .ok (.ireturn, 1) := DdX8_price_176.2.2.2.2.2.1
theorem dX8_price_185 : decode cX8_price 185 = .ok (.aload_n 0, 1) := DdX8_price_176.2.2.2.2.2.2.1
theorem dX8_price_186 : decode cX8_price 186 = .ok (.dup, 1) := DdX8_price_176.2.2.2.2.2.2.2.1
theorem dX8_price_187 : decode cX8_price 187 = .ok (.getfield 287, 3) := DdX8_price_176.2.2.2.2.2.2.2.2.1
theorem dX8_price_190 : decode cX8_price 190 = .ok (.ldc2_w 293, 3) := DdX8_price_176.2.2.2.2.2.2.2.2.2.1
theorem dX8_price_193 : decode cX8_price 193 = .ok (.ladd, 1) := DdX8_price_176.2.2.2.2.2.2.2.2.2.2.1
theorem dX8_price_194 : decode cX8_price 194 = .ok (.putfield 287, 3) := DdX8_price_176.2.2.2.2.2.2.2.2.2.2.2.1
theorem dX8_price_197 : decode cX8_price 197 = .ok (.iconst 3, 1) := DdX8_price_176.2.2.2.2.2.2.2.2.2.2.2.2.1
theorem dX8_price_198 : decode cX8_price 198 = .ok (.iload_n 3, 1) := DdX8_price_176.2.2.2.2.2.2.2.2.2.2.2.2.2.1
theorem dX8_price_199 : decode cX8_price 199 = .ok (.imul, 1) := DdX8_price_176.2.2.2.2.2.2.2.2.2.2.2.2.2.2.1
theorem dX8_price_200 : decode cX8_price 200 = .ok (.ireturn, 1) := DdX8_price_176.2.2.2.2.2.2.2.2.2.2.2.2.2.2.2
theorem DdX8_price_201 : (decode cX8_price 201 = .ok (.aload_n 0, 1)) ∧ (decode cX8_price 202 = .ok (.dup, 1)) ∧ (decode cX8_price 203 = .ok (.getfield 287, 3)) ∧ (decode cX8_price 206 = .ok (.ldc2_w 295, 3)) ∧ (decode cX8_price 209 = .ok (.ladd, 1)) ∧ (decode cX8_price 210 = .ok (.putfield 287, 3)) ∧ (decode cX8_price 213 = .ok (.iconst 3, 1)) ∧ (decode cX8_price 214 = .ok (.iload_n 3, 1)) ∧ (decode cX8_price 215 = .ok (.imul, 1)) ∧ (decode cX8_price 216 = .ok (.aload_n 0, 1)) ∧ (decode cX8_price 217 = .ok (.getfield 7, 3)) ∧ (decode cX8_price 220 = .ok (.iconst 0, 1)) ∧ (decode cX8_price 221 = .ok (.iaload, 1)) ∧ (decode cX8_price 222 = .ok (.iadd, 1)) ∧ (decode cX8_price 223 = .ok (.iconst 1, 1)) ∧ (decode cX8_price 224 = .ok (.isub, 1)) := by decide +kernel
theorem dX8_price_201 : decode cX8_price 201 = .ok (.aload_n 0, 1) := DdX8_price_201.1
theorem dX8_price_202 : decode cX8_price 202 = .ok (.dup, 1) := DdX8_price_201.2.1
theorem dX8_price_203 : decode cX8_price 203 = .ok (.getfield 287, 3) := DdX8_price_201.2.2.1
theorem dX8_price_206 : decode cX8_price 206 = .ok (.ldc2_w 295, 3) := DdX8_price_201.2.2.2.1
theorem dX8_price_209 : decode cX8_price 209 = .ok (.ladd, 1) := DdX8_price_201.2.2.2.2.1
theorem dX8_price_210 : decode cX8_price 210 = .ok (.putfield 287, 3) := DdX8_price_201.2.2.2.2.2.1
theorem dX8_price_213 : decode cX8_price 213 = .ok (.iconst 3, 1) := DdX8_price_201.2.2.2.2.2.2.1
theorem dX8_price_214 : decode cX8_price 214 = .ok (.iload_n 3, 1) := DdX8_price_201.2.2.2.2.2.2.2.1
theorem dX8_price_215 : decode cX8_price 215 = .ok (.imul, 1) := DdX8_price_201.2.2.2.2.2.2.2.2.1
theorem dX8_price_216 : decode cX8_price 216 = .ok (.aload_n 0, 1) := DdX8_price_201.2.2.2.2.2.2.2.2.2.1
theorem dX8_price_217 : decode cX8_price 217 = .ok (.getfield 7, 3) := DdX8_price_201.2.2.2.2.2.2.2.2.2.2.1
theorem dX8_price_220 : decode cX8_price 220 = .ok (.iconst 0, 1) := DdX8_price_201.2.2.2.2.2.2.2.2.2.2.2.1
theorem dX8_price_221 : decode cX8_price 221 = .ok (.iaload, 1) := DdX8_price_201.2.2.2.2.2.2.2.2.2.2.2.2.1
theorem dX8_price_222 : decode cX8_price 222 = .ok (.iadd, 1) := DdX8_price_201.2.2.2.2.2.2.2.2.2.2.2.2.2.1
theorem dX8_price_223 : decode cX8_price 223 = .ok (.iconst 1, 1) := DdX8_price_201.2.2.2.2.2.2.2.2.2.2.2.2.2.2.1
theorem dX8_price_224 : decode cX8_price 224 = .ok (.isub, 1) := DdX8_price_201.2.2.2.2.2.2.2.2.2.2.2.2.2.2.2
theorem DdX8_price_225 : (decode cX8_price 225 = .ok (.iload_n 2, 1)) ∧ (decode cX8_price 226 = .ok (.isub, 1)) ∧ (decode cX8_price 227 = .ok (.ireturn, 1)) ∧ (decode cX8_price 228 = .ok (.aload_n 0, 1)) ∧ (decode cX8_price 229 = .ok (.dup, 1)) ∧ (decode cX8_price 230 = .ok (.getfield 287, 3)) ∧ (decode cX8_price 233 = .ok (.ldc2_w 297, 3)) ∧ (decode cX8_price 236 = .ok (.ladd, 1)) ∧ (decode cX8_price 237 = .ok (.putfield 287, 3)) ∧ (decode cX8_price 240 = .ok (.iload_n 3, 1)) ∧ (decode cX8_price 241 = .ok (.aload_n 0, 1)) ∧ (decode cX8_price 242 = .ok (.getfield 41, 3)) ∧ (decode cX8_price 245 = .ok (.iconst 0, 1)) ∧ (decode cX8_price 246 = .ok (.laload, 1)) ∧ (decode cX8_price 247 = .ok (.iload_n 2, 1)) ∧ (decode cX8_price 248 = .ok (.lshr, 1)) := by decide +kernel
theorem dX8_price_225 : decode cX8_price 225 = .ok (.iload_n 2, 1) := DdX8_price_225.1
theorem dX8_price_226 : decode cX8_price 226 = .ok (.isub, 1) := DdX8_price_225.2.1
theorem dX8_price_227 : decode cX8_price 227 = .ok (.ireturn, 1) := DdX8_price_225.2.2.1
theorem dX8_price_228 : decode cX8_price 228 = .ok (.aload_n 0, 1) := DdX8_price_225.2.2.2.1
theorem dX8_price_229 : decode cX8_price 229 = .ok (.dup, 1) := DdX8_price_225.2.2.2.2.1
theorem dX8_price_230 : decode cX8_price 230 = .ok (.getfield 287, 3) := DdX8_price_225.2.2.2.2.2.1
theorem dX8_price_233 : decode cX8_price 233 = .ok (.ldc2_w 297, 3) := DdX8_price_225.2.2.2.2.2.2.1
theorem dX8_price_236 : decode cX8_price 236 = .ok (.ladd, 1) := DdX8_price_225.2.2.2.2.2.2.2.1
theorem dX8_price_237 : decode cX8_price 237 = .ok (.putfield 287, 3) := DdX8_price_225.2.2.2.2.2.2.2.2.1
theorem dX8_price_240 : decode cX8_price 240 = .ok (.iload_n 3, 1) := DdX8_price_225.2.2.2.2.2.2.2.2.2.1
theorem dX8_price_241 : decode cX8_price 241 = .ok (.aload_n 0, 1) := DdX8_price_225.2.2.2.2.2.2.2.2.2.2.1
theorem dX8_price_242 : decode cX8_price 242 = .ok (.getfield 41, 3) := DdX8_price_225.2.2.2.2.2.2.2.2.2.2.2.1
theorem dX8_price_245 : decode cX8_price 245 = .ok (.iconst 0, 1) := DdX8_price_225.2.2.2.2.2.2.2.2.2.2.2.2.1
theorem dX8_price_246 : decode cX8_price 246 = .ok (.laload, 1) := DdX8_price_225.2.2.2.2.2.2.2.2.2.2.2.2.2.1
theorem dX8_price_247 : decode cX8_price 247 = .ok (.iload_n 2, 1) := DdX8_price_225.2.2.2.2.2.2.2.2.2.2.2.2.2.2.1
theorem dX8_price_248 : decode cX8_price 248 = .ok (.lshr, 1) := DdX8_price_225.2.2.2.2.2.2.2.2.2.2.2.2.2.2.2
theorem DdX8_price_249 : (decode cX8_price 249 = .ok (.lconst 1, 1)) ∧ (decode cX8_price 250 = .ok (.land, 1)) ∧ (decode cX8_price 251 = .ok (.lconst 1, 1)) ∧ (decode cX8_price 252 = .ok (.lcmp, 1)) ∧ (decode cX8_price 253 = .ok (.ifCond .ne 7, 3)) ∧ (decode cX8_price 256 = .ok (.iconst 5, 1)) ∧ (decode cX8_price 257 = .ok (.goto 4, 3)) ∧ (decode cX8_price 260 = .ok (.iconst 0, 1)) ∧ (decode cX8_price 261 = .ok (.iadd, 1)) ∧ (decode cX8_price 262 = .ok (.ireturn, 1)) ∧ (decode cX8_price 263 = .ok (.aload_n 0, 1)) ∧ (decode cX8_price 264 = .ok (.dup, 1)) ∧ (decode cX8_price 265 = .ok (.getfield 287, 3)) ∧ (decode cX8_price 268 = .ok (.ldc2_w 299, 3)) ∧ (decode cX8_price 271 = .ok (.ladd, 1)) ∧ (decode cX8_price 272 = .ok (.putfield 287, 3)) := by decide +kernel
theorem dX8_price_249 : decode cX8_price 249 = .ok (.lconst 1, 1) := DdX8_price_249.1
theorem dX8_price_250 : decode cX8_price 250 = .ok (.land, 1) := DdX8_price_249.2.1
theorem dX8_price_251 : decode cX8_price 251 = .ok (.lconst 1, 1) := DdX8_price_249.2.2.1
theorem dX8_price_252 : decode cX8_price 252 = .ok (.lcmp, 1) := DdX8_price_249.2.2.2.1
theorem dX8_price_253 : decode cX8_price 253 = .ok (.ifCond .ne 7, 3) := DdX8_price_249.2.2.2.2.1
theorem dX8_price_256 : decode cX8_price 256 = .ok (.iconst 5, 1) := DdX8_price_249.2.2.2.2.2.1
theorem dX8_price_257 : decode cX8_price 257 = .ok (.goto 4, 3) := DdX8_price_249.2.2.2.2.2.2.1
theorem dX8_price_260 : decode cX8_price 260 = .ok (.iconst 0, 1) := DdX8_price_249.2.2.2.2.2.2.2.1
theorem dX8_price_261 : decode cX8_price 261 = .ok (.iadd, 1) := DdX8_price_249.2.2.2.2.2.2.2.2.1
theorem dX8_price_262 : decode cX8_price 262 = .ok (.ireturn, 1) := DdX8_price_249.2.2.2.2.2.2.2.2.2.1
theorem dX8_price_263 : decode cX8_price 263 = .ok (.aload_n 0, 1) := DdX8_price_249.2.2.2.2.2.2.2.2.2.2.1
theorem dX8_price_264 : decode cX8_price 264 = .ok (.dup, 1) := DdX8_price_249.2.2.2.2.2.2.2.2.2.2.2.1
theorem dX8_price_265 : decode cX8_price 265 = .ok (.getfield 287, 3) := DdX8_price_249.2.2.2.2.2.2.2.2.2.2.2.2.1
theorem dX8_price_268 : decode cX8_price 268 = .ok (.ldc2_w 299, 3) := DdX8_price_249.2.2.2.2.2.2.2.2.2.2.2.2.2.1
theorem dX8_price_271 : decode cX8_price 271 = .ok (.ladd, 1) := DdX8_price_249.2.2.2.2.2.2.2.2.2.2.2.2.2.2.1
theorem dX8_price_272 : decode cX8_price 272 = .ok (.putfield 287, 3) := DdX8_price_249.2.2.2.2.2.2.2.2.2.2.2.2.2.2.2
theorem DdX8_price_275 : (decode cX8_price 275 = .ok (.iload_n 3, 1)) ∧ (decode cX8_price 276 = .ok (.iload 4, 2)) ∧ (decode cX8_price 278 = .ok (.iadd, 1)) ∧ (decode cX8_price 279 = .ok (.iload 5, 2)) ∧ (decode cX8_price 281 = .ok (.imul, 1)) ∧ (decode cX8_price 282 = .ok (.ireturn, 1)) ∧ (decode cX8_price 283 = .ok (.aload_n 0, 1)) ∧ (decode cX8_price 284 = .ok (.dup, 1)) ∧ (decode cX8_price 285 = .ok (.getfield 287, 3)) ∧ (decode cX8_price 288 = .ok (.ldc2_w 301, 3)) ∧ (decode cX8_price 291 = .ok (.ladd, 1)) ∧ (decode cX8_price 292 = .ok (.putfield 287, 3)) ∧ (decode cX8_price 295 = .ok (.iload_n 3, 1)) ∧ (decode cX8_price 296 = .ok (.iconst 2, 1)) ∧ (decode cX8_price 297 = .ok (.idiv, 1)) ∧ (decode cX8_price 298 = .ok (.ireturn, 1)) := by decide +kernel
theorem dX8_price_275 : decode cX8_price 275 = .ok (.iload_n 3, 1) := DdX8_price_275.1
theorem dX8_price_276 : decode cX8_price 276 = .ok (.iload 4, 2) := DdX8_price_275.2.1
theorem dX8_price_278 : decode cX8_price 278 = .ok (.iadd, 1) := DdX8_price_275.2.2.1
theorem dX8_price_279 : decode cX8_price 279 = .ok (.iload 5, 2) := DdX8_price_275.2.2.2.1
theorem dX8_price_281 : decode cX8_price 281 = .ok (.imul, 1) := DdX8_price_275.2.2.2.2.1
theorem dX8_price_282 : decode cX8_price 282 = .ok (.ireturn, 1) := DdX8_price_275.2.2.2.2.2.1
theorem dX8_price_283 : decode cX8_price 283 = .ok (.aload_n 0, 1) := DdX8_price_275.2.2.2.2.2.2.1
theorem dX8_price_284 : decode cX8_price 284 = .ok (.dup, 1) := DdX8_price_275.2.2.2.2.2.2.2.1
theorem dX8_price_285 : decode cX8_price 285 = .ok (.getfield 287, 3) := DdX8_price_275.2.2.2.2.2.2.2.2.1
theorem dX8_price_288 : decode cX8_price 288 = .ok (.ldc2_w 301, 3) := DdX8_price_275.2.2.2.2.2.2.2.2.2.1
theorem dX8_price_291 : decode cX8_price 291 = .ok (.ladd, 1) := DdX8_price_275.2.2.2.2.2.2.2.2.2.2.1
theorem dX8_price_292 : decode cX8_price 292 = .ok (.putfield 287, 3) := DdX8_price_275.2.2.2.2.2.2.2.2.2.2.2.1
theorem dX8_price_295 : decode cX8_price 295 = .ok (.iload_n 3, 1) := DdX8_price_275.2.2.2.2.2.2.2.2.2.2.2.2.1
theorem dX8_price_296 : decode cX8_price 296 = .ok (.iconst 2, 1) := DdX8_price_275.2.2.2.2.2.2.2.2.2.2.2.2.2.1
theorem dX8_price_297 : decode cX8_price 297 = .ok (.idiv, 1) := DdX8_price_275.2.2.2.2.2.2.2.2.2.2.2.2.2.2.1
theorem dX8_price_298 : decode cX8_price 298 = .ok (.ireturn, 1) := DdX8_price_275.2.2.2.2.2.2.2.2.2.2.2.2.2.2.2
theorem DdX8_copy_0 : (decode cX8_copy 0 = .ok (.iconst 0, 1)) ∧ (decode cX8_copy 1 = .ok (.istore_n 3, 1)) ∧ (decode cX8_copy 2 = .ok (.iload_n 3, 1)) ∧ (decode cX8_copy 3 = .ok (.bipush 40, 2)) ∧ (decode cX8_copy 5 = .ok (.if_icmp .ge 31, 3)) ∧ (decode cX8_copy 8 = .ok (.aload_n 0, 1)) ∧ (decode cX8_copy 9 = .ok (.getfield 38, 3)) ∧ (decode cX8_copy 12 = .ok (.bipush 40, 2)) ∧ (decode cX8_copy 14 = .ok (.iload_n 2, 1)) ∧ (decode cX8_copy 15 = .ok (.imul, 1)) ∧ (decode cX8_copy 16 = .ok (.iload_n 3, 1)) ∧ (decode cX8_copy 17 = .ok (.iadd, 1)) ∧ (decode cX8_copy 18 = .ok (.aload_n 0, 1)) ∧ (decode cX8_copy 19 = .ok (.getfield 38, 3)) ∧ (decode cX8_copy 22 = .ok (.bipush 40, 2)) ∧ (decode cX8_copy 24 = .ok (.iload_n 1, 1)) := by decide +kernel
theorem dX8_copy_0 : decode cX8_copy 0 = .ok (.iconst 0, 1) := DdX8_copy_0.1
theorem dX8_copy_1 : decode cX8_copy 1 = .ok (.istore_n 3, 1) := DdX8_copy_0.2.1
theorem dX8_copy_2 : decode cX8_copy 2 = .ok (.iload_n 3, 1) := DdX8_copy_0.2.2.1
theorem dX8_copy_3 : decode cX8_copy 3 = .ok (.bipush 40, 2) := DdX8_copy_0.2.2.2.1
theorem dX8_copy_5 : decode cX8_copy 5 = .ok (.if_icmp .ge 31, 3) := DdX8_copy_0.2.2.2.2.1
theorem dX8_copy_8 : decode cX8_copy 8 = .ok (.aload_n 0, 1) := DdX8_copy_0.2.2.2.2.2.1
theorem dX8_copy_9 : decode cX8_copy 9 = .ok (.getfield 38, 3) := DdX8_copy_0.2.2.2.2.2.2.1
theorem dX8_copy_12 : decode cX8_copy 12 = .ok (.bipush 40, 2) := DdX8_copy_0.2.2.2.2.2.2.2.1
theorem dX8_copy_14 : decode cX8_copy 14 = .ok (.iload_n 2, 1) := DdX8_copy_0.2.2.2.2.2.2.2.2.1
theorem dX8_copy_15 : decode cX8_copy 15 = .ok (.imul, 1) := DdX8_copy_0.2.2.2.2.2.2.2.2.2.1
theorem dX8_copy_16 : decode cX8_copy 16 = .ok (.iload_n 3, 1) := DdX8_copy_0.2.2.2.2.2.2.2.2.2.2.1
theorem dX8_copy_17 : decode cX8_copy 17 = .ok (.iadd, 1) := DdX8_copy_0.2.2.2.2.2.2.2.2.2.2.2.1
theorem dX8_copy_18 : decode cX8_copy 18 = .ok (.aload_n 0, 1) := DdX8_copy_0.2.2.2.2.2.2.2.2.2.2.2.2.1
theorem dX8_copy_19 : decode cX8_copy 19 = .ok (.getfield 38, 3) := DdX8_copy_0.2.2.2.2.2.2.2.2.2.2.2.2.2.1
theorem dX8_copy_22 : decode cX8_copy 22 = .ok (.bipush 40, 2) := DdX8_copy_0.2.2.2.2.2.2.2.2.2.2.2.2.2.2.1
theorem dX8_copy_24 : decode cX8_copy 24 = .ok (.iload_n 1, 1) := DdX8_copy_0.2.2.2.2.2.2.2.2.2.2.2.2.2.2.2
theorem DdX8_copy_25 : (decode cX8_copy 25 = .ok (.imul, 1)) ∧ (decode cX8_copy 26 = .ok (.iload_n 3, 1)) ∧ (decode cX8_copy 27 = .ok (.iadd, 1)) ∧ (decode cX8_copy 28 = .ok (.iaload, 1)) ∧ (decode cX8_copy 29 = .ok (.iastore, 1)) ∧ (decode cX8_copy 30 = .ok (.iinc 3 1, 3)) ∧ (decode cX8_copy 33 = .ok (.goto (-31), 3)) ∧ (decode cX8_copy 36 = .ok (.aload_n 0, 1)) ∧ (decode cX8_copy 37 = .ok (.getfield 41, 3)) ∧ (decode cX8_copy 40 = .ok (.iload_n 2, 1)) ∧ (decode cX8_copy 41 = .ok (.aload_n 0, 1)) ∧ (decode cX8_copy 42 = .ok (.getfield 41, 3)) ∧ (decode cX8_copy 45 = .ok (.iload_n 1, 1)) ∧ (decode cX8_copy 46 = .ok (.laload, 1)) ∧ (decode cX8_copy 47 = .ok (.lastore, 1)) ∧ (decode cX8_copy 48 = .ok (.return_, 1)) := by decide +kernel
theorem dX8_copy_25 : decode cX8_copy 25 = .ok (.imul, 1) := DdX8_copy_25.1
theorem dX8_copy_26 : decode cX8_copy 26 = .ok (.iload_n 3, 1) := DdX8_copy_25.2.1
theorem dX8_copy_27 : decode cX8_copy 27 = .ok (.iadd, 1) := DdX8_copy_25.2.2.1
theorem dX8_copy_28 : decode cX8_copy 28 = .ok (.iaload, 1) := DdX8_copy_25.2.2.2.1
theorem dX8_copy_29 : decode cX8_copy 29 = .ok (.iastore, 1) := DdX8_copy_25.2.2.2.2.1
theorem dX8_copy_30 : decode cX8_copy 30 = .ok (.iinc 3 1, 3) := DdX8_copy_25.2.2.2.2.2.1
theorem dX8_copy_33 : decode cX8_copy 33 = .ok (.goto (-31), 3) := DdX8_copy_25.2.2.2.2.2.2.1
theorem dX8_copy_36 : decode cX8_copy 36 = .ok (.aload_n 0, 1) := DdX8_copy_25.2.2.2.2.2.2.2.1
theorem dX8_copy_37 : decode cX8_copy 37 = .ok (.getfield 41, 3) := DdX8_copy_25.2.2.2.2.2.2.2.2.1
theorem dX8_copy_40 : decode cX8_copy 40 = .ok (.iload_n 2, 1) := DdX8_copy_25.2.2.2.2.2.2.2.2.2.1
theorem dX8_copy_41 : decode cX8_copy 41 = .ok (.aload_n 0, 1) := DdX8_copy_25.2.2.2.2.2.2.2.2.2.2.1
theorem dX8_copy_42 : decode cX8_copy 42 = .ok (.getfield 41, 3) := DdX8_copy_25.2.2.2.2.2.2.2.2.2.2.2.1
theorem dX8_copy_45 : decode cX8_copy 45 = .ok (.iload_n 1, 1) := DdX8_copy_25.2.2.2.2.2.2.2.2.2.2.2.2.1
theorem dX8_copy_46 : decode cX8_copy 46 = .ok (.laload, 1) := DdX8_copy_25.2.2.2.2.2.2.2.2.2.2.2.2.2.1
theorem dX8_copy_47 : decode cX8_copy 47 = .ok (.lastore, 1) := DdX8_copy_25.2.2.2.2.2.2.2.2.2.2.2.2.2.2.1
theorem dX8_copy_48 : decode cX8_copy 48 = .ok (.return_, 1) := DdX8_copy_25.2.2.2.2.2.2.2.2.2.2.2.2.2.2.2
theorem DdX8_keep_0 : (decode cX8_keep 0 = .ok (.iload_n 1, 1)) ∧ (decode cX8_keep 1 = .ok (.iconst 0, 1)) ∧ (decode cX8_keep 2 = .ok (.iconst 1, 1)) ∧ (decode cX8_keep 3 = .ok (.invokestatic 106, 3)) ∧ (decode cX8_keep 6 = .ok (.ifCond .ne 5, 3)) ∧ (decode cX8_keep 9 = .ok (.iconst (-1), 1)) ∧ (decode cX8_keep 10 = .ok (.ireturn, 1)) ∧ (decode cX8_keep 11 = .ok (.aload_n 0, 1)) ∧ (decode cX8_keep 12 = .ok (.iconst 0, 1)) ∧ (decode cX8_keep 13 = .ok (.iconst 1, 1)) ∧ (decode cX8_keep 14 = .ok (.iload_n 1, 1)) ∧ (decode cX8_keep 15 = .ok (.iadd, 1)) ∧ (decode cX8_keep 16 = .ok (.invokevirtual 303, 3)) ∧ (decode cX8_keep 19 = .ok (.aload_n 0, 1)) ∧ (decode cX8_keep 20 = .ok (.getfield 45, 3)) ∧ (decode cX8_keep 23 = .ok (.iload_n 1, 1)) := by decide +kernel
theorem dX8_keep_0 : decode cX8_keep 0 = .ok (.iload_n 1, 1) := DdX8_keep_0.1
theorem dX8_keep_1 : decode cX8_keep 1 = .ok (.iconst 0, 1) := DdX8_keep_0.2.1
theorem dX8_keep_2 : decode cX8_keep 2 = .ok (.iconst 1, 1) := DdX8_keep_0.2.2.1
theorem dX8_keep_3 : decode cX8_keep 3 = .ok (.invokestatic 106, 3) := DdX8_keep_0.2.2.2.1
theorem dX8_keep_6 : decode cX8_keep 6 = .ok (.ifCond .ne 5, 3) := DdX8_keep_0.2.2.2.2.1
theorem dX8_keep_9 : decode cX8_keep 9 = .ok (.iconst (-1), 1) := DdX8_keep_0.2.2.2.2.2.1
theorem dX8_keep_10 : decode cX8_keep 10 = .ok (.ireturn, 1) := DdX8_keep_0.2.2.2.2.2.2.1
theorem dX8_keep_11 : decode cX8_keep 11 = .ok (.aload_n 0, 1) := DdX8_keep_0.2.2.2.2.2.2.2.1
theorem dX8_keep_12 : decode cX8_keep 12 = .ok (.iconst 0, 1) := DdX8_keep_0.2.2.2.2.2.2.2.2.1
theorem dX8_keep_13 : decode cX8_keep 13 = .ok (.iconst 1, 1) := DdX8_keep_0.2.2.2.2.2.2.2.2.2.1
theorem dX8_keep_14 : decode cX8_keep 14 = .ok (.iload_n 1, 1) := DdX8_keep_0.2.2.2.2.2.2.2.2.2.2.1
theorem dX8_keep_15 : decode cX8_keep 15 = .ok (.iadd, 1) := DdX8_keep_0.2.2.2.2.2.2.2.2.2.2.2.1
theorem dX8_keep_16 : decode cX8_keep 16 = .ok (.invokevirtual 303, 3) := DdX8_keep_0.2.2.2.2.2.2.2.2.2.2.2.2.1
theorem dX8_keep_19 : decode cX8_keep 19 = .ok (.aload_n 0, 1) := DdX8_keep_0.2.2.2.2.2.2.2.2.2.2.2.2.2.1
theorem dX8_keep_20 : decode cX8_keep 20 = .ok (.getfield 45, 3) := DdX8_keep_0.2.2.2.2.2.2.2.2.2.2.2.2.2.2.1
theorem dX8_keep_23 : decode cX8_keep 23 = .ok (.iload_n 1, 1) := DdX8_keep_0.2.2.2.2.2.2.2.2.2.2.2.2.2.2.2
theorem DdX8_keep_24 : (decode cX8_keep 24 = .ok (.iconst 1, 1)) ∧ (decode cX8_keep 25 = .ok (.bastore, 1)) ∧ (decode cX8_keep 26 = .ok (.aload_n 0, 1)) ∧ (decode cX8_keep 27 = .ok (.getfield 49, 3)) ∧ (decode cX8_keep 30 = .ok (.iload_n 1, 1)) ∧ (decode cX8_keep 31 = .ok (.aload_n 0, 1)) ∧ (decode cX8_keep 32 = .ok (.getfield 158, 3)) ∧ (decode cX8_keep 35 = .ok (.iastore, 1)) ∧ (decode cX8_keep 36 = .ok (.aload_n 0, 1)) ∧ (decode cX8_keep 37 = .ok (.getfield 38, 3)) ∧ (decode cX8_keep 40 = .ok (.iconst 1, 1)) ∧ (decode cX8_keep 41 = .ok (.iaload, 1)) ∧ (decode cX8_keep 42 = .ok (.ireturn, 1)) := by decide +kernel
theorem dX8_keep_24 : decode cX8_keep 24 = .ok (.iconst 1, 1) := DdX8_keep_24.1
theorem dX8_keep_25 : decode cX8_keep 25 = .ok (.bastore, 1) := DdX8_keep_24.2.1
theorem dX8_keep_26 : decode cX8_keep 26 = .ok (.aload_n 0, 1) := DdX8_keep_24.2.2.1
theorem dX8_keep_27 : decode cX8_keep 27 = .ok (.getfield 49, 3) := DdX8_keep_24.2.2.2.1
theorem dX8_keep_30 : decode cX8_keep 30 = .ok (.iload_n 1, 1) := DdX8_keep_24.2.2.2.2.1
theorem dX8_keep_31 : decode cX8_keep 31 = .ok (.aload_n 0, 1) := DdX8_keep_24.2.2.2.2.2.1
theorem dX8_keep_32 : decode cX8_keep 32 = .ok (.getfield 158, 3) := DdX8_keep_24.2.2.2.2.2.2.1
theorem dX8_keep_35 : decode cX8_keep 35 = .ok (.iastore, 1) := DdX8_keep_24.2.2.2.2.2.2.2.1
theorem dX8_keep_36 : decode cX8_keep 36 = .ok (.aload_n 0, 1) := DdX8_keep_24.2.2.2.2.2.2.2.2.1
theorem dX8_keep_37 : decode cX8_keep 37 = .ok (.getfield 38, 3) := DdX8_keep_24.2.2.2.2.2.2.2.2.2.1
theorem dX8_keep_40 : decode cX8_keep 40 = .ok (.iconst 1, 1) := DdX8_keep_24.2.2.2.2.2.2.2.2.2.2.1
theorem dX8_keep_41 : decode cX8_keep 41 = .ok (.iaload, 1) := DdX8_keep_24.2.2.2.2.2.2.2.2.2.2.2.1
theorem dX8_keep_42 : decode cX8_keep 42 = .ok (.ireturn, 1) := DdX8_keep_24.2.2.2.2.2.2.2.2.2.2.2.2
theorem DdX8_back_0 : (decode cX8_back 0 = .ok (.iload_n 1, 1)) ∧ (decode cX8_back 1 = .ok (.iconst 0, 1)) ∧ (decode cX8_back 2 = .ok (.iconst 1, 1)) ∧ (decode cX8_back 3 = .ok (.invokestatic 106, 3)) ∧ (decode cX8_back 6 = .ok (.ifCond .ne 5, 3)) ∧ (decode cX8_back 9 = .ok (.iconst (-1), 1)) ∧ (decode cX8_back 10 = .ok (.ireturn, 1)) ∧ (decode cX8_back 11 = .ok (.aload_n 0, 1)) ∧ (decode cX8_back 12 = .ok (.getfield 45, 3)) ∧ (decode cX8_back 15 = .ok (.iload_n 1, 1)) ∧ (decode cX8_back 16 = .ok (.baload, 1)) ∧ (decode cX8_back 17 = .ok (.ifCond .ne 6, 3)) ∧ (decode cX8_back 20 = .ok (.bipush (-2), 2)) ∧ (decode cX8_back 22 = .ok (.ireturn, 1)) ∧ (decode cX8_back 23 = .ok (.aload_n 0, 1)) ∧ (decode cX8_back 24 = .ok (.iconst 1, 1)) := by decide +kernel
theorem dX8_back_0 : decode cX8_back 0 = .ok (.iload_n 1, 1) := DdX8_back_0.1
theorem dX8_back_1 : decode cX8_back 1 = .ok (.iconst 0, 1) := DdX8_back_0.2.1
theorem dX8_back_2 : decode cX8_back 2 = .ok (.iconst 1, 1) := DdX8_back_0.2.2.1
theorem dX8_back_3 : decode cX8_back 3 = .ok (.invokestatic 106, 3) := DdX8_back_0.2.2.2.1
theorem dX8_back_6 : decode cX8_back 6 = .ok (.ifCond .ne 5, 3) := DdX8_back_0.2.2.2.2.1
theorem dX8_back_9 : decode cX8_back 9 = .ok (.iconst (-1), 1) := DdX8_back_0.2.2.2.2.2.1
theorem dX8_back_10 : decode cX8_back 10 = .ok (.ireturn, 1) := DdX8_back_0.2.2.2.2.2.2.1
theorem dX8_back_11 : decode cX8_back 11 = .ok (.aload_n 0, 1) := DdX8_back_0.2.2.2.2.2.2.2.1
theorem dX8_back_12 : decode cX8_back 12 = .ok (.getfield 45, 3) := DdX8_back_0.2.2.2.2.2.2.2.2.1
theorem dX8_back_15 : decode cX8_back 15 = .ok (.iload_n 1, 1) := DdX8_back_0.2.2.2.2.2.2.2.2.2.1
theorem dX8_back_16 : decode cX8_back 16 = .ok (.baload, 1) := DdX8_back_0.2.2.2.2.2.2.2.2.2.2.1
theorem dX8_back_17 : decode cX8_back 17 = .ok (.ifCond .ne 6, 3) := DdX8_back_0.2.2.2.2.2.2.2.2.2.2.2.1
theorem dX8_back_20 : decode cX8_back 20 = .ok (.bipush (-2), 2) := DdX8_back_0.2.2.2.2.2.2.2.2.2.2.2.2.1
theorem dX8_back_22 : decode cX8_back 22 = .ok (.ireturn, 1) := DdX8_back_0.2.2.2.2.2.2.2.2.2.2.2.2.2.1
theorem dX8_back_23 : decode cX8_back 23 = .ok (.aload_n 0, 1) := DdX8_back_0.2.2.2.2.2.2.2.2.2.2.2.2.2.2.1
theorem dX8_back_24 : decode cX8_back 24 = .ok (.iconst 1, 1) := DdX8_back_0.2.2.2.2.2.2.2.2.2.2.2.2.2.2.2
theorem DdX8_back_25 : (decode cX8_back 25 = .ok (.iload_n 1, 1)) ∧ (decode cX8_back 26 = .ok (.iadd, 1)) ∧ (decode cX8_back 27 = .ok (.iconst 0, 1)) ∧ (decode cX8_back 28 = .ok (.invokevirtual 303, 3)) ∧ (decode cX8_back 31 = .ok (.aload_n 0, 1)) ∧ (decode cX8_back 32 = .ok (.getfield 49, 3)) ∧ (decode cX8_back 35 = .ok (.iload_n 1, 1)) ∧ (decode cX8_back 36 = .ok (.iaload, 1)) ∧ (decode cX8_back 37 = .ok (.istore_n 2, 1)) ∧ (decode cX8_back 38 = .ok (.iload_n 2, 1)) ∧ (decode cX8_back 39 = .ok (.aload_n 0, 1)) ∧ (decode cX8_back 40 = .ok (.getfield 158, 3)) ∧ (decode cX8_back 43 = .ok (.if_icmp .ge 24, 3)) ∧ (decode cX8_back 46 = .ok (.aload_n 0, 1)) ∧ (decode cX8_back 47 = .ok (.getfield 38, 3)) ∧ (decode cX8_back 50 = .ok (.bipush 20, 2)) := by decide +kernel
theorem dX8_back_25 : decode cX8_back 25 = .ok (.iload_n 1, 1) := DdX8_back_25.1
theorem dX8_back_26 : decode cX8_back 26 = .ok (.iadd, 1) := DdX8_back_25.2.1
theorem dX8_back_27 : decode cX8_back 27 = .ok (.iconst 0, 1) := DdX8_back_25.2.2.1
theorem dX8_back_28 : decode cX8_back 28 = .ok (.invokevirtual 303, 3) := DdX8_back_25.2.2.2.1
theorem dX8_back_31 : decode cX8_back 31 = .ok (.aload_n 0, 1) := DdX8_back_25.2.2.2.2.1
theorem dX8_back_32 : decode cX8_back 32 = .ok (.getfield 49, 3) := DdX8_back_25.2.2.2.2.2.1
theorem dX8_back_35 : decode cX8_back 35 = .ok (.iload_n 1, 1) := DdX8_back_25.2.2.2.2.2.2.1
theorem dX8_back_36 : decode cX8_back 36 = .ok (.iaload, 1) := DdX8_back_25.2.2.2.2.2.2.2.1
theorem dX8_back_37 : decode cX8_back 37 = .ok (.istore_n 2, 1) := DdX8_back_25.2.2.2.2.2.2.2.2.1
theorem dX8_back_38 : decode cX8_back 38 = .ok (.iload_n 2, 1) := DdX8_back_25.2.2.2.2.2.2.2.2.2.1
theorem dX8_back_39 : decode cX8_back 39 = .ok (.aload_n 0, 1) := DdX8_back_25.2.2.2.2.2.2.2.2.2.2.1
theorem dX8_back_40 : decode cX8_back 40 = .ok (.getfield 158, 3) := DdX8_back_25.2.2.2.2.2.2.2.2.2.2.2.1
theorem dX8_back_43 : decode cX8_back 43 = .ok (.if_icmp .ge 24, 3) := DdX8_back_25.2.2.2.2.2.2.2.2.2.2.2.2.1
theorem dX8_back_46 : decode cX8_back 46 = .ok (.aload_n 0, 1) := DdX8_back_25.2.2.2.2.2.2.2.2.2.2.2.2.2.1
theorem dX8_back_47 : decode cX8_back 47 = .ok (.getfield 38, 3) := DdX8_back_25.2.2.2.2.2.2.2.2.2.2.2.2.2.2.1
theorem dX8_back_50 : decode cX8_back 50 = .ok (.bipush 20, 2) := DdX8_back_25.2.2.2.2.2.2.2.2.2.2.2.2.2.2.2
theorem DdX8_back_52 : (decode cX8_back 52 = .ok (.iload_n 2, 1)) ∧ (decode cX8_back 53 = .ok (.iadd, 1)) ∧ (decode cX8_back 54 = .ok (.aload_n 0, 1)) ∧ (decode cX8_back 55 = .ok (.getfield 55, 3)) ∧ (decode cX8_back 58 = .ok (.iload_n 2, 1)) ∧ (decode cX8_back 59 = .ok (.iaload, 1)) ∧ (decode cX8_back 60 = .ok (.iastore, 1)) ∧ (decode cX8_back 61 = .ok (.iinc 2 1, 3)) ∧ (decode cX8_back 64 = .ok (.goto (-26), 3)) ∧ (decode cX8_back 67 = .ok (.aload_n 0, 1)) ∧ (decode cX8_back 68 = .ok (.getfield 38, 3)) ∧ (decode cX8_back 71 = .ok (.iconst 1, 1)) ∧ (decode cX8_back 72 = .ok (.iaload, 1)) ∧ (decode cX8_back 73 = .ok (.ireturn, 1)) := by decide +kernel
theorem dX8_back_52 : decode cX8_back 52 = .ok (.iload_n 2, 1) := DdX8_back_52.1
theorem dX8_back_53 : decode cX8_back 53 = .ok (.iadd, 1) := DdX8_back_52.2.1
theorem dX8_back_54 : decode cX8_back 54 = .ok (.aload_n 0, 1) := DdX8_back_52.2.2.1
theorem dX8_back_55 : decode cX8_back 55 = .ok (.getfield 55, 3) := DdX8_back_52.2.2.2.1
theorem dX8_back_58 : decode cX8_back 58 = .ok (.iload_n 2, 1) := DdX8_back_52.2.2.2.2.1
theorem dX8_back_59 : decode cX8_back 59 = .ok (.iaload, 1) := DdX8_back_52.2.2.2.2.2.1
theorem dX8_back_60 : decode cX8_back 60 = .ok (.iastore, 1) := DdX8_back_52.2.2.2.2.2.2.1
theorem dX8_back_61 : decode cX8_back 61 = .ok (.iinc 2 1, 3) := DdX8_back_52.2.2.2.2.2.2.2.1
theorem dX8_back_64 : decode cX8_back 64 = .ok (.goto (-26), 3) := DdX8_back_52.2.2.2.2.2.2.2.2.1
theorem dX8_back_67 : decode cX8_back 67 = .ok (.aload_n 0, 1) := DdX8_back_52.2.2.2.2.2.2.2.2.2.1
theorem dX8_back_68 : decode cX8_back 68 = .ok (.getfield 38, 3) := DdX8_back_52.2.2.2.2.2.2.2.2.2.2.1
theorem dX8_back_71 : decode cX8_back 71 = .ok (.iconst 1, 1) := DdX8_back_52.2.2.2.2.2.2.2.2.2.2.2.1
theorem dX8_back_72 : decode cX8_back 72 = .ok (.iaload, 1) := DdX8_back_52.2.2.2.2.2.2.2.2.2.2.2.2.1
theorem dX8_back_73 : decode cX8_back 73 = .ok (.ireturn, 1) := DdX8_back_52.2.2.2.2.2.2.2.2.2.2.2.2.2
theorem DdX8_count_0 : (decode cX8_count 0 = .ok (.iconst 0, 1)) ∧ (decode cX8_count 1 = .ok (.istore_n 2, 1)) ∧ (decode cX8_count 2 = .ok (.iload_n 1, 1)) ∧ (decode cX8_count 3 = .ok (.tableswitch 105 0 6 #[41, 48, 53, 58, 63, 69, 75], 41)) ∧ (decode cX8_count 44 = .ok (.aload_n 0, 1)) ∧ (decode cX8_count 45 = .ok (.getfield 7, 3)) ∧ (decode cX8_count 48 = .ok (.iconst 0, 1)) ∧ (decode cX8_count 49 = .ok (.iaload, 1)) ∧ (decode cX8_count 50 = .ok (.ireturn, 1)) ∧ (decode cX8_count 51 = .ok (.aload_n 0, 1)) ∧ (decode cX8_count 52 = .ok (.getfield 158, 3)) ∧ (decode cX8_count 55 = .ok (.ireturn, 1)) ∧ (decode cX8_count 56 = .ok (.aload_n 0, 1)) ∧ (decode cX8_count 57 = .ok (.getfield 275, 3)) ∧ (decode cX8_count 60 = .ok (.ireturn, 1)) ∧ (decode cX8_count 61 = .ok (.aload_n 0, 1)) := by decide +kernel
theorem dX8_count_0 : decode cX8_count 0 = .ok (.iconst 0, 1) := DdX8_count_0.1
theorem dX8_count_1 : decode cX8_count 1 = .ok (.istore_n 2, 1) := DdX8_count_0.2.1
theorem dX8_count_2 : decode cX8_count 2 = .ok (.iload_n 1, 1) := DdX8_count_0.2.2.1
theorem dX8_count_3 : decode cX8_count 3 = .ok (.tableswitch 105 0 6 #[41, 48, 53, 58, 63, 69, 75], 41) := DdX8_count_0.2.2.2.1
theorem dX8_count_44 : decode cX8_count 44 = .ok (.aload_n 0, 1) := DdX8_count_0.2.2.2.2.1
theorem dX8_count_45 : decode cX8_count 45 = .ok (.getfield 7, 3) := DdX8_count_0.2.2.2.2.2.1
theorem dX8_count_48 : decode cX8_count 48 = .ok (.iconst 0, 1) := DdX8_count_0.2.2.2.2.2.2.1
theorem dX8_count_49 : decode cX8_count 49 = .ok (.iaload, 1) := DdX8_count_0.2.2.2.2.2.2.2.1
theorem dX8_count_50 : decode cX8_count 50 = .ok (.ireturn, 1) := DdX8_count_0.2.2.2.2.2.2.2.2.1
theorem dX8_count_51 : decode cX8_count 51 = .ok (.aload_n 0, 1) := DdX8_count_0.2.2.2.2.2.2.2.2.2.1
theorem dX8_count_52 : decode cX8_count 52 = .ok (.getfield 158, 3) := DdX8_count_0.2.2.2.2.2.2.2.2.2.2.1
theorem dX8_count_55 : decode cX8_count 55 = .ok (.ireturn, 1) := DdX8_count_0.2.2.2.2.2.2.2.2.2.2.2.1
theorem dX8_count_56 : decode cX8_count 56 = .ok (.aload_n 0, 1) := DdX8_count_0.2.2.2.2.2.2.2.2.2.2.2.2.1
theorem dX8_count_57 : decode cX8_count 57 = .ok (.getfield 275, 3) := DdX8_count_0.2.2.2.2.2.2.2.2.2.2.2.2.2.1
theorem dX8_count_60 : decode cX8_count 60 = .ok (.ireturn, 1) := DdX8_count_0.2.2.2.2.2.2.2.2.2.2.2.2.2.2.1
theorem dX8_count_61 : decode cX8_count 61 = .ok (.aload_n 0, 1) := DdX8_count_0.2.2.2.2.2.2.2.2.2.2.2.2.2.2.2
theorem DdX8_count_62 : (decode cX8_count 62 = .ok (.getfield 110, 3)) ∧ (decode cX8_count 65 = .ok (.ireturn, 1)) ∧ (decode cX8_count 66 = .ok (.aload_n 0, 1)) ∧ (decode cX8_count 67 = .ok (.iconst 1, 1)) ∧ (decode cX8_count 68 = .ok (.invokevirtual 307, 3)) ∧ (decode cX8_count 71 = .ok (.ireturn, 1)) ∧ (decode cX8_count 72 = .ok (.aload_n 0, 1)) ∧ (decode cX8_count 73 = .ok (.iconst 2, 1)) ∧ (decode cX8_count 74 = .ok (.invokevirtual 307, 3)) ∧ (decode cX8_count 77 = .ok (.ireturn, 1)) ∧ (decode cX8_count 78 = .ok (.iconst 0, 1)) ∧ (decode cX8_count 79 = .ok (.istore_n 3, 1)) ∧ (decode cX8_count 80 = .ok (.iload_n 3, 1)) ∧ (decode cX8_count 81 = .ok (.bipush 60, 2)) ∧ (decode cX8_count 83 = .ok (.if_icmp .ge 23, 3)) ∧ (decode cX8_count 86 = .ok (.iload_n 2, 1)) := by decide +kernel
theorem dX8_count_62 : decode cX8_count 62 = .ok (.getfield 110, 3) := DdX8_count_62.1
theorem dX8_count_65 : decode cX8_count 65 = .ok (.ireturn, 1) := DdX8_count_62.2.1
theorem dX8_count_66 : decode cX8_count 66 = .ok (.aload_n 0, 1) := DdX8_count_62.2.2.1
theorem dX8_count_67 : decode cX8_count 67 = .ok (.iconst 1, 1) := DdX8_count_62.2.2.2.1
theorem dX8_count_68 : decode cX8_count 68 = .ok (.invokevirtual 307, 3) := DdX8_count_62.2.2.2.2.1
theorem dX8_count_71 : decode cX8_count 71 = .ok (.ireturn, 1) := DdX8_count_62.2.2.2.2.2.1
theorem dX8_count_72 : decode cX8_count 72 = .ok (.aload_n 0, 1) := DdX8_count_62.2.2.2.2.2.2.1
theorem dX8_count_73 : decode cX8_count 73 = .ok (.iconst 2, 1) := DdX8_count_62.2.2.2.2.2.2.2.1
theorem dX8_count_74 : decode cX8_count 74 = .ok (.invokevirtual 307, 3) := DdX8_count_62.2.2.2.2.2.2.2.2.1
theorem dX8_count_77 : decode cX8_count 77 = .ok (.ireturn, 1) := DdX8_count_62.2.2.2.2.2.2.2.2.2.1
theorem dX8_count_78 : decode cX8_count 78 = .ok (.iconst 0, 1) := DdX8_count_62.2.2.2.2.2.2.2.2.2.2.1
theorem dX8_count_79 : decode cX8_count 79 = .ok (.istore_n 3, 1) := DdX8_count_62.2.2.2.2.2.2.2.2.2.2.2.1
theorem dX8_count_80 : decode cX8_count 80 = .ok (.iload_n 3, 1) := DdX8_count_62.2.2.2.2.2.2.2.2.2.2.2.2.1
theorem dX8_count_81 : decode cX8_count 81 = .ok (.bipush 60, 2) := DdX8_count_62.2.2.2.2.2.2.2.2.2.2.2.2.2.1
theorem dX8_count_83 : decode cX8_count 83 = .ok (.if_icmp .ge 23, 3) := DdX8_count_62.2.2.2.2.2.2.2.2.2.2.2.2.2.2.1
theorem dX8_count_86 : decode cX8_count 86 = .ok (.iload_n 2, 1) := DdX8_count_62.2.2.2.2.2.2.2.2.2.2.2.2.2.2.2
theorem DdX8_count_87 : (decode cX8_count 87 = .ok (.aload_n 0, 1)) ∧ (decode cX8_count 88 = .ok (.getfield 41, 3)) ∧ (decode cX8_count 91 = .ok (.iconst 0, 1)) ∧ (decode cX8_count 92 = .ok (.laload, 1)) ∧ (decode cX8_count 93 = .ok (.iload_n 3, 1)) ∧ (decode cX8_count 94 = .ok (.lshr, 1)) ∧ (decode cX8_count 95 = .ok (.lconst 1, 1)) ∧ (decode cX8_count 96 = .ok (.land, 1)) ∧ (decode cX8_count 97 = .ok (.l2i, 1)) ∧ (decode cX8_count 98 = .ok (.iadd, 1)) ∧ (decode cX8_count 99 = .ok (.istore_n 2, 1)) ∧ (decode cX8_count 100 = .ok (.iinc 3 1, 3)) ∧ (decode cX8_count 103 = .ok (.goto (-23), 3)) ∧ (decode cX8_count 106 = .ok (.iload_n 2, 1)) ∧ (decode cX8_count 107 = .ok (.ireturn, 1)) ∧ (decode cX8_count 108 = .ok (.iconst (-1), 1)) := by decide +kernel
theorem dX8_count_87 : decode cX8_count 87 = .ok (.aload_n 0, 1) := DdX8_count_87.1
theorem dX8_count_88 : decode cX8_count 88 = .ok (.getfield 41, 3) := DdX8_count_87.2.1
theorem dX8_count_91 : decode cX8_count 91 = .ok (.iconst 0, 1) := DdX8_count_87.2.2.1
theorem dX8_count_92 : decode cX8_count 92 = .ok (.laload, 1) := DdX8_count_87.2.2.2.1
theorem dX8_count_93 : decode cX8_count 93 = .ok (.iload_n 3, 1) := DdX8_count_87.2.2.2.2.1
theorem dX8_count_94 : decode cX8_count 94 = .ok (.lshr, 1) := DdX8_count_87.2.2.2.2.2.1
theorem dX8_count_95 : decode cX8_count 95 = .ok (.lconst 1, 1) := DdX8_count_87.2.2.2.2.2.2.1
theorem dX8_count_96 : decode cX8_count 96 = .ok (.land, 1) := DdX8_count_87.2.2.2.2.2.2.2.1
theorem dX8_count_97 : decode cX8_count 97 = .ok (.l2i, 1) := DdX8_count_87.2.2.2.2.2.2.2.2.1
theorem dX8_count_98 : decode cX8_count 98 = .ok (.iadd, 1) := DdX8_count_87.2.2.2.2.2.2.2.2.2.1
theorem dX8_count_99 : decode cX8_count 99 = .ok (.istore_n 2, 1) := DdX8_count_87.2.2.2.2.2.2.2.2.2.2.1
theorem dX8_count_100 : decode cX8_count 100 = .ok (.iinc 3 1, 3) := DdX8_count_87.2.2.2.2.2.2.2.2.2.2.2.1
theorem dX8_count_103 : decode cX8_count 103 = .ok (.goto (-23), 3) := DdX8_count_87.2.2.2.2.2.2.2.2.2.2.2.2.1
theorem dX8_count_106 : decode cX8_count 106 = .ok (.iload_n 2, 1) := DdX8_count_87.2.2.2.2.2.2.2.2.2.2.2.2.2.1
theorem dX8_count_107 : decode cX8_count 107 = .ok (.ireturn, 1) := DdX8_count_87.2.2.2.2.2.2.2.2.2.2.2.2.2.2.1
theorem dX8_count_108 : decode cX8_count 108 = .ok (.iconst (-1), 1) := DdX8_count_87.2.2.2.2.2.2.2.2.2.2.2.2.2.2.2
theorem dX8_count_109 : decode cX8_count 109 = .ok (.ireturn, 1) := by decide +kernel
theorem DdX8_trace_0 : (decode cX8_trace 0 = .ok (.aload_n 0, 1)) ∧ (decode cX8_trace 1 = .ok (.getfield 287, 3)) ∧ (decode cX8_trace 4 = .ok (.lreturn, 1)) := by decide +kernel
theorem dX8_trace_0 : decode cX8_trace 0 = .ok (.aload_n 0, 1) := DdX8_trace_0.1
theorem dX8_trace_1 : decode cX8_trace 1 = .ok (.getfield 287, 3) := DdX8_trace_0.2.1
theorem dX8_trace_4 : decode cX8_trace 4 = .ok (.lreturn, 1) := DdX8_trace_0.2.2
theorem DdJ6_bitCount_0f7a4_0 : (decode cJ6_bitCount_0f7a4 0 = .ok (.iload_n 0, 1)) ∧ (decode cJ6_bitCount_0f7a4 1 = .ok (.iload_n 0, 1)) ∧ (decode cJ6_bitCount_0f7a4 2 = .ok (.iconst 1, 1)) ∧ (decode cJ6_bitCount_0f7a4 3 = .ok (.iushr, 1)) ∧ (decode cJ6_bitCount_0f7a4 4 = .ok (.ldc_w 265, 3)) ∧ (decode cJ6_bitCount_0f7a4 7 = .ok (.iand, 1)) ∧ (decode cJ6_bitCount_0f7a4 8 = .ok (.isub, 1)) ∧ (decode cJ6_bitCount_0f7a4 9 = .ok (.istore_n 0, 1)) ∧ (decode cJ6_bitCount_0f7a4 10 = .ok (.iload_n 0, 1)) ∧ (decode cJ6_bitCount_0f7a4 11 = .ok (.ldc_w 266, 3)) ∧ (decode cJ6_bitCount_0f7a4 14 = .ok (.iand, 1)) ∧ (decode cJ6_bitCount_0f7a4 15 = .ok (.iload_n 0, 1)) ∧ (decode cJ6_bitCount_0f7a4 16 = .ok (.iconst 2, 1)) ∧ (decode cJ6_bitCount_0f7a4 17 = .ok (.iushr, 1)) ∧ (decode cJ6_bitCount_0f7a4 18 = .ok (.ldc_w 266, 3)) ∧ (decode cJ6_bitCount_0f7a4 21 = .ok (.iand, 1)) := by decide +kernel
theorem dJ6_bitCount_0f7a4_0 : decode cJ6_bitCount_0f7a4 0 = .ok (.iload_n 0, 1) := DdJ6_bitCount_0f7a4_0.1
theorem dJ6_bitCount_0f7a4_1 : decode cJ6_bitCount_0f7a4 1 = .ok (.iload_n 0, 1) := DdJ6_bitCount_0f7a4_0.2.1
theorem dJ6_bitCount_0f7a4_2 : decode cJ6_bitCount_0f7a4 2 = .ok (.iconst 1, 1) := DdJ6_bitCount_0f7a4_0.2.2.1
theorem dJ6_bitCount_0f7a4_3 : decode cJ6_bitCount_0f7a4 3 = .ok (.iushr, 1) := DdJ6_bitCount_0f7a4_0.2.2.2.1
theorem dJ6_bitCount_0f7a4_4 : decode cJ6_bitCount_0f7a4 4 = .ok (.ldc_w 265, 3) := DdJ6_bitCount_0f7a4_0.2.2.2.2.1
theorem dJ6_bitCount_0f7a4_7 : decode cJ6_bitCount_0f7a4 7 = .ok (.iand, 1) := DdJ6_bitCount_0f7a4_0.2.2.2.2.2.1
theorem dJ6_bitCount_0f7a4_8 : decode cJ6_bitCount_0f7a4 8 = .ok (.isub, 1) := DdJ6_bitCount_0f7a4_0.2.2.2.2.2.2.1
theorem dJ6_bitCount_0f7a4_9 : decode cJ6_bitCount_0f7a4 9 = .ok (.istore_n 0, 1) := DdJ6_bitCount_0f7a4_0.2.2.2.2.2.2.2.1
theorem dJ6_bitCount_0f7a4_10 : decode cJ6_bitCount_0f7a4 10 = .ok (.iload_n 0, 1) := DdJ6_bitCount_0f7a4_0.2.2.2.2.2.2.2.2.1
theorem dJ6_bitCount_0f7a4_11 : decode cJ6_bitCount_0f7a4 11 = .ok (.ldc_w 266, 3) := DdJ6_bitCount_0f7a4_0.2.2.2.2.2.2.2.2.2.1
theorem dJ6_bitCount_0f7a4_14 : decode cJ6_bitCount_0f7a4 14 = .ok (.iand, 1) := DdJ6_bitCount_0f7a4_0.2.2.2.2.2.2.2.2.2.2.1
theorem dJ6_bitCount_0f7a4_15 : decode cJ6_bitCount_0f7a4 15 = .ok (.iload_n 0, 1) := DdJ6_bitCount_0f7a4_0.2.2.2.2.2.2.2.2.2.2.2.1
theorem dJ6_bitCount_0f7a4_16 : decode cJ6_bitCount_0f7a4 16 = .ok (.iconst 2, 1) := DdJ6_bitCount_0f7a4_0.2.2.2.2.2.2.2.2.2.2.2.2.1
theorem dJ6_bitCount_0f7a4_17 : decode cJ6_bitCount_0f7a4 17 = .ok (.iushr, 1) := DdJ6_bitCount_0f7a4_0.2.2.2.2.2.2.2.2.2.2.2.2.2.1
theorem dJ6_bitCount_0f7a4_18 : decode cJ6_bitCount_0f7a4 18 = .ok (.ldc_w 266, 3) := DdJ6_bitCount_0f7a4_0.2.2.2.2.2.2.2.2.2.2.2.2.2.2.1
theorem dJ6_bitCount_0f7a4_21 : decode cJ6_bitCount_0f7a4 21 = .ok (.iand, 1) := DdJ6_bitCount_0f7a4_0.2.2.2.2.2.2.2.2.2.2.2.2.2.2.2
theorem DdJ6_bitCount_0f7a4_22 : (decode cJ6_bitCount_0f7a4 22 = .ok (.iadd, 1)) ∧ (decode cJ6_bitCount_0f7a4 23 = .ok (.istore_n 0, 1)) ∧ (decode cJ6_bitCount_0f7a4 24 = .ok (.iload_n 0, 1)) ∧ (decode cJ6_bitCount_0f7a4 25 = .ok (.iload_n 0, 1)) ∧ (decode cJ6_bitCount_0f7a4 26 = .ok (.iconst 4, 1)) ∧ (decode cJ6_bitCount_0f7a4 27 = .ok (.iushr, 1)) ∧ (decode cJ6_bitCount_0f7a4 28 = .ok (.iadd, 1)) ∧ (decode cJ6_bitCount_0f7a4 29 = .ok (.ldc_w 267, 3)) ∧ (decode cJ6_bitCount_0f7a4 32 = .ok (.iand, 1)) ∧ (decode cJ6_bitCount_0f7a4 33 = .ok (.istore_n 0, 1)) ∧ (decode cJ6_bitCount_0f7a4 34 = .ok (.iload_n 0, 1)) ∧ (decode cJ6_bitCount_0f7a4 35 = .ok (.iload_n 0, 1)) ∧ (decode cJ6_bitCount_0f7a4 36 = .ok (.bipush 8, 2)) ∧ (decode cJ6_bitCount_0f7a4 38 = .ok (.iushr, 1)) ∧ (decode cJ6_bitCount_0f7a4 39 = .ok (.iadd, 1)) ∧ (decode cJ6_bitCount_0f7a4 40 = .ok (.istore_n 0, 1)) := by decide +kernel
theorem dJ6_bitCount_0f7a4_22 : decode cJ6_bitCount_0f7a4 22 = .ok (.iadd, 1) := DdJ6_bitCount_0f7a4_22.1
theorem dJ6_bitCount_0f7a4_23 : decode cJ6_bitCount_0f7a4 23 = .ok (.istore_n 0, 1) := DdJ6_bitCount_0f7a4_22.2.1
theorem dJ6_bitCount_0f7a4_24 : decode cJ6_bitCount_0f7a4 24 = .ok (.iload_n 0, 1) := DdJ6_bitCount_0f7a4_22.2.2.1
theorem dJ6_bitCount_0f7a4_25 : decode cJ6_bitCount_0f7a4 25 = .ok (.iload_n 0, 1) := DdJ6_bitCount_0f7a4_22.2.2.2.1
theorem dJ6_bitCount_0f7a4_26 : decode cJ6_bitCount_0f7a4 26 = .ok (.iconst 4, 1) := DdJ6_bitCount_0f7a4_22.2.2.2.2.1
theorem dJ6_bitCount_0f7a4_27 : decode cJ6_bitCount_0f7a4 27 = .ok (.iushr, 1) := DdJ6_bitCount_0f7a4_22.2.2.2.2.2.1
theorem dJ6_bitCount_0f7a4_28 : decode cJ6_bitCount_0f7a4 28 = .ok (.iadd, 1) := DdJ6_bitCount_0f7a4_22.2.2.2.2.2.2.1
theorem dJ6_bitCount_0f7a4_29 : decode cJ6_bitCount_0f7a4 29 = .ok (.ldc_w 267, 3) := DdJ6_bitCount_0f7a4_22.2.2.2.2.2.2.2.1
theorem dJ6_bitCount_0f7a4_32 : decode cJ6_bitCount_0f7a4 32 = .ok (.iand, 1) := DdJ6_bitCount_0f7a4_22.2.2.2.2.2.2.2.2.1
theorem dJ6_bitCount_0f7a4_33 : decode cJ6_bitCount_0f7a4 33 = .ok (.istore_n 0, 1) := DdJ6_bitCount_0f7a4_22.2.2.2.2.2.2.2.2.2.1
theorem dJ6_bitCount_0f7a4_34 : decode cJ6_bitCount_0f7a4 34 = .ok (.iload_n 0, 1) := DdJ6_bitCount_0f7a4_22.2.2.2.2.2.2.2.2.2.2.1
theorem dJ6_bitCount_0f7a4_35 : decode cJ6_bitCount_0f7a4 35 = .ok (.iload_n 0, 1) := DdJ6_bitCount_0f7a4_22.2.2.2.2.2.2.2.2.2.2.2.1
theorem dJ6_bitCount_0f7a4_36 : decode cJ6_bitCount_0f7a4 36 = .ok (.bipush 8, 2) := DdJ6_bitCount_0f7a4_22.2.2.2.2.2.2.2.2.2.2.2.2.1
theorem dJ6_bitCount_0f7a4_38 : decode cJ6_bitCount_0f7a4 38 = .ok (.iushr, 1) := DdJ6_bitCount_0f7a4_22.2.2.2.2.2.2.2.2.2.2.2.2.2.1
theorem dJ6_bitCount_0f7a4_39 : decode cJ6_bitCount_0f7a4 39 = .ok (.iadd, 1) := DdJ6_bitCount_0f7a4_22.2.2.2.2.2.2.2.2.2.2.2.2.2.2.1
theorem dJ6_bitCount_0f7a4_40 : decode cJ6_bitCount_0f7a4 40 = .ok (.istore_n 0, 1) := DdJ6_bitCount_0f7a4_22.2.2.2.2.2.2.2.2.2.2.2.2.2.2.2
theorem DdJ6_bitCount_0f7a4_41 : (decode cJ6_bitCount_0f7a4 41 = .ok (.iload_n 0, 1)) ∧ (decode cJ6_bitCount_0f7a4 42 = .ok (.iload_n 0, 1)) ∧ (decode cJ6_bitCount_0f7a4 43 = .ok (.bipush 16, 2)) ∧ (decode cJ6_bitCount_0f7a4 45 = .ok (.iushr, 1)) ∧ (decode cJ6_bitCount_0f7a4 46 = .ok (.iadd, 1)) ∧ (decode cJ6_bitCount_0f7a4 47 = .ok (.istore_n 0, 1)) ∧ (decode cJ6_bitCount_0f7a4 48 = .ok (.iload_n 0, 1)) ∧ (decode cJ6_bitCount_0f7a4 49 = .ok (.bipush 63, 2)) ∧ (decode cJ6_bitCount_0f7a4 51 = .ok (.iand, 1)) ∧ (decode cJ6_bitCount_0f7a4 52 = .ok (.ireturn, 1)) := by decide +kernel
theorem dJ6_bitCount_0f7a4_41 : decode cJ6_bitCount_0f7a4 41 = .ok (.iload_n 0, 1) := DdJ6_bitCount_0f7a4_41.1
theorem dJ6_bitCount_0f7a4_42 : decode cJ6_bitCount_0f7a4 42 = .ok (.iload_n 0, 1) := DdJ6_bitCount_0f7a4_41.2.1
theorem dJ6_bitCount_0f7a4_43 : decode cJ6_bitCount_0f7a4 43 = .ok (.bipush 16, 2) := DdJ6_bitCount_0f7a4_41.2.2.1
theorem dJ6_bitCount_0f7a4_45 : decode cJ6_bitCount_0f7a4 45 = .ok (.iushr, 1) := DdJ6_bitCount_0f7a4_41.2.2.2.1
theorem dJ6_bitCount_0f7a4_46 : decode cJ6_bitCount_0f7a4 46 = .ok (.iadd, 1) := DdJ6_bitCount_0f7a4_41.2.2.2.2.1
theorem dJ6_bitCount_0f7a4_47 : decode cJ6_bitCount_0f7a4 47 = .ok (.istore_n 0, 1) := DdJ6_bitCount_0f7a4_41.2.2.2.2.2.1
theorem dJ6_bitCount_0f7a4_48 : decode cJ6_bitCount_0f7a4 48 = .ok (.iload_n 0, 1) := DdJ6_bitCount_0f7a4_41.2.2.2.2.2.2.1
theorem dJ6_bitCount_0f7a4_49 : decode cJ6_bitCount_0f7a4 49 = .ok (.bipush 63, 2) := DdJ6_bitCount_0f7a4_41.2.2.2.2.2.2.2.1
theorem dJ6_bitCount_0f7a4_51 : decode cJ6_bitCount_0f7a4 51 = .ok (.iand, 1) := DdJ6_bitCount_0f7a4_41.2.2.2.2.2.2.2.2.1
theorem dJ6_bitCount_0f7a4_52 : decode cJ6_bitCount_0f7a4 52 = .ok (.ireturn, 1) := DdJ6_bitCount_0f7a4_41.2.2.2.2.2.2.2.2.2
theorem DdJ13_bitCount_95d88_0 : (decode cJ13_bitCount_95d88 0 = .ok (.lload_n 0, 1)) ∧ (decode cJ13_bitCount_95d88 1 = .ok (.lload_n 0, 1)) ∧ (decode cJ13_bitCount_95d88 2 = .ok (.iconst 1, 1)) ∧ (decode cJ13_bitCount_95d88 3 = .ok (.lushr, 1)) ∧ (decode cJ13_bitCount_95d88 4 = .ok (.ldc2_w 314, 3)) ∧ (decode cJ13_bitCount_95d88 7 = .ok (.land, 1)) ∧ (decode cJ13_bitCount_95d88 8 = .ok (.lsub, 1)) ∧ (decode cJ13_bitCount_95d88 9 = .ok (.lstore_n 0, 1)) ∧ (decode cJ13_bitCount_95d88 10 = .ok (.lload_n 0, 1)) ∧ (decode cJ13_bitCount_95d88 11 = .ok (.ldc2_w 316, 3)) ∧ (decode cJ13_bitCount_95d88 14 = .ok (.land, 1)) ∧ (decode cJ13_bitCount_95d88 15 = .ok (.lload_n 0, 1)) ∧ (decode cJ13_bitCount_95d88 16 = .ok (.iconst 2, 1)) ∧ (decode cJ13_bitCount_95d88 17 = .ok (.lushr, 1)) ∧ (decode cJ13_bitCount_95d88 18 = .ok (.ldc2_w 316, 3)) ∧ (decode cJ13_bitCount_95d88 21 = .ok (.land, 1)) := by decide +kernel
theorem dJ13_bitCount_95d88_0 : decode cJ13_bitCount_95d88 0 = .ok (.lload_n 0, 1) := DdJ13_bitCount_95d88_0.1
theorem dJ13_bitCount_95d88_1 : decode cJ13_bitCount_95d88 1 = .ok (.lload_n 0, 1) := DdJ13_bitCount_95d88_0.2.1
theorem dJ13_bitCount_95d88_2 : decode cJ13_bitCount_95d88 2 = .ok (.iconst 1, 1) := DdJ13_bitCount_95d88_0.2.2.1
theorem dJ13_bitCount_95d88_3 : decode cJ13_bitCount_95d88 3 = .ok (.lushr, 1) := DdJ13_bitCount_95d88_0.2.2.2.1
theorem dJ13_bitCount_95d88_4 : decode cJ13_bitCount_95d88 4 = .ok (.ldc2_w 314, 3) := DdJ13_bitCount_95d88_0.2.2.2.2.1
theorem dJ13_bitCount_95d88_7 : decode cJ13_bitCount_95d88 7 = .ok (.land, 1) := DdJ13_bitCount_95d88_0.2.2.2.2.2.1
theorem dJ13_bitCount_95d88_8 : decode cJ13_bitCount_95d88 8 = .ok (.lsub, 1) := DdJ13_bitCount_95d88_0.2.2.2.2.2.2.1
theorem dJ13_bitCount_95d88_9 : decode cJ13_bitCount_95d88 9 = .ok (.lstore_n 0, 1) := DdJ13_bitCount_95d88_0.2.2.2.2.2.2.2.1
theorem dJ13_bitCount_95d88_10 : decode cJ13_bitCount_95d88 10 = .ok (.lload_n 0, 1) := DdJ13_bitCount_95d88_0.2.2.2.2.2.2.2.2.1
theorem dJ13_bitCount_95d88_11 : decode cJ13_bitCount_95d88 11 = .ok (.ldc2_w 316, 3) := DdJ13_bitCount_95d88_0.2.2.2.2.2.2.2.2.2.1
theorem dJ13_bitCount_95d88_14 : decode cJ13_bitCount_95d88 14 = .ok (.land, 1) := DdJ13_bitCount_95d88_0.2.2.2.2.2.2.2.2.2.2.1
theorem dJ13_bitCount_95d88_15 : decode cJ13_bitCount_95d88 15 = .ok (.lload_n 0, 1) := DdJ13_bitCount_95d88_0.2.2.2.2.2.2.2.2.2.2.2.1
theorem dJ13_bitCount_95d88_16 : decode cJ13_bitCount_95d88 16 = .ok (.iconst 2, 1) := DdJ13_bitCount_95d88_0.2.2.2.2.2.2.2.2.2.2.2.2.1
theorem dJ13_bitCount_95d88_17 : decode cJ13_bitCount_95d88 17 = .ok (.lushr, 1) := DdJ13_bitCount_95d88_0.2.2.2.2.2.2.2.2.2.2.2.2.2.1
theorem dJ13_bitCount_95d88_18 : decode cJ13_bitCount_95d88 18 = .ok (.ldc2_w 316, 3) := DdJ13_bitCount_95d88_0.2.2.2.2.2.2.2.2.2.2.2.2.2.2.1
theorem dJ13_bitCount_95d88_21 : decode cJ13_bitCount_95d88 21 = .ok (.land, 1) := DdJ13_bitCount_95d88_0.2.2.2.2.2.2.2.2.2.2.2.2.2.2.2
theorem DdJ13_bitCount_95d88_22 : (decode cJ13_bitCount_95d88 22 = .ok (.ladd, 1)) ∧ (decode cJ13_bitCount_95d88 23 = .ok (.lstore_n 0, 1)) ∧ (decode cJ13_bitCount_95d88 24 = .ok (.lload_n 0, 1)) ∧ (decode cJ13_bitCount_95d88 25 = .ok (.lload_n 0, 1)) ∧ (decode cJ13_bitCount_95d88 26 = .ok (.iconst 4, 1)) ∧ (decode cJ13_bitCount_95d88 27 = .ok (.lushr, 1)) ∧ (decode cJ13_bitCount_95d88 28 = .ok (.ladd, 1)) ∧ (decode cJ13_bitCount_95d88 29 = .ok (.ldc2_w 318, 3)) ∧ (decode cJ13_bitCount_95d88 32 = .ok (.land, 1)) ∧ (decode cJ13_bitCount_95d88 33 = .ok (.lstore_n 0, 1)) ∧ (decode cJ13_bitCount_95d88 34 = .ok (.lload_n 0, 1)) ∧ (decode cJ13_bitCount_95d88 35 = .ok (.lload_n 0, 1)) ∧ (decode cJ13_bitCount_95d88 36 = .ok (.bipush 8, 2)) ∧ (decode cJ13_bitCount_95d88 38 = .ok (.lushr, 1)) ∧ (decode cJ13_bitCount_95d88 39 = .ok (.ladd, 1)) ∧ (decode cJ13_bitCount_95d88 40 = .ok (.lstore_n 0, 1)) := by decide +kernel
theorem dJ13_bitCount_95d88_22 : decode cJ13_bitCount_95d88 22 = .ok (.ladd, 1) := DdJ13_bitCount_95d88_22.1
theorem dJ13_bitCount_95d88_23 : decode cJ13_bitCount_95d88 23 = .ok (.lstore_n 0, 1) := DdJ13_bitCount_95d88_22.2.1
theorem dJ13_bitCount_95d88_24 : decode cJ13_bitCount_95d88 24 = .ok (.lload_n 0, 1) := DdJ13_bitCount_95d88_22.2.2.1
theorem dJ13_bitCount_95d88_25 : decode cJ13_bitCount_95d88 25 = .ok (.lload_n 0, 1) := DdJ13_bitCount_95d88_22.2.2.2.1
theorem dJ13_bitCount_95d88_26 : decode cJ13_bitCount_95d88 26 = .ok (.iconst 4, 1) := DdJ13_bitCount_95d88_22.2.2.2.2.1
theorem dJ13_bitCount_95d88_27 : decode cJ13_bitCount_95d88 27 = .ok (.lushr, 1) := DdJ13_bitCount_95d88_22.2.2.2.2.2.1
theorem dJ13_bitCount_95d88_28 : decode cJ13_bitCount_95d88 28 = .ok (.ladd, 1) := DdJ13_bitCount_95d88_22.2.2.2.2.2.2.1
theorem dJ13_bitCount_95d88_29 : decode cJ13_bitCount_95d88 29 = .ok (.ldc2_w 318, 3) := DdJ13_bitCount_95d88_22.2.2.2.2.2.2.2.1
theorem dJ13_bitCount_95d88_32 : decode cJ13_bitCount_95d88 32 = .ok (.land, 1) := DdJ13_bitCount_95d88_22.2.2.2.2.2.2.2.2.1
theorem dJ13_bitCount_95d88_33 : decode cJ13_bitCount_95d88 33 = .ok (.lstore_n 0, 1) := DdJ13_bitCount_95d88_22.2.2.2.2.2.2.2.2.2.1
theorem dJ13_bitCount_95d88_34 : decode cJ13_bitCount_95d88 34 = .ok (.lload_n 0, 1) := DdJ13_bitCount_95d88_22.2.2.2.2.2.2.2.2.2.2.1
theorem dJ13_bitCount_95d88_35 : decode cJ13_bitCount_95d88 35 = .ok (.lload_n 0, 1) := DdJ13_bitCount_95d88_22.2.2.2.2.2.2.2.2.2.2.2.1
theorem dJ13_bitCount_95d88_36 : decode cJ13_bitCount_95d88 36 = .ok (.bipush 8, 2) := DdJ13_bitCount_95d88_22.2.2.2.2.2.2.2.2.2.2.2.2.1
theorem dJ13_bitCount_95d88_38 : decode cJ13_bitCount_95d88 38 = .ok (.lushr, 1) := DdJ13_bitCount_95d88_22.2.2.2.2.2.2.2.2.2.2.2.2.2.1
theorem dJ13_bitCount_95d88_39 : decode cJ13_bitCount_95d88 39 = .ok (.ladd, 1) := DdJ13_bitCount_95d88_22.2.2.2.2.2.2.2.2.2.2.2.2.2.2.1
theorem dJ13_bitCount_95d88_40 : decode cJ13_bitCount_95d88 40 = .ok (.lstore_n 0, 1) := DdJ13_bitCount_95d88_22.2.2.2.2.2.2.2.2.2.2.2.2.2.2.2
theorem DdJ13_bitCount_95d88_41 : (decode cJ13_bitCount_95d88 41 = .ok (.lload_n 0, 1)) ∧ (decode cJ13_bitCount_95d88 42 = .ok (.lload_n 0, 1)) ∧ (decode cJ13_bitCount_95d88 43 = .ok (.bipush 16, 2)) ∧ (decode cJ13_bitCount_95d88 45 = .ok (.lushr, 1)) ∧ (decode cJ13_bitCount_95d88 46 = .ok (.ladd, 1)) ∧ (decode cJ13_bitCount_95d88 47 = .ok (.lstore_n 0, 1)) ∧ (decode cJ13_bitCount_95d88 48 = .ok (.lload_n 0, 1)) ∧ (decode cJ13_bitCount_95d88 49 = .ok (.lload_n 0, 1)) ∧ (decode cJ13_bitCount_95d88 50 = .ok (.bipush 32, 2)) ∧ (decode cJ13_bitCount_95d88 52 = .ok (.lushr, 1)) ∧ (decode cJ13_bitCount_95d88 53 = .ok (.ladd, 1)) ∧ (decode cJ13_bitCount_95d88 54 = .ok (.lstore_n 0, 1)) ∧ (decode cJ13_bitCount_95d88 55 = .ok (.lload_n 0, 1)) ∧ (decode cJ13_bitCount_95d88 56 = .ok (.l2i, 1)) ∧ (decode cJ13_bitCount_95d88 57 = .ok (.bipush 127, 2)) ∧ (decode cJ13_bitCount_95d88 59 = .ok (.iand, 1)) := by decide +kernel
theorem dJ13_bitCount_95d88_41 : decode cJ13_bitCount_95d88 41 = .ok (.lload_n 0, 1) := DdJ13_bitCount_95d88_41.1
theorem dJ13_bitCount_95d88_42 : decode cJ13_bitCount_95d88 42 = .ok (.lload_n 0, 1) := DdJ13_bitCount_95d88_41.2.1
theorem dJ13_bitCount_95d88_43 : decode cJ13_bitCount_95d88 43 = .ok (.bipush 16, 2) := DdJ13_bitCount_95d88_41.2.2.1
theorem dJ13_bitCount_95d88_45 : decode cJ13_bitCount_95d88 45 = .ok (.lushr, 1) := DdJ13_bitCount_95d88_41.2.2.2.1
theorem dJ13_bitCount_95d88_46 : decode cJ13_bitCount_95d88 46 = .ok (.ladd, 1) := DdJ13_bitCount_95d88_41.2.2.2.2.1
theorem dJ13_bitCount_95d88_47 : decode cJ13_bitCount_95d88 47 = .ok (.lstore_n 0, 1) := DdJ13_bitCount_95d88_41.2.2.2.2.2.1
theorem dJ13_bitCount_95d88_48 : decode cJ13_bitCount_95d88 48 = .ok (.lload_n 0, 1) := DdJ13_bitCount_95d88_41.2.2.2.2.2.2.1
theorem dJ13_bitCount_95d88_49 : decode cJ13_bitCount_95d88 49 = .ok (.lload_n 0, 1) := DdJ13_bitCount_95d88_41.2.2.2.2.2.2.2.1
theorem dJ13_bitCount_95d88_50 : decode cJ13_bitCount_95d88 50 = .ok (.bipush 32, 2) := DdJ13_bitCount_95d88_41.2.2.2.2.2.2.2.2.1
theorem dJ13_bitCount_95d88_52 : decode cJ13_bitCount_95d88 52 = .ok (.lushr, 1) := DdJ13_bitCount_95d88_41.2.2.2.2.2.2.2.2.2.1
theorem dJ13_bitCount_95d88_53 : decode cJ13_bitCount_95d88 53 = .ok (.ladd, 1) := DdJ13_bitCount_95d88_41.2.2.2.2.2.2.2.2.2.2.1
theorem dJ13_bitCount_95d88_54 : decode cJ13_bitCount_95d88 54 = .ok (.lstore_n 0, 1) := DdJ13_bitCount_95d88_41.2.2.2.2.2.2.2.2.2.2.2.1
theorem dJ13_bitCount_95d88_55 : decode cJ13_bitCount_95d88 55 = .ok (.lload_n 0, 1) := DdJ13_bitCount_95d88_41.2.2.2.2.2.2.2.2.2.2.2.2.1
theorem dJ13_bitCount_95d88_56 : decode cJ13_bitCount_95d88 56 = .ok (.l2i, 1) := DdJ13_bitCount_95d88_41.2.2.2.2.2.2.2.2.2.2.2.2.2.1
theorem dJ13_bitCount_95d88_57 : decode cJ13_bitCount_95d88 57 = .ok (.bipush 127, 2) := DdJ13_bitCount_95d88_41.2.2.2.2.2.2.2.2.2.2.2.2.2.2.1
theorem dJ13_bitCount_95d88_59 : decode cJ13_bitCount_95d88 59 = .ok (.iand, 1) := DdJ13_bitCount_95d88_41.2.2.2.2.2.2.2.2.2.2.2.2.2.2.2
theorem dJ13_bitCount_95d88_60 : decode cJ13_bitCount_95d88 60 = .ok (.ireturn, 1) := by decide +kernel
theorem DdJ9_floorDiv_7cf53_0 : (decode cJ9_floorDiv_7cf53 0 = .ok (.iload_n 0, 1)) ∧ (decode cJ9_floorDiv_7cf53 1 = .ok (.iload_n 1, 1)) ∧ (decode cJ9_floorDiv_7cf53 2 = .ok (.idiv, 1)) ∧ (decode cJ9_floorDiv_7cf53 3 = .ok (.istore_n 2, 1)) ∧ (decode cJ9_floorDiv_7cf53 4 = .ok (.iload_n 0, 1)) ∧ (decode cJ9_floorDiv_7cf53 5 = .ok (.iload_n 1, 1)) ∧ (decode cJ9_floorDiv_7cf53 6 = .ok (.ixor, 1)) ∧ (decode cJ9_floorDiv_7cf53 7 = .ok (.ifCond .ge 14, 3)) ∧ (decode cJ9_floorDiv_7cf53 10 = .ok (.iload_n 2, 1)) ∧ (decode cJ9_floorDiv_7cf53 11 = .ok (.iload_n 1, 1)) ∧ (decode cJ9_floorDiv_7cf53 12 = .ok (.imul, 1)) ∧ (decode cJ9_floorDiv_7cf53 13 = .ok (.iload_n 0, 1)) ∧ (decode cJ9_floorDiv_7cf53 14 = .ok (.if_icmp .eq 7, 3)) ∧ (decode cJ9_floorDiv_7cf53 17 = .ok (.iload_n 2, 1)) ∧ (decode cJ9_floorDiv_7cf53 18 = .ok (.iconst 1, 1)) ∧ (decode cJ9_floorDiv_7cf53 19 = .ok (.isub, 1)) := by decide +kernel
theorem dJ9_floorDiv_7cf53_0 : decode cJ9_floorDiv_7cf53 0 = .ok (.iload_n 0, 1) := DdJ9_floorDiv_7cf53_0.1
theorem dJ9_floorDiv_7cf53_1 : decode cJ9_floorDiv_7cf53 1 = .ok (.iload_n 1, 1) := DdJ9_floorDiv_7cf53_0.2.1
theorem dJ9_floorDiv_7cf53_2 : decode cJ9_floorDiv_7cf53 2 = .ok (.idiv, 1) := DdJ9_floorDiv_7cf53_0.2.2.1
theorem dJ9_floorDiv_7cf53_3 : decode cJ9_floorDiv_7cf53 3 = .ok (.istore_n 2, 1) := DdJ9_floorDiv_7cf53_0.2.2.2.1
theorem dJ9_floorDiv_7cf53_4 : decode cJ9_floorDiv_7cf53 4 = .ok (.iload_n 0, 1) := DdJ9_floorDiv_7cf53_0.2.2.2.2.1
theorem dJ9_floorDiv_7cf53_5 : decode cJ9_floorDiv_7cf53 5 = .ok (.iload_n 1, 1) := DdJ9_floorDiv_7cf53_0.2.2.2.2.2.1
theorem dJ9_floorDiv_7cf53_6 : decode cJ9_floorDiv_7cf53 6 = .ok (.ixor, 1) := DdJ9_floorDiv_7cf53_0.2.2.2.2.2.2.1
theorem dJ9_floorDiv_7cf53_7 : decode cJ9_floorDiv_7cf53 7 = .ok (.ifCond .ge 14, 3) := DdJ9_floorDiv_7cf53_0.2.2.2.2.2.2.2.1
theorem dJ9_floorDiv_7cf53_10 : decode cJ9_floorDiv_7cf53 10 = .ok (.iload_n 2, 1) := DdJ9_floorDiv_7cf53_0.2.2.2.2.2.2.2.2.1
theorem dJ9_floorDiv_7cf53_11 : decode cJ9_floorDiv_7cf53 11 = .ok (.iload_n 1, 1) := DdJ9_floorDiv_7cf53_0.2.2.2.2.2.2.2.2.2.1
theorem dJ9_floorDiv_7cf53_12 : decode cJ9_floorDiv_7cf53 12 = .ok (.imul, 1) := DdJ9_floorDiv_7cf53_0.2.2.2.2.2.2.2.2.2.2.1
theorem dJ9_floorDiv_7cf53_13 : decode cJ9_floorDiv_7cf53 13 = .ok (.iload_n 0, 1) := DdJ9_floorDiv_7cf53_0.2.2.2.2.2.2.2.2.2.2.2.1
theorem dJ9_floorDiv_7cf53_14 : decode cJ9_floorDiv_7cf53 14 = .ok (.if_icmp .eq 7, 3) := DdJ9_floorDiv_7cf53_0.2.2.2.2.2.2.2.2.2.2.2.2.1
theorem dJ9_floorDiv_7cf53_17 : decode cJ9_floorDiv_7cf53 17 = .ok (.iload_n 2, 1) := DdJ9_floorDiv_7cf53_0.2.2.2.2.2.2.2.2.2.2.2.2.2.1
theorem dJ9_floorDiv_7cf53_18 : decode cJ9_floorDiv_7cf53 18 = .ok (.iconst 1, 1) := DdJ9_floorDiv_7cf53_0.2.2.2.2.2.2.2.2.2.2.2.2.2.2.1
theorem dJ9_floorDiv_7cf53_19 : decode cJ9_floorDiv_7cf53 19 = .ok (.isub, 1) := DdJ9_floorDiv_7cf53_0.2.2.2.2.2.2.2.2.2.2.2.2.2.2.2
theorem DdJ9_floorDiv_7cf53_20 : (decode cJ9_floorDiv_7cf53 20 = .ok (.ireturn, 1)) ∧ (decode cJ9_floorDiv_7cf53 21 = .ok (.iload_n 2, 1)) ∧ (decode cJ9_floorDiv_7cf53 22 = .ok (.ireturn, 1)) := by decide +kernel
theorem dJ9_floorDiv_7cf53_20 : decode cJ9_floorDiv_7cf53 20 = .ok (.ireturn, 1) := DdJ9_floorDiv_7cf53_20.1
theorem dJ9_floorDiv_7cf53_21 : decode cJ9_floorDiv_7cf53 21 = .ok (.iload_n 2, 1) := DdJ9_floorDiv_7cf53_20.2.1
theorem dJ9_floorDiv_7cf53_22 : decode cJ9_floorDiv_7cf53 22 = .ok (.ireturn, 1) := DdJ9_floorDiv_7cf53_20.2.2
theorem DdJ9_max_7cf53_0 : (decode cJ9_max_7cf53 0 = .ok (.iload_n 0, 1)) ∧ (decode cJ9_max_7cf53 1 = .ok (.iload_n 1, 1)) ∧ (decode cJ9_max_7cf53 2 = .ok (.if_icmp .lt 7, 3)) ∧ (decode cJ9_max_7cf53 5 = .ok (.iload_n 0, 1)) ∧ (decode cJ9_max_7cf53 6 = .ok (.goto 4, 3)) ∧ (decode cJ9_max_7cf53 9 = .ok (.iload_n 1, 1)) ∧ (decode cJ9_max_7cf53 10 = .ok (.ireturn, 1)) := by decide +kernel
theorem dJ9_max_7cf53_0 : decode cJ9_max_7cf53 0 = .ok (.iload_n 0, 1) := DdJ9_max_7cf53_0.1
theorem dJ9_max_7cf53_1 : decode cJ9_max_7cf53 1 = .ok (.iload_n 1, 1) := DdJ9_max_7cf53_0.2.1
theorem dJ9_max_7cf53_2 : decode cJ9_max_7cf53 2 = .ok (.if_icmp .lt 7, 3) := DdJ9_max_7cf53_0.2.2.1
theorem dJ9_max_7cf53_5 : decode cJ9_max_7cf53 5 = .ok (.iload_n 0, 1) := DdJ9_max_7cf53_0.2.2.2.1
theorem dJ9_max_7cf53_6 : decode cJ9_max_7cf53 6 = .ok (.goto 4, 3) := DdJ9_max_7cf53_0.2.2.2.2.1
theorem dJ9_max_7cf53_9 : decode cJ9_max_7cf53 9 = .ok (.iload_n 1, 1) := DdJ9_max_7cf53_0.2.2.2.2.2.1
theorem dJ9_max_7cf53_10 : decode cJ9_max_7cf53 10 = .ok (.ireturn, 1) := DdJ9_max_7cf53_0.2.2.2.2.2.2
theorem DdJ9_min_7cf53_0 : (decode cJ9_min_7cf53 0 = .ok (.iload_n 0, 1)) ∧ (decode cJ9_min_7cf53 1 = .ok (.iload_n 1, 1)) ∧ (decode cJ9_min_7cf53 2 = .ok (.if_icmp .gt 7, 3)) ∧ (decode cJ9_min_7cf53 5 = .ok (.iload_n 0, 1)) ∧ (decode cJ9_min_7cf53 6 = .ok (.goto 4, 3)) ∧ (decode cJ9_min_7cf53 9 = .ok (.iload_n 1, 1)) ∧ (decode cJ9_min_7cf53 10 = .ok (.ireturn, 1)) := by decide +kernel
theorem dJ9_min_7cf53_0 : decode cJ9_min_7cf53 0 = .ok (.iload_n 0, 1) := DdJ9_min_7cf53_0.1
theorem dJ9_min_7cf53_1 : decode cJ9_min_7cf53 1 = .ok (.iload_n 1, 1) := DdJ9_min_7cf53_0.2.1
theorem dJ9_min_7cf53_2 : decode cJ9_min_7cf53 2 = .ok (.if_icmp .gt 7, 3) := DdJ9_min_7cf53_0.2.2.1
theorem dJ9_min_7cf53_5 : decode cJ9_min_7cf53 5 = .ok (.iload_n 0, 1) := DdJ9_min_7cf53_0.2.2.2.1
theorem dJ9_min_7cf53_6 : decode cJ9_min_7cf53 6 = .ok (.goto 4, 3) := DdJ9_min_7cf53_0.2.2.2.2.1
theorem dJ9_min_7cf53_9 : decode cJ9_min_7cf53 9 = .ok (.iload_n 1, 1) := DdJ9_min_7cf53_0.2.2.2.2.2.1
theorem dJ9_min_7cf53_10 : decode cJ9_min_7cf53 10 = .ok (.ireturn, 1) := DdJ9_min_7cf53_0.2.2.2.2.2.2
theorem DdJ0_length_8abf5_0 : (decode cJ0_length_8abf5 0 = .ok (.aload_n 0, 1)) ∧ (decode cJ0_length_8abf5 1 = .ok (.getfield 9, 3)) ∧ (decode cJ0_length_8abf5 4 = .ok (.arraylength, 1)) ∧ (decode cJ0_length_8abf5 5 = .ok (.aload_n 0, 1)) ∧ (decode cJ0_length_8abf5 6 = .ok (.invokevirtual 335, 3)) ∧ (decode cJ0_length_8abf5 9 = .ok (.ishr, 1)) ∧ (decode cJ0_length_8abf5 10 = .ok (.ireturn, 1)) := by decide +kernel
theorem dJ0_length_8abf5_0 : decode cJ0_length_8abf5 0 = .ok (.aload_n 0, 1) := DdJ0_length_8abf5_0.1
theorem dJ0_length_8abf5_1 : decode cJ0_length_8abf5 1 = .ok (.getfield 9, 3) := DdJ0_length_8abf5_0.2.1
theorem dJ0_length_8abf5_4 : decode cJ0_length_8abf5 4 = .ok (.arraylength, 1) := DdJ0_length_8abf5_0.2.2.1
theorem dJ0_length_8abf5_5 : decode cJ0_length_8abf5 5 = .ok (.aload_n 0, 1) := DdJ0_length_8abf5_0.2.2.2.1
theorem dJ0_length_8abf5_6 : decode cJ0_length_8abf5 6 = .ok (.invokevirtual 335, 3) := DdJ0_length_8abf5_0.2.2.2.2.1
theorem dJ0_length_8abf5_9 : decode cJ0_length_8abf5 9 = .ok (.ishr, 1) := DdJ0_length_8abf5_0.2.2.2.2.2.1
theorem dJ0_length_8abf5_10 : decode cJ0_length_8abf5 10 = .ok (.ireturn, 1) := DdJ0_length_8abf5_0.2.2.2.2.2.2
theorem DdJ0_charAt_5068e_0 : (decode cJ0_charAt_5068e 0 = .ok (.aload_n 0, 1)) ∧ (decode cJ0_charAt_5068e 1 = .ok (.invokevirtual 492, 3)) ∧ (decode cJ0_charAt_5068e 4 = .ok (.ifCond .eq 12, 3)) ∧ (decode cJ0_charAt_5068e 7 = .ok (.aload_n 0, 1)) ∧ (decode cJ0_charAt_5068e 8 = .ok (.getfield 9, 3)) ∧ (decode cJ0_charAt_5068e 11 = .ok (.iload_n 1, 1)) ∧ (decode cJ0_charAt_5068e 12 = .ok (.invokestatic 495, 3)) ∧ (decode cJ0_charAt_5068e 15 = .ok (.ireturn, 1)) ∧ (decode cJ0_charAt_5068e 16 = .ok (.aload_n 0, 1)) ∧ (decode cJ0_charAt_5068e 17 = .ok (.getfield 9, 3)) ∧ (decode cJ0_charAt_5068e 20 = .ok (.iload_n 1, 1)) ∧ (decode cJ0_charAt_5068e 21 = .ok (.invokestatic 498, 3)) ∧ (decode cJ0_charAt_5068e 24 = .ok (.ireturn, 1)) := by decide +kernel
theorem dJ0_charAt_5068e_0 : decode cJ0_charAt_5068e 0 = .ok (.aload_n 0, 1) := DdJ0_charAt_5068e_0.1
theorem dJ0_charAt_5068e_1 : decode cJ0_charAt_5068e 1 = .ok (.invokevirtual 492, 3) := DdJ0_charAt_5068e_0.2.1
theorem dJ0_charAt_5068e_4 : decode cJ0_charAt_5068e 4 = .ok (.ifCond .eq 12, 3) := DdJ0_charAt_5068e_0.2.2.1
theorem dJ0_charAt_5068e_7 : decode cJ0_charAt_5068e 7 = .ok (.aload_n 0, 1) := DdJ0_charAt_5068e_0.2.2.2.1
theorem dJ0_charAt_5068e_8 : decode cJ0_charAt_5068e 8 = .ok (.getfield 9, 3) := DdJ0_charAt_5068e_0.2.2.2.2.1
theorem dJ0_charAt_5068e_11 : decode cJ0_charAt_5068e 11 = .ok (.iload_n 1, 1) := DdJ0_charAt_5068e_0.2.2.2.2.2.1
theorem dJ0_charAt_5068e_12 : decode cJ0_charAt_5068e 12 = .ok (.invokestatic 495, 3) := DdJ0_charAt_5068e_0.2.2.2.2.2.2.1
theorem dJ0_charAt_5068e_15 : decode cJ0_charAt_5068e 15 = .ok (.ireturn, 1) := DdJ0_charAt_5068e_0.2.2.2.2.2.2.2.1
theorem dJ0_charAt_5068e_16 : decode cJ0_charAt_5068e 16 = .ok (.aload_n 0, 1) := DdJ0_charAt_5068e_0.2.2.2.2.2.2.2.2.1
theorem dJ0_charAt_5068e_17 : decode cJ0_charAt_5068e 17 = .ok (.getfield 9, 3) := DdJ0_charAt_5068e_0.2.2.2.2.2.2.2.2.2.1
theorem dJ0_charAt_5068e_20 : decode cJ0_charAt_5068e 20 = .ok (.iload_n 1, 1) := DdJ0_charAt_5068e_0.2.2.2.2.2.2.2.2.2.2.1
theorem dJ0_charAt_5068e_21 : decode cJ0_charAt_5068e 21 = .ok (.invokestatic 498, 3) := DdJ0_charAt_5068e_0.2.2.2.2.2.2.2.2.2.2.2.1
theorem dJ0_charAt_5068e_24 : decode cJ0_charAt_5068e 24 = .ok (.ireturn, 1) := DdJ0_charAt_5068e_0.2.2.2.2.2.2.2.2.2.2.2.2
theorem DdJ0_coder_7d493_0 : (decode cJ0_coder_7d493 0 = .ok (.getstatic 38, 3)) ∧ (decode cJ0_coder_7d493 3 = .ok (.ifCond .eq 10, 3)) ∧ (decode cJ0_coder_7d493 6 = .ok (.aload_n 0, 1)) ∧ (decode cJ0_coder_7d493 7 = .ok (.getfield 15, 3)) ∧ (decode cJ0_coder_7d493 10 = .ok (.goto 4, 3)) ∧ (decode cJ0_coder_7d493 13 = .ok (.iconst 1, 1)) ∧ (decode cJ0_coder_7d493 14 = .ok (.ireturn, 1)) := by decide +kernel
theorem dJ0_coder_7d493_0 : decode cJ0_coder_7d493 0 = .ok (.getstatic 38, 3) := DdJ0_coder_7d493_0.1
theorem dJ0_coder_7d493_3 : decode cJ0_coder_7d493 3 = .ok (.ifCond .eq 10, 3) := DdJ0_coder_7d493_0.2.1
theorem dJ0_coder_7d493_6 : decode cJ0_coder_7d493 6 = .ok (.aload_n 0, 1) := DdJ0_coder_7d493_0.2.2.1
theorem dJ0_coder_7d493_7 : decode cJ0_coder_7d493 7 = .ok (.getfield 15, 3) := DdJ0_coder_7d493_0.2.2.2.1
theorem dJ0_coder_7d493_10 : decode cJ0_coder_7d493 10 = .ok (.goto 4, 3) := DdJ0_coder_7d493_0.2.2.2.2.1
theorem dJ0_coder_7d493_13 : decode cJ0_coder_7d493 13 = .ok (.iconst 1, 1) := DdJ0_coder_7d493_0.2.2.2.2.2.1
theorem dJ0_coder_7d493_14 : decode cJ0_coder_7d493 14 = .ok (.ireturn, 1) := DdJ0_coder_7d493_0.2.2.2.2.2.2
theorem DdJ0_isLatin1_aae02_0 : (decode cJ0_isLatin1_aae02 0 = .ok (.getstatic 38, 3)) ∧ (decode cJ0_isLatin1_aae02 3 = .ok (.ifCond .eq 14, 3)) ∧ (decode cJ0_isLatin1_aae02 6 = .ok (.aload_n 0, 1)) ∧ (decode cJ0_isLatin1_aae02 7 = .ok (.getfield 15, 3)) ∧ (decode cJ0_isLatin1_aae02 10 = .ok (.ifCond .ne 7, 3)) ∧ (decode cJ0_isLatin1_aae02 13 = .ok (.iconst 1, 1)) ∧ (decode cJ0_isLatin1_aae02 14 = .ok (.goto 4, 3)) ∧ (decode cJ0_isLatin1_aae02 17 = .ok (.iconst 0, 1)) ∧ (decode cJ0_isLatin1_aae02 18 = .ok (.ireturn, 1)) := by decide +kernel
theorem dJ0_isLatin1_aae02_0 : decode cJ0_isLatin1_aae02 0 = .ok (.getstatic 38, 3) := DdJ0_isLatin1_aae02_0.1
theorem dJ0_isLatin1_aae02_3 : decode cJ0_isLatin1_aae02 3 = .ok (.ifCond .eq 14, 3) := DdJ0_isLatin1_aae02_0.2.1
theorem dJ0_isLatin1_aae02_6 : decode cJ0_isLatin1_aae02 6 = .ok (.aload_n 0, 1) := DdJ0_isLatin1_aae02_0.2.2.1
theorem dJ0_isLatin1_aae02_7 : decode cJ0_isLatin1_aae02 7 = .ok (.getfield 15, 3) := DdJ0_isLatin1_aae02_0.2.2.2.1
theorem dJ0_isLatin1_aae02_10 : decode cJ0_isLatin1_aae02 10 = .ok (.ifCond .ne 7, 3) := DdJ0_isLatin1_aae02_0.2.2.2.2.1
theorem dJ0_isLatin1_aae02_13 : decode cJ0_isLatin1_aae02 13 = .ok (.iconst 1, 1) := DdJ0_isLatin1_aae02_0.2.2.2.2.2.1
theorem dJ0_isLatin1_aae02_14 : decode cJ0_isLatin1_aae02 14 = .ok (.goto 4, 3) := DdJ0_isLatin1_aae02_0.2.2.2.2.2.2.1
theorem dJ0_isLatin1_aae02_17 : decode cJ0_isLatin1_aae02 17 = .ok (.iconst 0, 1) := DdJ0_isLatin1_aae02_0.2.2.2.2.2.2.2.1
theorem dJ0_isLatin1_aae02_18 : decode cJ0_isLatin1_aae02 18 = .ok (.ireturn, 1) := DdJ0_isLatin1_aae02_0.2.2.2.2.2.2.2.2
theorem DdJ0_checkIndex_df160_0 : (decode cJ0_checkIndex_df160 0 = .ok (.iload_n 0, 1)) ∧ (decode cJ0_checkIndex_df160 1 = .ok (.iload_n 1, 1)) ∧ (decode cJ0_checkIndex_df160 2 = .ok (.getstatic 1053, 3)) ∧ (decode cJ0_checkIndex_df160 5 = .ok (.invokestatic 1059, 3)) ∧ (decode cJ0_checkIndex_df160 8 = .ok (.pop, 1)) ∧ (decode cJ0_checkIndex_df160 9 = .ok (.return_, 1)) := by decide +kernel
theorem dJ0_checkIndex_df160_0 : decode cJ0_checkIndex_df160 0 = .ok (.iload_n 0, 1) := DdJ0_checkIndex_df160_0.1
theorem dJ0_checkIndex_df160_1 : decode cJ0_checkIndex_df160 1 = .ok (.iload_n 1, 1) := DdJ0_checkIndex_df160_0.2.1
theorem dJ0_checkIndex_df160_2 : decode cJ0_checkIndex_df160 2 = .ok (.getstatic 1053, 3) := DdJ0_checkIndex_df160_0.2.2.1
theorem dJ0_checkIndex_df160_5 : decode cJ0_checkIndex_df160 5 = .ok (.invokestatic 1059, 3) := DdJ0_checkIndex_df160_0.2.2.2.1
theorem dJ0_checkIndex_df160_8 : decode cJ0_checkIndex_df160 8 = .ok (.pop, 1) := DdJ0_checkIndex_df160_0.2.2.2.2.1
theorem dJ0_checkIndex_df160_9 : decode cJ0_checkIndex_df160 9 = .ok (.return_, 1) := DdJ0_checkIndex_df160_0.2.2.2.2.2
theorem DdJ1_charAt_3b067_0 : (decode cJ1_charAt_3b067 0 = .ok (.iload_n 1, 1)) ∧ (decode cJ1_charAt_3b067 1 = .ok (.aload_n 0, 1)) ∧ (decode cJ1_charAt_3b067 2 = .ok (.arraylength, 1)) ∧ (decode cJ1_charAt_3b067 3 = .ok (.invokestatic 9, 3)) ∧ (decode cJ1_charAt_3b067 6 = .ok (.aload_n 0, 1)) ∧ (decode cJ1_charAt_3b067 7 = .ok (.iload_n 1, 1)) ∧ (decode cJ1_charAt_3b067 8 = .ok (.baload, 1)) ∧ (decode cJ1_charAt_3b067 9 = .ok (.sipush 255, 3)) ∧ (decode cJ1_charAt_3b067 12 = .ok (.iand, 1)) ∧ (decode cJ1_charAt_3b067 13 = .ok (.i2c, 1)) ∧ (decode cJ1_charAt_3b067 14 = .ok (.ireturn, 1)) := by decide +kernel
theorem dJ1_charAt_3b067_0 : decode cJ1_charAt_3b067 0 = .ok (.iload_n 1, 1) := DdJ1_charAt_3b067_0.1
theorem dJ1_charAt_3b067_1 : decode cJ1_charAt_3b067 1 = .ok (.aload_n 0, 1) := DdJ1_charAt_3b067_0.2.1
theorem dJ1_charAt_3b067_2 : decode cJ1_charAt_3b067 2 = .ok (.arraylength, 1) := DdJ1_charAt_3b067_0.2.2.1
theorem dJ1_charAt_3b067_3 : decode cJ1_charAt_3b067 3 = .ok (.invokestatic 9, 3) := DdJ1_charAt_3b067_0.2.2.2.1
theorem dJ1_charAt_3b067_6 : decode cJ1_charAt_3b067 6 = .ok (.aload_n 0, 1) := DdJ1_charAt_3b067_0.2.2.2.2.1
theorem dJ1_charAt_3b067_7 : decode cJ1_charAt_3b067 7 = .ok (.iload_n 1, 1) := DdJ1_charAt_3b067_0.2.2.2.2.2.1
theorem dJ1_charAt_3b067_8 : decode cJ1_charAt_3b067 8 = .ok (.baload, 1) := DdJ1_charAt_3b067_0.2.2.2.2.2.2.1
theorem dJ1_charAt_3b067_9 : decode cJ1_charAt_3b067 9 = .ok (.sipush 255, 3) := DdJ1_charAt_3b067_0.2.2.2.2.2.2.2.1
theorem dJ1_charAt_3b067_12 : decode cJ1_charAt_3b067 12 = .ok (.iand, 1) := DdJ1_charAt_3b067_0.2.2.2.2.2.2.2.2.1
theorem dJ1_charAt_3b067_13 : decode cJ1_charAt_3b067 13 = .ok (.i2c, 1) := DdJ1_charAt_3b067_0.2.2.2.2.2.2.2.2.2.1
theorem dJ1_charAt_3b067_14 : decode cJ1_charAt_3b067 14 = .ok (.ireturn, 1) := DdJ1_charAt_3b067_0.2.2.2.2.2.2.2.2.2.2
theorem DdJ2_getChar_3b067_0 : (decode cJ2_getChar_3b067 0 = .ok (.getstatic 44, 3)) ∧ (decode cJ2_getChar_3b067 3 = .ok (.ifCond .ne 25, 3)) ∧ (decode cJ2_getChar_3b067 6 = .ok (.iload_n 1, 1)) ∧ (decode cJ2_getChar_3b067 7 = .ok (.ifCond .lt 11, 3)) ∧ (decode cJ2_getChar_3b067 10 = .ok (.iload_n 1, 1)) ∧ (decode cJ2_getChar_3b067 11 = .ok (.aload_n 0, 1)) ∧ (decode cJ2_getChar_3b067 12 = .ok (.invokestatic 48, 3)) ∧ (decode cJ2_getChar_3b067 15 = .ok (.if_icmp .lt 13, 3)) ∧ (decode cJ2_getChar_3b067 18 = .ok (.new 52, 3)) ∧ (decode cJ2_getChar_3b067 21 = .ok (.dup, 1)) ∧ (decode cJ2_getChar_3b067 22 = .ok (.ldc 54, 2)) ∧ (decode cJ2_getChar_3b067 24 = .ok (.invokespecial 56, 3)) ∧ (decode cJ2_getChar_3b067 27 = .ok (.athrow, 1)) ∧ (decode cJ2_getChar_3b067 28 = .ok (.iload_n 1, 1)) ∧ (decode cJ2_getChar_3b067 29 = .ok (.iconst 1, 1)) ∧ (decode cJ2_getChar_3b067 30 = .ok (.ishl, 1)) := by decide +kernel
theorem dJ2_getChar_3b067_0 : decode cJ2_getChar_3b067 0 = .ok (.getstatic 44, 3) := DdJ2_getChar_3b067_0.1
theorem dJ2_getChar_3b067_3 : decode cJ2_getChar_3b067 3 = .ok (.ifCond .ne 25, 3) := DdJ2_getChar_3b067_0.2.1
theorem dJ2_getChar_3b067_6 : decode cJ2_getChar_3b067 6 = .ok (.iload_n 1, 1) := DdJ2_getChar_3b067_0.2.2.1
theorem dJ2_getChar_3b067_7 : decode cJ2_getChar_3b067 7 = .ok (.ifCond .lt 11, 3) := DdJ2_getChar_3b067_0.2.2.2.1
theorem dJ2_getChar_3b067_10 : decode cJ2_getChar_3b067 10 = .ok (.iload_n 1, 1) := DdJ2_getChar_3b067_0.2.2.2.2.1
theorem dJ2_getChar_3b067_11 : decode cJ2_getChar_3b067 11 = .ok (.aload_n 0, 1) := DdJ2_getChar_3b067_0.2.2.2.2.2.1
theorem dJ2_getChar_3b067_12 : decode cJ2_getChar_3b067 12 = .ok (.invokestatic 48, 3) := DdJ2_getChar_3b067_0.2.2.2.2.2.2.1
theorem dJ2_getChar_3b067_15 : decode cJ2_getChar_3b067 15 = .ok (.if_icmp .lt 13, 3) := DdJ2_getChar_3b067_0.2.2.2.2.2.2.2.1
theorem dJ2_getChar_3b067_18 : decode cJ2_getChar_3b067 18 = .ok (.new 52, 3) := DdJ2_getChar_3b067_0.2.2.2.2.2.2.2.2.1
theorem dJ2_getChar_3b067_21 : decode cJ2_getChar_3b067 21 = .ok (.dup, 1) := DdJ2_getChar_3b067_0.2.2.2.2.2.2.2.2.2.1
theorem dJ2_getChar_3b067_22 : decode cJ2_getChar_3b067 22 = .ok (.ldc 54, 2) := DdJ2_getChar_3b067_0.2.2.2.2.2.2.2.2.2.2.1
theorem dJ2_getChar_3b067_24 : decode cJ2_getChar_3b067 24 = .ok (.invokespecial 56, 3) := DdJ2_getChar_3b067_0.2.2.2.2.2.2.2.2.2.2.2.1
theorem dJ2_getChar_3b067_27 : decode cJ2_getChar_3b067 27 = .ok (.athrow, 1) := DdJ2_getChar_3b067_0.2.2.2.2.2.2.2.2.2.2.2.2.1
theorem dJ2_getChar_3b067_28 : decode cJ2_getChar_3b067 28 = .ok (.iload_n 1, 1) := DdJ2_getChar_3b067_0.2.2.2.2.2.2.2.2.2.2.2.2.2.1
theorem dJ2_getChar_3b067_29 : decode cJ2_getChar_3b067 29 = .ok (.iconst 1, 1) := DdJ2_getChar_3b067_0.2.2.2.2.2.2.2.2.2.2.2.2.2.2.1
theorem dJ2_getChar_3b067_30 : decode cJ2_getChar_3b067 30 = .ok (.ishl, 1) := DdJ2_getChar_3b067_0.2.2.2.2.2.2.2.2.2.2.2.2.2.2.2
theorem DdJ2_getChar_3b067_31 : (decode cJ2_getChar_3b067 31 = .ok (.istore_n 1, 1)) ∧ (decode cJ2_getChar_3b067 32 = .ok (.aload_n 0, 1)) ∧ (decode cJ2_getChar_3b067 33 = .ok (.iload_n 1, 1)) ∧ (decode cJ2_getChar_3b067 34 = .ok (.iinc 1 1, 3)) ∧ (decode cJ2_getChar_3b067 37 = .ok (.baload, 1)) ∧ (decode cJ2_getChar_3b067 38 = .ok (.sipush 255, 3)) ∧ (decode cJ2_getChar_3b067 41 = .ok (.iand, 1)) ∧ (decode cJ2_getChar_3b067 42 = .ok (.getstatic 59, 3)) ∧ (decode cJ2_getChar_3b067 45 = .ok (.ishl, 1)) ∧ (decode cJ2_getChar_3b067 46 = .ok (.aload_n 0, 1)) ∧ (decode cJ2_getChar_3b067 47 = .ok (.iload_n 1, 1)) ∧ (decode cJ2_getChar_3b067 48 = .ok (.baload, 1)) ∧ (decode cJ2_getChar_3b067 49 = .ok (.sipush 255, 3)) ∧ (decode cJ2_getChar_3b067 52 = .ok (.iand, 1)) ∧ (decode cJ2_getChar_3b067 53 = .ok (.getstatic 63, 3)) ∧ (decode cJ2_getChar_3b067 56 = .ok (.ishl, 1)) := by decide +kernel
theorem dJ2_getChar_3b067_31 : decode cJ2_getChar_3b067 31 = .ok (.istore_n 1, 1) := DdJ2_getChar_3b067_31.1
theorem dJ2_getChar_3b067_32 : decode cJ2_getChar_3b067 32 = .ok (.aload_n 0, 1) := DdJ2_getChar_3b067_31.2.1
theorem dJ2_getChar_3b067_33 : decode cJ2_getChar_3b067 33 = .ok (.iload_n 1, 1) := DdJ2_getChar_3b067_31.2.2.1
theorem dJ2_getChar_3b067_34 : decode cJ2_getChar_3b067 34 = .ok (.iinc 1 1, 3) := DdJ2_getChar_3b067_31.2.2.2.1
theorem dJ2_getChar_3b067_37 : decode cJ2_getChar_3b067 37 = .ok (.baload, 1) := DdJ2_getChar_3b067_31.2.2.2.2.1
theorem dJ2_getChar_3b067_38 : decode cJ2_getChar_3b067 38 = .ok (.sipush 255, 3) := DdJ2_getChar_3b067_31.2.2.2.2.2.1
theorem dJ2_getChar_3b067_41 : decode cJ2_getChar_3b067 41 = .ok (.iand, 1) := DdJ2_getChar_3b067_31.2.2.2.2.2.2.1
