/-! decode rows (by program) -/
theorem d_LA_used_0 : decode b_LA_used 0 = .ok (.aload_n 2, 1) := by decide +kernel
theorem d_LA_used_1 : decode b_LA_used 1 = .ok (.iconst 0, 1) := by decide +kernel
theorem d_LA_used_2 : decode b_LA_used 2 = .ok (.aload_n 0, 1) := by decide +kernel
theorem d_LA_used_3 : decode b_LA_used 3 = .ok (.iload_n 1, 1) := by decide +kernel
theorem d_LA_used_4 : decode b_LA_used 4 = .ok (.invokevirtual 59, 3) := by decide +kernel
theorem d_LA_used_7 : decode b_LA_used 7 = .ok (.i2l, 1) := by decide +kernel
theorem d_LA_used_8 : decode b_LA_used 8 = .ok (.lastore, 1) := by decide +kernel
theorem d_LA_used_9 : decode b_LA_used 9 = .ok (.goto 9, 3) := by decide +kernel
theorem d_LA_used_12 : decode b_LA_used 12 = .ok (.astore_n 3, 1) := by decide +kernel
theorem d_LA_used_13 : decode b_LA_used 13 = .ok (.iconst 1, 1) := by decide +kernel
theorem d_LA_used_14 : decode b_LA_used 14 = .ok (.ireturn, 1) := by decide +kernel
theorem d_LA_used_15 : decode b_LA_used 15 = .ok (.astore_n 3, 1) := by decide +kernel
theorem d_LA_used_16 : decode b_LA_used 16 = .ok (.iconst 2, 1) := by decide +kernel
theorem d_LA_used_17 : decode b_LA_used 17 = .ok (.ireturn, 1) := by decide +kernel
theorem d_LA_used_18 : decode b_LA_used 18 = .ok (.iconst 0, 1) := by decide +kernel
theorem d_LA_used_19 : decode b_LA_used 19 = .ok (.ireturn, 1) := by decide +kernel
theorem d_LA_receipt_0 : decode b_LA_receipt 0 = .ok (.aload_n 2, 1) := by decide +kernel
theorem d_LA_receipt_1 : decode b_LA_receipt 1 = .ok (.iconst 0, 1) := by decide +kernel
theorem d_LA_receipt_2 : decode b_LA_receipt 2 = .ok (.aload_n 0, 1) := by decide +kernel
theorem d_LA_receipt_3 : decode b_LA_receipt 3 = .ok (.iload_n 1, 1) := by decide +kernel
theorem d_LA_receipt_4 : decode b_LA_receipt 4 = .ok (.invokevirtual 62, 3) := by decide +kernel
theorem d_LA_receipt_7 : decode b_LA_receipt 7 = .ok (.i2l, 1) := by decide +kernel
theorem d_LA_receipt_8 : decode b_LA_receipt 8 = .ok (.lastore, 1) := by decide +kernel
theorem d_LA_receipt_9 : decode b_LA_receipt 9 = .ok (.goto 9, 3) := by decide +kernel
theorem d_LA_receipt_12 : decode b_LA_receipt 12 = .ok (.astore_n 3, 1) := by decide +kernel
theorem d_LA_receipt_13 : decode b_LA_receipt 13 = .ok (.iconst 1, 1) := by decide +kernel
theorem d_LA_receipt_14 : decode b_LA_receipt 14 = .ok (.ireturn, 1) := by decide +kernel
theorem d_LA_receipt_15 : decode b_LA_receipt 15 = .ok (.astore_n 3, 1) := by decide +kernel
theorem d_LA_receipt_16 : decode b_LA_receipt 16 = .ok (.iconst 2, 1) := by decide +kernel
theorem d_LA_receipt_17 : decode b_LA_receipt 17 = .ok (.ireturn, 1) := by decide +kernel
theorem d_LA_receipt_18 : decode b_LA_receipt 18 = .ok (.iconst 0, 1) := by decide +kernel
theorem d_LA_receipt_19 : decode b_LA_receipt 19 = .ok (.ireturn, 1) := by decide +kernel
theorem d_LA_supply_0 : decode b_LA_supply 0 = .ok (.aload 4, 2) := by decide +kernel
theorem d_LA_supply_2 : decode b_LA_supply 2 = .ok (.iconst 0, 1) := by decide +kernel
theorem d_LA_supply_3 : decode b_LA_supply 3 = .ok (.aload_n 0, 1) := by decide +kernel
theorem d_LA_supply_4 : decode b_LA_supply 4 = .ok (.iload_n 1, 1) := by decide +kernel
theorem d_LA_supply_5 : decode b_LA_supply 5 = .ok (.iload_n 2, 1) := by decide +kernel
theorem d_LA_supply_6 : decode b_LA_supply 6 = .ok (.iload_n 3, 1) := by decide +kernel
theorem d_LA_supply_7 : decode b_LA_supply 7 = .ok (.invokevirtual 65, 3) := by decide +kernel
theorem d_LA_supply_10 : decode b_LA_supply 10 = .ok (.i2l, 1) := by decide +kernel
theorem d_LA_supply_11 : decode b_LA_supply 11 = .ok (.lastore, 1) := by decide +kernel
theorem d_LA_supply_12 : decode b_LA_supply 12 = .ok (.goto 11, 3) := by decide +kernel
theorem d_LA_supply_15 : decode b_LA_supply 15 = .ok (.astore 5, 2) := by decide +kernel
theorem d_LA_supply_17 : decode b_LA_supply 17 = .ok (.iconst 1, 1) := by decide +kernel
theorem d_LA_supply_18 : decode b_LA_supply 18 = .ok (.ireturn, 1) := by decide +kernel
theorem d_LA_supply_19 : decode b_LA_supply 19 = .ok (.astore 5, 2) := by decide +kernel
theorem d_LA_supply_21 : decode b_LA_supply 21 = .ok (.iconst 2, 1) := by decide +kernel
theorem d_LA_supply_22 : decode b_LA_supply 22 = .ok (.ireturn, 1) := by decide +kernel
theorem d_LA_supply_23 : decode b_LA_supply 23 = .ok (.iconst 0, 1) := by decide +kernel
theorem d_LA_supply_24 : decode b_LA_supply 24 = .ok (.ireturn, 1) := by decide +kernel
theorem d_LA_fewestMore_0 : decode b_LA_fewestMore 0 = .ok (.aload_n 3, 1) := by decide +kernel
theorem d_LA_fewestMore_1 : decode b_LA_fewestMore 1 = .ok (.iconst 0, 1) := by decide +kernel
theorem d_LA_fewestMore_2 : decode b_LA_fewestMore 2 = .ok (.aload_n 0, 1) := by decide +kernel
theorem d_LA_fewestMore_3 : decode b_LA_fewestMore 3 = .ok (.iload_n 1, 1) := by decide +kernel
theorem d_LA_fewestMore_4 : decode b_LA_fewestMore 4 = .ok (.iload_n 2, 1) := by decide +kernel
theorem d_LA_fewestMore_5 : decode b_LA_fewestMore 5 = .ok (.invokevirtual 68, 3) := by decide +kernel
theorem d_LA_fewestMore_8 : decode b_LA_fewestMore 8 = .ok (.i2l, 1) := by decide +kernel
theorem d_LA_fewestMore_9 : decode b_LA_fewestMore 9 = .ok (.lastore, 1) := by decide +kernel
theorem d_LA_fewestMore_10 : decode b_LA_fewestMore 10 = .ok (.goto 11, 3) := by decide +kernel
theorem d_LA_fewestMore_13 : decode b_LA_fewestMore 13 = .ok (.astore 4, 2) := by decide +kernel
theorem d_LA_fewestMore_15 : decode b_LA_fewestMore 15 = .ok (.iconst 1, 1) := by decide +kernel
theorem d_LA_fewestMore_16 : decode b_LA_fewestMore 16 = .ok (.ireturn, 1) := by decide +kernel
theorem d_LA_fewestMore_17 : decode b_LA_fewestMore 17 = .ok (.astore 4, 2) := by decide +kernel
theorem d_LA_fewestMore_19 : decode b_LA_fewestMore 19 = .ok (.iconst 2, 1) := by decide +kernel
theorem d_LA_fewestMore_20 : decode b_LA_fewestMore 20 = .ok (.ireturn, 1) := by decide +kernel
theorem d_LA_fewestMore_21 : decode b_LA_fewestMore 21 = .ok (.iconst 0, 1) := by decide +kernel
theorem d_LA_fewestMore_22 : decode b_LA_fewestMore 22 = .ok (.ireturn, 1) := by decide +kernel
theorem d_LA_law_0 : decode b_LA_law 0 = .ok (.new 8, 3) := by decide +kernel
theorem d_LA_law_3 : decode b_LA_law 3 = .ok (.dup, 1) := by decide +kernel
theorem d_LA_law_4 : decode b_LA_law 4 = .ok (.invokespecial 71, 3) := by decide +kernel
theorem d_LA_law_7 : decode b_LA_law 7 = .ok (.astore_n 1, 1) := by decide +kernel
theorem d_LA_law_8 : decode b_LA_law 8 = .ok (.new 72, 3) := by decide +kernel
theorem d_LA_law_11 : decode b_LA_law 11 = .ok (.dup, 1) := by decide +kernel
theorem d_LA_law_12 : decode b_LA_law 12 = .ok (.invokespecial 74, 3) := by decide +kernel
theorem d_LA_law_15 : decode b_LA_law 15 = .ok (.astore_n 2, 1) := by decide +kernel
theorem d_LA_law_16 : decode b_LA_law 16 = .ok (.iconst 1, 1) := by decide +kernel
theorem d_LA_law_17 : decode b_LA_law 17 = .ok (.newarray .long, 2) := by decide +kernel
theorem d_LA_law_19 : decode b_LA_law 19 = .ok (.astore_n 3, 1) := by decide +kernel
theorem d_LA_law_20 : decode b_LA_law 20 = .ok (.iconst 0, 1) := by decide +kernel
theorem d_LA_law_21 : decode b_LA_law 21 = .ok (.istore 4, 2) := by decide +kernel
theorem d_LA_law_23 : decode b_LA_law 23 = .ok (.iload 4, 2) := by decide +kernel
theorem d_LA_law_25 : decode b_LA_law 25 = .ok (.aload_n 0, 1) := by decide +kernel
theorem d_LA_law_26 : decode b_LA_law 26 = .ok (.arraylength, 1) := by decide +kernel
theorem d_LA_law_27 : decode b_LA_law 27 = .ok (.iconst 4, 1) := by decide +kernel
theorem d_LA_law_28 : decode b_LA_law 28 = .ok (.isub, 1) := by decide +kernel
theorem d_LA_law_29 : decode b_LA_law 29 = .ok (.if_icmp .gt 1321, 3) := by decide +kernel
theorem d_LA_law_32 : decode b_LA_law 32 = .ok (.aload_n 0, 1) := by decide +kernel
theorem d_LA_law_33 : decode b_LA_law 33 = .ok (.iload 4, 2) := by decide +kernel
theorem d_LA_law_35 : decode b_LA_law 35 = .ok (.iaload, 1) := by decide +kernel
theorem d_LA_law_36 : decode b_LA_law 36 = .ok (.bipush 31, 2) := by decide +kernel
theorem d_LA_law_38 : decode b_LA_law 38 = .ok (.iand, 1) := by decide +kernel
theorem d_LA_law_39 : decode b_LA_law 39 = .ok (.tableswitch 1305 0 16 #[81, 149, 205, 296, 364, 432, 519, 587, 667, 754, 834, 921, 989, 1045, 1101, 1157, 1237], 81) := by decide +kernel
theorem d_LA_law_120 : decode b_LA_law 120 = .ok (.aload_n 1, 1) := by decide +kernel
theorem d_LA_law_121 : decode b_LA_law 121 = .ok (.aload_n 0, 1) := by decide +kernel
theorem d_LA_law_122 : decode b_LA_law 122 = .ok (.iload 4, 2) := by decide +kernel
theorem d_LA_law_124 : decode b_LA_law 124 = .ok (.iconst 1, 1) := by decide +kernel
theorem d_LA_law_125 : decode b_LA_law 125 = .ok (.iadd, 1) := by decide +kernel
theorem d_LA_law_126 : decode b_LA_law 126 = .ok (.iaload, 1) := by decide +kernel
theorem d_LA_law_127 : decode b_LA_law 127 = .ok (.aload_n 0, 1) := by decide +kernel
theorem d_LA_law_128 : decode b_LA_law 128 = .ok (.iload 4, 2) := by decide +kernel
theorem d_LA_law_130 : decode b_LA_law 130 = .ok (.iconst 2, 1) := by decide +kernel
theorem d_LA_law_131 : decode b_LA_law 131 = .ok (.iadd, 1) := by decide +kernel
theorem d_LA_law_132 : decode b_LA_law 132 = .ok (.iaload, 1) := by decide +kernel
theorem d_LA_law_133 : decode b_LA_law 133 = .ok (.aload_n 3, 1) := by decide +kernel
theorem d_LA_law_134 : decode b_LA_law 134 = .ok (.invokestatic 75, 3) := by decide +kernel
theorem d_LA_law_137 : decode b_LA_law 137 = .ok (.istore 5, 2) := by decide +kernel
theorem d_LA_law_139 : decode b_LA_law 139 = .ok (.aload_n 2, 1) := by decide +kernel
theorem d_LA_law_140 : decode b_LA_law 140 = .ok (.aload_n 0, 1) := by decide +kernel
theorem d_LA_law_141 : decode b_LA_law 141 = .ok (.iload 4, 2) := by decide +kernel
theorem d_LA_law_143 : decode b_LA_law 143 = .ok (.iconst 1, 1) := by decide +kernel
theorem d_LA_law_144 : decode b_LA_law 144 = .ok (.iadd, 1) := by decide +kernel
theorem d_LA_law_145 : decode b_LA_law 145 = .ok (.iaload, 1) := by decide +kernel
theorem d_LA_law_146 : decode b_LA_law 146 = .ok (.aload_n 0, 1) := by decide +kernel
theorem d_LA_law_147 : decode b_LA_law 147 = .ok (.iload 4, 2) := by decide +kernel
theorem d_LA_law_149 : decode b_LA_law 149 = .ok (.iconst 2, 1) := by decide +kernel
theorem d_LA_law_150 : decode b_LA_law 150 = .ok (.iadd, 1) := by decide +kernel
theorem d_LA_law_151 : decode b_LA_law 151 = .ok (.iaload, 1) := by decide +kernel
theorem d_LA_law_152 : decode b_LA_law 152 = .ok (.invokevirtual 80, 3) := by decide +kernel
theorem d_LA_law_155 : decode b_LA_law 155 = .ok (.istore 6, 2) := by decide +kernel
theorem d_LA_law_157 : decode b_LA_law 157 = .ok (.aload_n 2, 1) := by decide +kernel
theorem d_LA_law_158 : decode b_LA_law 158 = .ok (.invokevirtual 81, 3) := by decide +kernel
theorem d_LA_law_161 : decode b_LA_law 161 = .ok (.iload 5, 2) := by decide +kernel
theorem d_LA_law_163 : decode b_LA_law 163 = .ok (.if_icmp .eq 5, 3) := by decide +kernel
theorem d_LA_law_166 : decode b_LA_law 166 = .ok (.iconst 0, 1) := by decide +kernel
theorem d_LA_law_167 : decode b_LA_law 167 = .ok (.ireturn, 1) := by decide +kernel
theorem d_LA_law_168 : decode b_LA_law 168 = .ok (.iload 5, 2) := by decide +kernel
theorem d_LA_law_170 : decode b_LA_law 170 = .ok (.ifCond .ne 15, 3) := by decide +kernel
theorem d_LA_law_173 : decode b_LA_law 173 = .ok (.aload_n 3, 1) := by decide +kernel
theorem d_LA_law_174 : decode b_LA_law 174 = .ok (.iconst 0, 1) := by decide +kernel
theorem d_LA_law_175 : decode b_LA_law 175 = .ok (.laload, 1) := by decide +kernel
theorem d_LA_law_176 : decode b_LA_law 176 = .ok (.iload 6, 2) := by decide +kernel
theorem d_LA_law_178 : decode b_LA_law 178 = .ok (.i2l, 1) := by decide +kernel
theorem d_LA_law_179 : decode b_LA_law 179 = .ok (.lcmp, 1) := by decide +kernel
theorem d_LA_law_180 : decode b_LA_law 180 = .ok (.ifCond .eq 5, 3) := by decide +kernel
theorem d_LA_law_183 : decode b_LA_law 183 = .ok (.iconst 0, 1) := by decide +kernel
theorem d_LA_law_184 : decode b_LA_law 184 = .ok (.ireturn, 1) := by decide +kernel
theorem d_LA_law_185 : decode b_LA_law 185 = .ok (.goto 1159, 3) := by decide +kernel
theorem d_LA_law_188 : decode b_LA_law 188 = .ok (.aload_n 1, 1) := by decide +kernel
theorem d_LA_law_189 : decode b_LA_law 189 = .ok (.aload_n 0, 1) := by decide +kernel
theorem d_LA_law_190 : decode b_LA_law 190 = .ok (.iload 4, 2) := by decide +kernel
theorem d_LA_law_192 : decode b_LA_law 192 = .ok (.iconst 1, 1) := by decide +kernel
theorem d_LA_law_193 : decode b_LA_law 193 = .ok (.iadd, 1) := by decide +kernel
theorem d_LA_law_194 : decode b_LA_law 194 = .ok (.iaload, 1) := by decide +kernel
theorem d_LA_law_195 : decode b_LA_law 195 = .ok (.aload_n 3, 1) := by decide +kernel
theorem d_LA_law_196 : decode b_LA_law 196 = .ok (.invokestatic 85, 3) := by decide +kernel
theorem d_LA_law_199 : decode b_LA_law 199 = .ok (.istore 5, 2) := by decide +kernel
theorem d_LA_law_201 : decode b_LA_law 201 = .ok (.aload_n 2, 1) := by decide +kernel
theorem d_LA_law_202 : decode b_LA_law 202 = .ok (.aload_n 0, 1) := by decide +kernel
theorem d_LA_law_203 : decode b_LA_law 203 = .ok (.iload 4, 2) := by decide +kernel
theorem d_LA_law_205 : decode b_LA_law 205 = .ok (.iconst 1, 1) := by decide +kernel
theorem d_LA_law_206 : decode b_LA_law 206 = .ok (.iadd, 1) := by decide +kernel
theorem d_LA_law_207 : decode b_LA_law 207 = .ok (.iaload, 1) := by decide +kernel
theorem d_LA_law_208 : decode b_LA_law 208 = .ok (.invokevirtual 88, 3) := by decide +kernel
theorem d_LA_law_211 : decode b_LA_law 211 = .ok (.istore 6, 2) := by decide +kernel
theorem d_LA_law_213 : decode b_LA_law 213 = .ok (.aload_n 2, 1) := by decide +kernel
theorem d_LA_law_214 : decode b_LA_law 214 = .ok (.invokevirtual 81, 3) := by decide +kernel
theorem d_LA_law_217 : decode b_LA_law 217 = .ok (.iload 5, 2) := by decide +kernel
theorem d_LA_law_219 : decode b_LA_law 219 = .ok (.if_icmp .eq 5, 3) := by decide +kernel
theorem d_LA_law_222 : decode b_LA_law 222 = .ok (.iconst 0, 1) := by decide +kernel
theorem d_LA_law_223 : decode b_LA_law 223 = .ok (.ireturn, 1) := by decide +kernel
theorem d_LA_law_224 : decode b_LA_law 224 = .ok (.iload 5, 2) := by decide +kernel
theorem d_LA_law_226 : decode b_LA_law 226 = .ok (.ifCond .ne 15, 3) := by decide +kernel
theorem d_LA_law_229 : decode b_LA_law 229 = .ok (.aload_n 3, 1) := by decide +kernel
theorem d_LA_law_230 : decode b_LA_law 230 = .ok (.iconst 0, 1) := by decide +kernel
theorem d_LA_law_231 : decode b_LA_law 231 = .ok (.laload, 1) := by decide +kernel
theorem d_LA_law_232 : decode b_LA_law 232 = .ok (.iload 6, 2) := by decide +kernel
theorem d_LA_law_234 : decode b_LA_law 234 = .ok (.i2l, 1) := by decide +kernel
theorem d_LA_law_235 : decode b_LA_law 235 = .ok (.lcmp, 1) := by decide +kernel
theorem d_LA_law_236 : decode b_LA_law 236 = .ok (.ifCond .eq 5, 3) := by decide +kernel
theorem d_LA_law_239 : decode b_LA_law 239 = .ok (.iconst 0, 1) := by decide +kernel
theorem d_LA_law_240 : decode b_LA_law 240 = .ok (.ireturn, 1) := by decide +kernel
theorem d_LA_law_241 : decode b_LA_law 241 = .ok (.goto 1103, 3) := by decide +kernel
theorem d_LA_law_244 : decode b_LA_law 244 = .ok (.aload_n 1, 1) := by decide +kernel
theorem d_LA_law_245 : decode b_LA_law 245 = .ok (.aload_n 0, 1) := by decide +kernel
theorem d_LA_law_246 : decode b_LA_law 246 = .ok (.iload 4, 2) := by decide +kernel
theorem d_LA_law_248 : decode b_LA_law 248 = .ok (.iconst 1, 1) := by decide +kernel
theorem d_LA_law_249 : decode b_LA_law 249 = .ok (.iadd, 1) := by decide +kernel
theorem d_LA_law_250 : decode b_LA_law 250 = .ok (.iaload, 1) := by decide +kernel
theorem d_LA_law_251 : decode b_LA_law 251 = .ok (.aload_n 0, 1) := by decide +kernel
theorem d_LA_law_252 : decode b_LA_law 252 = .ok (.iload 4, 2) := by decide +kernel
theorem d_LA_law_254 : decode b_LA_law 254 = .ok (.iconst 2, 1) := by decide +kernel
theorem d_LA_law_255 : decode b_LA_law 255 = .ok (.iadd, 1) := by decide +kernel
theorem d_LA_law_256 : decode b_LA_law 256 = .ok (.iaload, 1) := by decide +kernel
theorem d_LA_law_257 : decode b_LA_law 257 = .ok (.ifCond .eq 7, 3) := by decide +kernel
theorem d_LA_law_260 : decode b_LA_law 260 = .ok (.iconst 1, 1) := by decide +kernel
theorem d_LA_law_261 : decode b_LA_law 261 = .ok (.goto 4, 3) := by decide +kernel
theorem d_LA_law_264 : decode b_LA_law 264 = .ok (.iconst 0, 1) := by decide +kernel
theorem d_LA_law_265 : decode b_LA_law 265 = .ok (.aload_n 3, 1) := by decide +kernel
theorem d_LA_law_266 : decode b_LA_law 266 = .ok (.invokestatic 89, 3) := by decide +kernel
theorem d_LA_law_269 : decode b_LA_law 269 = .ok (.istore 5, 2) := by decide +kernel
theorem d_LA_law_271 : decode b_LA_law 271 = .ok (.aload_n 2, 1) := by decide +kernel
theorem d_LA_law_272 : decode b_LA_law 272 = .ok (.aload_n 0, 1) := by decide +kernel
theorem d_LA_law_273 : decode b_LA_law 273 = .ok (.iload 4, 2) := by decide +kernel
theorem d_LA_law_275 : decode b_LA_law 275 = .ok (.iconst 1, 1) := by decide +kernel
theorem d_LA_law_276 : decode b_LA_law 276 = .ok (.iadd, 1) := by decide +kernel
theorem d_LA_law_277 : decode b_LA_law 277 = .ok (.iaload, 1) := by decide +kernel
theorem d_LA_law_278 : decode b_LA_law 278 = .ok (.aload_n 0, 1) := by decide +kernel
theorem d_LA_law_279 : decode b_LA_law 279 = .ok (.iload 4, 2) := by decide +kernel
theorem d_LA_law_281 : decode b_LA_law 281 = .ok (.iconst 2, 1) := by decide +kernel
theorem d_LA_law_282 : decode b_LA_law 282 = .ok (.iadd, 1) := by decide +kernel
theorem d_LA_law_283 : decode b_LA_law 283 = .ok (.iaload, 1) := by decide +kernel
theorem d_LA_law_284 : decode b_LA_law 284 = .ok (.ifCond .eq 7, 3) := by decide +kernel
theorem d_LA_law_287 : decode b_LA_law 287 = .ok (.iconst 1, 1) := by decide +kernel
theorem d_LA_law_288 : decode b_LA_law 288 = .ok (.goto 4, 3) := by decide +kernel
theorem d_LA_law_291 : decode b_LA_law 291 = .ok (.iconst 0, 1) := by decide +kernel
theorem d_LA_law_292 : decode b_LA_law 292 = .ok (.invokevirtual 92, 3) := by decide +kernel
theorem d_LA_law_295 : decode b_LA_law 295 = .ok (.istore 6, 2) := by decide +kernel
theorem d_LA_law_297 : decode b_LA_law 297 = .ok (.aload_n 2, 1) := by decide +kernel
theorem d_LA_law_298 : decode b_LA_law 298 = .ok (.invokevirtual 81, 3) := by decide +kernel
theorem d_LA_law_301 : decode b_LA_law 301 = .ok (.iload 5, 2) := by decide +kernel
theorem d_LA_law_303 : decode b_LA_law 303 = .ok (.if_icmp .eq 5, 3) := by decide +kernel
theorem d_LA_law_306 : decode b_LA_law 306 = .ok (.iconst 0, 1) := by decide +kernel
theorem d_LA_law_307 : decode b_LA_law 307 = .ok (.ireturn, 1) := by decide +kernel
theorem d_LA_law_308 : decode b_LA_law 308 = .ok (.iload 5, 2) := by decide +kernel
theorem d_LA_law_310 : decode b_LA_law 310 = .ok (.ifCond .ne 22, 3) := by decide +kernel
theorem d_LA_law_313 : decode b_LA_law 313 = .ok (.aload_n 3, 1) := by decide +kernel
theorem d_LA_law_314 : decode b_LA_law 314 = .ok (.iconst 0, 1) := by decide +kernel
theorem d_LA_law_315 : decode b_LA_law 315 = .ok (.laload, 1) := by decide +kernel
theorem d_LA_law_316 : decode b_LA_law 316 = .ok (.iload 6, 2) := by decide +kernel
theorem d_LA_law_318 : decode b_LA_law 318 = .ok (.ifCond .eq 7, 3) := by decide +kernel
theorem d_LA_law_321 : decode b_LA_law 321 = .ok (.lconst 1, 1) := by decide +kernel
theorem d_LA_law_322 : decode b_LA_law 322 = .ok (.goto 4, 3) := by decide +kernel
theorem d_LA_law_325 : decode b_LA_law 325 = .ok (.lconst 0, 1) := by decide +kernel
theorem d_LA_law_326 : decode b_LA_law 326 = .ok (.lcmp, 1) := by decide +kernel
theorem d_LA_law_327 : decode b_LA_law 327 = .ok (.ifCond .eq 5, 3) := by decide +kernel
theorem d_LA_law_330 : decode b_LA_law 330 = .ok (.iconst 0, 1) := by decide +kernel
theorem d_LA_law_331 : decode b_LA_law 331 = .ok (.ireturn, 1) := by decide +kernel
theorem d_LA_law_332 : decode b_LA_law 332 = .ok (.goto 1012, 3) := by decide +kernel
theorem d_LA_law_335 : decode b_LA_law 335 = .ok (.aload_n 1, 1) := by decide +kernel
theorem d_LA_law_336 : decode b_LA_law 336 = .ok (.aload_n 0, 1) := by decide +kernel
theorem d_LA_law_337 : decode b_LA_law 337 = .ok (.iload 4, 2) := by decide +kernel
theorem d_LA_law_339 : decode b_LA_law 339 = .ok (.iconst 1, 1) := by decide +kernel
theorem d_LA_law_340 : decode b_LA_law 340 = .ok (.iadd, 1) := by decide +kernel
theorem d_LA_law_341 : decode b_LA_law 341 = .ok (.iaload, 1) := by decide +kernel
theorem d_LA_law_342 : decode b_LA_law 342 = .ok (.aload_n 0, 1) := by decide +kernel
theorem d_LA_law_343 : decode b_LA_law 343 = .ok (.iload 4, 2) := by decide +kernel
theorem d_LA_law_345 : decode b_LA_law 345 = .ok (.iconst 2, 1) := by decide +kernel
theorem d_LA_law_346 : decode b_LA_law 346 = .ok (.iadd, 1) := by decide +kernel
theorem d_LA_law_347 : decode b_LA_law 347 = .ok (.iaload, 1) := by decide +kernel
theorem d_LA_law_348 : decode b_LA_law 348 = .ok (.aload_n 3, 1) := by decide +kernel
theorem d_LA_law_349 : decode b_LA_law 349 = .ok (.invokestatic 93, 3) := by decide +kernel
theorem d_LA_law_352 : decode b_LA_law 352 = .ok (.istore 5, 2) := by decide +kernel
theorem d_LA_law_354 : decode b_LA_law 354 = .ok (.aload_n 2, 1) := by decide +kernel
theorem d_LA_law_355 : decode b_LA_law 355 = .ok (.aload_n 0, 1) := by decide +kernel
theorem d_LA_law_356 : decode b_LA_law 356 = .ok (.iload 4, 2) := by decide +kernel
theorem d_LA_law_358 : decode b_LA_law 358 = .ok (.iconst 1, 1) := by decide +kernel
theorem d_LA_law_359 : decode b_LA_law 359 = .ok (.iadd, 1) := by decide +kernel
theorem d_LA_law_360 : decode b_LA_law 360 = .ok (.iaload, 1) := by decide +kernel
theorem d_LA_law_361 : decode b_LA_law 361 = .ok (.aload_n 0, 1) := by decide +kernel
theorem d_LA_law_362 : decode b_LA_law 362 = .ok (.iload 4, 2) := by decide +kernel
theorem d_LA_law_364 : decode b_LA_law 364 = .ok (.iconst 2, 1) := by decide +kernel
theorem d_LA_law_365 : decode b_LA_law 365 = .ok (.iadd, 1) := by decide +kernel
theorem d_LA_law_366 : decode b_LA_law 366 = .ok (.iaload, 1) := by decide +kernel
theorem d_LA_law_367 : decode b_LA_law 367 = .ok (.invokevirtual 95, 3) := by decide +kernel
theorem d_LA_law_370 : decode b_LA_law 370 = .ok (.istore 6, 2) := by decide +kernel
theorem d_LA_law_372 : decode b_LA_law 372 = .ok (.aload_n 2, 1) := by decide +kernel
theorem d_LA_law_373 : decode b_LA_law 373 = .ok (.invokevirtual 81, 3) := by decide +kernel
theorem d_LA_law_376 : decode b_LA_law 376 = .ok (.iload 5, 2) := by decide +kernel
theorem d_LA_law_378 : decode b_LA_law 378 = .ok (.if_icmp .eq 5, 3) := by decide +kernel
theorem d_LA_law_381 : decode b_LA_law 381 = .ok (.iconst 0, 1) := by decide +kernel
theorem d_LA_law_382 : decode b_LA_law 382 = .ok (.ireturn, 1) := by decide +kernel
theorem d_LA_law_383 : decode b_LA_law 383 = .ok (.iload 5, 2) := by decide +kernel
theorem d_LA_law_385 : decode b_LA_law 385 = .ok (.ifCond .ne 15, 3) := by decide +kernel
theorem d_LA_law_388 : decode b_LA_law 388 = .ok (.aload_n 3, 1) := by decide +kernel
theorem d_LA_law_389 : decode b_LA_law 389 = .ok (.iconst 0, 1) := by decide +kernel
theorem d_LA_law_390 : decode b_LA_law 390 = .ok (.laload, 1) := by decide +kernel
theorem d_LA_law_391 : decode b_LA_law 391 = .ok (.iload 6, 2) := by decide +kernel
theorem d_LA_law_393 : decode b_LA_law 393 = .ok (.i2l, 1) := by decide +kernel
theorem d_LA_law_394 : decode b_LA_law 394 = .ok (.lcmp, 1) := by decide +kernel
theorem d_LA_law_395 : decode b_LA_law 395 = .ok (.ifCond .eq 5, 3) := by decide +kernel
theorem d_LA_law_398 : decode b_LA_law 398 = .ok (.iconst 0, 1) := by decide +kernel
theorem d_LA_law_399 : decode b_LA_law 399 = .ok (.ireturn, 1) := by decide +kernel
theorem d_LA_law_400 : decode b_LA_law 400 = .ok (.goto 944, 3) := by decide +kernel
theorem d_LA_law_403 : decode b_LA_law 403 = .ok (.aload_n 1, 1) := by decide +kernel
theorem d_LA_law_404 : decode b_LA_law 404 = .ok (.aload_n 0, 1) := by decide +kernel
theorem d_LA_law_405 : decode b_LA_law 405 = .ok (.iload 4, 2) := by decide +kernel
theorem d_LA_law_407 : decode b_LA_law 407 = .ok (.iconst 1, 1) := by decide +kernel
theorem d_LA_law_408 : decode b_LA_law 408 = .ok (.iadd, 1) := by decide +kernel
theorem d_LA_law_409 : decode b_LA_law 409 = .ok (.iaload, 1) := by decide +kernel
theorem d_LA_law_410 : decode b_LA_law 410 = .ok (.aload_n 0, 1) := by decide +kernel
theorem d_LA_law_411 : decode b_LA_law 411 = .ok (.iload 4, 2) := by decide +kernel
theorem d_LA_law_413 : decode b_LA_law 413 = .ok (.iconst 2, 1) := by decide +kernel
theorem d_LA_law_414 : decode b_LA_law 414 = .ok (.iadd, 1) := by decide +kernel
theorem d_LA_law_415 : decode b_LA_law 415 = .ok (.iaload, 1) := by decide +kernel
theorem d_LA_law_416 : decode b_LA_law 416 = .ok (.aload_n 3, 1) := by decide +kernel
theorem d_LA_law_417 : decode b_LA_law 417 = .ok (.invokestatic 96, 3) := by decide +kernel
theorem d_LA_law_420 : decode b_LA_law 420 = .ok (.istore 5, 2) := by decide +kernel
theorem d_LA_law_422 : decode b_LA_law 422 = .ok (.aload_n 2, 1) := by decide +kernel
theorem d_LA_law_423 : decode b_LA_law 423 = .ok (.aload_n 0, 1) := by decide +kernel
theorem d_LA_law_424 : decode b_LA_law 424 = .ok (.iload 4, 2) := by decide +kernel
theorem d_LA_law_426 : decode b_LA_law 426 = .ok (.iconst 1, 1) := by decide +kernel
theorem d_LA_law_427 : decode b_LA_law 427 = .ok (.iadd, 1) := by decide +kernel
theorem d_LA_law_428 : decode b_LA_law 428 = .ok (.iaload, 1) := by decide +kernel
theorem d_LA_law_429 : decode b_LA_law 429 = .ok (.aload_n 0, 1) := by decide +kernel
theorem d_LA_law_430 : decode b_LA_law 430 = .ok (.iload 4, 2) := by decide +kernel
theorem d_LA_law_432 : decode b_LA_law 432 = .ok (.iconst 2, 1) := by decide +kernel
theorem d_LA_law_433 : decode b_LA_law 433 = .ok (.iadd, 1) := by decide +kernel
theorem d_LA_law_434 : decode b_LA_law 434 = .ok (.iaload, 1) := by decide +kernel
theorem d_LA_law_435 : decode b_LA_law 435 = .ok (.invokevirtual 98, 3) := by decide +kernel
theorem d_LA_law_438 : decode b_LA_law 438 = .ok (.istore 6, 2) := by decide +kernel
theorem d_LA_law_440 : decode b_LA_law 440 = .ok (.aload_n 2, 1) := by decide +kernel
theorem d_LA_law_441 : decode b_LA_law 441 = .ok (.invokevirtual 81, 3) := by decide +kernel
theorem d_LA_law_444 : decode b_LA_law 444 = .ok (.iload 5, 2) := by decide +kernel
theorem d_LA_law_446 : decode b_LA_law 446 = .ok (.if_icmp .eq 5, 3) := by decide +kernel
theorem d_LA_law_449 : decode b_LA_law 449 = .ok (.iconst 0, 1) := by decide +kernel
theorem d_LA_law_450 : decode b_LA_law 450 = .ok (.ireturn, 1) := by decide +kernel
theorem d_LA_law_451 : decode b_LA_law 451 = .ok (.iload 5, 2) := by decide +kernel
theorem d_LA_law_453 : decode b_LA_law 453 = .ok (.ifCond .ne 15, 3) := by decide +kernel
theorem d_LA_law_456 : decode b_LA_law 456 = .ok (.aload_n 3, 1) := by decide +kernel
theorem d_LA_law_457 : decode b_LA_law 457 = .ok (.iconst 0, 1) := by decide +kernel
theorem d_LA_law_458 : decode b_LA_law 458 = .ok (.laload, 1) := by decide +kernel
theorem d_LA_law_459 : decode b_LA_law 459 = .ok (.iload 6, 2) := by decide +kernel
theorem d_LA_law_461 : decode b_LA_law 461 = .ok (.i2l, 1) := by decide +kernel
theorem d_LA_law_462 : decode b_LA_law 462 = .ok (.lcmp, 1) := by decide +kernel
theorem d_LA_law_463 : decode b_LA_law 463 = .ok (.ifCond .eq 5, 3) := by decide +kernel
theorem d_LA_law_466 : decode b_LA_law 466 = .ok (.iconst 0, 1) := by decide +kernel
theorem d_LA_law_467 : decode b_LA_law 467 = .ok (.ireturn, 1) := by decide +kernel
theorem d_LA_law_468 : decode b_LA_law 468 = .ok (.goto 876, 3) := by decide +kernel
theorem d_LA_law_471 : decode b_LA_law 471 = .ok (.aload_n 1, 1) := by decide +kernel
theorem d_LA_law_472 : decode b_LA_law 472 = .ok (.aload_n 0, 1) := by decide +kernel
theorem d_LA_law_473 : decode b_LA_law 473 = .ok (.iload 4, 2) := by decide +kernel
theorem d_LA_law_475 : decode b_LA_law 475 = .ok (.iconst 1, 1) := by decide +kernel
theorem d_LA_law_476 : decode b_LA_law 476 = .ok (.iadd, 1) := by decide +kernel
theorem d_LA_law_477 : decode b_LA_law 477 = .ok (.iaload, 1) := by decide +kernel
theorem d_LA_law_478 : decode b_LA_law 478 = .ok (.aload_n 0, 1) := by decide +kernel
theorem d_LA_law_479 : decode b_LA_law 479 = .ok (.iload 4, 2) := by decide +kernel
theorem d_LA_law_481 : decode b_LA_law 481 = .ok (.iconst 2, 1) := by decide +kernel
theorem d_LA_law_482 : decode b_LA_law 482 = .ok (.iadd, 1) := by decide +kernel
theorem d_LA_law_483 : decode b_LA_law 483 = .ok (.iaload, 1) := by decide +kernel
theorem d_LA_law_484 : decode b_LA_law 484 = .ok (.aload_n 0, 1) := by decide +kernel
theorem d_LA_law_485 : decode b_LA_law 485 = .ok (.iload 4, 2) := by decide +kernel
theorem d_LA_law_487 : decode b_LA_law 487 = .ok (.iconst 3, 1) := by decide +kernel
theorem d_LA_law_488 : decode b_LA_law 488 = .ok (.iadd, 1) := by decide +kernel
theorem d_LA_law_489 : decode b_LA_law 489 = .ok (.iaload, 1) := by decide +kernel
theorem d_LA_law_490 : decode b_LA_law 490 = .ok (.aload_n 3, 1) := by decide +kernel
theorem d_LA_law_491 : decode b_LA_law 491 = .ok (.invokestatic 99, 3) := by decide +kernel
theorem d_LA_law_494 : decode b_LA_law 494 = .ok (.istore 5, 2) := by decide +kernel
theorem d_LA_law_496 : decode b_LA_law 496 = .ok (.aload_n 2, 1) := by decide +kernel
theorem d_LA_law_497 : decode b_LA_law 497 = .ok (.aload_n 0, 1) := by decide +kernel
theorem d_LA_law_498 : decode b_LA_law 498 = .ok (.iload 4, 2) := by decide +kernel
theorem d_LA_law_500 : decode b_LA_law 500 = .ok (.iconst 1, 1) := by decide +kernel
theorem d_LA_law_501 : decode b_LA_law 501 = .ok (.iadd, 1) := by decide +kernel
theorem d_LA_law_502 : decode b_LA_law 502 = .ok (.iaload, 1) := by decide +kernel
theorem d_LA_law_503 : decode b_LA_law 503 = .ok (.aload_n 0, 1) := by decide +kernel
theorem d_LA_law_504 : decode b_LA_law 504 = .ok (.iload 4, 2) := by decide +kernel
theorem d_LA_law_506 : decode b_LA_law 506 = .ok (.iconst 2, 1) := by decide +kernel
theorem d_LA_law_507 : decode b_LA_law 507 = .ok (.iadd, 1) := by decide +kernel
theorem d_LA_law_508 : decode b_LA_law 508 = .ok (.iaload, 1) := by decide +kernel
theorem d_LA_law_509 : decode b_LA_law 509 = .ok (.aload_n 0, 1) := by decide +kernel
theorem d_LA_law_510 : decode b_LA_law 510 = .ok (.iload 4, 2) := by decide +kernel
theorem d_LA_law_512 : decode b_LA_law 512 = .ok (.iconst 3, 1) := by decide +kernel
theorem d_LA_law_513 : decode b_LA_law 513 = .ok (.iadd, 1) := by decide +kernel
theorem d_LA_law_514 : decode b_LA_law 514 = .ok (.iaload, 1) := by decide +kernel
theorem d_LA_law_515 : decode b_LA_law 515 = .ok (.invokevirtual 102, 3) := by decide +kernel
theorem d_LA_law_518 : decode b_LA_law 518 = .ok (.istore 6, 2) := by decide +kernel
theorem d_LA_law_520 : decode b_LA_law 520 = .ok (.aload_n 2, 1) := by decide +kernel
theorem d_LA_law_521 : decode b_LA_law 521 = .ok (.invokevirtual 81, 3) := by decide +kernel
theorem d_LA_law_524 : decode b_LA_law 524 = .ok (.iload 5, 2) := by decide +kernel
theorem d_LA_law_526 : decode b_LA_law 526 = .ok (.if_icmp .eq 5, 3) := by decide +kernel
theorem d_LA_law_529 : decode b_LA_law 529 = .ok (.iconst 0, 1) := by decide +kernel
theorem d_LA_law_530 : decode b_LA_law 530 = .ok (.ireturn, 1) := by decide +kernel
theorem d_LA_law_531 : decode b_LA_law 531 = .ok (.iload 5, 2) := by decide +kernel
theorem d_LA_law_533 : decode b_LA_law 533 = .ok (.ifCond .ne 22, 3) := by decide +kernel
theorem d_LA_law_536 : decode b_LA_law 536 = .ok (.aload_n 3, 1) := by decide +kernel
theorem d_LA_law_537 : decode b_LA_law 537 = .ok (.iconst 0, 1) := by decide +kernel
theorem d_LA_law_538 : decode b_LA_law 538 = .ok (.laload, 1) := by decide +kernel
theorem d_LA_law_539 : decode b_LA_law 539 = .ok (.iload 6, 2) := by decide +kernel
theorem d_LA_law_541 : decode b_LA_law 541 = .ok (.ifCond .eq 7, 3) := by decide +kernel
theorem d_LA_law_544 : decode b_LA_law 544 = .ok (.lconst 1, 1) := by decide +kernel
theorem d_LA_law_545 : decode b_LA_law 545 = .ok (.goto 4, 3) := by decide +kernel
theorem d_LA_law_548 : decode b_LA_law 548 = .ok (.lconst 0, 1) := by decide +kernel
theorem d_LA_law_549 : decode b_LA_law 549 = .ok (.lcmp, 1) := by decide +kernel
theorem d_LA_law_550 : decode b_LA_law 550 = .ok (.ifCond .eq 5, 3) := by decide +kernel
theorem d_LA_law_553 : decode b_LA_law 553 = .ok (.iconst 0, 1) := by decide +kernel
theorem d_LA_law_554 : decode b_LA_law 554 = .ok (.ireturn, 1) := by decide +kernel
theorem d_LA_law_555 : decode b_LA_law 555 = .ok (.goto 789, 3) := by decide +kernel
theorem d_LA_law_558 : decode b_LA_law 558 = .ok (.aload_n 1, 1) := by decide +kernel
theorem d_LA_law_559 : decode b_LA_law 559 = .ok (.aload_n 0, 1) := by decide +kernel
theorem d_LA_law_560 : decode b_LA_law 560 = .ok (.iload 4, 2) := by decide +kernel
theorem d_LA_law_562 : decode b_LA_law 562 = .ok (.iconst 1, 1) := by decide +kernel
theorem d_LA_law_563 : decode b_LA_law 563 = .ok (.iadd, 1) := by decide +kernel
theorem d_LA_law_564 : decode b_LA_law 564 = .ok (.iaload, 1) := by decide +kernel
theorem d_LA_law_565 : decode b_LA_law 565 = .ok (.aload_n 0, 1) := by decide +kernel
theorem d_LA_law_566 : decode b_LA_law 566 = .ok (.iload 4, 2) := by decide +kernel
theorem d_LA_law_568 : decode b_LA_law 568 = .ok (.iconst 2, 1) := by decide +kernel
theorem d_LA_law_569 : decode b_LA_law 569 = .ok (.iadd, 1) := by decide +kernel
theorem d_LA_law_570 : decode b_LA_law 570 = .ok (.iaload, 1) := by decide +kernel
theorem d_LA_law_571 : decode b_LA_law 571 = .ok (.aload_n 3, 1) := by decide +kernel
theorem d_LA_law_572 : decode b_LA_law 572 = .ok (.invokestatic 103, 3) := by decide +kernel
theorem d_LA_law_575 : decode b_LA_law 575 = .ok (.istore 5, 2) := by decide +kernel
theorem d_LA_law_577 : decode b_LA_law 577 = .ok (.aload_n 2, 1) := by decide +kernel
theorem d_LA_law_578 : decode b_LA_law 578 = .ok (.aload_n 0, 1) := by decide +kernel
theorem d_LA_law_579 : decode b_LA_law 579 = .ok (.iload 4, 2) := by decide +kernel
theorem d_LA_law_581 : decode b_LA_law 581 = .ok (.iconst 1, 1) := by decide +kernel
theorem d_LA_law_582 : decode b_LA_law 582 = .ok (.iadd, 1) := by decide +kernel
theorem d_LA_law_583 : decode b_LA_law 583 = .ok (.iaload, 1) := by decide +kernel
theorem d_LA_law_584 : decode b_LA_law 584 = .ok (.aload_n 0, 1) := by decide +kernel
theorem d_LA_law_585 : decode b_LA_law 585 = .ok (.iload 4, 2) := by decide +kernel
theorem d_LA_law_587 : decode b_LA_law 587 = .ok (.iconst 2, 1) := by decide +kernel
theorem d_LA_law_588 : decode b_LA_law 588 = .ok (.iadd, 1) := by decide +kernel
theorem d_LA_law_589 : decode b_LA_law 589 = .ok (.iaload, 1) := by decide +kernel
theorem d_LA_law_590 : decode b_LA_law 590 = .ok (.invokevirtual 105, 3) := by decide +kernel
theorem d_LA_law_593 : decode b_LA_law 593 = .ok (.istore 6, 2) := by decide +kernel
theorem d_LA_law_595 : decode b_LA_law 595 = .ok (.aload_n 2, 1) := by decide +kernel
theorem d_LA_law_596 : decode b_LA_law 596 = .ok (.invokevirtual 81, 3) := by decide +kernel
theorem d_LA_law_599 : decode b_LA_law 599 = .ok (.iload 5, 2) := by decide +kernel
theorem d_LA_law_601 : decode b_LA_law 601 = .ok (.if_icmp .eq 5, 3) := by decide +kernel
theorem d_LA_law_604 : decode b_LA_law 604 = .ok (.iconst 0, 1) := by decide +kernel
theorem d_LA_law_605 : decode b_LA_law 605 = .ok (.ireturn, 1) := by decide +kernel
theorem d_LA_law_606 : decode b_LA_law 606 = .ok (.iload 5, 2) := by decide +kernel
theorem d_LA_law_608 : decode b_LA_law 608 = .ok (.ifCond .ne 15, 3) := by decide +kernel
theorem d_LA_law_611 : decode b_LA_law 611 = .ok (.aload_n 3, 1) := by decide +kernel
theorem d_LA_law_612 : decode b_LA_law 612 = .ok (.iconst 0, 1) := by decide +kernel
theorem d_LA_law_613 : decode b_LA_law 613 = .ok (.laload, 1) := by decide +kernel
theorem d_LA_law_614 : decode b_LA_law 614 = .ok (.iload 6, 2) := by decide +kernel
theorem d_LA_law_616 : decode b_LA_law 616 = .ok (.i2l, 1) := by decide +kernel
theorem d_LA_law_617 : decode b_LA_law 617 = .ok (.lcmp, 1) := by decide +kernel
theorem d_LA_law_618 : decode b_LA_law 618 = .ok (.ifCond .eq 5, 3) := by decide +kernel
theorem d_LA_law_621 : decode b_LA_law 621 = .ok (.iconst 0, 1) := by decide +kernel
theorem d_LA_law_622 : decode b_LA_law 622 = .ok (.ireturn, 1) := by decide +kernel
theorem d_LA_law_623 : decode b_LA_law 623 = .ok (.goto 721, 3) := by decide +kernel
theorem d_LA_law_626 : decode b_LA_law 626 = .ok (.aload_n 1, 1) := by decide +kernel
theorem d_LA_law_627 : decode b_LA_law 627 = .ok (.aload_n 0, 1) := by decide +kernel
theorem d_LA_law_628 : decode b_LA_law 628 = .ok (.iload 4, 2) := by decide +kernel
theorem d_LA_law_630 : decode b_LA_law 630 = .ok (.iconst 1, 1) := by decide +kernel
theorem d_LA_law_631 : decode b_LA_law 631 = .ok (.iadd, 1) := by decide +kernel
theorem d_LA_law_632 : decode b_LA_law 632 = .ok (.iaload, 1) := by decide +kernel
theorem d_LA_law_633 : decode b_LA_law 633 = .ok (.aload_n 0, 1) := by decide +kernel
theorem d_LA_law_634 : decode b_LA_law 634 = .ok (.iload 4, 2) := by decide +kernel
theorem d_LA_law_636 : decode b_LA_law 636 = .ok (.iconst 2, 1) := by decide +kernel
theorem d_LA_law_637 : decode b_LA_law 637 = .ok (.iadd, 1) := by decide +kernel
theorem d_LA_law_638 : decode b_LA_law 638 = .ok (.iaload, 1) := by decide +kernel
theorem d_LA_law_639 : decode b_LA_law 639 = .ok (.aload_n 0, 1) := by decide +kernel
theorem d_LA_law_640 : decode b_LA_law 640 = .ok (.iload 4, 2) := by decide +kernel
theorem d_LA_law_642 : decode b_LA_law 642 = .ok (.iconst 3, 1) := by decide +kernel
theorem d_LA_law_643 : decode b_LA_law 643 = .ok (.iadd, 1) := by decide +kernel
theorem d_LA_law_644 : decode b_LA_law 644 = .ok (.iaload, 1) := by decide +kernel
theorem d_LA_law_645 : decode b_LA_law 645 = .ok (.aload_n 3, 1) := by decide +kernel
theorem d_LA_law_646 : decode b_LA_law 646 = .ok (.invokestatic 106, 3) := by decide +kernel
theorem d_LA_law_649 : decode b_LA_law 649 = .ok (.istore 5, 2) := by decide +kernel
theorem d_LA_law_651 : decode b_LA_law 651 = .ok (.aload_n 2, 1) := by decide +kernel
theorem d_LA_law_652 : decode b_LA_law 652 = .ok (.aload_n 0, 1) := by decide +kernel
theorem d_LA_law_653 : decode b_LA_law 653 = .ok (.iload 4, 2) := by decide +kernel
theorem d_LA_law_655 : decode b_LA_law 655 = .ok (.iconst 1, 1) := by decide +kernel
theorem d_LA_law_656 : decode b_LA_law 656 = .ok (.iadd, 1) := by decide +kernel
theorem d_LA_law_657 : decode b_LA_law 657 = .ok (.iaload, 1) := by decide +kernel
theorem d_LA_law_658 : decode b_LA_law 658 = .ok (.aload_n 0, 1) := by decide +kernel
theorem d_LA_law_659 : decode b_LA_law 659 = .ok (.iload 4, 2) := by decide +kernel
theorem d_LA_law_661 : decode b_LA_law 661 = .ok (.iconst 2, 1) := by decide +kernel
theorem d_LA_law_662 : decode b_LA_law 662 = .ok (.iadd, 1) := by decide +kernel
theorem d_LA_law_663 : decode b_LA_law 663 = .ok (.iaload, 1) := by decide +kernel
theorem d_LA_law_664 : decode b_LA_law 664 = .ok (.aload_n 0, 1) := by decide +kernel
theorem d_LA_law_665 : decode b_LA_law 665 = .ok (.iload 4, 2) := by decide +kernel
theorem d_LA_law_667 : decode b_LA_law 667 = .ok (.iconst 3, 1) := by decide +kernel
theorem d_LA_law_668 : decode b_LA_law 668 = .ok (.iadd, 1) := by decide +kernel
theorem d_LA_law_669 : decode b_LA_law 669 = .ok (.iaload, 1) := by decide +kernel
theorem d_LA_law_670 : decode b_LA_law 670 = .ok (.invokevirtual 108, 3) := by decide +kernel
theorem d_LA_law_673 : decode b_LA_law 673 = .ok (.istore 6, 2) := by decide +kernel
theorem d_LA_law_675 : decode b_LA_law 675 = .ok (.aload_n 2, 1) := by decide +kernel
theorem d_LA_law_676 : decode b_LA_law 676 = .ok (.invokevirtual 81, 3) := by decide +kernel
theorem d_LA_law_679 : decode b_LA_law 679 = .ok (.iload 5, 2) := by decide +kernel
theorem d_LA_law_681 : decode b_LA_law 681 = .ok (.if_icmp .eq 5, 3) := by decide +kernel
theorem d_LA_law_684 : decode b_LA_law 684 = .ok (.iconst 0, 1) := by decide +kernel
theorem d_LA_law_685 : decode b_LA_law 685 = .ok (.ireturn, 1) := by decide +kernel
theorem d_LA_law_686 : decode b_LA_law 686 = .ok (.iload 5, 2) := by decide +kernel
theorem d_LA_law_688 : decode b_LA_law 688 = .ok (.ifCond .ne 15, 3) := by decide +kernel
theorem d_LA_law_691 : decode b_LA_law 691 = .ok (.aload_n 3, 1) := by decide +kernel
theorem d_LA_law_692 : decode b_LA_law 692 = .ok (.iconst 0, 1) := by decide +kernel
theorem d_LA_law_693 : decode b_LA_law 693 = .ok (.laload, 1) := by decide +kernel
theorem d_LA_law_694 : decode b_LA_law 694 = .ok (.iload 6, 2) := by decide +kernel
theorem d_LA_law_696 : decode b_LA_law 696 = .ok (.i2l, 1) := by decide +kernel
theorem d_LA_law_697 : decode b_LA_law 697 = .ok (.lcmp, 1) := by decide +kernel
theorem d_LA_law_698 : decode b_LA_law 698 = .ok (.ifCond .eq 5, 3) := by decide +kernel
theorem d_LA_law_701 : decode b_LA_law 701 = .ok (.iconst 0, 1) := by decide +kernel
theorem d_LA_law_702 : decode b_LA_law 702 = .ok (.ireturn, 1) := by decide +kernel
theorem d_LA_law_703 : decode b_LA_law 703 = .ok (.goto 641, 3) := by decide +kernel
theorem d_LA_law_706 : decode b_LA_law 706 = .ok (.aload_n 1, 1) := by decide +kernel
theorem d_LA_law_707 : decode b_LA_law 707 = .ok (.aload_n 0, 1) := by decide +kernel
theorem d_LA_law_708 : decode b_LA_law 708 = .ok (.iload 4, 2) := by decide +kernel
theorem d_LA_law_710 : decode b_LA_law 710 = .ok (.iconst 1, 1) := by decide +kernel
theorem d_LA_law_711 : decode b_LA_law 711 = .ok (.iadd, 1) := by decide +kernel
theorem d_LA_law_712 : decode b_LA_law 712 = .ok (.iaload, 1) := by decide +kernel
theorem d_LA_law_713 : decode b_LA_law 713 = .ok (.aload_n 0, 1) := by decide +kernel
theorem d_LA_law_714 : decode b_LA_law 714 = .ok (.iload 4, 2) := by decide +kernel
theorem d_LA_law_716 : decode b_LA_law 716 = .ok (.iconst 2, 1) := by decide +kernel
theorem d_LA_law_717 : decode b_LA_law 717 = .ok (.iadd, 1) := by decide +kernel
theorem d_LA_law_718 : decode b_LA_law 718 = .ok (.iaload, 1) := by decide +kernel
theorem d_LA_law_719 : decode b_LA_law 719 = .ok (.aload_n 0, 1) := by decide +kernel
theorem d_LA_law_720 : decode b_LA_law 720 = .ok (.iload 4, 2) := by decide +kernel
theorem d_LA_law_722 : decode b_LA_law 722 = .ok (.iconst 3, 1) := by decide +kernel
theorem d_LA_law_723 : decode b_LA_law 723 = .ok (.iadd, 1) := by decide +kernel
theorem d_LA_law_724 : decode b_LA_law 724 = .ok (.iaload, 1) := by decide +kernel
theorem d_LA_law_725 : decode b_LA_law 725 = .ok (.aload_n 3, 1) := by decide +kernel
theorem d_LA_law_726 : decode b_LA_law 726 = .ok (.invokestatic 109, 3) := by decide +kernel
theorem d_LA_law_729 : decode b_LA_law 729 = .ok (.istore 5, 2) := by decide +kernel
theorem d_LA_law_731 : decode b_LA_law 731 = .ok (.aload_n 2, 1) := by decide +kernel
theorem d_LA_law_732 : decode b_LA_law 732 = .ok (.aload_n 0, 1) := by decide +kernel
theorem d_LA_law_733 : decode b_LA_law 733 = .ok (.iload 4, 2) := by decide +kernel
theorem d_LA_law_735 : decode b_LA_law 735 = .ok (.iconst 1, 1) := by decide +kernel
theorem d_LA_law_736 : decode b_LA_law 736 = .ok (.iadd, 1) := by decide +kernel
theorem d_LA_law_737 : decode b_LA_law 737 = .ok (.iaload, 1) := by decide +kernel
theorem d_LA_law_738 : decode b_LA_law 738 = .ok (.aload_n 0, 1) := by decide +kernel
theorem d_LA_law_739 : decode b_LA_law 739 = .ok (.iload 4, 2) := by decide +kernel
theorem d_LA_law_741 : decode b_LA_law 741 = .ok (.iconst 2, 1) := by decide +kernel
theorem d_LA_law_742 : decode b_LA_law 742 = .ok (.iadd, 1) := by decide +kernel
theorem d_LA_law_743 : decode b_LA_law 743 = .ok (.iaload, 1) := by decide +kernel
theorem d_LA_law_744 : decode b_LA_law 744 = .ok (.aload_n 0, 1) := by decide +kernel
theorem d_LA_law_745 : decode b_LA_law 745 = .ok (.iload 4, 2) := by decide +kernel
theorem d_LA_law_747 : decode b_LA_law 747 = .ok (.iconst 3, 1) := by decide +kernel
theorem d_LA_law_748 : decode b_LA_law 748 = .ok (.iadd, 1) := by decide +kernel
theorem d_LA_law_749 : decode b_LA_law 749 = .ok (.iaload, 1) := by decide +kernel
theorem d_LA_law_750 : decode b_LA_law 750 = .ok (.invokevirtual 111, 3) := by decide +kernel
theorem d_LA_law_753 : decode b_LA_law 753 = .ok (.istore 6, 2) := by decide +kernel
theorem d_LA_law_755 : decode b_LA_law 755 = .ok (.aload_n 2, 1) := by decide +kernel
theorem d_LA_law_756 : decode b_LA_law 756 = .ok (.invokevirtual 81, 3) := by decide +kernel
theorem d_LA_law_759 : decode b_LA_law 759 = .ok (.iload 5, 2) := by decide +kernel
theorem d_LA_law_761 : decode b_LA_law 761 = .ok (.if_icmp .eq 5, 3) := by decide +kernel
theorem d_LA_law_764 : decode b_LA_law 764 = .ok (.iconst 0, 1) := by decide +kernel
theorem d_LA_law_765 : decode b_LA_law 765 = .ok (.ireturn, 1) := by decide +kernel
theorem d_LA_law_766 : decode b_LA_law 766 = .ok (.iload 5, 2) := by decide +kernel
theorem d_LA_law_768 : decode b_LA_law 768 = .ok (.ifCond .ne 22, 3) := by decide +kernel
theorem d_LA_law_771 : decode b_LA_law 771 = .ok (.aload_n 3, 1) := by decide +kernel
theorem d_LA_law_772 : decode b_LA_law 772 = .ok (.iconst 0, 1) := by decide +kernel
theorem d_LA_law_773 : decode b_LA_law 773 = .ok (.laload, 1) := by decide +kernel
theorem d_LA_law_774 : decode b_LA_law 774 = .ok (.iload 6, 2) := by decide +kernel
theorem d_LA_law_776 : decode b_LA_law 776 = .ok (.ifCond .eq 7, 3) := by decide +kernel
theorem d_LA_law_779 : decode b_LA_law 779 = .ok (.lconst 1, 1) := by decide +kernel
theorem d_LA_law_780 : decode b_LA_law 780 = .ok (.goto 4, 3) := by decide +kernel
theorem d_LA_law_783 : decode b_LA_law 783 = .ok (.lconst 0, 1) := by decide +kernel
theorem d_LA_law_784 : decode b_LA_law 784 = .ok (.lcmp, 1) := by decide +kernel
theorem d_LA_law_785 : decode b_LA_law 785 = .ok (.ifCond .eq 5, 3) := by decide +kernel
theorem d_LA_law_788 : decode b_LA_law 788 = .ok (.iconst 0, 1) := by decide +kernel
theorem d_LA_law_789 : decode b_LA_law 789 = .ok (.ireturn, 1) := by decide +kernel
theorem d_LA_law_790 : decode b_LA_law 790 = .ok (.goto 554, 3) := by decide +kernel
theorem d_LA_law_793 : decode b_LA_law 793 = .ok (.aload_n 1, 1) := by decide +kernel
theorem d_LA_law_794 : decode b_LA_law 794 = .ok (.aload_n 0, 1) := by decide +kernel
theorem d_LA_law_795 : decode b_LA_law 795 = .ok (.iload 4, 2) := by decide +kernel
theorem d_LA_law_797 : decode b_LA_law 797 = .ok (.iconst 1, 1) := by decide +kernel
theorem d_LA_law_798 : decode b_LA_law 798 = .ok (.iadd, 1) := by decide +kernel
theorem d_LA_law_799 : decode b_LA_law 799 = .ok (.iaload, 1) := by decide +kernel
theorem d_LA_law_800 : decode b_LA_law 800 = .ok (.aload_n 0, 1) := by decide +kernel
theorem d_LA_law_801 : decode b_LA_law 801 = .ok (.iload 4, 2) := by decide +kernel
theorem d_LA_law_803 : decode b_LA_law 803 = .ok (.iconst 2, 1) := by decide +kernel
theorem d_LA_law_804 : decode b_LA_law 804 = .ok (.iadd, 1) := by decide +kernel
theorem d_LA_law_805 : decode b_LA_law 805 = .ok (.iaload, 1) := by decide +kernel
theorem d_LA_law_806 : decode b_LA_law 806 = .ok (.aload_n 0, 1) := by decide +kernel
theorem d_LA_law_807 : decode b_LA_law 807 = .ok (.iload 4, 2) := by decide +kernel
theorem d_LA_law_809 : decode b_LA_law 809 = .ok (.iconst 3, 1) := by decide +kernel
theorem d_LA_law_810 : decode b_LA_law 810 = .ok (.iadd, 1) := by decide +kernel
theorem d_LA_law_811 : decode b_LA_law 811 = .ok (.iaload, 1) := by decide +kernel
theorem d_LA_law_812 : decode b_LA_law 812 = .ok (.aload_n 3, 1) := by decide +kernel
theorem d_LA_law_813 : decode b_LA_law 813 = .ok (.invokestatic 112, 3) := by decide +kernel
theorem d_LA_law_816 : decode b_LA_law 816 = .ok (.istore 5, 2) := by decide +kernel
theorem d_LA_law_818 : decode b_LA_law 818 = .ok (.aload_n 2, 1) := by decide +kernel
theorem d_LA_law_819 : decode b_LA_law 819 = .ok (.aload_n 0, 1) := by decide +kernel
theorem d_LA_law_820 : decode b_LA_law 820 = .ok (.iload 4, 2) := by decide +kernel
theorem d_LA_law_822 : decode b_LA_law 822 = .ok (.iconst 1, 1) := by decide +kernel
theorem d_LA_law_823 : decode b_LA_law 823 = .ok (.iadd, 1) := by decide +kernel
theorem d_LA_law_824 : decode b_LA_law 824 = .ok (.iaload, 1) := by decide +kernel
theorem d_LA_law_825 : decode b_LA_law 825 = .ok (.aload_n 0, 1) := by decide +kernel
theorem d_LA_law_826 : decode b_LA_law 826 = .ok (.iload 4, 2) := by decide +kernel
theorem d_LA_law_828 : decode b_LA_law 828 = .ok (.iconst 2, 1) := by decide +kernel
theorem d_LA_law_829 : decode b_LA_law 829 = .ok (.iadd, 1) := by decide +kernel
theorem d_LA_law_830 : decode b_LA_law 830 = .ok (.iaload, 1) := by decide +kernel
theorem d_LA_law_831 : decode b_LA_law 831 = .ok (.aload_n 0, 1) := by decide +kernel
theorem d_LA_law_832 : decode b_LA_law 832 = .ok (.iload 4, 2) := by decide +kernel
theorem d_LA_law_834 : decode b_LA_law 834 = .ok (.iconst 3, 1) := by decide +kernel
theorem d_LA_law_835 : decode b_LA_law 835 = .ok (.iadd, 1) := by decide +kernel
theorem d_LA_law_836 : decode b_LA_law 836 = .ok (.iaload, 1) := by decide +kernel
theorem d_LA_law_837 : decode b_LA_law 837 = .ok (.invokevirtual 114, 3) := by decide +kernel
theorem d_LA_law_840 : decode b_LA_law 840 = .ok (.istore 6, 2) := by decide +kernel
theorem d_LA_law_842 : decode b_LA_law 842 = .ok (.aload_n 2, 1) := by decide +kernel
theorem d_LA_law_843 : decode b_LA_law 843 = .ok (.invokevirtual 81, 3) := by decide +kernel
theorem d_LA_law_846 : decode b_LA_law 846 = .ok (.iload 5, 2) := by decide +kernel
theorem d_LA_law_848 : decode b_LA_law 848 = .ok (.if_icmp .eq 5, 3) := by decide +kernel
theorem d_LA_law_851 : decode b_LA_law 851 = .ok (.iconst 0, 1) := by decide +kernel
theorem d_LA_law_852 : decode b_LA_law 852 = .ok (.ireturn, 1) := by decide +kernel
theorem d_LA_law_853 : decode b_LA_law 853 = .ok (.iload 5, 2) := by decide +kernel
theorem d_LA_law_855 : decode b_LA_law 855 = .ok (.ifCond .ne 15, 3) := by decide +kernel
theorem d_LA_law_858 : decode b_LA_law 858 = .ok (.aload_n 3, 1) := by decide +kernel
theorem d_LA_law_859 : decode b_LA_law 859 = .ok (.iconst 0, 1) := by decide +kernel
theorem d_LA_law_860 : decode b_LA_law 860 = .ok (.laload, 1) := by decide +kernel
theorem d_LA_law_861 : decode b_LA_law 861 = .ok (.iload 6, 2) := by decide +kernel
theorem d_LA_law_863 : decode b_LA_law 863 = .ok (.i2l, 1) := by decide +kernel
theorem d_LA_law_864 : decode b_LA_law 864 = .ok (.lcmp, 1) := by decide +kernel
theorem d_LA_law_865 : decode b_LA_law 865 = .ok (.ifCond .eq 5, 3) := by decide +kernel
theorem d_LA_law_868 : decode b_LA_law 868 = .ok (.iconst 0, 1) := by decide +kernel
theorem d_LA_law_869 : decode b_LA_law 869 = .ok (.ireturn, 1) := by decide +kernel
theorem d_LA_law_870 : decode b_LA_law 870 = .ok (.goto 474, 3) := by decide +kernel
theorem d_LA_law_873 : decode b_LA_law 873 = .ok (.aload_n 1, 1) := by decide +kernel
theorem d_LA_law_874 : decode b_LA_law 874 = .ok (.aload_n 0, 1) := by decide +kernel
theorem d_LA_law_875 : decode b_LA_law 875 = .ok (.iload 4, 2) := by decide +kernel
theorem d_LA_law_877 : decode b_LA_law 877 = .ok (.iconst 1, 1) := by decide +kernel
theorem d_LA_law_878 : decode b_LA_law 878 = .ok (.iadd, 1) := by decide +kernel
theorem d_LA_law_879 : decode b_LA_law 879 = .ok (.iaload, 1) := by decide +kernel
theorem d_LA_law_880 : decode b_LA_law 880 = .ok (.aload_n 0, 1) := by decide +kernel
theorem d_LA_law_881 : decode b_LA_law 881 = .ok (.iload 4, 2) := by decide +kernel
theorem d_LA_law_883 : decode b_LA_law 883 = .ok (.iconst 2, 1) := by decide +kernel
theorem d_LA_law_884 : decode b_LA_law 884 = .ok (.iadd, 1) := by decide +kernel
theorem d_LA_law_885 : decode b_LA_law 885 = .ok (.iaload, 1) := by decide +kernel
theorem d_LA_law_886 : decode b_LA_law 886 = .ok (.aload_n 0, 1) := by decide +kernel
theorem d_LA_law_887 : decode b_LA_law 887 = .ok (.iload 4, 2) := by decide +kernel
theorem d_LA_law_889 : decode b_LA_law 889 = .ok (.iconst 3, 1) := by decide +kernel
theorem d_LA_law_890 : decode b_LA_law 890 = .ok (.iadd, 1) := by decide +kernel
theorem d_LA_law_891 : decode b_LA_law 891 = .ok (.iaload, 1) := by decide +kernel
theorem d_LA_law_892 : decode b_LA_law 892 = .ok (.aload_n 3, 1) := by decide +kernel
theorem d_LA_law_893 : decode b_LA_law 893 = .ok (.invokestatic 115, 3) := by decide +kernel
theorem d_LA_law_896 : decode b_LA_law 896 = .ok (.istore 5, 2) := by decide +kernel
theorem d_LA_law_898 : decode b_LA_law 898 = .ok (.aload_n 2, 1) := by decide +kernel
theorem d_LA_law_899 : decode b_LA_law 899 = .ok (.aload_n 0, 1) := by decide +kernel
theorem d_LA_law_900 : decode b_LA_law 900 = .ok (.iload 4, 2) := by decide +kernel
theorem d_LA_law_902 : decode b_LA_law 902 = .ok (.iconst 1, 1) := by decide +kernel
theorem d_LA_law_903 : decode b_LA_law 903 = .ok (.iadd, 1) := by decide +kernel
theorem d_LA_law_904 : decode b_LA_law 904 = .ok (.iaload, 1) := by decide +kernel
theorem d_LA_law_905 : decode b_LA_law 905 = .ok (.aload_n 0, 1) := by decide +kernel
theorem d_LA_law_906 : decode b_LA_law 906 = .ok (.iload 4, 2) := by decide +kernel
theorem d_LA_law_908 : decode b_LA_law 908 = .ok (.iconst 2, 1) := by decide +kernel
theorem d_LA_law_909 : decode b_LA_law 909 = .ok (.iadd, 1) := by decide +kernel
theorem d_LA_law_910 : decode b_LA_law 910 = .ok (.iaload, 1) := by decide +kernel
theorem d_LA_law_911 : decode b_LA_law 911 = .ok (.aload_n 0, 1) := by decide +kernel
theorem d_LA_law_912 : decode b_LA_law 912 = .ok (.iload 4, 2) := by decide +kernel
theorem d_LA_law_914 : decode b_LA_law 914 = .ok (.iconst 3, 1) := by decide +kernel
theorem d_LA_law_915 : decode b_LA_law 915 = .ok (.iadd, 1) := by decide +kernel
theorem d_LA_law_916 : decode b_LA_law 916 = .ok (.iaload, 1) := by decide +kernel
theorem d_LA_law_917 : decode b_LA_law 917 = .ok (.invokevirtual 117, 3) := by decide +kernel
theorem d_LA_law_920 : decode b_LA_law 920 = .ok (.istore 6, 2) := by decide +kernel
theorem d_LA_law_922 : decode b_LA_law 922 = .ok (.aload_n 2, 1) := by decide +kernel
theorem d_LA_law_923 : decode b_LA_law 923 = .ok (.invokevirtual 81, 3) := by decide +kernel
theorem d_LA_law_926 : decode b_LA_law 926 = .ok (.iload 5, 2) := by decide +kernel
theorem d_LA_law_928 : decode b_LA_law 928 = .ok (.if_icmp .eq 5, 3) := by decide +kernel
theorem d_LA_law_931 : decode b_LA_law 931 = .ok (.iconst 0, 1) := by decide +kernel
theorem d_LA_law_932 : decode b_LA_law 932 = .ok (.ireturn, 1) := by decide +kernel
theorem d_LA_law_933 : decode b_LA_law 933 = .ok (.iload 5, 2) := by decide +kernel
theorem d_LA_law_935 : decode b_LA_law 935 = .ok (.ifCond .ne 22, 3) := by decide +kernel
theorem d_LA_law_938 : decode b_LA_law 938 = .ok (.aload_n 3, 1) := by decide +kernel
theorem d_LA_law_939 : decode b_LA_law 939 = .ok (.iconst 0, 1) := by decide +kernel
theorem d_LA_law_940 : decode b_LA_law 940 = .ok (.laload, 1) := by decide +kernel
theorem d_LA_law_941 : decode b_LA_law 941 = .ok (.iload 6, 2) := by decide +kernel
theorem d_LA_law_943 : decode b_LA_law 943 = .ok (.ifCond .eq 7, 3) := by decide +kernel
theorem d_LA_law_946 : decode b_LA_law 946 = .ok (.lconst 1, 1) := by decide +kernel
theorem d_LA_law_947 : decode b_LA_law 947 = .ok (.goto 4, 3) := by decide +kernel
theorem d_LA_law_950 : decode b_LA_law 950 = .ok (.lconst 0, 1) := by decide +kernel
theorem d_LA_law_951 : decode b_LA_law 951 = .ok (.lcmp, 1) := by decide +kernel
theorem d_LA_law_952 : decode b_LA_law 952 = .ok (.ifCond .eq 5, 3) := by decide +kernel
theorem d_LA_law_955 : decode b_LA_law 955 = .ok (.iconst 0, 1) := by decide +kernel
theorem d_LA_law_956 : decode b_LA_law 956 = .ok (.ireturn, 1) := by decide +kernel
theorem d_LA_law_957 : decode b_LA_law 957 = .ok (.goto 387, 3) := by decide +kernel
theorem d_LA_law_960 : decode b_LA_law 960 = .ok (.aload_n 1, 1) := by decide +kernel
theorem d_LA_law_961 : decode b_LA_law 961 = .ok (.aload_n 0, 1) := by decide +kernel
theorem d_LA_law_962 : decode b_LA_law 962 = .ok (.iload 4, 2) := by decide +kernel
theorem d_LA_law_964 : decode b_LA_law 964 = .ok (.iconst 1, 1) := by decide +kernel
theorem d_LA_law_965 : decode b_LA_law 965 = .ok (.iadd, 1) := by decide +kernel
theorem d_LA_law_966 : decode b_LA_law 966 = .ok (.iaload, 1) := by decide +kernel
theorem d_LA_law_967 : decode b_LA_law 967 = .ok (.aload_n 0, 1) := by decide +kernel
theorem d_LA_law_968 : decode b_LA_law 968 = .ok (.iload 4, 2) := by decide +kernel
theorem d_LA_law_970 : decode b_LA_law 970 = .ok (.iconst 2, 1) := by decide +kernel
theorem d_LA_law_971 : decode b_LA_law 971 = .ok (.iadd, 1) := by decide +kernel
theorem d_LA_law_972 : decode b_LA_law 972 = .ok (.iaload, 1) := by decide +kernel
theorem d_LA_law_973 : decode b_LA_law 973 = .ok (.aload_n 3, 1) := by decide +kernel
theorem d_LA_law_974 : decode b_LA_law 974 = .ok (.invokestatic 118, 3) := by decide +kernel
theorem d_LA_law_977 : decode b_LA_law 977 = .ok (.istore 5, 2) := by decide +kernel
theorem d_LA_law_979 : decode b_LA_law 979 = .ok (.aload_n 2, 1) := by decide +kernel
theorem d_LA_law_980 : decode b_LA_law 980 = .ok (.aload_n 0, 1) := by decide +kernel
theorem d_LA_law_981 : decode b_LA_law 981 = .ok (.iload 4, 2) := by decide +kernel
theorem d_LA_law_983 : decode b_LA_law 983 = .ok (.iconst 1, 1) := by decide +kernel
theorem d_LA_law_984 : decode b_LA_law 984 = .ok (.iadd, 1) := by decide +kernel
theorem d_LA_law_985 : decode b_LA_law 985 = .ok (.iaload, 1) := by decide +kernel
theorem d_LA_law_986 : decode b_LA_law 986 = .ok (.aload_n 0, 1) := by decide +kernel
theorem d_LA_law_987 : decode b_LA_law 987 = .ok (.iload 4, 2) := by decide +kernel
theorem d_LA_law_989 : decode b_LA_law 989 = .ok (.iconst 2, 1) := by decide +kernel
theorem d_LA_law_990 : decode b_LA_law 990 = .ok (.iadd, 1) := by decide +kernel
theorem d_LA_law_991 : decode b_LA_law 991 = .ok (.iaload, 1) := by decide +kernel
theorem d_LA_law_992 : decode b_LA_law 992 = .ok (.invokevirtual 120, 3) := by decide +kernel
theorem d_LA_law_995 : decode b_LA_law 995 = .ok (.istore 6, 2) := by decide +kernel
theorem d_LA_law_997 : decode b_LA_law 997 = .ok (.aload_n 2, 1) := by decide +kernel
theorem d_LA_law_998 : decode b_LA_law 998 = .ok (.invokevirtual 81, 3) := by decide +kernel
theorem d_LA_law_1001 : decode b_LA_law 1001 = .ok (.iload 5, 2) := by decide +kernel
theorem d_LA_law_1003 : decode b_LA_law 1003 = .ok (.if_icmp .eq 5, 3) := by decide +kernel
theorem d_LA_law_1006 : decode b_LA_law 1006 = .ok (.iconst 0, 1) := by decide +kernel
theorem d_LA_law_1007 : decode b_LA_law 1007 = .ok (.ireturn, 1) := by decide +kernel
theorem d_LA_law_1008 : decode b_LA_law 1008 = .ok (.iload 5, 2) := by decide +kernel
theorem d_LA_law_1010 : decode b_LA_law 1010 = .ok (.ifCond .ne 15, 3) := by decide +kernel
theorem d_LA_law_1013 : decode b_LA_law 1013 = .ok (.aload_n 3, 1) := by decide +kernel
theorem d_LA_law_1014 : decode b_LA_law 1014 = .ok (.iconst 0, 1) := by decide +kernel
theorem d_LA_law_1015 : decode b_LA_law 1015 = .ok (.laload, 1) := by decide +kernel
theorem d_LA_law_1016 : decode b_LA_law 1016 = .ok (.iload 6, 2) := by decide +kernel
theorem d_LA_law_1018 : decode b_LA_law 1018 = .ok (.i2l, 1) := by decide +kernel
theorem d_LA_law_1019 : decode b_LA_law 1019 = .ok (.lcmp, 1) := by decide +kernel
theorem d_LA_law_1020 : decode b_LA_law 1020 = .ok (.ifCond .eq 5, 3) := by decide +kernel
theorem d_LA_law_1023 : decode b_LA_law 1023 = .ok (.iconst 0, 1) := by decide +kernel
theorem d_LA_law_1024 : decode b_LA_law 1024 = .ok (.ireturn, 1) := by decide +kernel
theorem d_LA_law_1025 : decode b_LA_law 1025 = .ok (.goto 319, 3) := by decide +kernel
theorem d_LA_law_1028 : decode b_LA_law 1028 = .ok (.aload_n 1, 1) := by decide +kernel
theorem d_LA_law_1029 : decode b_LA_law 1029 = .ok (.aload_n 0, 1) := by decide +kernel
theorem d_LA_law_1030 : decode b_LA_law 1030 = .ok (.iload 4, 2) := by decide +kernel
theorem d_LA_law_1032 : decode b_LA_law 1032 = .ok (.iconst 1, 1) := by decide +kernel
theorem d_LA_law_1033 : decode b_LA_law 1033 = .ok (.iadd, 1) := by decide +kernel
theorem d_LA_law_1034 : decode b_LA_law 1034 = .ok (.iaload, 1) := by decide +kernel
theorem d_LA_law_1035 : decode b_LA_law 1035 = .ok (.aload_n 3, 1) := by decide +kernel
theorem d_LA_law_1036 : decode b_LA_law 1036 = .ok (.invokestatic 121, 3) := by decide +kernel
theorem d_LA_law_1039 : decode b_LA_law 1039 = .ok (.istore 5, 2) := by decide +kernel
theorem d_LA_law_1041 : decode b_LA_law 1041 = .ok (.aload_n 2, 1) := by decide +kernel
theorem d_LA_law_1042 : decode b_LA_law 1042 = .ok (.aload_n 0, 1) := by decide +kernel
theorem d_LA_law_1043 : decode b_LA_law 1043 = .ok (.iload 4, 2) := by decide +kernel
theorem d_LA_law_1045 : decode b_LA_law 1045 = .ok (.iconst 1, 1) := by decide +kernel
theorem d_LA_law_1046 : decode b_LA_law 1046 = .ok (.iadd, 1) := by decide +kernel
theorem d_LA_law_1047 : decode b_LA_law 1047 = .ok (.iaload, 1) := by decide +kernel
theorem d_LA_law_1048 : decode b_LA_law 1048 = .ok (.invokevirtual 123, 3) := by decide +kernel
theorem d_LA_law_1051 : decode b_LA_law 1051 = .ok (.istore 6, 2) := by decide +kernel
theorem d_LA_law_1053 : decode b_LA_law 1053 = .ok (.aload_n 2, 1) := by decide +kernel
theorem d_LA_law_1054 : decode b_LA_law 1054 = .ok (.invokevirtual 81, 3) := by decide +kernel
theorem d_LA_law_1057 : decode b_LA_law 1057 = .ok (.iload 5, 2) := by decide +kernel
theorem d_LA_law_1059 : decode b_LA_law 1059 = .ok (.if_icmp .eq 5, 3) := by decide +kernel
theorem d_LA_law_1062 : decode b_LA_law 1062 = .ok (.iconst 0, 1) := by decide +kernel
theorem d_LA_law_1063 : decode b_LA_law 1063 = .ok (.ireturn, 1) := by decide +kernel
theorem d_LA_law_1064 : decode b_LA_law 1064 = .ok (.iload 5, 2) := by decide +kernel
theorem d_LA_law_1066 : decode b_LA_law 1066 = .ok (.ifCond .ne 15, 3) := by decide +kernel
theorem d_LA_law_1069 : decode b_LA_law 1069 = .ok (.aload_n 3, 1) := by decide +kernel
theorem d_LA_law_1070 : decode b_LA_law 1070 = .ok (.iconst 0, 1) := by decide +kernel
theorem d_LA_law_1071 : decode b_LA_law 1071 = .ok (.laload, 1) := by decide +kernel
theorem d_LA_law_1072 : decode b_LA_law 1072 = .ok (.iload 6, 2) := by decide +kernel
theorem d_LA_law_1074 : decode b_LA_law 1074 = .ok (.i2l, 1) := by decide +kernel
theorem d_LA_law_1075 : decode b_LA_law 1075 = .ok (.lcmp, 1) := by decide +kernel
theorem d_LA_law_1076 : decode b_LA_law 1076 = .ok (.ifCond .eq 5, 3) := by decide +kernel
theorem d_LA_law_1079 : decode b_LA_law 1079 = .ok (.iconst 0, 1) := by decide +kernel
theorem d_LA_law_1080 : decode b_LA_law 1080 = .ok (.ireturn, 1) := by decide +kernel
theorem d_LA_law_1081 : decode b_LA_law 1081 = .ok (.goto 263, 3) := by decide +kernel
theorem d_LA_law_1084 : decode b_LA_law 1084 = .ok (.aload_n 1, 1) := by decide +kernel
theorem d_LA_law_1085 : decode b_LA_law 1085 = .ok (.aload_n 0, 1) := by decide +kernel
theorem d_LA_law_1086 : decode b_LA_law 1086 = .ok (.iload 4, 2) := by decide +kernel
theorem d_LA_law_1088 : decode b_LA_law 1088 = .ok (.iconst 1, 1) := by decide +kernel
theorem d_LA_law_1089 : decode b_LA_law 1089 = .ok (.iadd, 1) := by decide +kernel
theorem d_LA_law_1090 : decode b_LA_law 1090 = .ok (.iaload, 1) := by decide +kernel
theorem d_LA_law_1091 : decode b_LA_law 1091 = .ok (.aload_n 3, 1) := by decide +kernel
theorem d_LA_law_1092 : decode b_LA_law 1092 = .ok (.invokestatic 124, 3) := by decide +kernel
theorem d_LA_law_1095 : decode b_LA_law 1095 = .ok (.istore 5, 2) := by decide +kernel
theorem d_LA_law_1097 : decode b_LA_law 1097 = .ok (.aload_n 2, 1) := by decide +kernel
theorem d_LA_law_1098 : decode b_LA_law 1098 = .ok (.aload_n 0, 1) := by decide +kernel
theorem d_LA_law_1099 : decode b_LA_law 1099 = .ok (.iload 4, 2) := by decide +kernel
theorem d_LA_law_1101 : decode b_LA_law 1101 = .ok (.iconst 1, 1) := by decide +kernel
theorem d_LA_law_1102 : decode b_LA_law 1102 = .ok (.iadd, 1) := by decide +kernel
theorem d_LA_law_1103 : decode b_LA_law 1103 = .ok (.iaload, 1) := by decide +kernel
theorem d_LA_law_1104 : decode b_LA_law 1104 = .ok (.invokevirtual 126, 3) := by decide +kernel
theorem d_LA_law_1107 : decode b_LA_law 1107 = .ok (.istore 6, 2) := by decide +kernel
theorem d_LA_law_1109 : decode b_LA_law 1109 = .ok (.aload_n 2, 1) := by decide +kernel
theorem d_LA_law_1110 : decode b_LA_law 1110 = .ok (.invokevirtual 81, 3) := by decide +kernel
theorem d_LA_law_1113 : decode b_LA_law 1113 = .ok (.iload 5, 2) := by decide +kernel
theorem d_LA_law_1115 : decode b_LA_law 1115 = .ok (.if_icmp .eq 5, 3) := by decide +kernel
theorem d_LA_law_1118 : decode b_LA_law 1118 = .ok (.iconst 0, 1) := by decide +kernel
theorem d_LA_law_1119 : decode b_LA_law 1119 = .ok (.ireturn, 1) := by decide +kernel
theorem d_LA_law_1120 : decode b_LA_law 1120 = .ok (.iload 5, 2) := by decide +kernel
theorem d_LA_law_1122 : decode b_LA_law 1122 = .ok (.ifCond .ne 15, 3) := by decide +kernel
theorem d_LA_law_1125 : decode b_LA_law 1125 = .ok (.aload_n 3, 1) := by decide +kernel
theorem d_LA_law_1126 : decode b_LA_law 1126 = .ok (.iconst 0, 1) := by decide +kernel
theorem d_LA_law_1127 : decode b_LA_law 1127 = .ok (.laload, 1) := by decide +kernel
theorem d_LA_law_1128 : decode b_LA_law 1128 = .ok (.iload 6, 2) := by decide +kernel
theorem d_LA_law_1130 : decode b_LA_law 1130 = .ok (.i2l, 1) := by decide +kernel
theorem d_LA_law_1131 : decode b_LA_law 1131 = .ok (.lcmp, 1) := by decide +kernel
theorem d_LA_law_1132 : decode b_LA_law 1132 = .ok (.ifCond .eq 5, 3) := by decide +kernel
theorem d_LA_law_1135 : decode b_LA_law 1135 = .ok (.iconst 0, 1) := by decide +kernel
theorem d_LA_law_1136 : decode b_LA_law 1136 = .ok (.ireturn, 1) := by decide +kernel
theorem d_LA_law_1137 : decode b_LA_law 1137 = .ok (.goto 207, 3) := by decide +kernel
theorem d_LA_law_1140 : decode b_LA_law 1140 = .ok (.aload_n 1, 1) := by decide +kernel
theorem d_LA_law_1141 : decode b_LA_law 1141 = .ok (.aload_n 0, 1) := by decide +kernel
theorem d_LA_law_1142 : decode b_LA_law 1142 = .ok (.iload 4, 2) := by decide +kernel
theorem d_LA_law_1144 : decode b_LA_law 1144 = .ok (.iconst 1, 1) := by decide +kernel
theorem d_LA_law_1145 : decode b_LA_law 1145 = .ok (.iadd, 1) := by decide +kernel
theorem d_LA_law_1146 : decode b_LA_law 1146 = .ok (.iaload, 1) := by decide +kernel
theorem d_LA_law_1147 : decode b_LA_law 1147 = .ok (.aload_n 3, 1) := by decide +kernel
theorem d_LA_law_1148 : decode b_LA_law 1148 = .ok (.invokestatic 127, 3) := by decide +kernel
theorem d_LA_law_1151 : decode b_LA_law 1151 = .ok (.istore 5, 2) := by decide +kernel
theorem d_LA_law_1153 : decode b_LA_law 1153 = .ok (.aload_n 2, 1) := by decide +kernel
theorem d_LA_law_1154 : decode b_LA_law 1154 = .ok (.aload_n 0, 1) := by decide +kernel
theorem d_LA_law_1155 : decode b_LA_law 1155 = .ok (.iload 4, 2) := by decide +kernel
theorem d_LA_law_1157 : decode b_LA_law 1157 = .ok (.iconst 1, 1) := by decide +kernel
theorem d_LA_law_1158 : decode b_LA_law 1158 = .ok (.iadd, 1) := by decide +kernel
theorem d_LA_law_1159 : decode b_LA_law 1159 = .ok (.iaload, 1) := by decide +kernel
theorem d_LA_law_1160 : decode b_LA_law 1160 = .ok (.invokevirtual 129, 3) := by decide +kernel
theorem d_LA_law_1163 : decode b_LA_law 1163 = .ok (.istore 6, 2) := by decide +kernel
theorem d_LA_law_1165 : decode b_LA_law 1165 = .ok (.aload_n 2, 1) := by decide +kernel
theorem d_LA_law_1166 : decode b_LA_law 1166 = .ok (.invokevirtual 81, 3) := by decide +kernel
theorem d_LA_law_1169 : decode b_LA_law 1169 = .ok (.iload 5, 2) := by decide +kernel
theorem d_LA_law_1171 : decode b_LA_law 1171 = .ok (.if_icmp .eq 5, 3) := by decide +kernel
theorem d_LA_law_1174 : decode b_LA_law 1174 = .ok (.iconst 0, 1) := by decide +kernel
theorem d_LA_law_1175 : decode b_LA_law 1175 = .ok (.ireturn, 1) := by decide +kernel
theorem d_LA_law_1176 : decode b_LA_law 1176 = .ok (.iload 5, 2) := by decide +kernel
theorem d_LA_law_1178 : decode b_LA_law 1178 = .ok (.ifCond .ne 15, 3) := by decide +kernel
theorem d_LA_law_1181 : decode b_LA_law 1181 = .ok (.aload_n 3, 1) := by decide +kernel
theorem d_LA_law_1182 : decode b_LA_law 1182 = .ok (.iconst 0, 1) := by decide +kernel
theorem d_LA_law_1183 : decode b_LA_law 1183 = .ok (.laload, 1) := by decide +kernel
theorem d_LA_law_1184 : decode b_LA_law 1184 = .ok (.iload 6, 2) := by decide +kernel
theorem d_LA_law_1186 : decode b_LA_law 1186 = .ok (.i2l, 1) := by decide +kernel
theorem d_LA_law_1187 : decode b_LA_law 1187 = .ok (.lcmp, 1) := by decide +kernel
theorem d_LA_law_1188 : decode b_LA_law 1188 = .ok (.ifCond .eq 5, 3) := by decide +kernel
theorem d_LA_law_1191 : decode b_LA_law 1191 = .ok (.iconst 0, 1) := by decide +kernel
theorem d_LA_law_1192 : decode b_LA_law 1192 = .ok (.ireturn, 1) := by decide +kernel
theorem d_LA_law_1193 : decode b_LA_law 1193 = .ok (.goto 151, 3) := by decide +kernel
theorem d_LA_law_1196 : decode b_LA_law 1196 = .ok (.aload_n 1, 1) := by decide +kernel
theorem d_LA_law_1197 : decode b_LA_law 1197 = .ok (.aload_n 0, 1) := by decide +kernel
theorem d_LA_law_1198 : decode b_LA_law 1198 = .ok (.iload 4, 2) := by decide +kernel
theorem d_LA_law_1200 : decode b_LA_law 1200 = .ok (.iconst 1, 1) := by decide +kernel
theorem d_LA_law_1201 : decode b_LA_law 1201 = .ok (.iadd, 1) := by decide +kernel
theorem d_LA_law_1202 : decode b_LA_law 1202 = .ok (.iaload, 1) := by decide +kernel
theorem d_LA_law_1203 : decode b_LA_law 1203 = .ok (.aload_n 0, 1) := by decide +kernel
theorem d_LA_law_1204 : decode b_LA_law 1204 = .ok (.iload 4, 2) := by decide +kernel
theorem d_LA_law_1206 : decode b_LA_law 1206 = .ok (.iconst 2, 1) := by decide +kernel
theorem d_LA_law_1207 : decode b_LA_law 1207 = .ok (.iadd, 1) := by decide +kernel
theorem d_LA_law_1208 : decode b_LA_law 1208 = .ok (.iaload, 1) := by decide +kernel
theorem d_LA_law_1209 : decode b_LA_law 1209 = .ok (.aload_n 0, 1) := by decide +kernel
theorem d_LA_law_1210 : decode b_LA_law 1210 = .ok (.iload 4, 2) := by decide +kernel
theorem d_LA_law_1212 : decode b_LA_law 1212 = .ok (.iconst 3, 1) := by decide +kernel
theorem d_LA_law_1213 : decode b_LA_law 1213 = .ok (.iadd, 1) := by decide +kernel
theorem d_LA_law_1214 : decode b_LA_law 1214 = .ok (.iaload, 1) := by decide +kernel
theorem d_LA_law_1215 : decode b_LA_law 1215 = .ok (.aload_n 3, 1) := by decide +kernel
theorem d_LA_law_1216 : decode b_LA_law 1216 = .ok (.invokestatic 130, 3) := by decide +kernel
theorem d_LA_law_1219 : decode b_LA_law 1219 = .ok (.istore 5, 2) := by decide +kernel
theorem d_LA_law_1221 : decode b_LA_law 1221 = .ok (.aload_n 2, 1) := by decide +kernel
theorem d_LA_law_1222 : decode b_LA_law 1222 = .ok (.aload_n 0, 1) := by decide +kernel
theorem d_LA_law_1223 : decode b_LA_law 1223 = .ok (.iload 4, 2) := by decide +kernel
theorem d_LA_law_1225 : decode b_LA_law 1225 = .ok (.iconst 1, 1) := by decide +kernel
theorem d_LA_law_1226 : decode b_LA_law 1226 = .ok (.iadd, 1) := by decide +kernel
theorem d_LA_law_1227 : decode b_LA_law 1227 = .ok (.iaload, 1) := by decide +kernel
theorem d_LA_law_1228 : decode b_LA_law 1228 = .ok (.aload_n 0, 1) := by decide +kernel
theorem d_LA_law_1229 : decode b_LA_law 1229 = .ok (.iload 4, 2) := by decide +kernel
theorem d_LA_law_1231 : decode b_LA_law 1231 = .ok (.iconst 2, 1) := by decide +kernel
theorem d_LA_law_1232 : decode b_LA_law 1232 = .ok (.iadd, 1) := by decide +kernel
theorem d_LA_law_1233 : decode b_LA_law 1233 = .ok (.iaload, 1) := by decide +kernel
theorem d_LA_law_1234 : decode b_LA_law 1234 = .ok (.aload_n 0, 1) := by decide +kernel
theorem d_LA_law_1235 : decode b_LA_law 1235 = .ok (.iload 4, 2) := by decide +kernel
theorem d_LA_law_1237 : decode b_LA_law 1237 = .ok (.iconst 3, 1) := by decide +kernel
theorem d_LA_law_1238 : decode b_LA_law 1238 = .ok (.iadd, 1) := by decide +kernel
theorem d_LA_law_1239 : decode b_LA_law 1239 = .ok (.iaload, 1) := by decide +kernel
theorem d_LA_law_1240 : decode b_LA_law 1240 = .ok (.invokevirtual 132, 3) := by decide +kernel
theorem d_LA_law_1243 : decode b_LA_law 1243 = .ok (.istore 6, 2) := by decide +kernel
theorem d_LA_law_1245 : decode b_LA_law 1245 = .ok (.aload_n 2, 1) := by decide +kernel
theorem d_LA_law_1246 : decode b_LA_law 1246 = .ok (.invokevirtual 81, 3) := by decide +kernel
theorem d_LA_law_1249 : decode b_LA_law 1249 = .ok (.iload 5, 2) := by decide +kernel
theorem d_LA_law_1251 : decode b_LA_law 1251 = .ok (.if_icmp .eq 5, 3) := by decide +kernel
theorem d_LA_law_1254 : decode b_LA_law 1254 = .ok (.iconst 0, 1) := by decide +kernel
theorem d_LA_law_1255 : decode b_LA_law 1255 = .ok (.ireturn, 1) := by decide +kernel
theorem d_LA_law_1256 : decode b_LA_law 1256 = .ok (.iload 5, 2) := by decide +kernel
theorem d_LA_law_1258 : decode b_LA_law 1258 = .ok (.ifCond .ne 15, 3) := by decide +kernel
theorem d_LA_law_1261 : decode b_LA_law 1261 = .ok (.aload_n 3, 1) := by decide +kernel
theorem d_LA_law_1262 : decode b_LA_law 1262 = .ok (.iconst 0, 1) := by decide +kernel
theorem d_LA_law_1263 : decode b_LA_law 1263 = .ok (.laload, 1) := by decide +kernel
theorem d_LA_law_1264 : decode b_LA_law 1264 = .ok (.iload 6, 2) := by decide +kernel
theorem d_LA_law_1266 : decode b_LA_law 1266 = .ok (.i2l, 1) := by decide +kernel
theorem d_LA_law_1267 : decode b_LA_law 1267 = .ok (.lcmp, 1) := by decide +kernel
theorem d_LA_law_1268 : decode b_LA_law 1268 = .ok (.ifCond .eq 5, 3) := by decide +kernel
theorem d_LA_law_1271 : decode b_LA_law 1271 = .ok (.iconst 0, 1) := by decide +kernel
theorem d_LA_law_1272 : decode b_LA_law 1272 = .ok (.ireturn, 1) := by decide +kernel
theorem d_LA_law_1273 : decode b_LA_law 1273 = .ok (.goto 71, 3) := by decide +kernel
theorem d_LA_law_1276 : decode b_LA_law 1276 = .ok (.aload_n 1, 1) := by decide +kernel
theorem d_LA_law_1277 : decode b_LA_law 1277 = .ok (.aload_n 0, 1) := by decide +kernel
theorem d_LA_law_1278 : decode b_LA_law 1278 = .ok (.iload 4, 2) := by decide +kernel
theorem d_LA_law_1280 : decode b_LA_law 1280 = .ok (.iconst 1, 1) := by decide +kernel
theorem d_LA_law_1281 : decode b_LA_law 1281 = .ok (.iadd, 1) := by decide +kernel
theorem d_LA_law_1282 : decode b_LA_law 1282 = .ok (.iaload, 1) := by decide +kernel
theorem d_LA_law_1283 : decode b_LA_law 1283 = .ok (.aload_n 0, 1) := by decide +kernel
theorem d_LA_law_1284 : decode b_LA_law 1284 = .ok (.iload 4, 2) := by decide +kernel
theorem d_LA_law_1286 : decode b_LA_law 1286 = .ok (.iconst 2, 1) := by decide +kernel
theorem d_LA_law_1287 : decode b_LA_law 1287 = .ok (.iadd, 1) := by decide +kernel
theorem d_LA_law_1288 : decode b_LA_law 1288 = .ok (.iaload, 1) := by decide +kernel
theorem d_LA_law_1289 : decode b_LA_law 1289 = .ok (.aload_n 3, 1) := by decide +kernel
theorem d_LA_law_1290 : decode b_LA_law 1290 = .ok (.invokestatic 133, 3) := by decide +kernel
theorem d_LA_law_1293 : decode b_LA_law 1293 = .ok (.istore 5, 2) := by decide +kernel
theorem d_LA_law_1295 : decode b_LA_law 1295 = .ok (.aload_n 2, 1) := by decide +kernel
theorem d_LA_law_1296 : decode b_LA_law 1296 = .ok (.aload_n 0, 1) := by decide +kernel
theorem d_LA_law_1297 : decode b_LA_law 1297 = .ok (.iload 4, 2) := by decide +kernel
theorem d_LA_law_1299 : decode b_LA_law 1299 = .ok (.iconst 1, 1) := by decide +kernel
theorem d_LA_law_1300 : decode b_LA_law 1300 = .ok (.iadd, 1) := by decide +kernel
theorem d_LA_law_1301 : decode b_LA_law 1301 = .ok (.iaload, 1) := by decide +kernel
theorem d_LA_law_1302 : decode b_LA_law 1302 = .ok (.aload_n 0, 1) := by decide +kernel
theorem d_LA_law_1303 : decode b_LA_law 1303 = .ok (.iload 4, 2) := by decide +kernel
theorem d_LA_law_1305 : decode b_LA_law 1305 = .ok (.iconst 2, 1) := by decide +kernel
theorem d_LA_law_1306 : decode b_LA_law 1306 = .ok (.iadd, 1) := by decide +kernel
theorem d_LA_law_1307 : decode b_LA_law 1307 = .ok (.iaload, 1) := by decide +kernel
theorem d_LA_law_1308 : decode b_LA_law 1308 = .ok (.invokevirtual 135, 3) := by decide +kernel
theorem d_LA_law_1311 : decode b_LA_law 1311 = .ok (.istore 6, 2) := by decide +kernel
theorem d_LA_law_1313 : decode b_LA_law 1313 = .ok (.aload_n 2, 1) := by decide +kernel
theorem d_LA_law_1314 : decode b_LA_law 1314 = .ok (.invokevirtual 81, 3) := by decide +kernel
theorem d_LA_law_1317 : decode b_LA_law 1317 = .ok (.iload 5, 2) := by decide +kernel
theorem d_LA_law_1319 : decode b_LA_law 1319 = .ok (.if_icmp .eq 5, 3) := by decide +kernel
theorem d_LA_law_1322 : decode b_LA_law 1322 = .ok (.iconst 0, 1) := by decide +kernel
theorem d_LA_law_1323 : decode b_LA_law 1323 = .ok (.ireturn, 1) := by decide +kernel
theorem d_LA_law_1324 : decode b_LA_law 1324 = .ok (.iload 5, 2) := by decide +kernel
theorem d_LA_law_1326 : decode b_LA_law 1326 = .ok (.ifCond .ne 15, 3) := by decide +kernel
theorem d_LA_law_1329 : decode b_LA_law 1329 = .ok (.aload_n 3, 1) := by decide +kernel
theorem d_LA_law_1330 : decode b_LA_law 1330 = .ok (.iconst 0, 1) := by decide +kernel
theorem d_LA_law_1331 : decode b_LA_law 1331 = .ok (.laload, 1) := by decide +kernel
theorem d_LA_law_1332 : decode b_LA_law 1332 = .ok (.iload 6, 2) := by decide +kernel
theorem d_LA_law_1334 : decode b_LA_law 1334 = .ok (.i2l, 1) := by decide +kernel
theorem d_LA_law_1335 : decode b_LA_law 1335 = .ok (.lcmp, 1) := by decide +kernel
theorem d_LA_law_1336 : decode b_LA_law 1336 = .ok (.ifCond .eq 5, 3) := by decide +kernel
theorem d_LA_law_1339 : decode b_LA_law 1339 = .ok (.iconst 0, 1) := by decide +kernel
theorem d_LA_law_1340 : decode b_LA_law 1340 = .ok (.ireturn, 1) := by decide +kernel
theorem d_LA_law_1341 : decode b_LA_law 1341 = .ok (.goto 3, 3) := by decide +kernel
theorem d_LA_law_1344 : decode b_LA_law 1344 = .ok (.iinc 4 4, 3) := by decide +kernel
theorem d_LA_law_1347 : decode b_LA_law 1347 = .ok (.goto (-1324), 3) := by decide +kernel
theorem d_LA_law_1350 : decode b_LA_law 1350 = .ok (.iconst 1, 1) := by decide +kernel
theorem d_LA_law_1351 : decode b_LA_law 1351 = .ok (.ireturn, 1) := by decide +kernel
