theorem d_Model_readFrame_260 : decode c_Model_readFrame 260 = .ok (.iaload, 1) := by decide +kernel
theorem d_Model_readFrame_261 : decode c_Model_readFrame 261 = .ok (.iconst 1, 1) := by decide +kernel
theorem d_Model_readFrame_262 : decode c_Model_readFrame 262 = .ok (.if_icmp .lt 37, 3) := by decide +kernel
theorem d_Model_readFrame_265 : decode c_Model_readFrame 265 = .ok (.aload_n 0, 1) := by decide +kernel
theorem d_Model_readFrame_266 : decode c_Model_readFrame 266 = .ok (.getfield 24, 3) := by decide +kernel
theorem d_Model_readFrame_269 : decode c_Model_readFrame 269 = .ok (.iload_n 3, 1) := by decide +kernel
theorem d_Model_readFrame_270 : decode c_Model_readFrame 270 = .ok (.iaload, 1) := by decide +kernel
theorem d_Model_readFrame_271 : decode c_Model_readFrame 271 = .ok (.iconst 2, 1) := by decide +kernel
theorem d_Model_readFrame_272 : decode c_Model_readFrame 272 = .ok (.if_icmp .gt 27, 3) := by decide +kernel
theorem d_Model_readFrame_275 : decode c_Model_readFrame 275 = .ok (.aload_n 0, 1) := by decide +kernel
theorem d_Model_readFrame_276 : decode c_Model_readFrame 276 = .ok (.getfield 27, 3) := by decide +kernel
theorem d_Model_readFrame_279 : decode c_Model_readFrame 279 = .ok (.iload_n 3, 1) := by decide +kernel
theorem d_Model_readFrame_280 : decode c_Model_readFrame 280 = .ok (.iaload, 1) := by decide +kernel
theorem d_Model_readFrame_281 : decode c_Model_readFrame 281 = .ok (.iconst 1, 1) := by decide +kernel
theorem d_Model_readFrame_282 : decode c_Model_readFrame 282 = .ok (.if_icmp .lt 17, 3) := by decide +kernel
theorem d_Model_readFrame_285 : decode c_Model_readFrame 285 = .ok (.aload_n 0, 1) := by decide +kernel
theorem d_Model_readFrame_286 : decode c_Model_readFrame 286 = .ok (.getfield 27, 3) := by decide +kernel
theorem d_Model_readFrame_289 : decode c_Model_readFrame 289 = .ok (.iload_n 3, 1) := by decide +kernel
theorem d_Model_readFrame_290 : decode c_Model_readFrame 290 = .ok (.iaload, 1) := by decide +kernel
theorem d_Model_readFrame_291 : decode c_Model_readFrame 291 = .ok (.iconst 2, 1) := by decide +kernel
theorem d_Model_readFrame_292 : decode c_Model_readFrame 292 = .ok (.if_icmp .gt 7, 3) := by decide +kernel
theorem d_Model_readFrame_295 : decode c_Model_readFrame 295 = .ok (.iconst 1, 1) := by decide +kernel
theorem d_Model_readFrame_296 : decode c_Model_readFrame 296 = .ok (.goto 4, 3) := by decide +kernel
theorem d_Model_readFrame_299 : decode c_Model_readFrame 299 = .ok (.iconst 0, 1) := by decide +kernel
theorem d_Model_readFrame_300 : decode c_Model_readFrame 300 = .ok (.invokevirtual 140, 3) := by decide +kernel
theorem d_Model_readFrame_303 : decode c_Model_readFrame 303 = .ok (.aload_n 0, 1) := by decide +kernel
theorem d_Model_readFrame_304 : decode c_Model_readFrame 304 = .ok (.getfield 30, 3) := by decide +kernel
theorem d_Model_readFrame_307 : decode c_Model_readFrame 307 = .ok (.iload_n 3, 1) := by decide +kernel
theorem d_Model_readFrame_308 : decode c_Model_readFrame 308 = .ok (.aload_n 0, 1) := by decide +kernel
theorem d_Model_readFrame_309 : decode c_Model_readFrame 309 = .ok (.invokevirtual 128, 3) := by decide +kernel
theorem d_Model_readFrame_312 : decode c_Model_readFrame 312 = .ok (.iastore, 1) := by decide +kernel
theorem d_Model_readFrame_313 : decode c_Model_readFrame 313 = .ok (.aload_n 0, 1) := by decide +kernel
theorem d_Model_readFrame_314 : decode c_Model_readFrame 314 = .ok (.aload_n 0, 1) := by decide +kernel
theorem d_Model_readFrame_315 : decode c_Model_readFrame 315 = .ok (.getfield 107, 3) := by decide +kernel
theorem d_Model_readFrame_318 : decode c_Model_readFrame 318 = .ok (.ifCond .gt 13, 3) := by decide +kernel
theorem d_Model_readFrame_321 : decode c_Model_readFrame 321 = .ok (.aload_n 0, 1) := by decide +kernel
theorem d_Model_readFrame_322 : decode c_Model_readFrame 322 = .ok (.getfield 30, 3) := by decide +kernel
theorem d_Model_readFrame_325 : decode c_Model_readFrame 325 = .ok (.iload_n 3, 1) := by decide +kernel
theorem d_Model_readFrame_326 : decode c_Model_readFrame 326 = .ok (.iaload, 1) := by decide +kernel
theorem d_Model_readFrame_327 : decode c_Model_readFrame 327 = .ok (.iconst 4, 1) := by decide +kernel
theorem d_Model_readFrame_328 : decode c_Model_readFrame 328 = .ok (.if_icmp .ge 7, 3) := by decide +kernel
theorem d_Model_readFrame_331 : decode c_Model_readFrame 331 = .ok (.iconst 1, 1) := by decide +kernel
theorem d_Model_readFrame_332 : decode c_Model_readFrame 332 = .ok (.goto 4, 3) := by decide +kernel
theorem d_Model_readFrame_335 : decode c_Model_readFrame 335 = .ok (.iconst 0, 1) := by decide +kernel
theorem d_Model_readFrame_336 : decode c_Model_readFrame 336 = .ok (.invokevirtual 140, 3) := by decide +kernel
theorem d_Model_readFrame_339 : decode c_Model_readFrame 339 = .ok (.iinc 3 1, 3) := by decide +kernel
theorem d_Model_readFrame_342 : decode c_Model_readFrame 342 = .ok (.goto (-212), 3) := by decide +kernel
theorem d_Model_readFrame_345 : decode c_Model_readFrame 345 = .ok (.aload_n 0, 1) := by decide +kernel
theorem d_Model_readFrame_346 : decode c_Model_readFrame 346 = .ok (.iload_n 2, 1) := by decide +kernel
theorem d_Model_readFrame_347 : decode c_Model_readFrame 347 = .ok (.putfield 95, 3) := by decide +kernel
theorem d_Model_readFrame_350 : decode c_Model_readFrame 350 = .ok (.aload_n 0, 1) := by decide +kernel
theorem d_Model_readFrame_351 : decode c_Model_readFrame 351 = .ok (.iload_n 1, 1) := by decide +kernel
theorem d_Model_readFrame_352 : decode c_Model_readFrame 352 = .ok (.putfield 86, 3) := by decide +kernel
theorem d_Model_readFrame_355 : decode c_Model_readFrame 355 = .ok (.return_, 1) := by decide +kernel
theorem d_Model_readScan_0 : decode c_Model_readScan 0 = .ok (.aload_n 0, 1) := by decide +kernel
theorem d_Model_readScan_1 : decode c_Model_readScan 1 = .ok (.aload_n 0, 1) := by decide +kernel
theorem d_Model_readScan_2 : decode c_Model_readScan 2 = .ok (.invokevirtual 128, 3) := by decide +kernel
theorem d_Model_readScan_5 : decode c_Model_readScan 5 = .ok (.putfield 150, 3) := by decide +kernel
theorem d_Model_readScan_8 : decode c_Model_readScan 8 = .ok (.aload_n 0, 1) := by decide +kernel
theorem d_Model_readScan_9 : decode c_Model_readScan 9 = .ok (.aload_n 0, 1) := by decide +kernel
theorem d_Model_readScan_10 : decode c_Model_readScan 10 = .ok (.getfield 107, 3) := by decide +kernel
theorem d_Model_readScan_13 : decode c_Model_readScan 13 = .ok (.ifCond .gt 18, 3) := by decide +kernel
theorem d_Model_readScan_16 : decode c_Model_readScan 16 = .ok (.aload_n 0, 1) := by decide +kernel
theorem d_Model_readScan_17 : decode c_Model_readScan 17 = .ok (.getfield 150, 3) := by decide +kernel
theorem d_Model_readScan_20 : decode c_Model_readScan 20 = .ok (.ifCond .le 15, 3) := by decide +kernel
theorem d_Model_readScan_23 : decode c_Model_readScan 23 = .ok (.aload_n 0, 1) := by decide +kernel
theorem d_Model_readScan_24 : decode c_Model_readScan 24 = .ok (.getfield 150, 3) := by decide +kernel
theorem d_Model_readScan_27 : decode c_Model_readScan 27 = .ok (.iconst 5, 1) := by decide +kernel
theorem d_Model_readScan_28 : decode c_Model_readScan 28 = .ok (.if_icmp .ge 7, 3) := by decide +kernel
theorem d_Model_readScan_31 : decode c_Model_readScan 31 = .ok (.iconst 1, 1) := by decide +kernel
theorem d_Model_readScan_32 : decode c_Model_readScan 32 = .ok (.goto 4, 3) := by decide +kernel
theorem d_Model_readScan_35 : decode c_Model_readScan 35 = .ok (.iconst 0, 1) := by decide +kernel
theorem d_Model_readScan_36 : decode c_Model_readScan 36 = .ok (.invokevirtual 140, 3) := by decide +kernel
theorem d_Model_readScan_39 : decode c_Model_readScan 39 = .ok (.iconst 0, 1) := by decide +kernel
theorem d_Model_readScan_40 : decode c_Model_readScan 40 = .ok (.istore_n 1, 1) := by decide +kernel
theorem d_Model_readScan_41 : decode c_Model_readScan 41 = .ok (.iconst (-1), 1) := by decide +kernel
theorem d_Model_readScan_42 : decode c_Model_readScan 42 = .ok (.istore_n 2, 1) := by decide +kernel
theorem d_Model_readScan_43 : decode c_Model_readScan 43 = .ok (.iconst 0, 1) := by decide +kernel
theorem d_Model_readScan_44 : decode c_Model_readScan 44 = .ok (.istore_n 3, 1) := by decide +kernel
theorem d_Model_readScan_45 : decode c_Model_readScan 45 = .ok (.iload_n 3, 1) := by decide +kernel
theorem d_Model_readScan_46 : decode c_Model_readScan 46 = .ok (.aload_n 0, 1) := by decide +kernel
theorem d_Model_readScan_47 : decode c_Model_readScan 47 = .ok (.getfield 150, 3) := by decide +kernel
theorem d_Model_readScan_50 : decode c_Model_readScan 50 = .ok (.if_icmp .ge 186, 3) := by decide +kernel
theorem d_Model_readScan_53 : decode c_Model_readScan 53 = .ok (.aload_n 0, 1) := by decide +kernel
theorem d_Model_readScan_54 : decode c_Model_readScan 54 = .ok (.getfield 107, 3) := by decide +kernel
theorem d_Model_readScan_57 : decode c_Model_readScan 57 = .ok (.ifCond .ne 179, 3) := by decide +kernel
theorem d_Model_readScan_60 : decode c_Model_readScan 60 = .ok (.aload_n 0, 1) := by decide +kernel
theorem d_Model_readScan_61 : decode c_Model_readScan 61 = .ok (.getfield 68, 3) := by decide +kernel
theorem d_Model_readScan_64 : decode c_Model_readScan 64 = .ok (.iload_n 3, 1) := by decide +kernel
theorem d_Model_readScan_65 : decode c_Model_readScan 65 = .ok (.aload_n 0, 1) := by decide +kernel
theorem d_Model_readScan_66 : decode c_Model_readScan 66 = .ok (.getfield 113, 3) := by decide +kernel
theorem d_Model_readScan_69 : decode c_Model_readScan 69 = .ok (.iastore, 1) := by decide +kernel
theorem d_Model_readScan_70 : decode c_Model_readScan 70 = .ok (.aload_n 0, 1) := by decide +kernel
theorem d_Model_readScan_71 : decode c_Model_readScan 71 = .ok (.aload_n 0, 1) := by decide +kernel
theorem d_Model_readScan_72 : decode c_Model_readScan 72 = .ok (.invokevirtual 128, 3) := by decide +kernel
theorem d_Model_readScan_75 : decode c_Model_readScan 75 = .ok (.invokevirtual 153, 3) := by decide +kernel
theorem d_Model_readScan_78 : decode c_Model_readScan 78 = .ok (.istore 4, 2) := by decide +kernel
theorem d_Model_readScan_80 : decode c_Model_readScan 80 = .ok (.aload_n 0, 1) := by decide +kernel
theorem d_Model_readScan_81 : decode c_Model_readScan 81 = .ok (.getfield 107, 3) := by decide +kernel
theorem d_Model_readScan_84 : decode c_Model_readScan 84 = .ok (.ifCond .ne 23, 3) := by decide +kernel
theorem d_Model_readScan_87 : decode c_Model_readScan 87 = .ok (.iload 4, 2) := by decide +kernel
theorem d_Model_readScan_89 : decode c_Model_readScan 89 = .ok (.iload_n 2, 1) := by decide +kernel
theorem d_Model_readScan_90 : decode c_Model_readScan 90 = .ok (.if_icmp .gt 17, 3) := by decide +kernel
theorem d_Model_readScan_93 : decode c_Model_readScan 93 = .ok (.aload_n 0, 1) := by decide +kernel
theorem d_Model_readScan_94 : decode c_Model_readScan 94 = .ok (.bipush 7, 2) := by decide +kernel
theorem d_Model_readScan_96 : decode c_Model_readScan 96 = .ok (.aload_n 0, 1) := by decide +kernel
theorem d_Model_readScan_97 : decode c_Model_readScan 97 = .ok (.getfield 68, 3) := by decide +kernel
theorem d_Model_readScan_100 : decode c_Model_readScan 100 = .ok (.iload_n 3, 1) := by decide +kernel
theorem d_Model_readScan_101 : decode c_Model_readScan 101 = .ok (.iaload, 1) := by decide +kernel
theorem d_Model_readScan_102 : decode c_Model_readScan 102 = .ok (.invokevirtual 120, 3) := by decide +kernel
theorem d_Model_readScan_105 : decode c_Model_readScan 105 = .ok (.istore 5, 2) := by decide +kernel
theorem d_Model_readScan_107 : decode c_Model_readScan 107 = .ok (.aload_n 0, 1) := by decide +kernel
theorem d_Model_readScan_108 : decode c_Model_readScan 108 = .ok (.getfield 107, 3) := by decide +kernel
theorem d_Model_readScan_111 : decode c_Model_readScan 111 = .ok (.ifCond .ne 55, 3) := by decide +kernel
theorem d_Model_readScan_114 : decode c_Model_readScan 114 = .ok (.aload_n 0, 1) := by decide +kernel
theorem d_Model_readScan_115 : decode c_Model_readScan 115 = .ok (.getfield 59, 3) := by decide +kernel
theorem d_Model_readScan_118 : decode c_Model_readScan 118 = .ok (.iload_n 3, 1) := by decide +kernel
theorem d_Model_readScan_119 : decode c_Model_readScan 119 = .ok (.iload 4, 2) := by decide +kernel
theorem d_Model_readScan_121 : decode c_Model_readScan 121 = .ok (.iastore, 1) := by decide +kernel
theorem d_Model_readScan_122 : decode c_Model_readScan 122 = .ok (.iload 4, 2) := by decide +kernel
theorem d_Model_readScan_124 : decode c_Model_readScan 124 = .ok (.istore_n 2, 1) := by decide +kernel
theorem d_Model_readScan_125 : decode c_Model_readScan 125 = .ok (.iload_n 1, 1) := by decide +kernel
theorem d_Model_readScan_126 : decode c_Model_readScan 126 = .ok (.aload_n 0, 1) := by decide +kernel
theorem d_Model_readScan_127 : decode c_Model_readScan 127 = .ok (.getfield 24, 3) := by decide +kernel
theorem d_Model_readScan_130 : decode c_Model_readScan 130 = .ok (.iload 4, 2) := by decide +kernel
theorem d_Model_readScan_132 : decode c_Model_readScan 132 = .ok (.iaload, 1) := by decide +kernel
theorem d_Model_readScan_133 : decode c_Model_readScan 133 = .ok (.aload_n 0, 1) := by decide +kernel
theorem d_Model_readScan_134 : decode c_Model_readScan 134 = .ok (.getfield 27, 3) := by decide +kernel
theorem d_Model_readScan_137 : decode c_Model_readScan 137 = .ok (.iload 4, 2) := by decide +kernel
theorem d_Model_readScan_139 : decode c_Model_readScan 139 = .ok (.iaload, 1) := by decide +kernel
theorem d_Model_readScan_140 : decode c_Model_readScan 140 = .ok (.imul, 1) := by decide +kernel
theorem d_Model_readScan_141 : decode c_Model_readScan 141 = .ok (.iadd, 1) := by decide +kernel
theorem d_Model_readScan_142 : decode c_Model_readScan 142 = .ok (.istore_n 1, 1) := by decide +kernel
theorem d_Model_readScan_143 : decode c_Model_readScan 143 = .ok (.aload_n 0, 1) := by decide +kernel
theorem d_Model_readScan_144 : decode c_Model_readScan 144 = .ok (.aload_n 0, 1) := by decide +kernel
theorem d_Model_readScan_145 : decode c_Model_readScan 145 = .ok (.getfield 150, 3) := by decide +kernel
theorem d_Model_readScan_148 : decode c_Model_readScan 148 = .ok (.iconst 1, 1) := by decide +kernel
theorem d_Model_readScan_149 : decode c_Model_readScan 149 = .ok (.if_icmp .eq 9, 3) := by decide +kernel
theorem d_Model_readScan_152 : decode c_Model_readScan 152 = .ok (.iload_n 1, 1) := by decide +kernel
theorem d_Model_readScan_153 : decode c_Model_readScan 153 = .ok (.bipush 10, 2) := by decide +kernel
theorem d_Model_readScan_155 : decode c_Model_readScan 155 = .ok (.if_icmp .gt 7, 3) := by decide +kernel
theorem d_Model_readScan_158 : decode c_Model_readScan 158 = .ok (.iconst 1, 1) := by decide +kernel
theorem d_Model_readScan_159 : decode c_Model_readScan 159 = .ok (.goto 4, 3) := by decide +kernel
theorem d_Model_readScan_162 : decode c_Model_readScan 162 = .ok (.iconst 0, 1) := by decide +kernel
theorem d_Model_readScan_163 : decode c_Model_readScan 163 = .ok (.invokevirtual 140, 3) := by decide +kernel
theorem d_Model_readScan_166 : decode c_Model_readScan 166 = .ok (.aload_n 0, 1) := by decide +kernel
theorem d_Model_readScan_167 : decode c_Model_readScan 167 = .ok (.invokevirtual 128, 3) := by decide +kernel
theorem d_Model_readScan_170 : decode c_Model_readScan 170 = .ok (.istore 5, 2) := by decide +kernel
theorem d_Model_readScan_172 : decode c_Model_readScan 172 = .ok (.aload_n 0, 1) := by decide +kernel
theorem d_Model_readScan_173 : decode c_Model_readScan 173 = .ok (.getfield 62, 3) := by decide +kernel
theorem d_Model_readScan_176 : decode c_Model_readScan 176 = .ok (.iload_n 3, 1) := by decide +kernel
theorem d_Model_readScan_177 : decode c_Model_readScan 177 = .ok (.iload 5, 2) := by decide +kernel
theorem d_Model_readScan_179 : decode c_Model_readScan 179 = .ok (.bipush 16, 2) := by decide +kernel
theorem d_Model_readScan_181 : decode c_Model_readScan 181 = .ok (.idiv, 1) := by decide +kernel
theorem d_Model_readScan_182 : decode c_Model_readScan 182 = .ok (.iastore, 1) := by decide +kernel
theorem d_Model_readScan_183 : decode c_Model_readScan 183 = .ok (.aload_n 0, 1) := by decide +kernel
theorem d_Model_readScan_184 : decode c_Model_readScan 184 = .ok (.getfield 65, 3) := by decide +kernel
theorem d_Model_readScan_187 : decode c_Model_readScan 187 = .ok (.iload_n 3, 1) := by decide +kernel
theorem d_Model_readScan_188 : decode c_Model_readScan 188 = .ok (.iload 5, 2) := by decide +kernel
theorem d_Model_readScan_190 : decode c_Model_readScan 190 = .ok (.bipush 16, 2) := by decide +kernel
theorem d_Model_readScan_192 : decode c_Model_readScan 192 = .ok (.irem, 1) := by decide +kernel
theorem d_Model_readScan_193 : decode c_Model_readScan 193 = .ok (.iastore, 1) := by decide +kernel
theorem d_Model_readScan_194 : decode c_Model_readScan 194 = .ok (.aload_n 0, 1) := by decide +kernel
theorem d_Model_readScan_195 : decode c_Model_readScan 195 = .ok (.aload_n 0, 1) := by decide +kernel
theorem d_Model_readScan_196 : decode c_Model_readScan 196 = .ok (.getfield 107, 3) := by decide +kernel
theorem d_Model_readScan_199 : decode c_Model_readScan 199 = .ok (.ifCond .gt 23, 3) := by decide +kernel
theorem d_Model_readScan_202 : decode c_Model_readScan 202 = .ok (.aload_n 0, 1) := by decide +kernel
theorem d_Model_readScan_203 : decode c_Model_readScan 203 = .ok (.getfield 62, 3) := by decide +kernel
theorem d_Model_readScan_206 : decode c_Model_readScan 206 = .ok (.iload_n 3, 1) := by decide +kernel
theorem d_Model_readScan_207 : decode c_Model_readScan 207 = .ok (.iaload, 1) := by decide +kernel
theorem d_Model_readScan_208 : decode c_Model_readScan 208 = .ok (.iconst 4, 1) := by decide +kernel
theorem d_Model_readScan_209 : decode c_Model_readScan 209 = .ok (.if_icmp .ge 17, 3) := by decide +kernel
theorem d_Model_readScan_212 : decode c_Model_readScan 212 = .ok (.aload_n 0, 1) := by decide +kernel
theorem d_Model_readScan_213 : decode c_Model_readScan 213 = .ok (.getfield 65, 3) := by decide +kernel
theorem d_Model_readScan_216 : decode c_Model_readScan 216 = .ok (.iload_n 3, 1) := by decide +kernel
theorem d_Model_readScan_217 : decode c_Model_readScan 217 = .ok (.iaload, 1) := by decide +kernel
theorem d_Model_readScan_218 : decode c_Model_readScan 218 = .ok (.iconst 4, 1) := by decide +kernel
theorem d_Model_readScan_219 : decode c_Model_readScan 219 = .ok (.if_icmp .ge 7, 3) := by decide +kernel
theorem d_Model_readScan_222 : decode c_Model_readScan 222 = .ok (.iconst 1, 1) := by decide +kernel
theorem d_Model_readScan_223 : decode c_Model_readScan 223 = .ok (.goto 4, 3) := by decide +kernel
theorem d_Model_readScan_226 : decode c_Model_readScan 226 = .ok (.iconst 0, 1) := by decide +kernel
theorem d_Model_readScan_227 : decode c_Model_readScan 227 = .ok (.invokevirtual 140, 3) := by decide +kernel
theorem d_Model_readScan_230 : decode c_Model_readScan 230 = .ok (.iinc 3 1, 3) := by decide +kernel
theorem d_Model_readScan_233 : decode c_Model_readScan 233 = .ok (.goto (-188), 3) := by decide +kernel
theorem d_Model_readScan_236 : decode c_Model_readScan 236 = .ok (.aload_n 0, 1) := by decide +kernel
theorem d_Model_readScan_237 : decode c_Model_readScan 237 = .ok (.getfield 86, 3) := by decide +kernel
theorem d_Model_readScan_240 : decode c_Model_readScan 240 = .ok (.sipush 194, 3) := by decide +kernel
theorem d_Model_readScan_243 : decode c_Model_readScan 243 = .ok (.if_icmp .ne 7, 3) := by decide +kernel
theorem d_Model_readScan_246 : decode c_Model_readScan 246 = .ok (.iconst 1, 1) := by decide +kernel
theorem d_Model_readScan_247 : decode c_Model_readScan 247 = .ok (.goto 4, 3) := by decide +kernel
theorem d_Model_readScan_250 : decode c_Model_readScan 250 = .ok (.iconst 0, 1) := by decide +kernel
theorem d_Model_readScan_251 : decode c_Model_readScan 251 = .ok (.istore_n 3, 1) := by decide +kernel
theorem d_Model_readScan_252 : decode c_Model_readScan 252 = .ok (.aload_n 0, 1) := by decide +kernel
theorem d_Model_readScan_253 : decode c_Model_readScan 253 = .ok (.aload_n 0, 1) := by decide +kernel
theorem d_Model_readScan_254 : decode c_Model_readScan 254 = .ok (.invokevirtual 128, 3) := by decide +kernel
theorem d_Model_readScan_257 : decode c_Model_readScan 257 = .ok (.putfield 156, 3) := by decide +kernel
theorem d_Model_readScan_260 : decode c_Model_readScan 260 = .ok (.aload_n 0, 1) := by decide +kernel
theorem d_Model_readScan_261 : decode c_Model_readScan 261 = .ok (.aload_n 0, 1) := by decide +kernel
theorem d_Model_readScan_262 : decode c_Model_readScan 262 = .ok (.getfield 107, 3) := by decide +kernel
theorem d_Model_readScan_265 : decode c_Model_readScan 265 = .ok (.ifCond .gt 41, 3) := by decide +kernel
theorem d_Model_readScan_268 : decode c_Model_readScan 268 = .ok (.iload_n 3, 1) := by decide +kernel
theorem d_Model_readScan_269 : decode c_Model_readScan 269 = .ok (.ifCond .eq 30, 3) := by decide +kernel
theorem d_Model_readScan_272 : decode c_Model_readScan 272 = .ok (.aload_n 0, 1) := by decide +kernel
theorem d_Model_readScan_273 : decode c_Model_readScan 273 = .ok (.getfield 156, 3) := by decide +kernel
theorem d_Model_readScan_276 : decode c_Model_readScan 276 = .ok (.bipush 64, 2) := by decide +kernel
theorem d_Model_readScan_278 : decode c_Model_readScan 278 = .ok (.if_icmp .ge 32, 3) := by decide +kernel
theorem d_Model_readScan_281 : decode c_Model_readScan 281 = .ok (.aload_n 0, 1) := by decide +kernel
theorem d_Model_readScan_282 : decode c_Model_readScan 282 = .ok (.getfield 156, 3) := by decide +kernel
theorem d_Model_readScan_285 : decode c_Model_readScan 285 = .ok (.ifCond .eq 21, 3) := by decide +kernel
theorem d_Model_readScan_288 : decode c_Model_readScan 288 = .ok (.aload_n 0, 1) := by decide +kernel
theorem d_Model_readScan_289 : decode c_Model_readScan 289 = .ok (.getfield 150, 3) := by decide +kernel
theorem d_Model_readScan_292 : decode c_Model_readScan 292 = .ok (.iconst 1, 1) := by decide +kernel
theorem d_Model_readScan_293 : decode c_Model_readScan 293 = .ok (.if_icmp .ne 17, 3) := by decide +kernel
theorem d_Model_readScan_296 : decode c_Model_readScan 296 = .ok (.goto 10, 3) := by decide +kernel
theorem d_Model_readScan_299 : decode c_Model_readScan 299 = .ok (.aload_n 0, 1) := by decide +kernel
theorem d_Model_readScan_300 : decode c_Model_readScan 300 = .ok (.getfield 156, 3) := by decide +kernel
theorem d_Model_readScan_303 : decode c_Model_readScan 303 = .ok (.ifCond .ne 7, 3) := by decide +kernel
theorem d_Model_readScan_306 : decode c_Model_readScan 306 = .ok (.iconst 1, 1) := by decide +kernel
theorem d_Model_readScan_307 : decode c_Model_readScan 307 = .ok (.goto 4, 3) := by decide +kernel
theorem d_Model_readScan_310 : decode c_Model_readScan 310 = .ok (.iconst 0, 1) := by decide +kernel
theorem d_Model_readScan_311 : decode c_Model_readScan 311 = .ok (.invokevirtual 140, 3) := by decide +kernel
theorem d_Model_readScan_314 : decode c_Model_readScan 314 = .ok (.aload_n 0, 1) := by decide +kernel
theorem d_Model_readScan_315 : decode c_Model_readScan 315 = .ok (.aload_n 0, 1) := by decide +kernel
theorem d_Model_readScan_316 : decode c_Model_readScan 316 = .ok (.invokevirtual 128, 3) := by decide +kernel
theorem d_Model_readScan_319 : decode c_Model_readScan 319 = .ok (.putfield 159, 3) := by decide +kernel
theorem d_Model_readScan_322 : decode c_Model_readScan 322 = .ok (.aload_n 0, 1) := by decide +kernel
theorem d_Model_readScan_323 : decode c_Model_readScan 323 = .ok (.aload_n 0, 1) := by decide +kernel
theorem d_Model_readScan_324 : decode c_Model_readScan 324 = .ok (.getfield 107, 3) := by decide +kernel
theorem d_Model_readScan_327 : decode c_Model_readScan 327 = .ok (.ifCond .gt 56, 3) := by decide +kernel
theorem d_Model_readScan_330 : decode c_Model_readScan 330 = .ok (.iload_n 3, 1) := by decide +kernel
theorem d_Model_readScan_331 : decode c_Model_readScan 331 = .ok (.ifCond .ne 15, 3) := by decide +kernel
theorem d_Model_readScan_334 : decode c_Model_readScan 334 = .ok (.aload_n 0, 1) := by decide +kernel
theorem d_Model_readScan_335 : decode c_Model_readScan 335 = .ok (.getfield 159, 3) := by decide +kernel
theorem d_Model_readScan_338 : decode c_Model_readScan 338 = .ok (.bipush 63, 2) := by decide +kernel
theorem d_Model_readScan_340 : decode c_Model_readScan 340 = .ok (.if_icmp .ne 47, 3) := by decide +kernel
theorem d_Model_readScan_343 : decode c_Model_readScan 343 = .ok (.goto 40, 3) := by decide +kernel
theorem d_Model_readScan_346 : decode c_Model_readScan 346 = .ok (.aload_n 0, 1) := by decide +kernel
theorem d_Model_readScan_347 : decode c_Model_readScan 347 = .ok (.getfield 156, 3) := by decide +kernel
theorem d_Model_readScan_350 : decode c_Model_readScan 350 = .ok (.ifCond .ne 13, 3) := by decide +kernel
theorem d_Model_readScan_353 : decode c_Model_readScan 353 = .ok (.aload_n 0, 1) := by decide +kernel
theorem d_Model_readScan_354 : decode c_Model_readScan 354 = .ok (.getfield 159, 3) := by decide +kernel
theorem d_Model_readScan_357 : decode c_Model_readScan 357 = .ok (.ifCond .ne 30, 3) := by decide +kernel
theorem d_Model_readScan_360 : decode c_Model_readScan 360 = .ok (.goto 23, 3) := by decide +kernel
theorem d_Model_readScan_363 : decode c_Model_readScan 363 = .ok (.aload_n 0, 1) := by decide +kernel
theorem d_Model_readScan_364 : decode c_Model_readScan 364 = .ok (.getfield 159, 3) := by decide +kernel
theorem d_Model_readScan_367 : decode c_Model_readScan 367 = .ok (.aload_n 0, 1) := by decide +kernel
theorem d_Model_readScan_368 : decode c_Model_readScan 368 = .ok (.getfield 156, 3) := by decide +kernel
theorem d_Model_readScan_371 : decode c_Model_readScan 371 = .ok (.if_icmp .lt 16, 3) := by decide +kernel
theorem d_Model_readScan_374 : decode c_Model_readScan 374 = .ok (.aload_n 0, 1) := by decide +kernel
theorem d_Model_readScan_375 : decode c_Model_readScan 375 = .ok (.getfield 159, 3) := by decide +kernel
theorem d_Model_readScan_378 : decode c_Model_readScan 378 = .ok (.bipush 64, 2) := by decide +kernel
theorem d_Model_readScan_380 : decode c_Model_readScan 380 = .ok (.if_icmp .ge 7, 3) := by decide +kernel
theorem d_Model_readScan_383 : decode c_Model_readScan 383 = .ok (.iconst 1, 1) := by decide +kernel
theorem d_Model_readScan_384 : decode c_Model_readScan 384 = .ok (.goto 4, 3) := by decide +kernel
theorem d_Model_readScan_387 : decode c_Model_readScan 387 = .ok (.iconst 0, 1) := by decide +kernel
theorem d_Model_readScan_388 : decode c_Model_readScan 388 = .ok (.invokevirtual 140, 3) := by decide +kernel
theorem d_Model_readScan_391 : decode c_Model_readScan 391 = .ok (.aload_n 0, 1) := by decide +kernel
theorem d_Model_readScan_392 : decode c_Model_readScan 392 = .ok (.invokevirtual 128, 3) := by decide +kernel
theorem d_Model_readScan_395 : decode c_Model_readScan 395 = .ok (.istore 4, 2) := by decide +kernel
theorem d_Model_readScan_397 : decode c_Model_readScan 397 = .ok (.aload_n 0, 1) := by decide +kernel
theorem d_Model_readScan_398 : decode c_Model_readScan 398 = .ok (.iload 4, 2) := by decide +kernel
theorem d_Model_readScan_400 : decode c_Model_readScan 400 = .ok (.bipush 16, 2) := by decide +kernel
theorem d_Model_readScan_402 : decode c_Model_readScan 402 = .ok (.idiv, 1) := by decide +kernel
theorem d_Model_readScan_403 : decode c_Model_readScan 403 = .ok (.putfield 162, 3) := by decide +kernel
theorem d_Model_readScan_406 : decode c_Model_readScan 406 = .ok (.aload_n 0, 1) := by decide +kernel
theorem d_Model_readScan_407 : decode c_Model_readScan 407 = .ok (.iload 4, 2) := by decide +kernel
theorem d_Model_readScan_409 : decode c_Model_readScan 409 = .ok (.bipush 16, 2) := by decide +kernel
theorem d_Model_readScan_411 : decode c_Model_readScan 411 = .ok (.irem, 1) := by decide +kernel
theorem d_Model_readScan_412 : decode c_Model_readScan 412 = .ok (.putfield 165, 3) := by decide +kernel
theorem d_Model_readScan_415 : decode c_Model_readScan 415 = .ok (.aload_n 0, 1) := by decide +kernel
theorem d_Model_readScan_416 : decode c_Model_readScan 416 = .ok (.aload_n 0, 1) := by decide +kernel
theorem d_Model_readScan_417 : decode c_Model_readScan 417 = .ok (.getfield 107, 3) := by decide +kernel
theorem d_Model_readScan_420 : decode c_Model_readScan 420 = .ok (.ifCond .gt 44, 3) := by decide +kernel
theorem d_Model_readScan_423 : decode c_Model_readScan 423 = .ok (.iload_n 3, 1) := by decide +kernel
theorem d_Model_readScan_424 : decode c_Model_readScan 424 = .ok (.ifCond .eq 35, 3) := by decide +kernel
theorem d_Model_readScan_427 : decode c_Model_readScan 427 = .ok (.aload_n 0, 1) := by decide +kernel
theorem d_Model_readScan_428 : decode c_Model_readScan 428 = .ok (.getfield 165, 3) := by decide +kernel
theorem d_Model_readScan_431 : decode c_Model_readScan 431 = .ok (.bipush 13, 2) := by decide +kernel
theorem d_Model_readScan_433 : decode c_Model_readScan 433 = .ok (.if_icmp .gt 35, 3) := by decide +kernel
theorem d_Model_readScan_436 : decode c_Model_readScan 436 = .ok (.aload_n 0, 1) := by decide +kernel
theorem d_Model_readScan_437 : decode c_Model_readScan 437 = .ok (.getfield 162, 3) := by decide +kernel
theorem d_Model_readScan_440 : decode c_Model_readScan 440 = .ok (.ifCond .eq 24, 3) := by decide +kernel
theorem d_Model_readScan_443 : decode c_Model_readScan 443 = .ok (.aload_n 0, 1) := by decide +kernel
theorem d_Model_readScan_444 : decode c_Model_readScan 444 = .ok (.getfield 162, 3) := by decide +kernel
theorem d_Model_readScan_447 : decode c_Model_readScan 447 = .ok (.aload_n 0, 1) := by decide +kernel
theorem d_Model_readScan_448 : decode c_Model_readScan 448 = .ok (.getfield 165, 3) := by decide +kernel
theorem d_Model_readScan_451 : decode c_Model_readScan 451 = .ok (.iconst 1, 1) := by decide +kernel
theorem d_Model_readScan_452 : decode c_Model_readScan 452 = .ok (.iadd, 1) := by decide +kernel
theorem d_Model_readScan_453 : decode c_Model_readScan 453 = .ok (.if_icmp .ne 15, 3) := by decide +kernel
theorem d_Model_readScan_456 : decode c_Model_readScan 456 = .ok (.goto 8, 3) := by decide +kernel
theorem d_Model_readScan_459 : decode c_Model_readScan 459 = .ok (.iload 4, 2) := by decide +kernel
theorem d_Model_readScan_461 : decode c_Model_readScan 461 = .ok (.ifCond .ne 7, 3) := by decide +kernel
theorem d_Model_readScan_464 : decode c_Model_readScan 464 = .ok (.iconst 1, 1) := by decide +kernel
theorem d_Model_readScan_465 : decode c_Model_readScan 465 = .ok (.goto 4, 3) := by decide +kernel
theorem d_Model_readScan_468 : decode c_Model_readScan 468 = .ok (.iconst 0, 1) := by decide +kernel
theorem d_Model_readScan_469 : decode c_Model_readScan 469 = .ok (.invokevirtual 140, 3) := by decide +kernel
theorem d_Model_readScan_472 : decode c_Model_readScan 472 = .ok (.iconst 0, 1) := by decide +kernel
theorem d_Model_readScan_473 : decode c_Model_readScan 473 = .ok (.istore 5, 2) := by decide +kernel
theorem d_Model_readScan_475 : decode c_Model_readScan 475 = .ok (.iload 5, 2) := by decide +kernel
theorem d_Model_readScan_477 : decode c_Model_readScan 477 = .ok (.aload_n 0, 1) := by decide +kernel
theorem d_Model_readScan_478 : decode c_Model_readScan 478 = .ok (.getfield 150, 3) := by decide +kernel
theorem d_Model_readScan_481 : decode c_Model_readScan 481 = .ok (.if_icmp .ge 23, 3) := by decide +kernel
theorem d_Model_readScan_484 : decode c_Model_readScan 484 = .ok (.aload_n 0, 1) := by decide +kernel
theorem d_Model_readScan_485 : decode c_Model_readScan 485 = .ok (.getfield 107, 3) := by decide +kernel
theorem d_Model_readScan_488 : decode c_Model_readScan 488 = .ok (.ifCond .ne 16, 3) := by decide +kernel
theorem d_Model_readScan_491 : decode c_Model_readScan 491 = .ok (.aload_n 0, 1) := by decide +kernel
theorem d_Model_readScan_492 : decode c_Model_readScan 492 = .ok (.iload 5, 2) := by decide +kernel
theorem d_Model_readScan_494 : decode c_Model_readScan 494 = .ok (.iload_n 3, 1) := by decide +kernel
theorem d_Model_readScan_495 : decode c_Model_readScan 495 = .ok (.invokevirtual 168, 3) := by decide +kernel
theorem d_Model_readScan_498 : decode c_Model_readScan 498 = .ok (.iinc 5 1, 3) := by decide +kernel
theorem d_Model_readScan_501 : decode c_Model_readScan 501 = .ok (.goto (-26), 3) := by decide +kernel
theorem d_Model_readScan_504 : decode c_Model_readScan 504 = .ok (.iconst 0, 1) := by decide +kernel
theorem d_Model_readScan_505 : decode c_Model_readScan 505 = .ok (.istore 5, 2) := by decide +kernel
theorem d_Model_readScan_507 : decode c_Model_readScan 507 = .ok (.iload 5, 2) := by decide +kernel
theorem d_Model_readScan_509 : decode c_Model_readScan 509 = .ok (.aload_n 0, 1) := by decide +kernel
theorem d_Model_readScan_510 : decode c_Model_readScan 510 = .ok (.getfield 150, 3) := by decide +kernel
theorem d_Model_readScan_513 : decode c_Model_readScan 513 = .ok (.if_icmp .ge 22, 3) := by decide +kernel
theorem d_Model_readScan_516 : decode c_Model_readScan 516 = .ok (.aload_n 0, 1) := by decide +kernel
theorem d_Model_readScan_517 : decode c_Model_readScan 517 = .ok (.getfield 107, 3) := by decide +kernel
theorem d_Model_readScan_520 : decode c_Model_readScan 520 = .ok (.ifCond .ne 15, 3) := by decide +kernel
theorem d_Model_readScan_523 : decode c_Model_readScan 523 = .ok (.aload_n 0, 1) := by decide +kernel
theorem d_Model_readScan_524 : decode c_Model_readScan 524 = .ok (.iload 5, 2) := by decide +kernel
theorem d_Model_readScan_526 : decode c_Model_readScan 526 = .ok (.invokevirtual 172, 3) := by decide +kernel
theorem d_Model_readScan_529 : decode c_Model_readScan 529 = .ok (.iinc 5 1, 3) := by decide +kernel
theorem d_Model_readScan_532 : decode c_Model_readScan 532 = .ok (.goto (-25), 3) := by decide +kernel
theorem d_Model_readScan_535 : decode c_Model_readScan 535 = .ok (.return_, 1) := by decide +kernel
theorem d_Model_named_0 : decode c_Model_named 0 = .ok (.iconst (-1), 1) := by decide +kernel
theorem d_Model_named_1 : decode c_Model_named 1 = .ok (.istore_n 2, 1) := by decide +kernel
theorem d_Model_named_2 : decode c_Model_named 2 = .ok (.iconst 0, 1) := by decide +kernel
theorem d_Model_named_3 : decode c_Model_named 3 = .ok (.istore_n 3, 1) := by decide +kernel
theorem d_Model_named_4 : decode c_Model_named 4 = .ok (.iload_n 3, 1) := by decide +kernel
theorem d_Model_named_5 : decode c_Model_named 5 = .ok (.aload_n 0, 1) := by decide +kernel
theorem d_Model_named_6 : decode c_Model_named 6 = .ok (.getfield 95, 3) := by decide +kernel
theorem d_Model_named_9 : decode c_Model_named 9 = .ok (.if_icmp .ge 25, 3) := by decide +kernel
theorem d_Model_named_12 : decode c_Model_named 12 = .ok (.aload_n 0, 1) := by decide +kernel
theorem d_Model_named_13 : decode c_Model_named 13 = .ok (.getfield 21, 3) := by decide +kernel
theorem d_Model_named_16 : decode c_Model_named 16 = .ok (.iload_n 3, 1) := by decide +kernel
theorem d_Model_named_17 : decode c_Model_named 17 = .ok (.iaload, 1) := by decide +kernel
theorem d_Model_named_18 : decode c_Model_named 18 = .ok (.iload_n 1, 1) := by decide +kernel
theorem d_Model_named_19 : decode c_Model_named 19 = .ok (.if_icmp .ne 7, 3) := by decide +kernel
theorem d_Model_named_22 : decode c_Model_named 22 = .ok (.iload_n 3, 1) := by decide +kernel
theorem d_Model_named_23 : decode c_Model_named 23 = .ok (.goto 4, 3) := by decide +kernel
theorem d_Model_named_26 : decode c_Model_named 26 = .ok (.iload_n 2, 1) := by decide +kernel
theorem d_Model_named_27 : decode c_Model_named 27 = .ok (.istore_n 2, 1) := by decide +kernel
theorem d_Model_named_28 : decode c_Model_named 28 = .ok (.iinc 3 1, 3) := by decide +kernel
theorem d_Model_named_31 : decode c_Model_named 31 = .ok (.goto (-27), 3) := by decide +kernel
theorem d_Model_named_34 : decode c_Model_named 34 = .ok (.iload_n 2, 1) := by decide +kernel
theorem d_Model_named_35 : decode c_Model_named 35 = .ok (.ireturn, 1) := by decide +kernel
theorem d_Model_order_0 : decode c_Model_order 0 = .ok (.bipush 64, 2) := by decide +kernel
theorem d_Model_order_2 : decode c_Model_order 2 = .ok (.aload_n 0, 1) := by decide +kernel
theorem d_Model_order_3 : decode c_Model_order 3 = .ok (.getfield 59, 3) := by decide +kernel
theorem d_Model_order_6 : decode c_Model_order 6 = .ok (.iload_n 1, 1) := by decide +kernel
theorem d_Model_order_7 : decode c_Model_order 7 = .ok (.iaload, 1) := by decide +kernel
theorem d_Model_order_8 : decode c_Model_order 8 = .ok (.imul, 1) := by decide +kernel
theorem d_Model_order_9 : decode c_Model_order 9 = .ok (.istore_n 3, 1) := by decide +kernel
theorem d_Model_order_10 : decode c_Model_order 10 = .ok (.iload_n 2, 1) := by decide +kernel
theorem d_Model_order_11 : decode c_Model_order 11 = .ok (.ifCond .eq 22, 3) := by decide +kernel
theorem d_Model_order_14 : decode c_Model_order 14 = .ok (.aload_n 0, 1) := by decide +kernel
theorem d_Model_order_15 : decode c_Model_order 15 = .ok (.getfield 156, 3) := by decide +kernel
theorem d_Model_order_18 : decode c_Model_order 18 = .ok (.ifCond .le 38, 3) := by decide +kernel
theorem d_Model_order_21 : decode c_Model_order 21 = .ok (.aload_n 0, 1) := by decide +kernel
theorem d_Model_order_22 : decode c_Model_order 22 = .ok (.getfield 56, 3) := by decide +kernel
theorem d_Model_order_25 : decode c_Model_order 25 = .ok (.iload_n 3, 1) := by decide +kernel
theorem d_Model_order_26 : decode c_Model_order 26 = .ok (.iaload, 1) := by decide +kernel
theorem d_Model_order_27 : decode c_Model_order 27 = .ok (.ifCond .ge 29, 3) := by decide +kernel
theorem d_Model_order_30 : decode c_Model_order 30 = .ok (.goto 12, 3) := by decide +kernel
theorem d_Model_order_33 : decode c_Model_order 33 = .ok (.aload_n 0, 1) := by decide +kernel
theorem d_Model_order_34 : decode c_Model_order 34 = .ok (.getfield 56, 3) := by decide +kernel
theorem d_Model_order_37 : decode c_Model_order 37 = .ok (.iload_n 3, 1) := by decide +kernel
theorem d_Model_order_38 : decode c_Model_order 38 = .ok (.iaload, 1) := by decide +kernel
theorem d_Model_order_39 : decode c_Model_order 39 = .ok (.ifCond .lt 17, 3) := by decide +kernel
theorem d_Model_order_42 : decode c_Model_order 42 = .ok (.aload_n 0, 1) := by decide +kernel
theorem d_Model_order_43 : decode c_Model_order 43 = .ok (.bipush 7, 2) := by decide +kernel
theorem d_Model_order_45 : decode c_Model_order 45 = .ok (.aload_n 0, 1) := by decide +kernel
theorem d_Model_order_46 : decode c_Model_order 46 = .ok (.getfield 68, 3) := by decide +kernel
theorem d_Model_order_49 : decode c_Model_order 49 = .ok (.iload_n 1, 1) := by decide +kernel
theorem d_Model_order_50 : decode c_Model_order 50 = .ok (.iaload, 1) := by decide +kernel
theorem d_Model_order_51 : decode c_Model_order 51 = .ok (.invokevirtual 120, 3) := by decide +kernel
theorem d_Model_order_54 : decode c_Model_order 54 = .ok (.istore 4, 2) := by decide +kernel
theorem d_Model_order_56 : decode c_Model_order 56 = .ok (.aload_n 0, 1) := by decide +kernel
theorem d_Model_order_57 : decode c_Model_order 57 = .ok (.getfield 156, 3) := by decide +kernel
theorem d_Model_order_60 : decode c_Model_order 60 = .ok (.istore 4, 2) := by decide +kernel
theorem d_Model_order_62 : decode c_Model_order 62 = .ok (.iload 4, 2) := by decide +kernel
theorem d_Model_order_64 : decode c_Model_order 64 = .ok (.aload_n 0, 1) := by decide +kernel
theorem d_Model_order_65 : decode c_Model_order 65 = .ok (.getfield 159, 3) := by decide +kernel
theorem d_Model_order_68 : decode c_Model_order 68 = .ok (.if_icmp .gt 95, 3) := by decide +kernel
theorem d_Model_order_71 : decode c_Model_order 71 = .ok (.iload_n 2, 1) := by decide +kernel
theorem d_Model_order_72 : decode c_Model_order 72 = .ok (.ifCond .eq 91, 3) := by decide +kernel
theorem d_Model_order_75 : decode c_Model_order 75 = .ok (.aload_n 0, 1) := by decide +kernel
theorem d_Model_order_76 : decode c_Model_order 76 = .ok (.getfield 56, 3) := by decide +kernel
theorem d_Model_order_79 : decode c_Model_order 79 = .ok (.iload_n 3, 1) := by decide +kernel
theorem d_Model_order_80 : decode c_Model_order 80 = .ok (.iload 4, 2) := by decide +kernel
theorem d_Model_order_82 : decode c_Model_order 82 = .ok (.iadd, 1) := by decide +kernel
theorem d_Model_order_83 : decode c_Model_order 83 = .ok (.iaload, 1) := by decide +kernel
theorem d_Model_order_84 : decode c_Model_order 84 = .ok (.ifCond .ge 18, 3) := by decide +kernel
theorem d_Model_order_87 : decode c_Model_order 87 = .ok (.aload_n 0, 1) := by decide +kernel
theorem d_Model_order_88 : decode c_Model_order 88 = .ok (.getfield 162, 3) := by decide +kernel
theorem d_Model_order_91 : decode c_Model_order 91 = .ok (.ifCond .ne 7, 3) := by decide +kernel
theorem d_Model_order_94 : decode c_Model_order 94 = .ok (.iconst 1, 1) := by decide +kernel
theorem d_Model_order_95 : decode c_Model_order 95 = .ok (.goto 41, 3) := by decide +kernel
theorem d_Model_order_98 : decode c_Model_order 98 = .ok (.iconst 0, 1) := by decide +kernel
theorem d_Model_order_99 : decode c_Model_order 99 = .ok (.goto 37, 3) := by decide +kernel
theorem d_Model_order_102 : decode c_Model_order 102 = .ok (.aload_n 0, 1) := by decide +kernel
theorem d_Model_order_103 : decode c_Model_order 103 = .ok (.getfield 162, 3) := by decide +kernel
theorem d_Model_order_106 : decode c_Model_order 106 = .ok (.aload_n 0, 1) := by decide +kernel
theorem d_Model_order_107 : decode c_Model_order 107 = .ok (.getfield 165, 3) := by decide +kernel
theorem d_Model_order_110 : decode c_Model_order 110 = .ok (.iconst 1, 1) := by decide +kernel
theorem d_Model_order_111 : decode c_Model_order 111 = .ok (.iadd, 1) := by decide +kernel
theorem d_Model_order_112 : decode c_Model_order 112 = .ok (.if_icmp .ne 23, 3) := by decide +kernel
theorem d_Model_order_115 : decode c_Model_order 115 = .ok (.aload_n 0, 1) := by decide +kernel
theorem d_Model_order_116 : decode c_Model_order 116 = .ok (.getfield 56, 3) := by decide +kernel
theorem d_Model_order_119 : decode c_Model_order 119 = .ok (.iload_n 3, 1) := by decide +kernel
theorem d_Model_order_120 : decode c_Model_order 120 = .ok (.iload 4, 2) := by decide +kernel
theorem d_Model_order_122 : decode c_Model_order 122 = .ok (.iadd, 1) := by decide +kernel
theorem d_Model_order_123 : decode c_Model_order 123 = .ok (.iaload, 1) := by decide +kernel
theorem d_Model_order_124 : decode c_Model_order 124 = .ok (.aload_n 0, 1) := by decide +kernel
theorem d_Model_order_125 : decode c_Model_order 125 = .ok (.getfield 162, 3) := by decide +kernel
theorem d_Model_order_128 : decode c_Model_order 128 = .ok (.if_icmp .ne 7, 3) := by decide +kernel
theorem d_Model_order_131 : decode c_Model_order 131 = .ok (.iconst 1, 1) := by decide +kernel
theorem d_Model_order_132 : decode c_Model_order 132 = .ok (.goto 4, 3) := by decide +kernel
theorem d_Model_order_135 : decode c_Model_order 135 = .ok (.iconst 0, 1) := by decide +kernel
theorem d_Model_order_136 : decode c_Model_order 136 = .ok (.istore 5, 2) := by decide +kernel
theorem d_Model_order_138 : decode c_Model_order 138 = .ok (.iload 5, 2) := by decide +kernel
theorem d_Model_order_140 : decode c_Model_order 140 = .ok (.ifCond .ne 17, 3) := by decide +kernel
theorem d_Model_order_143 : decode c_Model_order 143 = .ok (.aload_n 0, 1) := by decide +kernel
theorem d_Model_order_144 : decode c_Model_order 144 = .ok (.bipush 6, 2) := by decide +kernel
theorem d_Model_order_146 : decode c_Model_order 146 = .ok (.aload_n 0, 1) := by decide +kernel
theorem d_Model_order_147 : decode c_Model_order 147 = .ok (.getfield 113, 3) := by decide +kernel
theorem d_Model_order_150 : decode c_Model_order 150 = .ok (.iconst 1, 1) := by decide +kernel
theorem d_Model_order_151 : decode c_Model_order 151 = .ok (.isub, 1) := by decide +kernel
theorem d_Model_order_152 : decode c_Model_order 152 = .ok (.invokevirtual 120, 3) := by decide +kernel
theorem d_Model_order_155 : decode c_Model_order 155 = .ok (.istore 6, 2) := by decide +kernel
theorem d_Model_order_157 : decode c_Model_order 157 = .ok (.iinc 4 1, 3) := by decide +kernel
theorem d_Model_order_160 : decode c_Model_order 160 = .ok (.goto (-98), 3) := by decide +kernel
theorem d_Model_order_163 : decode c_Model_order 163 = .ok (.return_, 1) := by decide +kernel
theorem d_Model_needs_0 : decode c_Model_needs 0 = .ok (.aload_n 0, 1) := by decide +kernel
theorem d_Model_needs_1 : decode c_Model_needs 1 = .ok (.getfield 33, 3) := by decide +kernel
theorem d_Model_needs_4 : decode c_Model_needs 4 = .ok (.aload_n 0, 1) := by decide +kernel
theorem d_Model_needs_5 : decode c_Model_needs 5 = .ok (.getfield 30, 3) := by decide +kernel
theorem d_Model_needs_8 : decode c_Model_needs 8 = .ok (.aload_n 0, 1) := by decide +kernel
theorem d_Model_needs_9 : decode c_Model_needs 9 = .ok (.getfield 59, 3) := by decide +kernel
theorem d_Model_needs_12 : decode c_Model_needs 12 = .ok (.iload_n 1, 1) := by decide +kernel
theorem d_Model_needs_13 : decode c_Model_needs 13 = .ok (.iaload, 1) := by decide +kernel
theorem d_Model_needs_14 : decode c_Model_needs 14 = .ok (.iaload, 1) := by decide +kernel
theorem d_Model_needs_15 : decode c_Model_needs 15 = .ok (.baload, 1) := by decide +kernel
theorem d_Model_needs_16 : decode c_Model_needs 16 = .ok (.ifCond .ne 16, 3) := by decide +kernel
theorem d_Model_needs_19 : decode c_Model_needs 19 = .ok (.aload_n 0, 1) := by decide +kernel
theorem d_Model_needs_20 : decode c_Model_needs 20 = .ok (.bipush 8, 2) := by decide +kernel
theorem d_Model_needs_22 : decode c_Model_needs 22 = .ok (.aload_n 0, 1) := by decide +kernel
theorem d_Model_needs_23 : decode c_Model_needs 23 = .ok (.getfield 68, 3) := by decide +kernel
theorem d_Model_needs_26 : decode c_Model_needs 26 = .ok (.iload_n 1, 1) := by decide +kernel
theorem d_Model_needs_27 : decode c_Model_needs 27 = .ok (.iaload, 1) := by decide +kernel
theorem d_Model_needs_28 : decode c_Model_needs 28 = .ok (.invokevirtual 120, 3) := by decide +kernel
theorem d_Model_needs_31 : decode c_Model_needs 31 = .ok (.istore_n 2, 1) := by decide +kernel
theorem d_Model_needs_32 : decode c_Model_needs 32 = .ok (.aload_n 0, 1) := by decide +kernel
theorem d_Model_needs_33 : decode c_Model_needs 33 = .ok (.getfield 156, 3) := by decide +kernel
theorem d_Model_needs_36 : decode c_Model_needs 36 = .ok (.ifCond .ne 14, 3) := by decide +kernel
theorem d_Model_needs_39 : decode c_Model_needs 39 = .ok (.aload_n 0, 1) := by decide +kernel
theorem d_Model_needs_40 : decode c_Model_needs 40 = .ok (.getfield 162, 3) := by decide +kernel
theorem d_Model_needs_43 : decode c_Model_needs 43 = .ok (.ifCond .ne 7, 3) := by decide +kernel
theorem d_Model_needs_46 : decode c_Model_needs 46 = .ok (.iconst 1, 1) := by decide +kernel
theorem d_Model_needs_47 : decode c_Model_needs 47 = .ok (.goto 4, 3) := by decide +kernel
theorem d_Model_needs_50 : decode c_Model_needs 50 = .ok (.iconst 0, 1) := by decide +kernel
theorem d_Model_needs_51 : decode c_Model_needs 51 = .ok (.istore_n 2, 1) := by decide +kernel
theorem d_Model_needs_52 : decode c_Model_needs 52 = .ok (.iload_n 2, 1) := by decide +kernel
theorem d_Model_needs_53 : decode c_Model_needs 53 = .ok (.ifCond .eq 17, 3) := by decide +kernel
theorem d_Model_needs_56 : decode c_Model_needs 56 = .ok (.aload_n 0, 1) := by decide +kernel
theorem d_Model_needs_57 : decode c_Model_needs 57 = .ok (.getfield 40, 3) := by decide +kernel
theorem d_Model_needs_60 : decode c_Model_needs 60 = .ok (.aload_n 0, 1) := by decide +kernel
theorem d_Model_needs_61 : decode c_Model_needs 61 = .ok (.getfield 62, 3) := by decide +kernel
theorem d_Model_needs_64 : decode c_Model_needs 64 = .ok (.iload_n 1, 1) := by decide +kernel
theorem d_Model_needs_65 : decode c_Model_needs 65 = .ok (.iaload, 1) := by decide +kernel
theorem d_Model_needs_66 : decode c_Model_needs 66 = .ok (.baload, 1) := by decide +kernel
theorem d_Model_needs_67 : decode c_Model_needs 67 = .ok (.ifCond .eq 26, 3) := by decide +kernel
theorem d_Model_needs_70 : decode c_Model_needs 70 = .ok (.aload_n 0, 1) := by decide +kernel
theorem d_Model_needs_71 : decode c_Model_needs 71 = .ok (.getfield 159, 3) := by decide +kernel
theorem d_Model_needs_74 : decode c_Model_needs 74 = .ok (.ifCond .le 34, 3) := by decide +kernel
theorem d_Model_needs_77 : decode c_Model_needs 77 = .ok (.aload_n 0, 1) := by decide +kernel
theorem d_Model_needs_78 : decode c_Model_needs 78 = .ok (.getfield 40, 3) := by decide +kernel
theorem d_Model_needs_81 : decode c_Model_needs 81 = .ok (.iconst 4, 1) := by decide +kernel
theorem d_Model_needs_82 : decode c_Model_needs 82 = .ok (.aload_n 0, 1) := by decide +kernel
theorem d_Model_needs_83 : decode c_Model_needs 83 = .ok (.getfield 65, 3) := by decide +kernel
theorem d_Model_needs_86 : decode c_Model_needs 86 = .ok (.iload_n 1, 1) := by decide +kernel
theorem d_Model_needs_87 : decode c_Model_needs 87 = .ok (.iaload, 1) := by decide +kernel
theorem d_Model_needs_88 : decode c_Model_needs 88 = .ok (.iadd, 1) := by decide +kernel
theorem d_Model_needs_89 : decode c_Model_needs 89 = .ok (.baload, 1) := by decide +kernel
theorem d_Model_needs_90 : decode c_Model_needs 90 = .ok (.ifCond .ne 18, 3) := by decide +kernel
theorem d_Model_needs_93 : decode c_Model_needs 93 = .ok (.aload_n 0, 1) := by decide +kernel
theorem d_Model_needs_94 : decode c_Model_needs 94 = .ok (.bipush 8, 2) := by decide +kernel
theorem d_Model_needs_96 : decode c_Model_needs 96 = .ok (.aload_n 0, 1) := by decide +kernel
theorem d_Model_needs_97 : decode c_Model_needs 97 = .ok (.getfield 68, 3) := by decide +kernel
theorem d_Model_needs_100 : decode c_Model_needs 100 = .ok (.iload_n 1, 1) := by decide +kernel
theorem d_Model_needs_101 : decode c_Model_needs 101 = .ok (.iaload, 1) := by decide +kernel
theorem d_Model_needs_102 : decode c_Model_needs 102 = .ok (.iconst 1, 1) := by decide +kernel
theorem d_Model_needs_103 : decode c_Model_needs 103 = .ok (.iadd, 1) := by decide +kernel
theorem d_Model_needs_104 : decode c_Model_needs 104 = .ok (.invokevirtual 120, 3) := by decide +kernel
theorem d_Model_needs_107 : decode c_Model_needs 107 = .ok (.istore_n 3, 1) := by decide +kernel
theorem d_Model_needs_108 : decode c_Model_needs 108 = .ok (.return_, 1) := by decide +kernel
theorem d_Model_any_0 : decode c_Model_any 0 = .ok (.aload_n 0, 1) := by decide +kernel
theorem d_Model_any_1 : decode c_Model_any 1 = .ok (.getfield 107, 3) := by decide +kernel
theorem d_Model_any_4 : decode c_Model_any 4 = .ok (.ifCond .ne 22, 3) := by decide +kernel
theorem d_Model_any_7 : decode c_Model_any 7 = .ok (.aload_n 0, 1) := by decide +kernel
theorem d_Model_any_8 : decode c_Model_any 8 = .ok (.getfield 113, 3) := by decide +kernel
theorem d_Model_any_11 : decode c_Model_any 11 = .ok (.aload_n 0, 1) := by decide +kernel
theorem d_Model_any_12 : decode c_Model_any 12 = .ok (.getfield 110, 3) := by decide +kernel
theorem d_Model_any_15 : decode c_Model_any 15 = .ok (.if_icmp .ge 11, 3) := by decide +kernel
theorem d_Model_any_18 : decode c_Model_any 18 = .ok (.aload_n 0, 1) := by decide +kernel
theorem d_Model_any_19 : decode c_Model_any 19 = .ok (.invokevirtual 128, 3) := by decide +kernel
theorem d_Model_any_22 : decode c_Model_any 22 = .ok (.istore_n 1, 1) := by decide +kernel
theorem d_Model_any_23 : decode c_Model_any 23 = .ok (.goto (-23), 3) := by decide +kernel
theorem d_Model_any_26 : decode c_Model_any 26 = .ok (.return_, 1) := by decide +kernel
theorem d_Model_close_0 : decode c_Model_close 0 = .ok (.aload_n 0, 1) := by decide +kernel
theorem d_Model_close_1 : decode c_Model_close 1 = .ok (.getfield 107, 3) := by decide +kernel
theorem d_Model_close_4 : decode c_Model_close 4 = .ok (.ifCond .ne 24, 3) := by decide +kernel
theorem d_Model_close_7 : decode c_Model_close 7 = .ok (.aload_n 0, 1) := by decide +kernel
theorem d_Model_close_8 : decode c_Model_close 8 = .ok (.getfield 113, 3) := by decide +kernel
theorem d_Model_close_11 : decode c_Model_close 11 = .ok (.aload_n 0, 1) := by decide +kernel
theorem d_Model_close_12 : decode c_Model_close 12 = .ok (.getfield 110, 3) := by decide +kernel
theorem d_Model_close_15 : decode c_Model_close 15 = .ok (.if_icmp .eq 13, 3) := by decide +kernel
theorem d_Model_close_18 : decode c_Model_close 18 = .ok (.aload_n 0, 1) := by decide +kernel
theorem d_Model_close_19 : decode c_Model_close 19 = .ok (.iconst 5, 1) := by decide +kernel
theorem d_Model_close_20 : decode c_Model_close 20 = .ok (.aload_n 0, 1) := by decide +kernel
theorem d_Model_close_21 : decode c_Model_close 21 = .ok (.getfield 131, 3) := by decide +kernel
theorem d_Model_close_24 : decode c_Model_close 24 = .ok (.invokevirtual 120, 3) := by decide +kernel
theorem d_Model_close_27 : decode c_Model_close 27 = .ok (.istore_n 2, 1) := by decide +kernel
theorem d_Model_close_28 : decode c_Model_close 28 = .ok (.aload_n 0, 1) := by decide +kernel
theorem d_Model_close_29 : decode c_Model_close 29 = .ok (.getfield 107, 3) := by decide +kernel
theorem d_Model_close_32 : decode c_Model_close 32 = .ok (.ifCond .ne 72, 3) := by decide +kernel
theorem d_Model_close_35 : decode c_Model_close 35 = .ok (.iconst 4, 1) := by decide +kernel
theorem d_Model_close_36 : decode c_Model_close 36 = .ok (.aload_n 0, 1) := by decide +kernel
theorem d_Model_close_37 : decode c_Model_close 37 = .ok (.getfield 83, 3) := by decide +kernel
theorem d_Model_close_40 : decode c_Model_close 40 = .ok (.imul, 1) := by decide +kernel
theorem d_Model_close_41 : decode c_Model_close 41 = .ok (.istore_n 2, 1) := by decide +kernel
theorem d_Model_close_42 : decode c_Model_close 42 = .ok (.aload_n 0, 1) := by decide +kernel
theorem d_Model_close_43 : decode c_Model_close 43 = .ok (.getfield 17, 3) := by decide +kernel
theorem d_Model_close_46 : decode c_Model_close 46 = .ok (.iload_n 2, 1) := by decide +kernel
theorem d_Model_close_47 : decode c_Model_close 47 = .ok (.iload_n 1, 1) := by decide +kernel
theorem d_Model_close_48 : decode c_Model_close 48 = .ok (.iastore, 1) := by decide +kernel
theorem d_Model_close_49 : decode c_Model_close 49 = .ok (.aload_n 0, 1) := by decide +kernel
theorem d_Model_close_50 : decode c_Model_close 50 = .ok (.getfield 17, 3) := by decide +kernel
theorem d_Model_close_53 : decode c_Model_close 53 = .ok (.iload_n 2, 1) := by decide +kernel
theorem d_Model_close_54 : decode c_Model_close 54 = .ok (.iconst 1, 1) := by decide +kernel
theorem d_Model_close_55 : decode c_Model_close 55 = .ok (.iadd, 1) := by decide +kernel
theorem d_Model_close_56 : decode c_Model_close 56 = .ok (.aload_n 0, 1) := by decide +kernel
theorem d_Model_close_57 : decode c_Model_close 57 = .ok (.getfield 134, 3) := by decide +kernel
theorem d_Model_close_60 : decode c_Model_close 60 = .ok (.iastore, 1) := by decide +kernel
theorem d_Model_close_61 : decode c_Model_close 61 = .ok (.aload_n 0, 1) := by decide +kernel
theorem d_Model_close_62 : decode c_Model_close 62 = .ok (.getfield 17, 3) := by decide +kernel
theorem d_Model_close_65 : decode c_Model_close 65 = .ok (.iload_n 2, 1) := by decide +kernel
theorem d_Model_close_66 : decode c_Model_close 66 = .ok (.iconst 2, 1) := by decide +kernel
theorem d_Model_close_67 : decode c_Model_close 67 = .ok (.iadd, 1) := by decide +kernel
theorem d_Model_close_68 : decode c_Model_close 68 = .ok (.aload_n 0, 1) := by decide +kernel
theorem d_Model_close_69 : decode c_Model_close 69 = .ok (.getfield 131, 3) := by decide +kernel
theorem d_Model_close_72 : decode c_Model_close 72 = .ok (.iconst 2, 1) := by decide +kernel
theorem d_Model_close_73 : decode c_Model_close 73 = .ok (.iadd, 1) := by decide +kernel
theorem d_Model_close_74 : decode c_Model_close 74 = .ok (.iastore, 1) := by decide +kernel
theorem d_Model_close_75 : decode c_Model_close 75 = .ok (.aload_n 0, 1) := by decide +kernel
theorem d_Model_close_76 : decode c_Model_close 76 = .ok (.getfield 17, 3) := by decide +kernel
theorem d_Model_close_79 : decode c_Model_close 79 = .ok (.iload_n 2, 1) := by decide +kernel
theorem d_Model_close_80 : decode c_Model_close 80 = .ok (.iconst 3, 1) := by decide +kernel
theorem d_Model_close_81 : decode c_Model_close 81 = .ok (.iadd, 1) := by decide +kernel
theorem d_Model_close_82 : decode c_Model_close 82 = .ok (.aload_n 0, 1) := by decide +kernel
theorem d_Model_close_83 : decode c_Model_close 83 = .ok (.getfield 110, 3) := by decide +kernel
theorem d_Model_close_86 : decode c_Model_close 86 = .ok (.aload_n 0, 1) := by decide +kernel
theorem d_Model_close_87 : decode c_Model_close 87 = .ok (.getfield 131, 3) := by decide +kernel
theorem d_Model_close_90 : decode c_Model_close 90 = .ok (.isub, 1) := by decide +kernel
theorem d_Model_close_91 : decode c_Model_close 91 = .ok (.iconst 2, 1) := by decide +kernel
theorem d_Model_close_92 : decode c_Model_close 92 = .ok (.isub, 1) := by decide +kernel
theorem d_Model_close_93 : decode c_Model_close 93 = .ok (.iastore, 1) := by decide +kernel
theorem d_Model_close_94 : decode c_Model_close 94 = .ok (.aload_n 0, 1) := by decide +kernel
theorem d_Model_close_95 : decode c_Model_close 95 = .ok (.dup, 1) := by decide +kernel
theorem d_Model_close_96 : decode c_Model_close 96 = .ok (.getfield 83, 3) := by decide +kernel
theorem d_Model_close_99 : decode c_Model_close 99 = .ok (.iconst 1, 1) := by decide +kernel
theorem d_Model_close_100 : decode c_Model_close 100 = .ok (.iadd, 1) := by decide +kernel
theorem d_Model_close_101 : decode c_Model_close 101 = .ok (.putfield 83, 3) := by decide +kernel
theorem d_Model_close_104 : decode c_Model_close 104 = .ok (.aload_n 0, 1) := by decide +kernel
theorem d_Model_close_105 : decode c_Model_close 105 = .ok (.iconst (-1), 1) := by decide +kernel
theorem d_Model_close_106 : decode c_Model_close 106 = .ok (.putfield 110, 3) := by decide +kernel
theorem d_Model_close_109 : decode c_Model_close 109 = .ok (.return_, 1) := by decide +kernel
theorem d_Model_keepScan_0 : decode c_Model_keepScan 0 = .ok (.bipush 30, 2) := by decide +kernel
theorem d_Model_keepScan_2 : decode c_Model_keepScan 2 = .ok (.aload_n 0, 1) := by decide +kernel
theorem d_Model_keepScan_3 : decode c_Model_keepScan 3 = .ok (.getfield 101, 3) := by decide +kernel
theorem d_Model_keepScan_6 : decode c_Model_keepScan 6 = .ok (.imul, 1) := by decide +kernel
theorem d_Model_keepScan_7 : decode c_Model_keepScan 7 = .ok (.istore_n 1, 1) := by decide +kernel
theorem d_Model_keepScan_8 : decode c_Model_keepScan 8 = .ok (.aload_n 0, 1) := by decide +kernel
theorem d_Model_keepScan_9 : decode c_Model_keepScan 9 = .ok (.getfield 53, 3) := by decide +kernel
theorem d_Model_keepScan_12 : decode c_Model_keepScan 12 = .ok (.iload_n 1, 1) := by decide +kernel
theorem d_Model_keepScan_13 : decode c_Model_keepScan 13 = .ok (.aload_n 0, 1) := by decide +kernel
theorem d_Model_keepScan_14 : decode c_Model_keepScan 14 = .ok (.getfield 150, 3) := by decide +kernel
theorem d_Model_keepScan_17 : decode c_Model_keepScan 17 = .ok (.iastore, 1) := by decide +kernel
theorem d_Model_keepScan_18 : decode c_Model_keepScan 18 = .ok (.aload_n 0, 1) := by decide +kernel
theorem d_Model_keepScan_19 : decode c_Model_keepScan 19 = .ok (.getfield 53, 3) := by decide +kernel
theorem d_Model_keepScan_22 : decode c_Model_keepScan 22 = .ok (.iload_n 1, 1) := by decide +kernel
theorem d_Model_keepScan_23 : decode c_Model_keepScan 23 = .ok (.iconst 1, 1) := by decide +kernel
theorem d_Model_keepScan_24 : decode c_Model_keepScan 24 = .ok (.iadd, 1) := by decide +kernel
theorem d_Model_keepScan_25 : decode c_Model_keepScan 25 = .ok (.aload_n 0, 1) := by decide +kernel
theorem d_Model_keepScan_26 : decode c_Model_keepScan 26 = .ok (.getfield 156, 3) := by decide +kernel
theorem d_Model_keepScan_29 : decode c_Model_keepScan 29 = .ok (.iastore, 1) := by decide +kernel
theorem d_Model_keepScan_30 : decode c_Model_keepScan 30 = .ok (.aload_n 0, 1) := by decide +kernel
theorem d_Model_keepScan_31 : decode c_Model_keepScan 31 = .ok (.getfield 53, 3) := by decide +kernel
theorem d_Model_keepScan_34 : decode c_Model_keepScan 34 = .ok (.iload_n 1, 1) := by decide +kernel
theorem d_Model_keepScan_35 : decode c_Model_keepScan 35 = .ok (.iconst 2, 1) := by decide +kernel
theorem d_Model_keepScan_36 : decode c_Model_keepScan 36 = .ok (.iadd, 1) := by decide +kernel
theorem d_Model_keepScan_37 : decode c_Model_keepScan 37 = .ok (.aload_n 0, 1) := by decide +kernel
theorem d_Model_keepScan_38 : decode c_Model_keepScan 38 = .ok (.getfield 159, 3) := by decide +kernel
theorem d_Model_keepScan_41 : decode c_Model_keepScan 41 = .ok (.iastore, 1) := by decide +kernel
theorem d_Model_keepScan_42 : decode c_Model_keepScan 42 = .ok (.aload_n 0, 1) := by decide +kernel
theorem d_Model_keepScan_43 : decode c_Model_keepScan 43 = .ok (.getfield 53, 3) := by decide +kernel
theorem d_Model_keepScan_46 : decode c_Model_keepScan 46 = .ok (.iload_n 1, 1) := by decide +kernel
theorem d_Model_keepScan_47 : decode c_Model_keepScan 47 = .ok (.iconst 3, 1) := by decide +kernel
theorem d_Model_keepScan_48 : decode c_Model_keepScan 48 = .ok (.iadd, 1) := by decide +kernel
theorem d_Model_keepScan_49 : decode c_Model_keepScan 49 = .ok (.aload_n 0, 1) := by decide +kernel
theorem d_Model_keepScan_50 : decode c_Model_keepScan 50 = .ok (.getfield 162, 3) := by decide +kernel
theorem d_Model_keepScan_53 : decode c_Model_keepScan 53 = .ok (.iastore, 1) := by decide +kernel
theorem d_Model_keepScan_54 : decode c_Model_keepScan 54 = .ok (.aload_n 0, 1) := by decide +kernel
theorem d_Model_keepScan_55 : decode c_Model_keepScan 55 = .ok (.getfield 53, 3) := by decide +kernel
theorem d_Model_keepScan_58 : decode c_Model_keepScan 58 = .ok (.iload_n 1, 1) := by decide +kernel
theorem d_Model_keepScan_59 : decode c_Model_keepScan 59 = .ok (.iconst 4, 1) := by decide +kernel
theorem d_Model_keepScan_60 : decode c_Model_keepScan 60 = .ok (.iadd, 1) := by decide +kernel
theorem d_Model_keepScan_61 : decode c_Model_keepScan 61 = .ok (.aload_n 0, 1) := by decide +kernel
theorem d_Model_keepScan_62 : decode c_Model_keepScan 62 = .ok (.getfield 165, 3) := by decide +kernel
theorem d_Model_keepScan_65 : decode c_Model_keepScan 65 = .ok (.iastore, 1) := by decide +kernel
theorem d_Model_keepScan_66 : decode c_Model_keepScan 66 = .ok (.aload_n 0, 1) := by decide +kernel
theorem d_Model_keepScan_67 : decode c_Model_keepScan 67 = .ok (.getfield 53, 3) := by decide +kernel
theorem d_Model_keepScan_70 : decode c_Model_keepScan 70 = .ok (.iload_n 1, 1) := by decide +kernel
theorem d_Model_keepScan_71 : decode c_Model_keepScan 71 = .ok (.iconst 5, 1) := by decide +kernel
theorem d_Model_keepScan_72 : decode c_Model_keepScan 72 = .ok (.iadd, 1) := by decide +kernel
theorem d_Model_keepScan_73 : decode c_Model_keepScan 73 = .ok (.aload_n 0, 1) := by decide +kernel
theorem d_Model_keepScan_74 : decode c_Model_keepScan 74 = .ok (.getfield 113, 3) := by decide +kernel
theorem d_Model_keepScan_77 : decode c_Model_keepScan 77 = .ok (.iastore, 1) := by decide +kernel
theorem d_Model_keepScan_78 : decode c_Model_keepScan 78 = .ok (.aload_n 0, 1) := by decide +kernel
theorem d_Model_keepScan_79 : decode c_Model_keepScan 79 = .ok (.getfield 53, 3) := by decide +kernel
theorem d_Model_keepScan_82 : decode c_Model_keepScan 82 = .ok (.iload_n 1, 1) := by decide +kernel
theorem d_Model_keepScan_83 : decode c_Model_keepScan 83 = .ok (.bipush 8, 2) := by decide +kernel
theorem d_Model_keepScan_85 : decode c_Model_keepScan 85 = .ok (.iadd, 1) := by decide +kernel
theorem d_Model_keepScan_86 : decode c_Model_keepScan 86 = .ok (.aload_n 0, 1) := by decide +kernel
theorem d_Model_keepScan_87 : decode c_Model_keepScan 87 = .ok (.getfield 98, 3) := by decide +kernel
theorem d_Model_keepScan_90 : decode c_Model_keepScan 90 = .ok (.iastore, 1) := by decide +kernel
theorem d_Model_keepScan_91 : decode c_Model_keepScan 91 = .ok (.iconst 0, 1) := by decide +kernel
theorem d_Model_keepScan_92 : decode c_Model_keepScan 92 = .ok (.istore_n 2, 1) := by decide +kernel
theorem d_Model_keepScan_93 : decode c_Model_keepScan 93 = .ok (.iload_n 2, 1) := by decide +kernel
theorem d_Model_keepScan_94 : decode c_Model_keepScan 94 = .ok (.aload_n 0, 1) := by decide +kernel
theorem d_Model_keepScan_95 : decode c_Model_keepScan 95 = .ok (.getfield 150, 3) := by decide +kernel
theorem d_Model_keepScan_98 : decode c_Model_keepScan 98 = .ok (.if_icmp .ge 105, 3) := by decide +kernel
theorem d_Model_keepScan_101 : decode c_Model_keepScan 101 = .ok (.aload_n 0, 1) := by decide +kernel
theorem d_Model_keepScan_102 : decode c_Model_keepScan 102 = .ok (.getfield 53, 3) := by decide +kernel
theorem d_Model_keepScan_105 : decode c_Model_keepScan 105 = .ok (.iload_n 1, 1) := by decide +kernel
theorem d_Model_keepScan_106 : decode c_Model_keepScan 106 = .ok (.bipush 10, 2) := by decide +kernel
theorem d_Model_keepScan_108 : decode c_Model_keepScan 108 = .ok (.iadd, 1) := by decide +kernel
theorem d_Model_keepScan_109 : decode c_Model_keepScan 109 = .ok (.iconst 4, 1) := by decide +kernel
theorem d_Model_keepScan_110 : decode c_Model_keepScan 110 = .ok (.iload_n 2, 1) := by decide +kernel
theorem d_Model_keepScan_111 : decode c_Model_keepScan 111 = .ok (.imul, 1) := by decide +kernel
theorem d_Model_keepScan_112 : decode c_Model_keepScan 112 = .ok (.iadd, 1) := by decide +kernel
theorem d_Model_keepScan_113 : decode c_Model_keepScan 113 = .ok (.aload_n 0, 1) := by decide +kernel
theorem d_Model_keepScan_114 : decode c_Model_keepScan 114 = .ok (.getfield 59, 3) := by decide +kernel
theorem d_Model_keepScan_117 : decode c_Model_keepScan 117 = .ok (.iload_n 2, 1) := by decide +kernel
theorem d_Model_keepScan_118 : decode c_Model_keepScan 118 = .ok (.iaload, 1) := by decide +kernel
theorem d_Model_keepScan_119 : decode c_Model_keepScan 119 = .ok (.iastore, 1) := by decide +kernel
theorem d_Model_keepScan_120 : decode c_Model_keepScan 120 = .ok (.aload_n 0, 1) := by decide +kernel
theorem d_Model_keepScan_121 : decode c_Model_keepScan 121 = .ok (.getfield 53, 3) := by decide +kernel
theorem d_Model_keepScan_124 : decode c_Model_keepScan 124 = .ok (.iload_n 1, 1) := by decide +kernel
theorem d_Model_keepScan_125 : decode c_Model_keepScan 125 = .ok (.bipush 11, 2) := by decide +kernel
theorem d_Model_keepScan_127 : decode c_Model_keepScan 127 = .ok (.iadd, 1) := by decide +kernel
theorem d_Model_keepScan_128 : decode c_Model_keepScan 128 = .ok (.iconst 4, 1) := by decide +kernel
theorem d_Model_keepScan_129 : decode c_Model_keepScan 129 = .ok (.iload_n 2, 1) := by decide +kernel
theorem d_Model_keepScan_130 : decode c_Model_keepScan 130 = .ok (.imul, 1) := by decide +kernel
theorem d_Model_keepScan_131 : decode c_Model_keepScan 131 = .ok (.iadd, 1) := by decide +kernel
theorem d_Model_keepScan_132 : decode c_Model_keepScan 132 = .ok (.aload_n 0, 1) := by decide +kernel
theorem d_Model_keepScan_133 : decode c_Model_keepScan 133 = .ok (.getfield 62, 3) := by decide +kernel
theorem d_Model_keepScan_136 : decode c_Model_keepScan 136 = .ok (.iload_n 2, 1) := by decide +kernel
theorem d_Model_keepScan_137 : decode c_Model_keepScan 137 = .ok (.iaload, 1) := by decide +kernel
theorem d_Model_keepScan_138 : decode c_Model_keepScan 138 = .ok (.iastore, 1) := by decide +kernel
theorem d_Model_keepScan_139 : decode c_Model_keepScan 139 = .ok (.aload_n 0, 1) := by decide +kernel
theorem d_Model_keepScan_140 : decode c_Model_keepScan 140 = .ok (.getfield 53, 3) := by decide +kernel
theorem d_Model_keepScan_143 : decode c_Model_keepScan 143 = .ok (.iload_n 1, 1) := by decide +kernel
theorem d_Model_keepScan_144 : decode c_Model_keepScan 144 = .ok (.bipush 12, 2) := by decide +kernel
theorem d_Model_keepScan_146 : decode c_Model_keepScan 146 = .ok (.iadd, 1) := by decide +kernel
theorem d_Model_keepScan_147 : decode c_Model_keepScan 147 = .ok (.iconst 4, 1) := by decide +kernel
theorem d_Model_keepScan_148 : decode c_Model_keepScan 148 = .ok (.iload_n 2, 1) := by decide +kernel
theorem d_Model_keepScan_149 : decode c_Model_keepScan 149 = .ok (.imul, 1) := by decide +kernel
theorem d_Model_keepScan_150 : decode c_Model_keepScan 150 = .ok (.iadd, 1) := by decide +kernel
theorem d_Model_keepScan_151 : decode c_Model_keepScan 151 = .ok (.aload_n 0, 1) := by decide +kernel
theorem d_Model_keepScan_152 : decode c_Model_keepScan 152 = .ok (.getfield 65, 3) := by decide +kernel
theorem d_Model_keepScan_155 : decode c_Model_keepScan 155 = .ok (.iload_n 2, 1) := by decide +kernel
theorem d_Model_keepScan_156 : decode c_Model_keepScan 156 = .ok (.iaload, 1) := by decide +kernel
theorem d_Model_keepScan_157 : decode c_Model_keepScan 157 = .ok (.iastore, 1) := by decide +kernel
theorem d_Model_keepScan_158 : decode c_Model_keepScan 158 = .ok (.aload_n 0, 1) := by decide +kernel
theorem d_Model_keepScan_159 : decode c_Model_keepScan 159 = .ok (.getfield 156, 3) := by decide +kernel
theorem d_Model_keepScan_162 : decode c_Model_keepScan 162 = .ok (.istore_n 3, 1) := by decide +kernel
theorem d_Model_keepScan_163 : decode c_Model_keepScan 163 = .ok (.iload_n 3, 1) := by decide +kernel
theorem d_Model_keepScan_164 : decode c_Model_keepScan 164 = .ok (.aload_n 0, 1) := by decide +kernel
theorem d_Model_keepScan_165 : decode c_Model_keepScan 165 = .ok (.getfield 159, 3) := by decide +kernel
theorem d_Model_keepScan_168 : decode c_Model_keepScan 168 = .ok (.if_icmp .gt 29, 3) := by decide +kernel
theorem d_Model_keepScan_171 : decode c_Model_keepScan 171 = .ok (.aload_n 0, 1) := by decide +kernel
theorem d_Model_keepScan_172 : decode c_Model_keepScan 172 = .ok (.getfield 56, 3) := by decide +kernel
theorem d_Model_keepScan_175 : decode c_Model_keepScan 175 = .ok (.bipush 64, 2) := by decide +kernel
theorem d_Model_keepScan_177 : decode c_Model_keepScan 177 = .ok (.aload_n 0, 1) := by decide +kernel
theorem d_Model_keepScan_178 : decode c_Model_keepScan 178 = .ok (.getfield 59, 3) := by decide +kernel
theorem d_Model_keepScan_181 : decode c_Model_keepScan 181 = .ok (.iload_n 2, 1) := by decide +kernel
theorem d_Model_keepScan_182 : decode c_Model_keepScan 182 = .ok (.iaload, 1) := by decide +kernel
