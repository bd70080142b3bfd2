theorem dX12_read_0 : decode cX12_read 0 = .ok (.aload_n 0, 1) := by decide +kernel
theorem dX12_read_1 : decode cX12_read 1 = .ok (.aload_n 0, 1) := by decide +kernel
theorem dX12_read_2 : decode cX12_read 2 = .ok (.getfield 216, 3) := by decide +kernel
theorem dX12_read_5 : decode cX12_read 5 = .ok (.putfield 223, 3) := by decide +kernel
theorem dX12_read_8 : decode cX12_read 8 = .ok (.iconst 0, 1) := by decide +kernel
theorem dX12_read_9 : decode cX12_read 9 = .ok (.istore_n 1, 1) := by decide +kernel
theorem dX12_read_10 : decode cX12_read 10 = .ok (.iload_n 1, 1) := by decide +kernel
theorem dX12_read_11 : decode cX12_read 11 = .ok (.aload_n 0, 1) := by decide +kernel
theorem dX12_read_12 : decode cX12_read 12 = .ok (.getfield 223, 3) := by decide +kernel
theorem dX12_read_15 : decode cX12_read 15 = .ok (.if_icmp .ge 21, 3) := by decide +kernel
theorem dX12_read_18 : decode cX12_read 18 = .ok (.aload_n 0, 1) := by decide +kernel
theorem dX12_read_19 : decode cX12_read 19 = .ok (.getfield 17, 3) := by decide +kernel
theorem dX12_read_22 : decode cX12_read 22 = .ok (.iload_n 1, 1) := by decide +kernel
theorem dX12_read_23 : decode cX12_read 23 = .ok (.aload_n 0, 1) := by decide +kernel
theorem dX12_read_24 : decode cX12_read 24 = .ok (.getfield 13, 3) := by decide +kernel
theorem dX12_read_27 : decode cX12_read 27 = .ok (.iload_n 1, 1) := by decide +kernel
theorem dX12_read_28 : decode cX12_read 28 = .ok (.baload, 1) := by decide +kernel
theorem dX12_read_29 : decode cX12_read 29 = .ok (.bastore, 1) := by decide +kernel
theorem dX12_read_30 : decode cX12_read 30 = .ok (.iinc 1 1, 3) := by decide +kernel
theorem dX12_read_33 : decode cX12_read 33 = .ok (.goto (-23), 3) := by decide +kernel
theorem dX12_read_36 : decode cX12_read 36 = .ok (.aload_n 0, 1) := by decide +kernel
theorem dX12_read_37 : decode cX12_read 37 = .ok (.iconst 0, 1) := by decide +kernel
theorem dX12_read_38 : decode cX12_read 38 = .ok (.putfield 216, 3) := by decide +kernel
theorem dX12_read_41 : decode cX12_read 41 = .ok (.aload_n 0, 1) := by decide +kernel
theorem dX12_read_42 : decode cX12_read 42 = .ok (.invokevirtual 278, 3) := by decide +kernel
theorem dX12_read_45 : decode cX12_read 45 = .ok (.aload_n 0, 1) := by decide +kernel
theorem dX12_read_46 : decode cX12_read 46 = .ok (.iconst 0, 1) := by decide +kernel
theorem dX12_read_47 : decode cX12_read 47 = .ok (.putfield 257, 3) := by decide +kernel
theorem dX12_read_50 : decode cX12_read 50 = .ok (.aload_n 0, 1) := by decide +kernel
theorem dX12_read_51 : decode cX12_read 51 = .ok (.iconst 0, 1) := by decide +kernel
theorem dX12_read_52 : decode cX12_read 52 = .ok (.putfield 281, 3) := by decide +kernel
theorem dX12_read_55 : decode cX12_read 55 = .ok (.aload_n 0, 1) := by decide +kernel
theorem dX12_read_56 : decode cX12_read 56 = .ok (.iconst 0, 1) := by decide +kernel
theorem dX12_read_57 : decode cX12_read 57 = .ok (.putfield 254, 3) := by decide +kernel
theorem dX12_read_60 : decode cX12_read 60 = .ok (.aload_n 0, 1) := by decide +kernel
theorem dX12_read_61 : decode cX12_read 61 = .ok (.iconst 0, 1) := by decide +kernel
theorem dX12_read_62 : decode cX12_read 62 = .ok (.putfield 263, 3) := by decide +kernel
theorem dX12_read_65 : decode cX12_read 65 = .ok (.aload_n 0, 1) := by decide +kernel
theorem dX12_read_66 : decode cX12_read 66 = .ok (.iconst 1, 1) := by decide +kernel
theorem dX12_read_67 : decode cX12_read 67 = .ok (.aload_n 0, 1) := by decide +kernel
theorem dX12_read_68 : decode cX12_read 68 = .ok (.getfield 284, 3) := by decide +kernel
theorem dX12_read_71 : decode cX12_read 71 = .ok (.isub, 1) := by decide +kernel
theorem dX12_read_72 : decode cX12_read 72 = .ok (.putfield 287, 3) := by decide +kernel
theorem dX12_read_75 : decode cX12_read 75 = .ok (.aload_n 0, 1) := by decide +kernel
theorem dX12_read_76 : decode cX12_read 76 = .ok (.iconst 0, 1) := by decide +kernel
theorem dX12_read_77 : decode cX12_read 77 = .ok (.putfield 290, 3) := by decide +kernel
theorem dX12_read_80 : decode cX12_read 80 = .ok (.aload_n 0, 1) := by decide +kernel
theorem dX12_read_81 : decode cX12_read 81 = .ok (.getfield 46, 3) := by decide +kernel
theorem dX12_read_84 : decode cX12_read 84 = .ok (.aload_n 0, 1) := by decide +kernel
theorem dX12_read_85 : decode cX12_read 85 = .ok (.getfield 287, 3) := by decide +kernel
theorem dX12_read_88 : decode cX12_read 88 = .ok (.bipush 24, 2) := by decide +kernel
theorem dX12_read_90 : decode cX12_read 90 = .ok (.iastore, 1) := by decide +kernel
theorem dX12_read_91 : decode cX12_read 91 = .ok (.aload_n 0, 1) := by decide +kernel
theorem dX12_read_92 : decode cX12_read 92 = .ok (.getfield 49, 3) := by decide +kernel
theorem dX12_read_95 : decode cX12_read 95 = .ok (.aload_n 0, 1) := by decide +kernel
theorem dX12_read_96 : decode cX12_read 96 = .ok (.getfield 287, 3) := by decide +kernel
theorem dX12_read_99 : decode cX12_read 99 = .ok (.iconst 0, 1) := by decide +kernel
theorem dX12_read_100 : decode cX12_read 100 = .ok (.iastore, 1) := by decide +kernel
theorem dX12_read_101 : decode cX12_read 101 = .ok (.aload_n 0, 1) := by decide +kernel
theorem dX12_read_102 : decode cX12_read 102 = .ok (.bipush 54, 2) := by decide +kernel
theorem dX12_read_104 : decode cX12_read 104 = .ok (.aload_n 0, 1) := by decide +kernel
theorem dX12_read_105 : decode cX12_read 105 = .ok (.getfield 287, 3) := by decide +kernel
theorem dX12_read_108 : decode cX12_read 108 = .ok (.imul, 1) := by decide +kernel
theorem dX12_read_109 : decode cX12_read 109 = .ok (.putfield 293, 3) := by decide +kernel
theorem dX12_read_112 : decode cX12_read 112 = .ok (.aload_n 0, 1) := by decide +kernel
theorem dX12_read_113 : decode cX12_read 113 = .ok (.getfield 70, 3) := by decide +kernel
theorem dX12_read_116 : decode cX12_read 116 = .ok (.aload_n 0, 1) := by decide +kernel
theorem dX12_read_117 : decode cX12_read 117 = .ok (.getfield 287, 3) := by decide +kernel
theorem dX12_read_120 : decode cX12_read 120 = .ok (.iconst 0, 1) := by decide +kernel
theorem dX12_read_121 : decode cX12_read 121 = .ok (.iastore, 1) := by decide +kernel
theorem dX12_read_122 : decode cX12_read 122 = .ok (.aload_n 0, 1) := by decide +kernel
theorem dX12_read_123 : decode cX12_read 123 = .ok (.getfield 79, 3) := by decide +kernel
theorem dX12_read_126 : decode cX12_read 126 = .ok (.aload_n 0, 1) := by decide +kernel
theorem dX12_read_127 : decode cX12_read 127 = .ok (.getfield 287, 3) := by decide +kernel
theorem dX12_read_130 : decode cX12_read 130 = .ok (.iconst (-1), 1) := by decide +kernel
theorem dX12_read_131 : decode cX12_read 131 = .ok (.iastore, 1) := by decide +kernel
theorem dX12_read_132 : decode cX12_read 132 = .ok (.aload_n 0, 1) := by decide +kernel
theorem dX12_read_133 : decode cX12_read 133 = .ok (.getfield 82, 3) := by decide +kernel
theorem dX12_read_136 : decode cX12_read 136 = .ok (.aload_n 0, 1) := by decide +kernel
theorem dX12_read_137 : decode cX12_read 137 = .ok (.getfield 287, 3) := by decide +kernel
theorem dX12_read_140 : decode cX12_read 140 = .ok (.iconst 0, 1) := by decide +kernel
theorem dX12_read_141 : decode cX12_read 141 = .ok (.iastore, 1) := by decide +kernel
theorem dX12_read_142 : decode cX12_read 142 = .ok (.aload_n 0, 1) := by decide +kernel
theorem dX12_read_143 : decode cX12_read 143 = .ok (.getfield 85, 3) := by decide +kernel
theorem dX12_read_146 : decode cX12_read 146 = .ok (.aload_n 0, 1) := by decide +kernel
theorem dX12_read_147 : decode cX12_read 147 = .ok (.getfield 287, 3) := by decide +kernel
theorem dX12_read_150 : decode cX12_read 150 = .ok (.iconst (-1), 1) := by decide +kernel
theorem dX12_read_151 : decode cX12_read 151 = .ok (.iastore, 1) := by decide +kernel
theorem dX12_read_152 : decode cX12_read 152 = .ok (.aload_n 0, 1) := by decide +kernel
theorem dX12_read_153 : decode cX12_read 153 = .ok (.getfield 88, 3) := by decide +kernel
theorem dX12_read_156 : decode cX12_read 156 = .ok (.aload_n 0, 1) := by decide +kernel
theorem dX12_read_157 : decode cX12_read 157 = .ok (.getfield 287, 3) := by decide +kernel
theorem dX12_read_160 : decode cX12_read 160 = .ok (.iconst 0, 1) := by decide +kernel
theorem dX12_read_161 : decode cX12_read 161 = .ok (.iastore, 1) := by decide +kernel
theorem dX12_read_162 : decode cX12_read 162 = .ok (.aload_n 0, 1) := by decide +kernel
theorem dX12_read_163 : decode cX12_read 163 = .ok (.sipush 150, 3) := by decide +kernel
theorem dX12_read_166 : decode cX12_read 166 = .ok (.aload_n 0, 1) := by decide +kernel
theorem dX12_read_167 : decode cX12_read 167 = .ok (.getfield 287, 3) := by decide +kernel
theorem dX12_read_170 : decode cX12_read 170 = .ok (.imul, 1) := by decide +kernel
theorem dX12_read_171 : decode cX12_read 171 = .ok (.putfield 296, 3) := by decide +kernel
theorem dX12_read_174 : decode cX12_read 174 = .ok (.aload_n 0, 1) := by decide +kernel
theorem dX12_read_175 : decode cX12_read 175 = .ok (.sipush 420, 3) := by decide +kernel
theorem dX12_read_178 : decode cX12_read 178 = .ok (.aload_n 0, 1) := by decide +kernel
theorem dX12_read_179 : decode cX12_read 179 = .ok (.getfield 287, 3) := by decide +kernel
theorem dX12_read_182 : decode cX12_read 182 = .ok (.imul, 1) := by decide +kernel
theorem dX12_read_183 : decode cX12_read 183 = .ok (.putfield 299, 3) := by decide +kernel
theorem dX12_read_186 : decode cX12_read 186 = .ok (.aload_n 0, 1) := by decide +kernel
theorem dX12_read_187 : decode cX12_read 187 = .ok (.iconst 0, 1) := by decide +kernel
theorem dX12_read_188 : decode cX12_read 188 = .ok (.putfield 302, 3) := by decide +kernel
theorem dX12_read_191 : decode cX12_read 191 = .ok (.aload_n 0, 1) := by decide +kernel
theorem dX12_read_192 : decode cX12_read 192 = .ok (.getfield 254, 3) := by decide +kernel
theorem dX12_read_195 : decode cX12_read 195 = .ok (.ifCond .ne 18, 3) := by decide +kernel
theorem dX12_read_198 : decode cX12_read 198 = .ok (.aload_n 0, 1) := by decide +kernel
theorem dX12_read_199 : decode cX12_read 199 = .ok (.iconst 0, 1) := by decide +kernel
theorem dX12_read_200 : decode cX12_read 200 = .ok (.invokevirtual 272, 3) := by decide +kernel
theorem dX12_read_203 : decode cX12_read 203 = .ok (.ifCond .ne 10, 3) := by decide +kernel
theorem dX12_read_206 : decode cX12_read 206 = .ok (.aload_n 0, 1) := by decide +kernel
theorem dX12_read_207 : decode cX12_read 207 = .ok (.invokevirtual 305, 3) := by decide +kernel
theorem dX12_read_210 : decode cX12_read 210 = .ok (.goto (-19), 3) := by decide +kernel
theorem dX12_read_213 : decode cX12_read 213 = .ok (.aload_n 0, 1) := by decide +kernel
theorem dX12_read_214 : decode cX12_read 214 = .ok (.aload_n 0, 1) := by decide +kernel
theorem dX12_read_215 : decode cX12_read 215 = .ok (.getfield 254, 3) := by decide +kernel
theorem dX12_read_218 : decode cX12_read 218 = .ok (.ifCond .le 10, 3) := by decide +kernel
theorem dX12_read_221 : decode cX12_read 221 = .ok (.aload_n 0, 1) := by decide +kernel
theorem dX12_read_222 : decode cX12_read 222 = .ok (.getfield 260, 3) := by decide +kernel
theorem dX12_read_225 : decode cX12_read 225 = .ok (.goto 18, 3) := by decide +kernel
theorem dX12_read_228 : decode cX12_read 228 = .ok (.aload_n 0, 1) := by decide +kernel
theorem dX12_read_229 : decode cX12_read 229 = .ok (.getfield 263, 3) := by decide +kernel
theorem dX12_read_232 : decode cX12_read 232 = .ok (.ifCond .le 10, 3) := by decide +kernel
theorem dX12_read_235 : decode cX12_read 235 = .ok (.aload_n 0, 1) := by decide +kernel
theorem dX12_read_236 : decode cX12_read 236 = .ok (.getfield 266, 3) := by decide +kernel
theorem dX12_read_239 : decode cX12_read 239 = .ok (.goto 4, 3) := by decide +kernel
theorem dX12_read_242 : decode cX12_read 242 = .ok (.iconst (-1), 1) := by decide +kernel
theorem dX12_read_243 : decode cX12_read 243 = .ok (.putfield 37, 3) := by decide +kernel
theorem dX12_read_246 : decode cX12_read 246 = .ok (.aload_n 0, 1) := by decide +kernel
theorem dX12_read_247 : decode cX12_read 247 = .ok (.getfield 254, 3) := by decide +kernel
theorem dX12_read_250 : decode cX12_read 250 = .ok (.ifCond .le 8, 3) := by decide +kernel
theorem dX12_read_253 : decode cX12_read 253 = .ok (.aload_n 0, 1) := by decide +kernel
theorem dX12_read_254 : decode cX12_read 254 = .ok (.getfield 254, 3) := by decide +kernel
theorem dX12_read_257 : decode cX12_read 257 = .ok (.ireturn, 1) := by decide +kernel
theorem dX12_read_258 : decode cX12_read 258 = .ok (.aload_n 0, 1) := by decide +kernel
theorem dX12_read_259 : decode cX12_read 259 = .ok (.getfield 263, 3) := by decide +kernel
theorem dX12_read_262 : decode cX12_read 262 = .ok (.ifCond .le 8, 3) := by decide +kernel
theorem dX12_read_265 : decode cX12_read 265 = .ok (.aload_n 0, 1) := by decide +kernel
theorem dX12_read_266 : decode cX12_read 266 = .ok (.getfield 263, 3) := by decide +kernel
theorem dX12_read_269 : decode cX12_read 269 = .ok (.ireturn, 1) := by decide +kernel
theorem dX12_read_270 : decode cX12_read 270 = .ok (.iconst 0, 1) := by decide +kernel
theorem dX12_read_271 : decode cX12_read 271 = .ok (.istore_n 1, 1) := by decide +kernel
theorem dX12_read_272 : decode cX12_read 272 = .ok (.iload_n 1, 1) := by decide +kernel
theorem dX12_read_273 : decode cX12_read 273 = .ok (.aload_n 0, 1) := by decide +kernel
theorem dX12_read_274 : decode cX12_read 274 = .ok (.getfield 302, 3) := by decide +kernel
theorem dX12_read_277 : decode cX12_read 277 = .ok (.if_icmp .ge 53, 3) := by decide +kernel
theorem dX12_read_280 : decode cX12_read 280 = .ok (.aload_n 0, 1) := by decide +kernel
theorem dX12_read_281 : decode cX12_read 281 = .ok (.getfield 27, 3) := by decide +kernel
theorem dX12_read_284 : decode cX12_read 284 = .ok (.aload_n 0, 1) := by decide +kernel
theorem dX12_read_285 : decode cX12_read 285 = .ok (.getfield 122, 3) := by decide +kernel
theorem dX12_read_288 : decode cX12_read 288 = .ok (.iload_n 1, 1) := by decide +kernel
theorem dX12_read_289 : decode cX12_read 289 = .ok (.iaload, 1) := by decide +kernel
theorem dX12_read_290 : decode cX12_read 290 = .ok (.iaload, 1) := by decide +kernel
theorem dX12_read_291 : decode cX12_read 291 = .ok (.aload_n 0, 1) := by decide +kernel
theorem dX12_read_292 : decode cX12_read 292 = .ok (.getfield 46, 3) := by decide +kernel
theorem dX12_read_295 : decode cX12_read 295 = .ok (.aload_n 0, 1) := by decide +kernel
theorem dX12_read_296 : decode cX12_read 296 = .ok (.getfield 287, 3) := by decide +kernel
theorem dX12_read_299 : decode cX12_read 299 = .ok (.iaload, 1) := by decide +kernel
theorem dX12_read_300 : decode cX12_read 300 = .ok (.if_icmp .ge 6, 3) := by decide +kernel
theorem dX12_read_303 : decode cX12_read 303 = .ok (.goto 21, 3) := by decide +kernel
theorem dX12_read_306 : decode cX12_read 306 = .ok (.aload_n 0, 1) := by decide +kernel
theorem dX12_read_307 : decode cX12_read 307 = .ok (.aload_n 0, 1) := by decide +kernel
theorem dX12_read_308 : decode cX12_read 308 = .ok (.getfield 24, 3) := by decide +kernel
theorem dX12_read_311 : decode cX12_read 311 = .ok (.aload_n 0, 1) := by decide +kernel
theorem dX12_read_312 : decode cX12_read 312 = .ok (.getfield 122, 3) := by decide +kernel
theorem dX12_read_315 : decode cX12_read 315 = .ok (.iload_n 1, 1) := by decide +kernel
theorem dX12_read_316 : decode cX12_read 316 = .ok (.iaload, 1) := by decide +kernel
theorem dX12_read_317 : decode cX12_read 317 = .ok (.iaload, 1) := by decide +kernel
theorem dX12_read_318 : decode cX12_read 318 = .ok (.putfield 37, 3) := by decide +kernel
theorem dX12_read_321 : decode cX12_read 321 = .ok (.bipush 6, 2) := by decide +kernel
theorem dX12_read_323 : decode cX12_read 323 = .ok (.ireturn, 1) := by decide +kernel
theorem dX12_read_324 : decode cX12_read 324 = .ok (.iinc 1 1, 3) := by decide +kernel
theorem dX12_read_327 : decode cX12_read 327 = .ok (.goto (-55), 3) := by decide +kernel
theorem dX12_read_330 : decode cX12_read 330 = .ok (.aload_n 0, 1) := by decide +kernel
theorem dX12_read_331 : decode cX12_read 331 = .ok (.aload_n 0, 1) := by decide +kernel
theorem dX12_read_332 : decode cX12_read 332 = .ok (.getfield 287, 3) := by decide +kernel
theorem dX12_read_335 : decode cX12_read 335 = .ok (.putfield 284, 3) := by decide +kernel
theorem dX12_read_338 : decode cX12_read 338 = .ok (.aload_n 0, 1) := by decide +kernel
theorem dX12_read_339 : decode cX12_read 339 = .ok (.invokevirtual 308, 3) := by decide +kernel
theorem dX12_read_342 : decode cX12_read 342 = .ok (.aload_n 0, 1) := by decide +kernel
theorem dX12_read_343 : decode cX12_read 343 = .ok (.iconst 0, 1) := by decide +kernel
theorem dX12_read_344 : decode cX12_read 344 = .ok (.putfield 311, 3) := by decide +kernel
theorem dX12_read_347 : decode cX12_read 347 = .ok (.aload_n 0, 1) := by decide +kernel
theorem dX12_read_348 : decode cX12_read 348 = .ok (.iconst 0, 1) := by decide +kernel
theorem dX12_read_349 : decode cX12_read 349 = .ok (.putfield 314, 3) := by decide +kernel
theorem dX12_read_352 : decode cX12_read 352 = .ok (.iconst 0, 1) := by decide +kernel
theorem dX12_read_353 : decode cX12_read 353 = .ok (.istore_n 1, 1) := by decide +kernel
theorem dX12_read_354 : decode cX12_read 354 = .ok (.iload_n 1, 1) := by decide +kernel
theorem dX12_read_355 : decode cX12_read 355 = .ok (.iconst 3, 1) := by decide +kernel
theorem dX12_read_356 : decode cX12_read 356 = .ok (.if_icmp .ge 16, 3) := by decide +kernel
theorem dX12_read_359 : decode cX12_read 359 = .ok (.aload_n 0, 1) := by decide +kernel
theorem dX12_read_360 : decode cX12_read 360 = .ok (.getfield 188, 3) := by decide +kernel
theorem dX12_read_363 : decode cX12_read 363 = .ok (.iload_n 1, 1) := by decide +kernel
theorem dX12_read_364 : decode cX12_read 364 = .ok (.iconst 0, 1) := by decide +kernel
theorem dX12_read_365 : decode cX12_read 365 = .ok (.bastore, 1) := by decide +kernel
theorem dX12_read_366 : decode cX12_read 366 = .ok (.iinc 1 1, 3) := by decide +kernel
theorem dX12_read_369 : decode cX12_read 369 = .ok (.goto (-15), 3) := by decide +kernel
theorem dX12_read_372 : decode cX12_read 372 = .ok (.iconst 0, 1) := by decide +kernel
theorem dX12_read_373 : decode cX12_read 373 = .ok (.ireturn, 1) := by decide +kernel
def k_X12_read_10 (X : CX) (T : List Dsc) (R : RM) (n1 n2 : Nat) (r : ((Int32 × M2) ⊕ ((M2)))) : Prop := match r with
  | .inl s => Wp X cX12_read RX12 2 T (mk s.2 R) n1 n2 10 [(0, .ref 56), (1, .int s.1)] []
  | .inr e => Wp X cX12_read RX12 2 T (mk e R) n1 n2 36 [(0, .ref 56)] []
def k_X12_read_191 (X : CX) (T : List Dsc) (R : RM) (n1 n2 : Nat) (r : ((M2) ⊕ ((M2)))) : Prop := match r with
  | .inl s => Wp X cX12_read RX12 2 T (mk s R) n1 n2 191 [(0, .ref 56)] []
  | .inr e => Wp X cX12_read RX12 2 T (mk e R) n1 n2 213 [(0, .ref 56)] []
def k_X12_read_272 (X : CX) (T : List Dsc) (R : RM) (n1 n2 : Nat) (r : ((Int32 × M2) ⊕ ((Int32 × M2) ⊕ (M2)))) : Prop := match r with
  | .inl s => Wp X cX12_read RX12 2 T (mk s.2 R) n1 n2 272 [(0, .ref 56), (1, .int s.1)] []
  | .inr (.inl e) => Wp X cX12_read RX12 2 T (mk e.2 R) n1 n2 306 [(0, .ref 56), (1, .int e.1)] []
  | .inr (.inr e) => Wp X cX12_read RX12 2 T (mk e R) n1 n2 330 [(0, .ref 56)] []
def k_X12_read_354 (X : CX) (T : List Dsc) (R : RM) (n1 n2 : Nat) (r : ((Int32 × M2) ⊕ ((M2)))) : Prop := match r with
  | .inl s => Wp X cX12_read RX12 2 T (mk s.2 R) n1 n2 354 [(0, .ref 56), (1, .int s.1)] []
  | .inr e => Wp X cX12_read RX12 2 T (mk e R) n1 n2 372 [] []
set_option maxHeartbeats 4000000 in
set_option maxRecDepth 100000 in
theorem w_X12_read_10 {X : CX} {T : List Dsc} {R : RM} {c e : Nat} {n1 n2 : Nat} {x1 : Int32} {m : M2} {r : ((Int32 × M2) ⊕ ((M2)))} (hX : XR X 9 n1 n2) (hG : Geo T R c e) (hf : f_X12_read_10 x1 m = some r) (hk : k_X12_read_10 X T R n1 n2 r) : Wp X cX12_read RX12 2 T (mk m R) n1 n2 10 [(0, .ref 56), (1, .int x1)] [] := by
  unfold f_X12_read_10 at hf
  refine Wp.iload_n (pc := 10) 1 rfl rfl dX12_read_10 ?_
  refine Wp.aload_n (pc := 11) 0 rfl rfl dX12_read_11 ?_
  refine Wp.getI2 (pc := 12) (hG.t 56 rfl) fk_RX12_223 rfl dX12_read_12 ?_
  refine Wp.icmp_ge (pc := 15) 36 dX12_read_15 (by decide) (fun hc1 => ?_) (fun hc1 => ?_)
  · rw [if_pos hc1] at hf
    refine Wp.lo' (lo' := [(0, .ref 56)]) [0] rfl ?_
    cases hf
    exact hk
  · rw [if_neg hc1] at hf
    refine Wp.aload_n (pc := 18) 0 rfl rfl dX12_read_18 ?_
    refine Wp.getR2 (pc := 19) (hG.r 56 3 rfl) (hG.t 56 rfl) fk_RX12_17 rfl dX12_read_19 ?_
    refine Wp.iload_n (pc := 22) 1 rfl rfl dX12_read_22 ?_
    refine Wp.aload_n (pc := 23) 0 rfl rfl dX12_read_23 ?_
    refine Wp.getR2 (pc := 24) (hG.r 56 1 rfl) (hG.t 56 rfl) fk_RX12_13 rfl dX12_read_24 ?_
    refine Wp.iload_n (pc := 27) 1 rfl rfl dX12_read_27 ?_
    obtain ⟨v2, h3, hf⟩ := bnd hf
    refine Wp.bald2 (pc := 28) h3 (hG.a 57 2 rfl) dX12_read_28 ?_
    obtain ⟨m4, h5, hf⟩ := bnd hf
    refine Wp.bast2 (pc := 29) h5 (hG.a 58 2 rfl) dX12_read_29 ?_
    obtain ⟨v6, h7, hf⟩ := bnd hf
    refine Wp.iincN (pc := 30) (lo' := [(0, .ref 56), (1, .int v6)]) (1 : Int32) (by decide) h7 1 rfl [1, 0] rfl (by decide) dX12_read_30 ?_
    refine Wp.goto (pc := 33) 10 dX12_read_33 (by decide) ?_
    cases hf
    exact hk
theorem wl_X12_read_10 {X : CX} {T : List Dsc} {R : RM} {c e : Nat} {n1 n2 : Nat} {x1 : Int32} {m : M2} {e1 : ((M2))} (hX : XR X 9 n1 n2) (hG : Geo T R c e) (h : loop (g_X12_read_10) (x1, m) = some e1) (he : Wp X cX12_read RX12 2 T (mk e1 R) n1 n2 36 [(0, .ref 56)] []) : Wp X cX12_read RX12 2 T (mk m R) n1 n2 10 [(0, .ref 56), (1, .int x1)] [] :=
  loop_ok (K := k_X12_read_10 X T R n1 n2) (fun s r hf hk => w_X12_read_10 hX hG hf hk) h he
set_option maxHeartbeats 4000000 in
set_option maxRecDepth 100000 in
theorem w_X12_read_191 {X : CX} {T : List Dsc} {R : RM} {c e : Nat} {n1 n2 : Nat} {m : M2} {r : ((M2) ⊕ ((M2)))} (hX : XR X 9 n1 n2) (hG : Geo T R c e) (hf : f_X12_read_191 m = some r) (hk : k_X12_read_191 X T R n1 n2 r) : Wp X cX12_read RX12 2 T (mk m R) n1 n2 191 [(0, .ref 56)] [] := by
  unfold f_X12_read_191 at hf
  refine Wp.aload_n (pc := 191) 0 rfl rfl dX12_read_191 ?_
  refine Wp.getI2 (pc := 192) (hG.t 56 rfl) fk_RX12_254 rfl dX12_read_192 ?_
  refine Wp.if_ne (pc := 195) 213 dX12_read_195 (by decide) (fun hc1 => ?_) (fun hc1 => ?_)
  · rw [if_neg hc1] at hf
    cases hf
    exact hk
  · rw [if_pos hc1] at hf
    refine Wp.aload_n (pc := 198) 0 rfl rfl dX12_read_198 ?_
    refine Wp.iconst (pc := 199) (0 : Int32) (by decide) dX12_read_199 ?_
    obtain ⟨c2, h3, hf⟩ := bnd hf
    refine Wp.callVi (pc := 200) (st := []) (as := [.int (0 : Int32)]) (c_X12_is hG h3) ml_RX12_272 mv_X12_is mb_X12_is hX (Nat.le_of_ble_eq_true rfl) (by decide) rfl (hG.t 56 rfl) rfl (by simp) dX12_read_200 rfl ?_
    refine Wp.if_ne (pc := 203) 213 dX12_read_203 (by decide) (fun hc4 => ?_) (fun hc4 => ?_)
    · rw [if_neg hc4] at hf
      cases hf
      exact hk
    · rw [if_pos hc4] at hf
      refine Wp.aload_n (pc := 206) 0 rfl rfl dX12_read_206 ?_
      obtain ⟨c5, h6, hf⟩ := bnd hf
      refine Wp.callVv (pc := 207) (st := []) (as := []) (c_X12_tell hG h6) ml_RX12_305 mv_X12_tell mb_X12_tell hX (Nat.le_of_ble_eq_true rfl) (by decide) rfl (hG.t 56 rfl) rfl (by simp) dX12_read_207 rfl ?_
      refine Wp.goto (pc := 210) 191 dX12_read_210 (by decide) ?_
      cases hf
      exact hk
theorem wl_X12_read_191 {X : CX} {T : List Dsc} {R : RM} {c e : Nat} {n1 n2 : Nat} {m : M2} {e1 : ((M2))} (hX : XR X 9 n1 n2) (hG : Geo T R c e) (h : loop (g_X12_read_191) m = some e1) (he : Wp X cX12_read RX12 2 T (mk e1 R) n1 n2 213 [(0, .ref 56)] []) : Wp X cX12_read RX12 2 T (mk m R) n1 n2 191 [(0, .ref 56)] [] :=
  loop_ok (K := k_X12_read_191 X T R n1 n2) (fun s r hf hk => w_X12_read_191 hX hG hf hk) h he
set_option maxHeartbeats 4000000 in
set_option maxRecDepth 100000 in
theorem w_X12_read_272 {X : CX} {T : List Dsc} {R : RM} {c e : Nat} {n1 n2 : Nat} {x1 : Int32} {m : M2} {r : ((Int32 × M2) ⊕ ((Int32 × M2) ⊕ (M2)))} (hX : XR X 9 n1 n2) (hG : Geo T R c e) (hf : f_X12_read_272 x1 m = some r) (hk : k_X12_read_272 X T R n1 n2 r) : Wp X cX12_read RX12 2 T (mk m R) n1 n2 272 [(0, .ref 56), (1, .int x1)] [] := by
  unfold f_X12_read_272 at hf
  refine Wp.iload_n (pc := 272) 1 rfl rfl dX12_read_272 ?_
  refine Wp.aload_n (pc := 273) 0 rfl rfl dX12_read_273 ?_
  refine Wp.getI2 (pc := 274) (hG.t 56 rfl) fk_RX12_302 rfl dX12_read_274 ?_
  refine Wp.icmp_ge (pc := 277) 330 dX12_read_277 (by decide) (fun hc1 => ?_) (fun hc1 => ?_)
  · rw [if_pos hc1] at hf
    refine Wp.lo' (lo' := [(0, .ref 56)]) [0] rfl ?_
    cases hf
    exact hk
  · rw [if_neg hc1] at hf
    refine Wp.aload_n (pc := 280) 0 rfl rfl dX12_read_280 ?_
    refine Wp.getR2 (pc := 281) (hG.r 56 7 rfl) (hG.t 56 rfl) fk_RX12_27 rfl dX12_read_281 ?_
    refine Wp.aload_n (pc := 284) 0 rfl rfl dX12_read_284 ?_
    refine Wp.getR2 (pc := 285) (hG.r 56 52 rfl) (hG.t 56 rfl) fk_RX12_122 rfl dX12_read_285 ?_
    refine Wp.iload_n (pc := 288) 1 rfl rfl dX12_read_288 ?_
    obtain ⟨v2, h3, hf⟩ := bnd hf
    refine Wp.iald2 (pc := 289) h3 (hG.a 91 0 rfl) dX12_read_289 ?_
    obtain ⟨v4, h5, hf⟩ := bnd hf
    refine Wp.iald2 (pc := 290) h5 (hG.a 61 0 rfl) dX12_read_290 ?_
    refine Wp.aload_n (pc := 291) 0 rfl rfl dX12_read_291 ?_
    refine Wp.getR2 (pc := 292) (hG.r 56 23 rfl) (hG.t 56 rfl) fk_RX12_46 rfl dX12_read_292 ?_
    refine Wp.aload_n (pc := 295) 0 rfl rfl dX12_read_295 ?_
    refine Wp.getI2 (pc := 296) (hG.t 56 rfl) fk_RX12_287 rfl dX12_read_296 ?_
    obtain ⟨v6, h7, hf⟩ := bnd hf
    refine Wp.iald2 (pc := 299) h7 (hG.a 66 0 rfl) dX12_read_299 ?_
    refine Wp.icmp_ge (pc := 300) 306 dX12_read_300 (by decide) (fun hc8 => ?_) (fun hc8 => ?_)
    · rw [if_pos hc8] at hf
      cases hf
      exact hk
    · rw [if_neg hc8] at hf
      refine Wp.goto (pc := 303) 324 dX12_read_303 (by decide) ?_
      obtain ⟨v9, h10, hf⟩ := bnd hf
      refine Wp.iincN (pc := 324) (lo' := [(0, .ref 56), (1, .int v9)]) (1 : Int32) (by decide) h10 1 rfl [1, 0] rfl (by decide) dX12_read_324 ?_
      refine Wp.goto (pc := 327) 272 dX12_read_327 (by decide) ?_
      cases hf
      exact hk
theorem wl_X12_read_272 {X : CX} {T : List Dsc} {R : RM} {c e : Nat} {n1 n2 : Nat} {x1 : Int32} {m : M2} {e1 : ((Int32 × M2) ⊕ (M2))} (hX : XR X 9 n1 n2) (hG : Geo T R c e) (h : loop (g_X12_read_272) (x1, m) = some e1) (he0 : ∀ e_, e1 = (Sum.inl e_) → Wp X cX12_read RX12 2 T (mk e_.2 R) n1 n2 306 [(0, .ref 56), (1, .int e_.1)] []) (he1 : ∀ e_, e1 = (Sum.inr e_) → Wp X cX12_read RX12 2 T (mk e_ R) n1 n2 330 [(0, .ref 56)] []) : Wp X cX12_read RX12 2 T (mk m R) n1 n2 272 [(0, .ref 56), (1, .int x1)] [] :=
  loop_ok (K := k_X12_read_272 X T R n1 n2) (fun s r hf hk => w_X12_read_272 hX hG hf hk) h (by rcases e1 with e_ | e_ <;> first | exact he0 _ rfl | exact he1 _ rfl)
set_option maxHeartbeats 4000000 in
set_option maxRecDepth 100000 in
theorem w_X12_read_354 {X : CX} {T : List Dsc} {R : RM} {c e : Nat} {n1 n2 : Nat} {x1 : Int32} {m : M2} {r : ((Int32 × M2) ⊕ ((M2)))} (hX : XR X 9 n1 n2) (hG : Geo T R c e) (hf : f_X12_read_354 x1 m = some r) (hk : k_X12_read_354 X T R n1 n2 r) : Wp X cX12_read RX12 2 T (mk m R) n1 n2 354 [(0, .ref 56), (1, .int x1)] [] := by
  unfold f_X12_read_354 at hf
  refine Wp.iload_n (pc := 354) 1 rfl rfl dX12_read_354 ?_
  refine Wp.iconst (pc := 355) (3 : Int32) (by decide) dX12_read_355 ?_
  refine Wp.icmp_ge (pc := 356) 372 dX12_read_356 (by decide) (fun hc1 => ?_) (fun hc1 => ?_)
  · rw [if_pos hc1] at hf
    refine Wp.lo' (lo' := []) [] rfl ?_
    cases hf
    exact hk
  · rw [if_neg hc1] at hf
    refine Wp.aload_n (pc := 359) 0 rfl rfl dX12_read_359 ?_
    refine Wp.getR2 (pc := 360) (hG.r 56 85 rfl) (hG.t 56 rfl) fk_RX12_188 rfl dX12_read_360 ?_
    refine Wp.iload_n (pc := 363) 1 rfl rfl dX12_read_363 ?_
    refine Wp.iconst (pc := 364) (0 : Int32) (by decide) dX12_read_364 ?_
    obtain ⟨m2, h3, hf⟩ := bnd hf
    refine Wp.zast2 (pc := 365) (Or.inl rfl) h3 (hG.a 113 3 rfl) dX12_read_365 ?_
    obtain ⟨v4, h5, hf⟩ := bnd hf
    refine Wp.iincN (pc := 366) (lo' := [(0, .ref 56), (1, .int v4)]) (1 : Int32) (by decide) h5 1 rfl [1, 0] rfl (by decide) dX12_read_366 ?_
    refine Wp.goto (pc := 369) 354 dX12_read_369 (by decide) ?_
    cases hf
    exact hk
theorem wl_X12_read_354 {X : CX} {T : List Dsc} {R : RM} {c e : Nat} {n1 n2 : Nat} {x1 : Int32} {m : M2} {e1 : ((M2))} (hX : XR X 9 n1 n2) (hG : Geo T R c e) (h : loop (g_X12_read_354) (x1, m) = some e1) (he : Wp X cX12_read RX12 2 T (mk e1 R) n1 n2 372 [] []) : Wp X cX12_read RX12 2 T (mk m R) n1 n2 354 [(0, .ref 56), (1, .int x1)] [] :=
  loop_ok (K := k_X12_read_354 X T R n1 n2) (fun s r hf hk => w_X12_read_354 hX hG hf hk) h he
set_option maxHeartbeats 4000000 in
set_option maxRecDepth 100000 in
theorem w_X12_read_243 {X : CX} {T : List Dsc} {R : RM} {c e : Nat} {n1 n2 : Nat} {s1 : Int32} {m : M2} {r : (Int32 × M2)} (hX : XR X 9 n1 n2) (hG : Geo T R c e) (hf : f_X12_read_243 s1 m = some r) (hk : FnI X cX12_read RX12 2 T n1 n2 (r.1, mk r.2 R)) : Wp X cX12_read RX12 2 T (mk m R) n1 n2 243 [(0, .ref 56)] [.int s1, .ref 56] := by
  unfold f_X12_read_243 at hf
  obtain ⟨m1, h2, hf⟩ := bnd hf
  refine Wp.ptI2 (pc := 243) h2 (hG.t 56 rfl) fk_RX12_37 ff_RX12_11_17 rfl dX12_read_243 ?_
  refine Wp.aload_n (pc := 246) 0 rfl rfl dX12_read_246 ?_
  refine Wp.getI2 (pc := 247) (hG.t 56 rfl) fk_RX12_254 rfl dX12_read_247 ?_
  refine Wp.if_le (pc := 250) 258 dX12_read_250 (by decide) (fun hc3 => ?_) (fun hc3 => ?_)
  · rw [if_pos hc3] at hf
    refine Wp.aload_n (pc := 258) 0 rfl rfl dX12_read_258 ?_
    refine Wp.getI2 (pc := 259) (hG.t 56 rfl) fk_RX12_263 rfl dX12_read_259 ?_
    refine Wp.if_le (pc := 262) 270 dX12_read_262 (by decide) (fun hc4 => ?_) (fun hc4 => ?_)
    · rw [if_pos hc4] at hf
      refine Wp.iconst (pc := 270) (0 : Int32) (by decide) dX12_read_270 ?_
      refine Wp.istore_n (pc := 271) (lo' := [(0, .ref 56), (1, .int (0 : Int32))]) [1, 0] rfl (by decide) rfl dX12_read_271 ?_
      obtain ⟨e5, h6, hf⟩ := bnd hf
      refine wl_X12_read_272 hX hG h6 (fun e5_0 hq => ?_) (fun e5_1 hq => ?_)
      · rw [hq, Sum.elim_inl] at hf
        refine Wp.aload_n (pc := 306) 0 rfl rfl dX12_read_306 ?_
        refine Wp.aload_n (pc := 307) 0 rfl rfl dX12_read_307 ?_
        refine Wp.getR2 (pc := 308) (hG.r 56 6 rfl) (hG.t 56 rfl) fk_RX12_24 rfl dX12_read_308 ?_
        refine Wp.aload_n (pc := 311) 0 rfl rfl dX12_read_311 ?_
        refine Wp.getR2 (pc := 312) (hG.r 56 52 rfl) (hG.t 56 rfl) fk_RX12_122 rfl dX12_read_312 ?_
        refine Wp.iload_n (pc := 315) 1 rfl rfl dX12_read_315 ?_
        obtain ⟨v7, h8, hf⟩ := bnd hf
        refine Wp.iald2 (pc := 316) h8 (hG.a 91 0 rfl) dX12_read_316 ?_
        obtain ⟨v9, h10, hf⟩ := bnd hf
        refine Wp.iald2 (pc := 317) h10 (hG.a 60 0 rfl) dX12_read_317 ?_
        obtain ⟨m11, h12, hf⟩ := bnd hf
        refine Wp.ptI2 (pc := 318) h12 (hG.t 56 rfl) fk_RX12_37 ff_RX12_11_17 rfl dX12_read_318 ?_
        refine Wp.bipush (pc := 321) (6 : Int32) (by decide) dX12_read_321 ?_
        cases hf
        exact hk _ _ dX12_read_323
      · rw [hq, Sum.elim_inr] at hf
        refine Wp.aload_n (pc := 330) 0 rfl rfl dX12_read_330 ?_
        refine Wp.aload_n (pc := 331) 0 rfl rfl dX12_read_331 ?_
        refine Wp.getI2 (pc := 332) (hG.t 56 rfl) fk_RX12_287 rfl dX12_read_332 ?_
        obtain ⟨m13, h14, hf⟩ := bnd hf
        refine Wp.ptI2 (pc := 335) h14 (hG.t 56 rfl) fk_RX12_284 ff_RX12_11_18 rfl dX12_read_335 ?_
        refine Wp.aload_n (pc := 338) 0 rfl rfl dX12_read_338 ?_
        obtain ⟨c15, h16, hf⟩ := bnd hf
        refine Wp.callVv (pc := 339) (st := []) (as := []) (c_X12_begins hG h16) ml_RX12_308 mv_X12_begins mb_X12_begins hX (Nat.le_of_ble_eq_true rfl) (by decide) rfl (hG.t 56 rfl) rfl (by simp) dX12_read_339 rfl ?_
        refine Wp.aload_n (pc := 342) 0 rfl rfl dX12_read_342 ?_
        refine Wp.iconst (pc := 343) (0 : Int32) (by decide) dX12_read_343 ?_
        obtain ⟨m17, h18, hf⟩ := bnd hf
        refine Wp.ptI2 (pc := 344) h18 (hG.t 56 rfl) fk_RX12_311 ff_RX12_11_61 rfl dX12_read_344 ?_
        refine Wp.aload_n (pc := 347) 0 rfl rfl dX12_read_347 ?_
        refine Wp.iconst (pc := 348) (0 : Int32) (by decide) dX12_read_348 ?_
        obtain ⟨m19, h20, hf⟩ := bnd hf
        refine Wp.ptI2 (pc := 349) h20 (hG.t 56 rfl) fk_RX12_314 ff_RX12_11_79 rfl dX12_read_349 ?_
        refine Wp.iconst (pc := 352) (0 : Int32) (by decide) dX12_read_352 ?_
        refine Wp.istore_n (pc := 353) (lo' := [(0, .ref 56), (1, .int (0 : Int32))]) [1, 0] rfl (by decide) rfl dX12_read_353 ?_
        obtain ⟨e21, h22, hf⟩ := bnd hf
        refine wl_X12_read_354 hX hG h22 ?_
        refine Wp.iconst (pc := 372) (0 : Int32) (by decide) dX12_read_372 ?_
        cases hf
        exact hk _ _ dX12_read_373
    · rw [if_neg hc4] at hf
      refine Wp.aload_n (pc := 265) 0 rfl rfl dX12_read_265 ?_
      refine Wp.getI2 (pc := 266) (hG.t 56 rfl) fk_RX12_263 rfl dX12_read_266 ?_
      cases hf
      exact hk _ _ dX12_read_269
  · rw [if_neg hc3] at hf
    refine Wp.aload_n (pc := 253) 0 rfl rfl dX12_read_253 ?_
    refine Wp.getI2 (pc := 254) (hG.t 56 rfl) fk_RX12_254 rfl dX12_read_254 ?_
    cases hf
    exact hk _ _ dX12_read_257
set_option maxHeartbeats 4000000 in
set_option maxRecDepth 100000 in
theorem w_X12_read_213 {X : CX} {T : List Dsc} {R : RM} {c e : Nat} {n1 n2 : Nat} {m : M2} {r : (Int32 × M2)} (hX : XR X 9 n1 n2) (hG : Geo T R c e) (hf : f_X12_read_213 m = some r) (hk : FnI X cX12_read RX12 2 T n1 n2 (r.1, mk r.2 R)) : Wp X cX12_read RX12 2 T (mk m R) n1 n2 213 [(0, .ref 56)] [] := by
  unfold f_X12_read_213 at hf
  refine Wp.aload_n (pc := 213) 0 rfl rfl dX12_read_213 ?_
  refine Wp.aload_n (pc := 214) 0 rfl rfl dX12_read_214 ?_
  refine Wp.getI2 (pc := 215) (hG.t 56 rfl) fk_RX12_254 rfl dX12_read_215 ?_
  refine Wp.if_le (pc := 218) 228 dX12_read_218 (by decide) (fun hc1 => ?_) (fun hc1 => ?_)
  · rw [if_pos hc1] at hf
    refine Wp.aload_n (pc := 228) 0 rfl rfl dX12_read_228 ?_
    refine Wp.getI2 (pc := 229) (hG.t 56 rfl) fk_RX12_263 rfl dX12_read_229 ?_
    refine Wp.if_le (pc := 232) 242 dX12_read_232 (by decide) (fun hc2 => ?_) (fun hc2 => ?_)
    · rw [if_pos hc2] at hf
      refine Wp.iconst (pc := 242) (-1 : Int32) (by decide) dX12_read_242 ?_
      exact w_X12_read_243 hX hG hf hk
    · rw [if_neg hc2] at hf
      refine Wp.aload_n (pc := 235) 0 rfl rfl dX12_read_235 ?_
      refine Wp.getI2 (pc := 236) (hG.t 56 rfl) fk_RX12_266 rfl dX12_read_236 ?_
      refine Wp.goto (pc := 239) 243 dX12_read_239 (by decide) ?_
      exact w_X12_read_243 hX hG hf hk
  · rw [if_neg hc1] at hf
    refine Wp.aload_n (pc := 221) 0 rfl rfl dX12_read_221 ?_
    refine Wp.getI2 (pc := 222) (hG.t 56 rfl) fk_RX12_260 rfl dX12_read_222 ?_
    refine Wp.goto (pc := 225) 243 dX12_read_225 (by decide) ?_
    exact w_X12_read_243 hX hG hf hk
set_option maxHeartbeats 4000000 in
set_option maxRecDepth 100000 in
theorem w_X12_read {X : CX} {T : List Dsc} {R : RM} {c e : Nat} {n1 n2 : Nat} {m : M2} {r : (Int32 × M2)} (hX : XR X 9 n1 n2) (hG : Geo T R c e) (hf : F_X12_read m = some r) (hk : FnI X cX12_read RX12 2 T n1 n2 (r.1, mk r.2 R)) : Wp X cX12_read RX12 2 T (mk m R) n1 n2 0 [(0, .ref 56)] [] := by
  unfold F_X12_read at hf
  refine Wp.aload_n (pc := 0) 0 rfl rfl dX12_read_0 ?_
  refine Wp.aload_n (pc := 1) 0 rfl rfl dX12_read_1 ?_
  refine Wp.getI2 (pc := 2) (hG.t 56 rfl) fk_RX12_216 rfl dX12_read_2 ?_
  obtain ⟨m1, h2, hf⟩ := bnd hf
  refine Wp.ptI2 (pc := 5) h2 (hG.t 56 rfl) fk_RX12_223 ff_RX12_11_4 rfl dX12_read_5 ?_
  refine Wp.iconst (pc := 8) (0 : Int32) (by decide) dX12_read_8 ?_
  refine Wp.istore_n (pc := 9) (lo' := [(0, .ref 56), (1, .int (0 : Int32))]) [1, 0] rfl (by decide) rfl dX12_read_9 ?_
  obtain ⟨e3, h4, hf⟩ := bnd hf
  refine wl_X12_read_10 hX hG h4 ?_
  refine Wp.aload_n (pc := 36) 0 rfl rfl dX12_read_36 ?_
  refine Wp.iconst (pc := 37) (0 : Int32) (by decide) dX12_read_37 ?_
  obtain ⟨m5, h6, hf⟩ := bnd hf
  refine Wp.ptI2 (pc := 38) h6 (hG.t 56 rfl) fk_RX12_216 ff_RX12_11_2 rfl dX12_read_38 ?_
  refine Wp.aload_n (pc := 41) 0 rfl rfl dX12_read_41 ?_
  obtain ⟨c7, h8, hf⟩ := bnd hf
  refine Wp.callVv (pc := 42) (st := []) (as := []) (c_X12_cut hG h8) ml_RX12_278 mv_X12_cut mb_X12_cut hX (Nat.le_of_ble_eq_true rfl) (by decide) rfl (hG.t 56 rfl) rfl (by simp) dX12_read_42 rfl ?_
  refine Wp.aload_n (pc := 45) 0 rfl rfl dX12_read_45 ?_
  refine Wp.iconst (pc := 46) (0 : Int32) (by decide) dX12_read_46 ?_
  obtain ⟨m9, h10, hf⟩ := bnd hf
  refine Wp.ptI2 (pc := 47) h10 (hG.t 56 rfl) fk_RX12_257 ff_RX12_11_11 rfl dX12_read_47 ?_
  refine Wp.aload_n (pc := 50) 0 rfl rfl dX12_read_50 ?_
  refine Wp.iconst (pc := 51) (0 : Int32) (by decide) dX12_read_51 ?_
  obtain ⟨m11, h12, hf⟩ := bnd hf
  refine Wp.ptI2 (pc := 52) h12 (hG.t 56 rfl) fk_RX12_281 ff_RX12_11_12 rfl dX12_read_52 ?_
  refine Wp.aload_n (pc := 55) 0 rfl rfl dX12_read_55 ?_
  refine Wp.iconst (pc := 56) (0 : Int32) (by decide) dX12_read_56 ?_
  obtain ⟨m13, h14, hf⟩ := bnd hf
  refine Wp.ptI2 (pc := 57) h14 (hG.t 56 rfl) fk_RX12_254 ff_RX12_11_13 rfl dX12_read_57 ?_
  refine Wp.aload_n (pc := 60) 0 rfl rfl dX12_read_60 ?_
  refine Wp.iconst (pc := 61) (0 : Int32) (by decide) dX12_read_61 ?_
  obtain ⟨m15, h16, hf⟩ := bnd hf
  refine Wp.ptI2 (pc := 62) h16 (hG.t 56 rfl) fk_RX12_263 ff_RX12_11_15 rfl dX12_read_62 ?_
  refine Wp.aload_n (pc := 65) 0 rfl rfl dX12_read_65 ?_
  refine Wp.iconst (pc := 66) (1 : Int32) (by decide) dX12_read_66 ?_
  refine Wp.aload_n (pc := 67) 0 rfl rfl dX12_read_67 ?_
  refine Wp.getI2 (pc := 68) (hG.t 56 rfl) fk_RX12_284 rfl dX12_read_68 ?_
  refine Wp.isub (pc := 71) dX12_read_71 ?_
  obtain ⟨m17, h18, hf⟩ := bnd hf
  refine Wp.ptI2 (pc := 72) h18 (hG.t 56 rfl) fk_RX12_287 ff_RX12_11_19 rfl dX12_read_72 ?_
  refine Wp.aload_n (pc := 75) 0 rfl rfl dX12_read_75 ?_
  refine Wp.iconst (pc := 76) (0 : Int32) (by decide) dX12_read_76 ?_
  obtain ⟨m19, h20, hf⟩ := bnd hf
  refine Wp.ptI2 (pc := 77) h20 (hG.t 56 rfl) fk_RX12_290 ff_RX12_11_20 rfl dX12_read_77 ?_
  refine Wp.aload_n (pc := 80) 0 rfl rfl dX12_read_80 ?_
  refine Wp.getR2 (pc := 81) (hG.r 56 23 rfl) (hG.t 56 rfl) fk_RX12_46 rfl dX12_read_81 ?_
  refine Wp.aload_n (pc := 84) 0 rfl rfl dX12_read_84 ?_
  refine Wp.getI2 (pc := 85) (hG.t 56 rfl) fk_RX12_287 rfl dX12_read_85 ?_
  refine Wp.bipush (pc := 88) (24 : Int32) (by decide) dX12_read_88 ?_
  obtain ⟨m21, h22, hf⟩ := bnd hf
  refine Wp.iast2 (pc := 90) h22 (hG.a 66 0 rfl) dX12_read_90 ?_
  refine Wp.aload_n (pc := 91) 0 rfl rfl dX12_read_91 ?_
  refine Wp.getR2 (pc := 92) (hG.r 56 24 rfl) (hG.t 56 rfl) fk_RX12_49 rfl dX12_read_92 ?_
  refine Wp.aload_n (pc := 95) 0 rfl rfl dX12_read_95 ?_
  refine Wp.getI2 (pc := 96) (hG.t 56 rfl) fk_RX12_287 rfl dX12_read_96 ?_
  refine Wp.iconst (pc := 99) (0 : Int32) (by decide) dX12_read_99 ?_
  obtain ⟨m23, h24, hf⟩ := bnd hf
  refine Wp.iast2 (pc := 100) h24 (hG.a 67 0 rfl) dX12_read_100 ?_
  refine Wp.aload_n (pc := 101) 0 rfl rfl dX12_read_101 ?_
  refine Wp.bipush (pc := 102) (54 : Int32) (by decide) dX12_read_102 ?_
  refine Wp.aload_n (pc := 104) 0 rfl rfl dX12_read_104 ?_
  refine Wp.getI2 (pc := 105) (hG.t 56 rfl) fk_RX12_287 rfl dX12_read_105 ?_
  refine Wp.imul (pc := 108) dX12_read_108 ?_
  obtain ⟨m25, h26, hf⟩ := bnd hf
  refine Wp.ptI2 (pc := 109) h26 (hG.t 56 rfl) fk_RX12_293 ff_RX12_11_27 rfl dX12_read_109 ?_
  refine Wp.aload_n (pc := 112) 0 rfl rfl dX12_read_112 ?_
  refine Wp.getR2 (pc := 113) (hG.r 56 32 rfl) (hG.t 56 rfl) fk_RX12_70 rfl dX12_read_113 ?_
  refine Wp.aload_n (pc := 116) 0 rfl rfl dX12_read_116 ?_
  refine Wp.getI2 (pc := 117) (hG.t 56 rfl) fk_RX12_287 rfl dX12_read_117 ?_
  refine Wp.iconst (pc := 120) (0 : Int32) (by decide) dX12_read_120 ?_
  obtain ⟨m27, h28, hf⟩ := bnd hf
  refine Wp.iast2 (pc := 121) h28 (hG.a 74 0 rfl) dX12_read_121 ?_
  refine Wp.aload_n (pc := 122) 0 rfl rfl dX12_read_122 ?_
  refine Wp.getR2 (pc := 123) (hG.r 56 35 rfl) (hG.t 56 rfl) fk_RX12_79 rfl dX12_read_123 ?_
  refine Wp.aload_n (pc := 126) 0 rfl rfl dX12_read_126 ?_
  refine Wp.getI2 (pc := 127) (hG.t 56 rfl) fk_RX12_287 rfl dX12_read_127 ?_
  refine Wp.iconst (pc := 130) (-1 : Int32) (by decide) dX12_read_130 ?_
  obtain ⟨m29, h30, hf⟩ := bnd hf
  refine Wp.iast2 (pc := 131) h30 (hG.a 77 0 rfl) dX12_read_131 ?_
  refine Wp.aload_n (pc := 132) 0 rfl rfl dX12_read_132 ?_
  refine Wp.getR2 (pc := 133) (hG.r 56 36 rfl) (hG.t 56 rfl) fk_RX12_82 rfl dX12_read_133 ?_
  refine Wp.aload_n (pc := 136) 0 rfl rfl dX12_read_136 ?_
  refine Wp.getI2 (pc := 137) (hG.t 56 rfl) fk_RX12_287 rfl dX12_read_137 ?_
  refine Wp.iconst (pc := 140) (0 : Int32) (by decide) dX12_read_140 ?_
  obtain ⟨m31, h32, hf⟩ := bnd hf
  refine Wp.iast2 (pc := 141) h32 (hG.a 78 0 rfl) dX12_read_141 ?_
  refine Wp.aload_n (pc := 142) 0 rfl rfl dX12_read_142 ?_
  refine Wp.getR2 (pc := 143) (hG.r 56 37 rfl) (hG.t 56 rfl) fk_RX12_85 rfl dX12_read_143 ?_
  refine Wp.aload_n (pc := 146) 0 rfl rfl dX12_read_146 ?_
  refine Wp.getI2 (pc := 147) (hG.t 56 rfl) fk_RX12_287 rfl dX12_read_147 ?_
  refine Wp.iconst (pc := 150) (-1 : Int32) (by decide) dX12_read_150 ?_
  obtain ⟨m33, h34, hf⟩ := bnd hf
  refine Wp.iast2 (pc := 151) h34 (hG.a 79 0 rfl) dX12_read_151 ?_
  refine Wp.aload_n (pc := 152) 0 rfl rfl dX12_read_152 ?_
  refine Wp.getR2 (pc := 153) (hG.r 56 38 rfl) (hG.t 56 rfl) fk_RX12_88 rfl dX12_read_153 ?_
  refine Wp.aload_n (pc := 156) 0 rfl rfl dX12_read_156 ?_
  refine Wp.getI2 (pc := 157) (hG.t 56 rfl) fk_RX12_287 rfl dX12_read_157 ?_
  refine Wp.iconst (pc := 160) (0 : Int32) (by decide) dX12_read_160 ?_
  obtain ⟨m35, h36, hf⟩ := bnd hf
  refine Wp.iast2 (pc := 161) h36 (hG.a 80 0 rfl) dX12_read_161 ?_
  refine Wp.aload_n (pc := 162) 0 rfl rfl dX12_read_162 ?_
  refine Wp.sipush (pc := 163) (150 : Int32) (by decide) dX12_read_163 ?_
  refine Wp.aload_n (pc := 166) 0 rfl rfl dX12_read_166 ?_
  refine Wp.getI2 (pc := 167) (hG.t 56 rfl) fk_RX12_287 rfl dX12_read_167 ?_
  refine Wp.imul (pc := 170) dX12_read_170 ?_
  obtain ⟨m37, h38, hf⟩ := bnd hf
  refine Wp.ptI2 (pc := 171) h38 (hG.t 56 rfl) fk_RX12_296 ff_RX12_11_41 rfl dX12_read_171 ?_
  refine Wp.aload_n (pc := 174) 0 rfl rfl dX12_read_174 ?_
  refine Wp.sipush (pc := 175) (420 : Int32) (by decide) dX12_read_175 ?_
  refine Wp.aload_n (pc := 178) 0 rfl rfl dX12_read_178 ?_
  refine Wp.getI2 (pc := 179) (hG.t 56 rfl) fk_RX12_287 rfl dX12_read_179 ?_
  refine Wp.imul (pc := 182) dX12_read_182 ?_
  obtain ⟨m39, h40, hf⟩ := bnd hf
  refine Wp.ptI2 (pc := 183) h40 (hG.t 56 rfl) fk_RX12_299 ff_RX12_11_48 rfl dX12_read_183 ?_
  refine Wp.aload_n (pc := 186) 0 rfl rfl dX12_read_186 ?_
  refine Wp.iconst (pc := 187) (0 : Int32) (by decide) dX12_read_187 ?_
  obtain ⟨m41, h42, hf⟩ := bnd hf
  refine Wp.ptI2 (pc := 188) h42 (hG.t 56 rfl) fk_RX12_302 ff_RX12_11_51 rfl dX12_read_188 ?_
  obtain ⟨e43, h44, hf⟩ := bnd hf
  refine wl_X12_read_191 hX hG h44 ?_
  exact w_X12_read_213 hX hG hf hk
theorem c_X12_read {T : List Dsc} {R : RM} {c e : Nat} {m : M2} {r : (Int32 × M2)} (hG : Geo T R c e) (hf : F_X12_read m = some r) : Ct 9 yX12_read cX12_read 2 (some .int) T (mk m R) [.ref 56] (some (.int r.1)) (mk r.2 R) := Ct.ofI (r := (r.1, mk r.2 R)) (by decide +kernel) (Nat.le_of_ble_eq_true rfl) (fun X hX hk => w_X12_read hX hG hf hk)
theorem dX12_place_0 : decode cX12_place 0 = .ok (.aload_n 0, 1) := by decide +kernel
theorem dX12_place_1 : decode cX12_place 1 = .ok (.getfield 37, 3) := by decide +kernel
theorem dX12_place_4 : decode cX12_place 4 = .ok (.ireturn, 1) := by decide +kernel
set_option maxHeartbeats 4000000 in
set_option maxRecDepth 100000 in
theorem w_X12_place {X : CX} {T : List Dsc} {R : RM} {c e : Nat} {n1 n2 : Nat} {m : M2} {r : (Int32 × M2)} (hX : XR X 1 n1 n2) (hG : Geo T R c e) (hf : F_X12_place m = some r) (hk : FnI X cX12_place RX12 1 T n1 n2 (r.1, mk r.2 R)) : Wp X cX12_place RX12 1 T (mk m R) n1 n2 0 [(0, .ref 56)] [] := by
  unfold F_X12_place at hf
  refine Wp.aload_n (pc := 0) 0 rfl rfl dX12_place_0 ?_
  refine Wp.getI2 (pc := 1) (hG.t 56 rfl) fk_RX12_37 rfl dX12_place_1 ?_
  cases hf
  exact hk _ _ dX12_place_4
theorem c_X12_place {T : List Dsc} {R : RM} {c e : Nat} {m : M2} {r : (Int32 × M2)} (hG : Geo T R c e) (hf : F_X12_place m = some r) : Ct 1 yX12_place cX12_place 1 (some .int) T (mk m R) [.ref 56] (some (.int r.1)) (mk r.2 R) := Ct.ofI (r := (r.1, mk r.2 R)) (by decide +kernel) (Nat.le_of_ble_eq_true rfl) (fun X hX hk => w_X12_place hX hG hf hk)
theorem dX12_in_0 : decode cX12_in 0 = .ok (.iload_n 0, 1) := by decide +kernel
theorem dX12_in_1 : decode cX12_in 1 = .ok (.iload_n 1, 1) := by decide +kernel
theorem dX12_in_2 : decode cX12_in 2 = .ok (.if_icmp .lt 12, 3) := by decide +kernel
theorem dX12_in_5 : decode cX12_in 5 = .ok (.iload_n 0, 1) := by decide +kernel
theorem dX12_in_6 : decode cX12_in 6 = .ok (.iload_n 2, 1) := by decide +kernel
theorem dX12_in_7 : decode cX12_in 7 = .ok (.if_icmp .gt 7, 3) := by decide +kernel
theorem dX12_in_10 : decode cX12_in 10 = .ok (.iconst 1, 1) := by decide +kernel
theorem dX12_in_11 : decode cX12_in 11 = .ok (.goto 4, 3) := by decide +kernel
theorem dX12_in_14 : decode cX12_in 14 = .ok (.iconst 0, 1) := by decide +kernel
theorem dX12_in_15 : decode cX12_in 15 = .ok (.ireturn, 1) := by decide +kernel
set_option maxHeartbeats 4000000 in
set_option maxRecDepth 100000 in
theorem w_X12_in_15 {X : CX} {T : List Dsc} {R : RM} {c e : Nat} {n1 n2 : Nat} {s0 : Int32} {m : M2} {r : (Int32 × M2)} (hX : XR X 1 n1 n2) (hG : Geo T R c e) (hf : f_X12_in_15 s0 m = some r) (hk : FnZ X cX12_in RX12 3 T n1 n2 (r.1, mk r.2 R)) : Wp X cX12_in RX12 3 T (mk m R) n1 n2 15 [] [.int s0] := by
  unfold f_X12_in_15 at hf
  obtain ⟨v1, h2, hf⟩ := bnd hf
  refine Wp.zb' h2 (fun h2 => ?_)
  cases hf
  exact hk _ _ h2 dX12_in_15
set_option maxHeartbeats 4000000 in
set_option maxRecDepth 100000 in
theorem w_X12_in_14 {X : CX} {T : List Dsc} {R : RM} {c e : Nat} {n1 n2 : Nat} {m : M2} {r : (Int32 × M2)} (hX : XR X 1 n1 n2) (hG : Geo T R c e) (hf : f_X12_in_14 m = some r) (hk : FnZ X cX12_in RX12 3 T n1 n2 (r.1, mk r.2 R)) : Wp X cX12_in RX12 3 T (mk m R) n1 n2 14 [] [] := by
  unfold f_X12_in_14 at hf
  refine Wp.iconst (pc := 14) (0 : Int32) (by decide) dX12_in_14 ?_
  exact w_X12_in_15 hX hG hf hk
set_option maxHeartbeats 4000000 in
set_option maxRecDepth 100000 in
theorem w_X12_in {X : CX} {T : List Dsc} {R : RM} {c e : Nat} {n1 n2 : Nat} {x0 : Int32} {x1 : Int32} {x2 : Int32} {m : M2} {r : (Int32 × M2)} (hX : XR X 1 n1 n2) (hG : Geo T R c e) (hf : F_X12_in x0 x1 x2 m = some r) (hk : FnZ X cX12_in RX12 3 T n1 n2 (r.1, mk r.2 R)) : Wp X cX12_in RX12 3 T (mk m R) n1 n2 0 [(0, .int x0), (1, .int x1), (2, .int x2)] [] := by
  unfold F_X12_in at hf
  refine Wp.iload_n (pc := 0) 0 rfl rfl dX12_in_0 ?_
  refine Wp.iload_n (pc := 1) 1 rfl rfl dX12_in_1 ?_
  refine Wp.icmp_lt (pc := 2) 14 dX12_in_2 (by decide) (fun hc1 => ?_) (fun hc1 => ?_)
  · rw [if_pos hc1] at hf
    refine Wp.lo' (lo' := []) [] rfl ?_
    exact w_X12_in_14 hX hG hf hk
  · rw [if_neg hc1] at hf
    refine Wp.iload_n (pc := 5) 0 rfl rfl dX12_in_5 ?_
    refine Wp.iload_n (pc := 6) 2 rfl rfl dX12_in_6 ?_
    refine Wp.icmp_gt (pc := 7) 14 dX12_in_7 (by decide) (fun hc2 => ?_) (fun hc2 => ?_)
    · rw [if_pos hc2] at hf
      refine Wp.lo' (lo' := []) [] rfl ?_
      exact w_X12_in_14 hX hG hf hk
    · rw [if_neg hc2] at hf
      refine Wp.iconst (pc := 10) (1 : Int32) (by decide) dX12_in_10 ?_
      refine Wp.goto (pc := 11) 15 dX12_in_11 (by decide) ?_
      refine Wp.lo' (lo' := []) [] rfl ?_
      exact w_X12_in_15 hX hG hf hk
theorem c_X12_in {T : List Dsc} {R : RM} {c e : Nat} {x0 : Int32} {x1 : Int32} {x2 : Int32} {m : M2} {r : (Int32 × M2)} (hG : Geo T R c e) (hf : F_X12_in x0 x1 x2 m = some r) : Ct 1 yX12_in cX12_in 3 (some .boolean) T (mk m R) [.int x0, .int x1, .int x2] (some (.int r.1)) (mk r.2 R) := Ct.ofZ (r := (r.1, mk r.2 R)) (by decide +kernel) (Nat.le_of_ble_eq_true rfl) (fun X hX hk => w_X12_in hX hG hf hk)
theorem dX12_all_0 : decode cX12_all 0 = .ok (.aload_n 0, 1) := by decide +kernel
theorem dX12_all_1 : decode cX12_all 1 = .ok (.getfield 46, 3) := by decide +kernel
theorem dX12_all_4 : decode cX12_all 4 = .ok (.aload_n 0, 1) := by decide +kernel
theorem dX12_all_5 : decode cX12_all 5 = .ok (.getfield 284, 3) := by decide +kernel
theorem dX12_all_8 : decode cX12_all 8 = .ok (.iaload, 1) := by decide +kernel
theorem dX12_all_9 : decode cX12_all 9 = .ok (.ireturn, 1) := by decide +kernel
set_option maxHeartbeats 4000000 in
set_option maxRecDepth 100000 in
theorem w_X12_all {X : CX} {T : List Dsc} {R : RM} {c e : Nat} {n1 n2 : Nat} {m : M2} {r : (Int32 × M2)} (hX : XR X 1 n1 n2) (hG : Geo T R c e) (hf : F_X12_all m = some r) (hk : FnI X cX12_all RX12 1 T n1 n2 (r.1, mk r.2 R)) : Wp X cX12_all RX12 1 T (mk m R) n1 n2 0 [(0, .ref 56)] [] := by
  unfold F_X12_all at hf
  refine Wp.aload_n (pc := 0) 0 rfl rfl dX12_all_0 ?_
  refine Wp.getR2 (pc := 1) (hG.r 56 23 rfl) (hG.t 56 rfl) fk_RX12_46 rfl dX12_all_1 ?_
  refine Wp.aload_n (pc := 4) 0 rfl rfl dX12_all_4 ?_
  refine Wp.getI2 (pc := 5) (hG.t 56 rfl) fk_RX12_284 rfl dX12_all_5 ?_
  obtain ⟨v1, h2, hf⟩ := bnd hf
  refine Wp.iald2 (pc := 8) h2 (hG.a 66 0 rfl) dX12_all_8 ?_
  cases hf
  exact hk _ _ dX12_all_9
theorem c_X12_all {T : List Dsc} {R : RM} {c e : Nat} {m : M2} {r : (Int32 × M2)} (hG : Geo T R c e) (hf : F_X12_all m = some r) : Ct 1 yX12_all cX12_all 1 (some .int) T (mk m R) [.ref 56] (some (.int r.1)) (mk r.2 R) := Ct.ofI (r := (r.1, mk r.2 R)) (by decide +kernel) (Nat.le_of_ble_eq_true rfl) (fun X hX hk => w_X12_all hX hG hf hk)
theorem dX12_takes_0 : decode cX12_takes 0 = .ok (.aload_n 0, 1) := by decide +kernel
theorem dX12_takes_1 : decode cX12_takes 1 = .ok (.aload_n 0, 1) := by decide +kernel
theorem dX12_takes_2 : decode cX12_takes 2 = .ok (.invokevirtual 390, 3) := by decide +kernel
theorem dX12_takes_5 : decode cX12_takes 5 = .ok (.putfield 399, 3) := by decide +kernel
theorem dX12_takes_8 : decode cX12_takes 8 = .ok (.aload_n 0, 1) := by decide +kernel
theorem dX12_takes_9 : decode cX12_takes 9 = .ok (.aload_n 0, 1) := by decide +kernel
theorem dX12_takes_10 : decode cX12_takes 10 = .ok (.getfield 209, 3) := by decide +kernel
theorem dX12_takes_13 : decode cX12_takes 13 = .ok (.putfield 402, 3) := by decide +kernel
theorem dX12_takes_16 : decode cX12_takes 16 = .ok (.aload_n 0, 1) := by decide +kernel
theorem dX12_takes_17 : decode cX12_takes 17 = .ok (.aload_n 0, 1) := by decide +kernel
theorem dX12_takes_18 : decode cX12_takes 18 = .ok (.getfield 393, 3) := by decide +kernel
theorem dX12_takes_21 : decode cX12_takes 21 = .ok (.putfield 405, 3) := by decide +kernel
theorem dX12_takes_24 : decode cX12_takes 24 = .ok (.iconst 0, 1) := by decide +kernel
theorem dX12_takes_25 : decode cX12_takes 25 = .ok (.istore_n 1, 1) := by decide +kernel
theorem dX12_takes_26 : decode cX12_takes 26 = .ok (.iload_n 1, 1) := by decide +kernel
theorem dX12_takes_27 : decode cX12_takes 27 = .ok (.aload_n 0, 1) := by decide +kernel
theorem dX12_takes_28 : decode cX12_takes 28 = .ok (.getfield 399, 3) := by decide +kernel
theorem dX12_takes_31 : decode cX12_takes 31 = .ok (.if_icmp .ge 33, 3) := by decide +kernel
theorem dX12_takes_34 : decode cX12_takes 34 = .ok (.aload_n 0, 1) := by decide +kernel
theorem dX12_takes_35 : decode cX12_takes 35 = .ok (.getfield 140, 3) := by decide +kernel
theorem dX12_takes_38 : decode cX12_takes 38 = .ok (.iload_n 1, 1) := by decide +kernel
theorem dX12_takes_39 : decode cX12_takes 39 = .ok (.aload_n 0, 1) := by decide +kernel
theorem dX12_takes_40 : decode cX12_takes 40 = .ok (.getfield 128, 3) := by decide +kernel
theorem dX12_takes_43 : decode cX12_takes 43 = .ok (.iload_n 1, 1) := by decide +kernel
theorem dX12_takes_44 : decode cX12_takes 44 = .ok (.iaload, 1) := by decide +kernel
theorem dX12_takes_45 : decode cX12_takes 45 = .ok (.iastore, 1) := by decide +kernel
theorem dX12_takes_46 : decode cX12_takes 46 = .ok (.aload_n 0, 1) := by decide +kernel
theorem dX12_takes_47 : decode cX12_takes 47 = .ok (.getfield 143, 3) := by decide +kernel
theorem dX12_takes_50 : decode cX12_takes 50 = .ok (.iload_n 1, 1) := by decide +kernel
theorem dX12_takes_51 : decode cX12_takes 51 = .ok (.aload_n 0, 1) := by decide +kernel
theorem dX12_takes_52 : decode cX12_takes 52 = .ok (.getfield 134, 3) := by decide +kernel
theorem dX12_takes_55 : decode cX12_takes 55 = .ok (.iload_n 1, 1) := by decide +kernel
theorem dX12_takes_56 : decode cX12_takes 56 = .ok (.iaload, 1) := by decide +kernel
theorem dX12_takes_57 : decode cX12_takes 57 = .ok (.iastore, 1) := by decide +kernel
theorem dX12_takes_58 : decode cX12_takes 58 = .ok (.iinc 1 1, 3) := by decide +kernel
theorem dX12_takes_61 : decode cX12_takes 61 = .ok (.goto (-35), 3) := by decide +kernel
theorem dX12_takes_64 : decode cX12_takes 64 = .ok (.return_, 1) := by decide +kernel
def k_X12_takes_26 (X : CX) (T : List Dsc) (R : RM) (n1 n2 : Nat) (r : ((Int32 × M2) ⊕ ((M2)))) : Prop := match r with
  | .inl s => Wp X cX12_takes RX12 2 T (mk s.2 R) n1 n2 26 [(0, .ref 56), (1, .int s.1)] []
  | .inr e => Wp X cX12_takes RX12 2 T (mk e R) n1 n2 64 [] []
set_option maxHeartbeats 4000000 in
set_option maxRecDepth 100000 in
theorem w_X12_takes_26 {X : CX} {T : List Dsc} {R : RM} {c e : Nat} {n1 n2 : Nat} {x1 : Int32} {m : M2} {r : ((Int32 × M2) ⊕ ((M2)))} (hX : XR X 2 n1 n2) (hG : Geo T R c e) (hf : f_X12_takes_26 x1 m = some r) (hk : k_X12_takes_26 X T R n1 n2 r) : Wp X cX12_takes RX12 2 T (mk m R) n1 n2 26 [(0, .ref 56), (1, .int x1)] [] := by
  unfold f_X12_takes_26 at hf
  refine Wp.iload_n (pc := 26) 1 rfl rfl dX12_takes_26 ?_
  refine Wp.aload_n (pc := 27) 0 rfl rfl dX12_takes_27 ?_
  refine Wp.getI2 (pc := 28) (hG.t 56 rfl) fk_RX12_399 rfl dX12_takes_28 ?_
  refine Wp.icmp_ge (pc := 31) 64 dX12_takes_31 (by decide) (fun hc1 => ?_) (fun hc1 => ?_)
  · rw [if_pos hc1] at hf
    refine Wp.lo' (lo' := []) [] rfl ?_
    cases hf
    exact hk
  · rw [if_neg hc1] at hf
    refine Wp.aload_n (pc := 34) 0 rfl rfl dX12_takes_34 ?_
    refine Wp.getR2 (pc := 35) (hG.r 56 63 rfl) (hG.t 56 rfl) fk_RX12_140 rfl dX12_takes_35 ?_
    refine Wp.iload_n (pc := 38) 1 rfl rfl dX12_takes_38 ?_
    refine Wp.aload_n (pc := 39) 0 rfl rfl dX12_takes_39 ?_
    refine Wp.getR2 (pc := 40) (hG.r 56 55 rfl) (hG.t 56 rfl) fk_RX12_128 rfl dX12_takes_40 ?_
    refine Wp.iload_n (pc := 43) 1 rfl rfl dX12_takes_43 ?_
    obtain ⟨v2, h3, hf⟩ := bnd hf
    refine Wp.iald2 (pc := 44) h3 (hG.a 93 0 rfl) dX12_takes_44 ?_
    obtain ⟨m4, h5, hf⟩ := bnd hf
    refine Wp.iast2 (pc := 45) h5 (hG.a 97 0 rfl) dX12_takes_45 ?_
    refine Wp.aload_n (pc := 46) 0 rfl rfl dX12_takes_46 ?_
    refine Wp.getR2 (pc := 47) (hG.r 56 64 rfl) (hG.t 56 rfl) fk_RX12_143 rfl dX12_takes_47 ?_
    refine Wp.iload_n (pc := 50) 1 rfl rfl dX12_takes_50 ?_
    refine Wp.aload_n (pc := 51) 0 rfl rfl dX12_takes_51 ?_
    refine Wp.getR2 (pc := 52) (hG.r 56 57 rfl) (hG.t 56 rfl) fk_RX12_134 rfl dX12_takes_52 ?_
    refine Wp.iload_n (pc := 55) 1 rfl rfl dX12_takes_55 ?_
    obtain ⟨v6, h7, hf⟩ := bnd hf
    refine Wp.iald2 (pc := 56) h7 (hG.a 95 0 rfl) dX12_takes_56 ?_
    obtain ⟨m8, h9, hf⟩ := bnd hf
    refine Wp.iast2 (pc := 57) h9 (hG.a 98 0 rfl) dX12_takes_57 ?_
    obtain ⟨v10, h11, hf⟩ := bnd hf
    refine Wp.iincN (pc := 58) (lo' := [(0, .ref 56), (1, .int v10)]) (1 : Int32) (by decide) h11 1 rfl [1, 0] rfl (by decide) dX12_takes_58 ?_
    refine Wp.goto (pc := 61) 26 dX12_takes_61 (by decide) ?_
    cases hf
    exact hk
theorem wl_X12_takes_26 {X : CX} {T : List Dsc} {R : RM} {c e : Nat} {n1 n2 : Nat} {x1 : Int32} {m : M2} {e1 : ((M2))} (hX : XR X 2 n1 n2) (hG : Geo T R c e) (h : loop (g_X12_takes_26) (x1, m) = some e1) (he : Wp X cX12_takes RX12 2 T (mk e1 R) n1 n2 64 [] []) : Wp X cX12_takes RX12 2 T (mk m R) n1 n2 26 [(0, .ref 56), (1, .int x1)] [] :=
  loop_ok (K := k_X12_takes_26 X T R n1 n2) (fun s r hf hk => w_X12_takes_26 hX hG hf hk) h he
set_option maxHeartbeats 4000000 in
set_option maxRecDepth 100000 in
theorem w_X12_takes {X : CX} {T : List Dsc} {R : RM} {c e : Nat} {n1 n2 : Nat} {m : M2} {r : M2} (hX : XR X 2 n1 n2) (hG : Geo T R c e) (hf : F_X12_takes m = some r) (hk : FnV X cX12_takes RX12 2 T n1 n2 (mk r R)) : Wp X cX12_takes RX12 2 T (mk m R) n1 n2 0 [(0, .ref 56)] [] := by
  unfold F_X12_takes at hf
  refine Wp.aload_n (pc := 0) 0 rfl rfl dX12_takes_0 ?_
  refine Wp.aload_n (pc := 1) 0 rfl rfl dX12_takes_1 ?_
  obtain ⟨c1, h2, hf⟩ := bnd hf
  refine Wp.callVi (pc := 2) (st := [.ref 56]) (as := []) (c_X12_menNow hG h2) ml_RX12_390 mv_X12_menNow mb_X12_menNow hX (Nat.le_of_ble_eq_true rfl) (by decide) rfl (hG.t 56 rfl) rfl (by simp [Value.category]) dX12_takes_2 rfl ?_
  obtain ⟨m3, h4, hf⟩ := bnd hf
  refine Wp.ptI2 (pc := 5) h4 (hG.t 56 rfl) fk_RX12_399 ff_RX12_11_65 rfl dX12_takes_5 ?_
  refine Wp.aload_n (pc := 8) 0 rfl rfl dX12_takes_8 ?_
  refine Wp.aload_n (pc := 9) 0 rfl rfl dX12_takes_9 ?_
  refine Wp.getI2 (pc := 10) (hG.t 56 rfl) fk_RX12_209 rfl dX12_takes_10 ?_
  obtain ⟨m5, h6, hf⟩ := bnd hf
  refine Wp.ptI2 (pc := 13) h6 (hG.t 56 rfl) fk_RX12_402 ff_RX12_11_66 rfl dX12_takes_13 ?_
  refine Wp.aload_n (pc := 16) 0 rfl rfl dX12_takes_16 ?_
  refine Wp.aload_n (pc := 17) 0 rfl rfl dX12_takes_17 ?_
  refine Wp.getI2 (pc := 18) (hG.t 56 rfl) fk_RX12_393 rfl dX12_takes_18 ?_
  obtain ⟨m7, h8, hf⟩ := bnd hf
  refine Wp.ptI2 (pc := 21) h8 (hG.t 56 rfl) fk_RX12_405 ff_RX12_11_67 rfl dX12_takes_21 ?_
  refine Wp.iconst (pc := 24) (0 : Int32) (by decide) dX12_takes_24 ?_
  refine Wp.istore_n (pc := 25) (lo' := [(0, .ref 56), (1, .int (0 : Int32))]) [1, 0] rfl (by decide) rfl dX12_takes_25 ?_
  obtain ⟨e9, h10, hf⟩ := bnd hf
  refine wl_X12_takes_26 hX hG h10 ?_
  cases hf
  exact hk _ _ dX12_takes_64
theorem c_X12_takes {T : List Dsc} {R : RM} {c e : Nat} {m : M2} {r : M2} (hG : Geo T R c e) (hf : F_X12_takes m = some r) : Ct 2 yX12_takes cX12_takes 2 none T (mk m R) [.ref 56] none (mk r R) := Ct.ofV (r := mk r R) (by decide +kernel) (Nat.le_of_ble_eq_true rfl) (fun X hX hk => w_X12_takes hX hG hf hk)
theorem dX12_rest_0 : decode cX12_rest 0 = .ok (.iload_n 1, 1) := by decide +kernel
theorem dX12_rest_1 : decode cX12_rest 1 = .ok (.aload_n 0, 1) := by decide +kernel
theorem dX12_rest_2 : decode cX12_rest 2 = .ok (.invokevirtual 408, 3) := by decide +kernel
theorem dX12_rest_5 : decode cX12_rest 5 = .ok (.irem, 1) := by decide +kernel
theorem dX12_rest_6 : decode cX12_rest 6 = .ok (.istore_n 2, 1) := by decide +kernel
theorem dX12_rest_7 : decode cX12_rest 7 = .ok (.iload_n 2, 1) := by decide +kernel
theorem dX12_rest_8 : decode cX12_rest 8 = .ok (.ifCond .ge 12, 3) := by decide +kernel
theorem dX12_rest_11 : decode cX12_rest 11 = .ok (.iload_n 2, 1) := by decide +kernel
theorem dX12_rest_12 : decode cX12_rest 12 = .ok (.aload_n 0, 1) := by decide +kernel
theorem dX12_rest_13 : decode cX12_rest 13 = .ok (.invokevirtual 408, 3) := by decide +kernel
theorem dX12_rest_16 : decode cX12_rest 16 = .ok (.iadd, 1) := by decide +kernel
theorem dX12_rest_17 : decode cX12_rest 17 = .ok (.goto 4, 3) := by decide +kernel
theorem dX12_rest_20 : decode cX12_rest 20 = .ok (.iload_n 2, 1) := by decide +kernel
theorem dX12_rest_21 : decode cX12_rest 21 = .ok (.ireturn, 1) := by decide +kernel
set_option maxHeartbeats 4000000 in
set_option maxRecDepth 100000 in
theorem w_X12_rest_21 {X : CX} {T : List Dsc} {R : RM} {c e : Nat} {n1 n2 : Nat} {s0 : Int32} {m : M2} {r : (Int32 × M2)} (hX : XR X 2 n1 n2) (hG : Geo T R c e) (hf : f_X12_rest_21 s0 m = some r) (hk : FnI X cX12_rest RX12 3 T n1 n2 (r.1, mk r.2 R)) : Wp X cX12_rest RX12 3 T (mk m R) n1 n2 21 [] [.int s0] := by
  unfold f_X12_rest_21 at hf
  cases hf
  exact hk _ _ dX12_rest_21
set_option maxHeartbeats 4000000 in
set_option maxRecDepth 100000 in
theorem w_X12_rest {X : CX} {T : List Dsc} {R : RM} {c e : Nat} {n1 n2 : Nat} {x1 : Int32} {m : M2} {r : (Int32 × M2)} (hX : XR X 2 n1 n2) (hG : Geo T R c e) (hf : F_X12_rest x1 m = some r) (hk : FnI X cX12_rest RX12 3 T n1 n2 (r.1, mk r.2 R)) : Wp X cX12_rest RX12 3 T (mk m R) n1 n2 0 [(0, .ref 56), (1, .int x1)] [] := by
  unfold F_X12_rest at hf
  refine Wp.iload_n (pc := 0) 1 rfl rfl dX12_rest_0 ?_
  refine Wp.aload_n (pc := 1) 0 rfl rfl dX12_rest_1 ?_
  obtain ⟨c1, h2, hf⟩ := bnd hf
  refine Wp.callVi (pc := 2) (st := [.int x1]) (as := []) (c_X12_all hG h2) ml_RX12_408 mv_X12_all mb_X12_all hX (Nat.le_of_ble_eq_true rfl) (by decide) rfl (hG.t 56 rfl) rfl (by simp [Value.category]) dX12_rest_2 rfl ?_
  obtain ⟨v3, h4, hf⟩ := bnd hf
  refine Wp.rm (pc := 5) h4 dX12_rest_5 ?_
  refine Wp.istore_n (pc := 6) (lo' := [(0, .ref 56), (2, .int v3)]) [1, 0] rfl (by decide) rfl dX12_rest_6 ?_
  refine Wp.iload_n (pc := 7) 1 rfl rfl dX12_rest_7 ?_
  refine Wp.if_ge (pc := 8) 20 dX12_rest_8 (by decide) (fun hc5 => ?_) (fun hc5 => ?_)
  · rw [if_pos hc5] at hf
    refine Wp.iload_n (pc := 20) 1 rfl rfl dX12_rest_20 ?_
    refine Wp.lo' (lo' := []) [] rfl ?_
    exact w_X12_rest_21 hX hG hf hk
  · rw [if_neg hc5] at hf
    refine Wp.iload_n (pc := 11) 1 rfl rfl dX12_rest_11 ?_
    refine Wp.aload_n (pc := 12) 0 rfl rfl dX12_rest_12 ?_
    obtain ⟨c6, h7, hf⟩ := bnd hf
    refine Wp.callVi (pc := 13) (st := [.int v3]) (as := []) (c_X12_all hG h7) ml_RX12_408 mv_X12_all mb_X12_all hX (Nat.le_of_ble_eq_true rfl) (by decide) rfl (hG.t 56 rfl) rfl (by simp [Value.category]) dX12_rest_13 rfl ?_
    refine Wp.iadd (pc := 16) dX12_rest_16 ?_
    refine Wp.goto (pc := 17) 21 dX12_rest_17 (by decide) ?_
    refine Wp.lo' (lo' := []) [] rfl ?_
    exact w_X12_rest_21 hX hG hf hk
theorem c_X12_rest {T : List Dsc} {R : RM} {c e : Nat} {x1 : Int32} {m : M2} {r : (Int32 × M2)} (hG : Geo T R c e) (hf : F_X12_rest x1 m = some r) : Ct 2 yX12_rest cX12_rest 3 (some .int) T (mk m R) [.ref 56, .int x1] (some (.int r.1)) (mk r.2 R) := Ct.ofI (r := (r.1, mk r.2 R)) (by decide +kernel) (Nat.le_of_ble_eq_true rfl) (fun X hX hk => w_X12_rest hX hG hf hk)
theorem dX12_gap_0 : decode cX12_gap 0 = .ok (.aload_n 0, 1) := by decide +kernel
theorem dX12_gap_1 : decode cX12_gap 1 = .ok (.iload_n 1, 1) := by decide +kernel
theorem dX12_gap_2 : decode cX12_gap 2 = .ok (.iload_n 2, 1) := by decide +kernel
theorem dX12_gap_3 : decode cX12_gap 3 = .ok (.isub, 1) := by decide +kernel
theorem dX12_gap_4 : decode cX12_gap 4 = .ok (.invokevirtual 411, 3) := by decide +kernel
theorem dX12_gap_7 : decode cX12_gap 7 = .ok (.istore_n 3, 1) := by decide +kernel
theorem dX12_gap_8 : decode cX12_gap 8 = .ok (.iconst 2, 1) := by decide +kernel
theorem dX12_gap_9 : decode cX12_gap 9 = .ok (.iload_n 3, 1) := by decide +kernel
theorem dX12_gap_10 : decode cX12_gap 10 = .ok (.imul, 1) := by decide +kernel
theorem dX12_gap_11 : decode cX12_gap 11 = .ok (.aload_n 0, 1) := by decide +kernel
theorem dX12_gap_12 : decode cX12_gap 12 = .ok (.invokevirtual 408, 3) := by decide +kernel
theorem dX12_gap_15 : decode cX12_gap 15 = .ok (.if_icmp .le 12, 3) := by decide +kernel
theorem dX12_gap_18 : decode cX12_gap 18 = .ok (.iload_n 3, 1) := by decide +kernel
theorem dX12_gap_19 : decode cX12_gap 19 = .ok (.aload_n 0, 1) := by decide +kernel
theorem dX12_gap_20 : decode cX12_gap 20 = .ok (.invokevirtual 408, 3) := by decide +kernel
theorem dX12_gap_23 : decode cX12_gap 23 = .ok (.isub, 1) := by decide +kernel
theorem dX12_gap_24 : decode cX12_gap 24 = .ok (.goto 4, 3) := by decide +kernel
theorem dX12_gap_27 : decode cX12_gap 27 = .ok (.iload_n 3, 1) := by decide +kernel
theorem dX12_gap_28 : decode cX12_gap 28 = .ok (.ireturn, 1) := by decide +kernel
set_option maxHeartbeats 4000000 in
set_option maxRecDepth 100000 in
theorem w_X12_gap_28 {X : CX} {T : List Dsc} {R : RM} {c e : Nat} {n1 n2 : Nat} {s0 : Int32} {m : M2} {r : (Int32 × M2)} (hX : XR X 3 n1 n2) (hG : Geo T R c e) (hf : f_X12_gap_28 s0 m = some r) (hk : FnI X cX12_gap RX12 4 T n1 n2 (r.1, mk r.2 R)) : Wp X cX12_gap RX12 4 T (mk m R) n1 n2 28 [] [.int s0] := by
  unfold f_X12_gap_28 at hf
  cases hf
  exact hk _ _ dX12_gap_28
set_option maxHeartbeats 4000000 in
set_option maxRecDepth 100000 in
theorem w_X12_gap {X : CX} {T : List Dsc} {R : RM} {c e : Nat} {n1 n2 : Nat} {x1 : Int32} {x2 : Int32} {m : M2} {r : (Int32 × M2)} (hX : XR X 3 n1 n2) (hG : Geo T R c e) (hf : F_X12_gap x1 x2 m = some r) (hk : FnI X cX12_gap RX12 4 T n1 n2 (r.1, mk r.2 R)) : Wp X cX12_gap RX12 4 T (mk m R) n1 n2 0 [(0, .ref 56), (1, .int x1), (2, .int x2)] [] := by
  unfold F_X12_gap at hf
  refine Wp.aload_n (pc := 0) 0 rfl rfl dX12_gap_0 ?_
  refine Wp.iload_n (pc := 1) 1 rfl rfl dX12_gap_1 ?_
  refine Wp.iload_n (pc := 2) 2 rfl rfl dX12_gap_2 ?_
  refine Wp.isub (pc := 3) dX12_gap_3 ?_
  obtain ⟨c1, h2, hf⟩ := bnd hf
  refine Wp.callVi (pc := 4) (st := []) (as := [.int (x1 - x2)]) (c_X12_rest hG h2) ml_RX12_411 mv_X12_rest mb_X12_rest hX (Nat.le_of_ble_eq_true rfl) (by decide) rfl (hG.t 56 rfl) rfl (by simp) dX12_gap_4 rfl ?_
  refine Wp.istore_n (pc := 7) (lo' := [(0, .ref 56), (3, .int c1.1)]) [1, 0] rfl (by decide) rfl dX12_gap_7 ?_
  refine Wp.iconst (pc := 8) (2 : Int32) (by decide) dX12_gap_8 ?_
  refine Wp.iload_n (pc := 9) 1 rfl rfl dX12_gap_9 ?_
  refine Wp.imul (pc := 10) dX12_gap_10 ?_
  refine Wp.aload_n (pc := 11) 0 rfl rfl dX12_gap_11 ?_
  obtain ⟨c3, h4, hf⟩ := bnd hf
  refine Wp.callVi (pc := 12) (st := [.int ((2 : Int32) * c1.1)]) (as := []) (c_X12_all hG h4) ml_RX12_408 mv_X12_all mb_X12_all hX (Nat.le_of_ble_eq_true rfl) (by decide) rfl (hG.t 56 rfl) rfl (by simp [Value.category]) dX12_gap_12 rfl ?_
  refine Wp.icmp_le (pc := 15) 27 dX12_gap_15 (by decide) (fun hc5 => ?_) (fun hc5 => ?_)
  · rw [if_pos hc5] at hf
    refine Wp.iload_n (pc := 27) 1 rfl rfl dX12_gap_27 ?_
    refine Wp.lo' (lo' := []) [] rfl ?_
    exact w_X12_gap_28 hX hG hf hk
  · rw [if_neg hc5] at hf
    refine Wp.iload_n (pc := 18) 1 rfl rfl dX12_gap_18 ?_
    refine Wp.aload_n (pc := 19) 0 rfl rfl dX12_gap_19 ?_
    obtain ⟨c6, h7, hf⟩ := bnd hf
    refine Wp.callVi (pc := 20) (st := [.int c1.1]) (as := []) (c_X12_all hG h7) ml_RX12_408 mv_X12_all mb_X12_all hX (Nat.le_of_ble_eq_true rfl) (by decide) rfl (hG.t 56 rfl) rfl (by simp [Value.category]) dX12_gap_20 rfl ?_
    refine Wp.isub (pc := 23) dX12_gap_23 ?_
    refine Wp.goto (pc := 24) 28 dX12_gap_24 (by decide) ?_
    refine Wp.lo' (lo' := []) [] rfl ?_
    exact w_X12_gap_28 hX hG hf hk
theorem c_X12_gap {T : List Dsc} {R : RM} {c e : Nat} {x1 : Int32} {x2 : Int32} {m : M2} {r : (Int32 × M2)} (hG : Geo T R c e) (hf : F_X12_gap x1 x2 m = some r) : Ct 3 yX12_gap cX12_gap 4 (some .int) T (mk m R) [.ref 56, .int x1, .int x2] (some (.int r.1)) (mk r.2 R) := Ct.ofI (r := (r.1, mk r.2 R)) (by decide +kernel) (Nat.le_of_ble_eq_true rfl) (fun X hX hk => w_X12_gap hX hG hf hk)
theorem dX12_isFog_0 : decode cX12_isFog 0 = .ok (.iconst 0, 1) := by decide +kernel
theorem dX12_isFog_1 : decode cX12_isFog 1 = .ok (.istore_n 2, 1) := by decide +kernel
theorem dX12_isFog_2 : decode cX12_isFog 2 = .ok (.iload_n 2, 1) := by decide +kernel
theorem dX12_isFog_3 : decode cX12_isFog 3 = .ok (.aload_n 0, 1) := by decide +kernel
theorem dX12_isFog_4 : decode cX12_isFog 4 = .ok (.getfield 88, 3) := by decide +kernel
theorem dX12_isFog_7 : decode cX12_isFog 7 = .ok (.aload_n 0, 1) := by decide +kernel
theorem dX12_isFog_8 : decode cX12_isFog 8 = .ok (.getfield 284, 3) := by decide +kernel
theorem dX12_isFog_11 : decode cX12_isFog 11 = .ok (.iaload, 1) := by decide +kernel
theorem dX12_isFog_12 : decode cX12_isFog 12 = .ok (.if_icmp .ge 44, 3) := by decide +kernel
theorem dX12_isFog_15 : decode cX12_isFog 15 = .ok (.iload_n 1, 1) := by decide +kernel
theorem dX12_isFog_16 : decode cX12_isFog 16 = .ok (.aload_n 0, 1) := by decide +kernel
theorem dX12_isFog_17 : decode cX12_isFog 17 = .ok (.getfield 91, 3) := by decide +kernel
theorem dX12_isFog_20 : decode cX12_isFog 20 = .ok (.iconst 4, 1) := by decide +kernel
theorem dX12_isFog_21 : decode cX12_isFog 21 = .ok (.aload_n 0, 1) := by decide +kernel
theorem dX12_isFog_22 : decode cX12_isFog 22 = .ok (.getfield 284, 3) := by decide +kernel
theorem dX12_isFog_25 : decode cX12_isFog 25 = .ok (.imul, 1) := by decide +kernel
theorem dX12_isFog_26 : decode cX12_isFog 26 = .ok (.iload_n 2, 1) := by decide +kernel
theorem dX12_isFog_27 : decode cX12_isFog 27 = .ok (.iadd, 1) := by decide +kernel
theorem dX12_isFog_28 : decode cX12_isFog 28 = .ok (.iaload, 1) := by decide +kernel
theorem dX12_isFog_29 : decode cX12_isFog 29 = .ok (.aload_n 0, 1) := by decide +kernel
theorem dX12_isFog_30 : decode cX12_isFog 30 = .ok (.getfield 94, 3) := by decide +kernel
theorem dX12_isFog_33 : decode cX12_isFog 33 = .ok (.iconst 4, 1) := by decide +kernel
theorem dX12_isFog_34 : decode cX12_isFog 34 = .ok (.aload_n 0, 1) := by decide +kernel
theorem dX12_isFog_35 : decode cX12_isFog 35 = .ok (.getfield 284, 3) := by decide +kernel
theorem dX12_isFog_38 : decode cX12_isFog 38 = .ok (.imul, 1) := by decide +kernel
theorem dX12_isFog_39 : decode cX12_isFog 39 = .ok (.iload_n 2, 1) := by decide +kernel
theorem dX12_isFog_40 : decode cX12_isFog 40 = .ok (.iadd, 1) := by decide +kernel
theorem dX12_isFog_41 : decode cX12_isFog 41 = .ok (.iaload, 1) := by decide +kernel
theorem dX12_isFog_42 : decode cX12_isFog 42 = .ok (.invokestatic 414, 3) := by decide +kernel
theorem dX12_isFog_45 : decode cX12_isFog 45 = .ok (.ifCond .eq 5, 3) := by decide +kernel
theorem dX12_isFog_48 : decode cX12_isFog 48 = .ok (.iconst 1, 1) := by decide +kernel
theorem dX12_isFog_49 : decode cX12_isFog 49 = .ok (.ireturn, 1) := by decide +kernel
theorem dX12_isFog_50 : decode cX12_isFog 50 = .ok (.iinc 2 1, 3) := by decide +kernel
theorem dX12_isFog_53 : decode cX12_isFog 53 = .ok (.goto (-51), 3) := by decide +kernel
theorem dX12_isFog_56 : decode cX12_isFog 56 = .ok (.iconst 0, 1) := by decide +kernel
theorem dX12_isFog_57 : decode cX12_isFog 57 = .ok (.ireturn, 1) := by decide +kernel
def k_X12_isFog_2 (X : CX) (T : List Dsc) (R : RM) (n1 n2 : Nat) (x1 : Int32) (r : ((Int32 × M2) ⊕ ((M2) ⊕ (M2)))) : Prop := match r with
  | .inl s => Wp X cX12_isFog RX12 3 T (mk s.2 R) n1 n2 2 [(0, .ref 56), (1, .int x1), (2, .int s.1)] []
  | .inr (.inl e) => Wp X cX12_isFog RX12 3 T (mk e R) n1 n2 48 [] []
  | .inr (.inr e) => Wp X cX12_isFog RX12 3 T (mk e R) n1 n2 56 [] []
set_option maxHeartbeats 4000000 in
set_option maxRecDepth 100000 in
theorem w_X12_isFog_2 {X : CX} {T : List Dsc} {R : RM} {c e : Nat} {n1 n2 : Nat} {x1 : Int32} {x2 : Int32} {m : M2} {r : ((Int32 × M2) ⊕ ((M2) ⊕ (M2)))} (hX : XR X 2 n1 n2) (hG : Geo T R c e) (hf : f_X12_isFog_2 x1 x2 m = some r) (hk : k_X12_isFog_2 X T R n1 n2 x1 r) : Wp X cX12_isFog RX12 3 T (mk m R) n1 n2 2 [(0, .ref 56), (1, .int x1), (2, .int x2)] [] := by
  unfold f_X12_isFog_2 at hf
  refine Wp.iload_n (pc := 2) 2 rfl rfl dX12_isFog_2 ?_
  refine Wp.aload_n (pc := 3) 0 rfl rfl dX12_isFog_3 ?_
  refine Wp.getR2 (pc := 4) (hG.r 56 38 rfl) (hG.t 56 rfl) fk_RX12_88 rfl dX12_isFog_4 ?_
  refine Wp.aload_n (pc := 7) 0 rfl rfl dX12_isFog_7 ?_
  refine Wp.getI2 (pc := 8) (hG.t 56 rfl) fk_RX12_284 rfl dX12_isFog_8 ?_
  obtain ⟨v1, h2, hf⟩ := bnd hf
  refine Wp.iald2 (pc := 11) h2 (hG.a 80 0 rfl) dX12_isFog_11 ?_
  refine Wp.icmp_ge (pc := 12) 56 dX12_isFog_12 (by decide) (fun hc3 => ?_) (fun hc3 => ?_)
  · rw [if_pos hc3] at hf
    refine Wp.lo' (lo' := []) [] rfl ?_
    cases hf
    exact hk
  · rw [if_neg hc3] at hf
    refine Wp.iload_n (pc := 15) 1 rfl rfl dX12_isFog_15 ?_
    refine Wp.aload_n (pc := 16) 0 rfl rfl dX12_isFog_16 ?_
    refine Wp.getR2 (pc := 17) (hG.r 56 39 rfl) (hG.t 56 rfl) fk_RX12_91 rfl dX12_isFog_17 ?_
    refine Wp.iconst (pc := 20) (4 : Int32) (by decide) dX12_isFog_20 ?_
    refine Wp.aload_n (pc := 21) 0 rfl rfl dX12_isFog_21 ?_
    refine Wp.getI2 (pc := 22) (hG.t 56 rfl) fk_RX12_284 rfl dX12_isFog_22 ?_
    refine Wp.imul (pc := 25) dX12_isFog_25 ?_
    refine Wp.iload_n (pc := 26) 2 rfl rfl dX12_isFog_26 ?_
    refine Wp.iadd (pc := 27) dX12_isFog_27 ?_
    obtain ⟨v4, h5, hf⟩ := bnd hf
    refine Wp.iald2 (pc := 28) h5 (hG.a 81 0 rfl) dX12_isFog_28 ?_
    refine Wp.aload_n (pc := 29) 0 rfl rfl dX12_isFog_29 ?_
    refine Wp.getR2 (pc := 30) (hG.r 56 40 rfl) (hG.t 56 rfl) fk_RX12_94 rfl dX12_isFog_30 ?_
    refine Wp.iconst (pc := 33) (4 : Int32) (by decide) dX12_isFog_33 ?_
    refine Wp.aload_n (pc := 34) 0 rfl rfl dX12_isFog_34 ?_
    refine Wp.getI2 (pc := 35) (hG.t 56 rfl) fk_RX12_284 rfl dX12_isFog_35 ?_
    refine Wp.imul (pc := 38) dX12_isFog_38 ?_
    refine Wp.iload_n (pc := 39) 2 rfl rfl dX12_isFog_39 ?_
    refine Wp.iadd (pc := 40) dX12_isFog_40 ?_
    obtain ⟨v6, h7, hf⟩ := bnd hf
    refine Wp.iald2 (pc := 41) h7 (hG.a 82 0 rfl) dX12_isFog_41 ?_
    obtain ⟨c8, h9, hf⟩ := bnd hf
    refine Wp.callSi (pc := 42) (st := []) (as := [.int x1, .int v4, .int v6]) (c_X12_in hG h9) ml_RX12_414 ms_X12_in mb_X12_in hX (Nat.le_of_ble_eq_true rfl) (by decide) rfl (by simp) dX12_isFog_42 rfl ?_
    refine Wp.if_eq (pc := 45) 50 dX12_isFog_45 (by decide) (fun hc10 => ?_) (fun hc10 => ?_)
    · rw [if_pos hc10] at hf
      obtain ⟨v11, h12, hf⟩ := bnd hf
      refine Wp.iincN (pc := 50) (lo' := [(0, .ref 56), (1, .int x1), (2, .int v11)]) (1 : Int32) (by decide) h12 2 rfl [1, 2, 0] rfl (by decide) dX12_isFog_50 ?_
      refine Wp.goto (pc := 53) 2 dX12_isFog_53 (by decide) ?_
      cases hf
      exact hk
    · rw [if_neg hc10] at hf
      refine Wp.lo' (lo' := []) [] rfl ?_
      cases hf
      exact hk
theorem wl_X12_isFog_2 {X : CX} {T : List Dsc} {R : RM} {c e : Nat} {n1 n2 : Nat} {x1 : Int32} {x2 : Int32} {m : M2} {e1 : ((M2) ⊕ (M2))} (hX : XR X 2 n1 n2) (hG : Geo T R c e) (h : loop (g_X12_isFog_2 x1) (x2, m) = some e1) (he0 : ∀ e_, e1 = (Sum.inl e_) → Wp X cX12_isFog RX12 3 T (mk e_ R) n1 n2 48 [] []) (he1 : ∀ e_, e1 = (Sum.inr e_) → Wp X cX12_isFog RX12 3 T (mk e_ R) n1 n2 56 [] []) : Wp X cX12_isFog RX12 3 T (mk m R) n1 n2 2 [(0, .ref 56), (1, .int x1), (2, .int x2)] [] :=
  loop_ok (K := k_X12_isFog_2 X T R n1 n2 x1) (fun s r hf hk => w_X12_isFog_2 hX hG hf hk) h (by rcases e1 with e_ | e_ <;> first | exact he0 _ rfl | exact he1 _ rfl)
set_option maxHeartbeats 4000000 in
set_option maxRecDepth 100000 in
theorem w_X12_isFog {X : CX} {T : List Dsc} {R : RM} {c e : Nat} {n1 n2 : Nat} {x1 : Int32} {m : M2} {r : (Int32 × M2)} (hX : XR X 2 n1 n2) (hG : Geo T R c e) (hf : F_X12_isFog x1 m = some r) (hk : FnZ X cX12_isFog RX12 3 T n1 n2 (r.1, mk r.2 R)) : Wp X cX12_isFog RX12 3 T (mk m R) n1 n2 0 [(0, .ref 56), (1, .int x1)] [] := by
  unfold F_X12_isFog at hf
  refine Wp.iconst (pc := 0) (0 : Int32) (by decide) dX12_isFog_0 ?_
  refine Wp.istore_n (pc := 1) (lo' := [(0, .ref 56), (1, .int x1), (2, .int (0 : Int32))]) [1, 2, 0] rfl (by decide) rfl dX12_isFog_1 ?_
  obtain ⟨e1, h2, hf⟩ := bnd hf
  refine wl_X12_isFog_2 hX hG h2 (fun e1_0 hq => ?_) (fun e1_1 hq => ?_)
  · rw [hq, Sum.elim_inl] at hf
    refine Wp.iconst (pc := 48) (1 : Int32) (by decide) dX12_isFog_48 ?_
    cases hf
    exact hk _ _ (Or.inr rfl) dX12_isFog_49
  · rw [hq, Sum.elim_inr] at hf
    refine Wp.iconst (pc := 56) (0 : Int32) (by decide) dX12_isFog_56 ?_
    cases hf
    exact hk _ _ (Or.inl rfl) dX12_isFog_57
theorem c_X12_isFog {T : List Dsc} {R : RM} {c e : Nat} {x1 : Int32} {m : M2} {r : (Int32 × M2)} (hG : Geo T R c e) (hf : F_X12_isFog x1 m = some r) : Ct 2 yX12_isFog cX12_isFog 3 (some .boolean) T (mk m R) [.ref 56, .int x1] (some (.int r.1)) (mk r.2 R) := Ct.ofZ (r := (r.1, mk r.2 R)) (by decide +kernel) (Nat.le_of_ble_eq_true rfl) (fun X hX hk => w_X12_isFog hX hG hf hk)
theorem dX12_heard_0 : decode cX12_heard 0 = .ok (.iload_n 2, 1) := by decide +kernel
theorem dX12_heard_1 : decode cX12_heard 1 = .ok (.ifCond .ne 11, 3) := by decide +kernel
theorem dX12_heard_4 : decode cX12_heard 4 = .ok (.aload_n 0, 1) := by decide +kernel
theorem dX12_heard_5 : decode cX12_heard 5 = .ok (.getfield 402, 3) := by decide +kernel
theorem dX12_heard_8 : decode cX12_heard 8 = .ok (.iconst (-1), 1) := by decide +kernel
theorem dX12_heard_9 : decode cX12_heard 9 = .ok (.if_icmp .ne 12, 3) := by decide +kernel
theorem dX12_heard_12 : decode cX12_heard 12 = .ok (.aload_n 0, 1) := by decide +kernel
theorem dX12_heard_13 : decode cX12_heard 13 = .ok (.getfield 140, 3) := by decide +kernel
theorem dX12_heard_16 : decode cX12_heard 16 = .ok (.iload_n 1, 1) := by decide +kernel
theorem dX12_heard_17 : decode cX12_heard 17 = .ok (.iaload, 1) := by decide +kernel
theorem dX12_heard_18 : decode cX12_heard 18 = .ok (.goto 18, 3) := by decide +kernel
theorem dX12_heard_21 : decode cX12_heard 21 = .ok (.aload_n 0, 1) := by decide +kernel
theorem dX12_heard_22 : decode cX12_heard 22 = .ok (.aload_n 0, 1) := by decide +kernel
theorem dX12_heard_23 : decode cX12_heard 23 = .ok (.getfield 402, 3) := by decide +kernel
theorem dX12_heard_26 : decode cX12_heard 26 = .ok (.aload_n 0, 1) := by decide +kernel
theorem dX12_heard_27 : decode cX12_heard 27 = .ok (.getfield 405, 3) := by decide +kernel
theorem dX12_heard_30 : decode cX12_heard 30 = .ok (.iload_n 1, 1) := by decide +kernel
theorem dX12_heard_31 : decode cX12_heard 31 = .ok (.imul, 1) := by decide +kernel
theorem dX12_heard_32 : decode cX12_heard 32 = .ok (.iadd, 1) := by decide +kernel
theorem dX12_heard_33 : decode cX12_heard 33 = .ok (.invokevirtual 411, 3) := by decide +kernel
theorem dX12_heard_36 : decode cX12_heard 36 = .ok (.ireturn, 1) := by decide +kernel
set_option maxHeartbeats 4000000 in
set_option maxRecDepth 100000 in
theorem w_X12_heard_36 {X : CX} {T : List Dsc} {R : RM} {c e : Nat} {n1 n2 : Nat} {s0 : Int32} {m : M2} {r : (Int32 × M2)} (hX : XR X 3 n1 n2) (hG : Geo T R c e) (hf : f_X12_heard_36 s0 m = some r) (hk : FnI X cX12_heard RX12 3 T n1 n2 (r.1, mk r.2 R)) : Wp X cX12_heard RX12 3 T (mk m R) n1 n2 36 [] [.int s0] := by
  unfold f_X12_heard_36 at hf
  cases hf
  exact hk _ _ dX12_heard_36
set_option maxHeartbeats 4000000 in
set_option maxRecDepth 100000 in
theorem w_X12_heard_12 {X : CX} {T : List Dsc} {R : RM} {c e : Nat} {n1 n2 : Nat} {x1 : Int32} {m : M2} {r : (Int32 × M2)} (hX : XR X 3 n1 n2) (hG : Geo T R c e) (hf : f_X12_heard_12 x1 m = some r) (hk : FnI X cX12_heard RX12 3 T n1 n2 (r.1, mk r.2 R)) : Wp X cX12_heard RX12 3 T (mk m R) n1 n2 12 [(0, .ref 56), (1, .int x1)] [] := by
  unfold f_X12_heard_12 at hf
  refine Wp.aload_n (pc := 12) 0 rfl rfl dX12_heard_12 ?_
  refine Wp.getR2 (pc := 13) (hG.r 56 63 rfl) (hG.t 56 rfl) fk_RX12_140 rfl dX12_heard_13 ?_
  refine Wp.iload_n (pc := 16) 1 rfl rfl dX12_heard_16 ?_
  obtain ⟨v1, h2, hf⟩ := bnd hf
  refine Wp.iald2 (pc := 17) h2 (hG.a 97 0 rfl) dX12_heard_17 ?_
  refine Wp.goto (pc := 18) 36 dX12_heard_18 (by decide) ?_
  refine Wp.lo' (lo' := []) [] rfl ?_
  exact w_X12_heard_36 hX hG hf hk
set_option maxHeartbeats 4000000 in
set_option maxRecDepth 100000 in
theorem w_X12_heard {X : CX} {T : List Dsc} {R : RM} {c e : Nat} {n1 n2 : Nat} {x1 : Int32} {x2 : Int32} {m : M2} {r : (Int32 × M2)} (hX : XR X 3 n1 n2) (hG : Geo T R c e) (hf : F_X12_heard x1 x2 m = some r) (hk : FnI X cX12_heard RX12 3 T n1 n2 (r.1, mk r.2 R)) : Wp X cX12_heard RX12 3 T (mk m R) n1 n2 0 [(0, .ref 56), (1, .int x1), (2, .int x2)] [] := by
  unfold F_X12_heard at hf
  refine Wp.iload_n (pc := 0) 2 rfl rfl dX12_heard_0 ?_
  refine Wp.if_ne (pc := 1) 12 dX12_heard_1 (by decide) (fun hc1 => ?_) (fun hc1 => ?_)
  · rw [if_neg hc1] at hf
    refine Wp.lo' (lo' := [(0, .ref 56), (1, .int x1)]) [0, 1] rfl ?_
    exact w_X12_heard_12 hX hG hf hk
  · rw [if_pos hc1] at hf
    refine Wp.aload_n (pc := 4) 0 rfl rfl dX12_heard_4 ?_
    refine Wp.getI2 (pc := 5) (hG.t 56 rfl) fk_RX12_402 rfl dX12_heard_5 ?_
    refine Wp.iconst (pc := 8) (-1 : Int32) (by decide) dX12_heard_8 ?_
    refine Wp.icmp_ne (pc := 9) 21 dX12_heard_9 (by decide) (fun hc2 => ?_) (fun hc2 => ?_)
    · rw [if_neg hc2] at hf
      refine Wp.aload_n (pc := 21) 0 rfl rfl dX12_heard_21 ?_
      refine Wp.aload_n (pc := 22) 0 rfl rfl dX12_heard_22 ?_
      refine Wp.getI2 (pc := 23) (hG.t 56 rfl) fk_RX12_402 rfl dX12_heard_23 ?_
      refine Wp.aload_n (pc := 26) 0 rfl rfl dX12_heard_26 ?_
      refine Wp.getI2 (pc := 27) (hG.t 56 rfl) fk_RX12_405 rfl dX12_heard_27 ?_
      refine Wp.iload_n (pc := 30) 1 rfl rfl dX12_heard_30 ?_
      refine Wp.imul (pc := 31) dX12_heard_31 ?_
      refine Wp.iadd (pc := 32) dX12_heard_32 ?_
      obtain ⟨c3, h4, hf⟩ := bnd hf
      refine Wp.callVi (pc := 33) (st := []) (as := [.int ((hI m 56 66) + ((hI m 56 67) * x1))]) (c_X12_rest hG h4) ml_RX12_411 mv_X12_rest mb_X12_rest hX (Nat.le_of_ble_eq_true rfl) (by decide) rfl (hG.t 56 rfl) rfl (by simp) dX12_heard_33 rfl ?_
      refine Wp.lo' (lo' := []) [] rfl ?_
      exact w_X12_heard_36 hX hG hf hk
    · rw [if_pos hc2] at hf
      refine Wp.lo' (lo' := [(0, .ref 56), (1, .int x1)]) [0, 1] rfl ?_
      exact w_X12_heard_12 hX hG hf hk
theorem c_X12_heard {T : List Dsc} {R : RM} {c e : Nat} {x1 : Int32} {x2 : Int32} {m : M2} {r : (Int32 × M2)} (hG : Geo T R c e) (hf : F_X12_heard x1 x2 m = some r) : Ct 3 yX12_heard cX12_heard 3 (some .int) T (mk m R) [.ref 56, .int x1, .int x2] (some (.int r.1)) (mk r.2 R) := Ct.ofI (r := (r.1, mk r.2 R)) (by decide +kernel) (Nat.le_of_ble_eq_true rfl) (fun X hX hk => w_X12_heard hX hG hf hk)
theorem dX12_termOf_0 : decode cX12_termOf 0 = .ok (.iconst 0, 1) := by decide +kernel
theorem dX12_termOf_1 : decode cX12_termOf 1 = .ok (.istore_n 3, 1) := by decide +kernel
theorem dX12_termOf_2 : decode cX12_termOf 2 = .ok (.iload_n 1, 1) := by decide +kernel
theorem dX12_termOf_3 : decode cX12_termOf 3 = .ok (.istore 4, 2) := by decide +kernel
theorem dX12_termOf_5 : decode cX12_termOf 5 = .ok (.iload 4, 2) := by decide +kernel
theorem dX12_termOf_7 : decode cX12_termOf 7 = .ok (.iload_n 2, 1) := by decide +kernel
theorem dX12_termOf_8 : decode cX12_termOf 8 = .ok (.if_icmp .ge 187, 3) := by decide +kernel
theorem dX12_termOf_11 : decode cX12_termOf 11 = .ok (.aload_n 0, 1) := by decide +kernel
theorem dX12_termOf_12 : decode cX12_termOf 12 = .ok (.getfield 116, 3) := by decide +kernel
theorem dX12_termOf_15 : decode cX12_termOf 15 = .ok (.iload 4, 2) := by decide +kernel
theorem dX12_termOf_17 : decode cX12_termOf 17 = .ok (.iaload, 1) := by decide +kernel
theorem dX12_termOf_18 : decode cX12_termOf 18 = .ok (.istore 5, 2) := by decide +kernel
theorem dX12_termOf_20 : decode cX12_termOf 20 = .ok (.iload 5, 2) := by decide +kernel
theorem dX12_termOf_22 : decode cX12_termOf 22 = .ok (.iconst 2, 1) := by decide +kernel
theorem dX12_termOf_23 : decode cX12_termOf 23 = .ok (.if_icmp .ge 42, 3) := by decide +kernel
theorem dX12_termOf_26 : decode cX12_termOf 26 = .ok (.aload_n 0, 1) := by decide +kernel
theorem dX12_termOf_27 : decode cX12_termOf 27 = .ok (.getfield 152, 3) := by decide +kernel
theorem dX12_termOf_30 : decode cX12_termOf 30 = .ok (.iload_n 3, 1) := by decide +kernel
theorem dX12_termOf_31 : decode cX12_termOf 31 = .ok (.iload 5, 2) := by decide +kernel
theorem dX12_termOf_33 : decode cX12_termOf 33 = .ok (.ifCond .ne 13, 3) := by decide +kernel
theorem dX12_termOf_36 : decode cX12_termOf 36 = .ok (.aload_n 0, 1) := by decide +kernel
theorem dX12_termOf_37 : decode cX12_termOf 37 = .ok (.getfield 119, 3) := by decide +kernel
theorem dX12_termOf_40 : decode cX12_termOf 40 = .ok (.iload 4, 2) := by decide +kernel
theorem dX12_termOf_42 : decode cX12_termOf 42 = .ok (.iaload, 1) := by decide +kernel
theorem dX12_termOf_43 : decode cX12_termOf 43 = .ok (.goto 15, 3) := by decide +kernel
theorem dX12_termOf_46 : decode cX12_termOf 46 = .ok (.aload_n 0, 1) := by decide +kernel
theorem dX12_termOf_47 : decode cX12_termOf 47 = .ok (.getfield 149, 3) := by decide +kernel
theorem dX12_termOf_50 : decode cX12_termOf 50 = .ok (.aload_n 0, 1) := by decide +kernel
theorem dX12_termOf_51 : decode cX12_termOf 51 = .ok (.getfield 119, 3) := by decide +kernel
theorem dX12_termOf_54 : decode cX12_termOf 54 = .ok (.iload 4, 2) := by decide +kernel
theorem dX12_termOf_56 : decode cX12_termOf 56 = .ok (.iaload, 1) := by decide +kernel
theorem dX12_termOf_57 : decode cX12_termOf 57 = .ok (.iaload, 1) := by decide +kernel
theorem dX12_termOf_58 : decode cX12_termOf 58 = .ok (.iastore, 1) := by decide +kernel
theorem dX12_termOf_59 : decode cX12_termOf 59 = .ok (.iinc 3 1, 3) := by decide +kernel
theorem dX12_termOf_62 : decode cX12_termOf 62 = .ok (.goto 127, 3) := by decide +kernel
theorem dX12_termOf_65 : decode cX12_termOf 65 = .ok (.iinc 3 (-1), 3) := by decide +kernel
theorem dX12_termOf_68 : decode cX12_termOf 68 = .ok (.aload_n 0, 1) := by decide +kernel
theorem dX12_termOf_69 : decode cX12_termOf 69 = .ok (.getfield 152, 3) := by decide +kernel
theorem dX12_termOf_72 : decode cX12_termOf 72 = .ok (.iload_n 3, 1) := by decide +kernel
theorem dX12_termOf_73 : decode cX12_termOf 73 = .ok (.iconst 1, 1) := by decide +kernel
theorem dX12_termOf_74 : decode cX12_termOf 74 = .ok (.isub, 1) := by decide +kernel
theorem dX12_termOf_75 : decode cX12_termOf 75 = .ok (.iaload, 1) := by decide +kernel
theorem dX12_termOf_76 : decode cX12_termOf 76 = .ok (.istore 6, 2) := by decide +kernel
theorem dX12_termOf_78 : decode cX12_termOf 78 = .ok (.aload_n 0, 1) := by decide +kernel
theorem dX12_termOf_79 : decode cX12_termOf 79 = .ok (.getfield 152, 3) := by decide +kernel
theorem dX12_termOf_82 : decode cX12_termOf 82 = .ok (.iload_n 3, 1) := by decide +kernel
theorem dX12_termOf_83 : decode cX12_termOf 83 = .ok (.iaload, 1) := by decide +kernel
theorem dX12_termOf_84 : decode cX12_termOf 84 = .ok (.istore 7, 2) := by decide +kernel
theorem dX12_termOf_86 : decode cX12_termOf 86 = .ok (.iload 5, 2) := by decide +kernel
theorem dX12_termOf_88 : decode cX12_termOf 88 = .ok (.iconst 5, 1) := by decide +kernel
theorem dX12_termOf_89 : decode cX12_termOf 89 = .ok (.if_icmp .ne 15, 3) := by decide +kernel
theorem dX12_termOf_92 : decode cX12_termOf 92 = .ok (.iload 7, 2) := by decide +kernel
theorem dX12_termOf_94 : decode cX12_termOf 94 = .ok (.ifCond .ne 10, 3) := by decide +kernel
theorem dX12_termOf_97 : decode cX12_termOf 97 = .ok (.aload_n 0, 1) := by decide +kernel
theorem dX12_termOf_98 : decode cX12_termOf 98 = .ok (.iconst 1, 1) := by decide +kernel
theorem dX12_termOf_99 : decode cX12_termOf 99 = .ok (.putfield 418, 3) := by decide +kernel
theorem dX12_termOf_102 : decode cX12_termOf 102 = .ok (.iconst 0, 1) := by decide +kernel
theorem dX12_termOf_103 : decode cX12_termOf 103 = .ok (.ireturn, 1) := by decide +kernel
theorem dX12_termOf_104 : decode cX12_termOf 104 = .ok (.aload_n 0, 1) := by decide +kernel
theorem dX12_termOf_105 : decode cX12_termOf 105 = .ok (.getfield 152, 3) := by decide +kernel
theorem dX12_termOf_108 : decode cX12_termOf 108 = .ok (.iload_n 3, 1) := by decide +kernel
theorem dX12_termOf_109 : decode cX12_termOf 109 = .ok (.iconst 1, 1) := by decide +kernel
theorem dX12_termOf_110 : decode cX12_termOf 110 = .ok (.isub, 1) := by decide +kernel
theorem dX12_termOf_111 : decode cX12_termOf 111 = .ok (.iload 5, 2) := by decide +kernel
theorem dX12_termOf_113 : decode cX12_termOf 113 = .ok (.iconst 2, 1) := by decide +kernel
theorem dX12_termOf_114 : decode cX12_termOf 114 = .ok (.if_icmp .ne 11, 3) := by decide +kernel
theorem dX12_termOf_117 : decode cX12_termOf 117 = .ok (.iload 6, 2) := by decide +kernel
theorem dX12_termOf_119 : decode cX12_termOf 119 = .ok (.iload 7, 2) := by decide +kernel
theorem dX12_termOf_121 : decode cX12_termOf 121 = .ok (.iadd, 1) := by decide +kernel
theorem dX12_termOf_122 : decode cX12_termOf 122 = .ok (.goto 66, 3) := by decide +kernel
theorem dX12_termOf_125 : decode cX12_termOf 125 = .ok (.iload 5, 2) := by decide +kernel
theorem dX12_termOf_127 : decode cX12_termOf 127 = .ok (.iconst 3, 1) := by decide +kernel
theorem dX12_termOf_128 : decode cX12_termOf 128 = .ok (.if_icmp .ne 11, 3) := by decide +kernel
theorem dX12_termOf_131 : decode cX12_termOf 131 = .ok (.iload 6, 2) := by decide +kernel
theorem dX12_termOf_133 : decode cX12_termOf 133 = .ok (.iload 7, 2) := by decide +kernel
theorem dX12_termOf_135 : decode cX12_termOf 135 = .ok (.isub, 1) := by decide +kernel
theorem dX12_termOf_136 : decode cX12_termOf 136 = .ok (.goto 52, 3) := by decide +kernel
theorem dX12_termOf_139 : decode cX12_termOf 139 = .ok (.iload 5, 2) := by decide +kernel
theorem dX12_termOf_141 : decode cX12_termOf 141 = .ok (.iconst 4, 1) := by decide +kernel
theorem dX12_termOf_142 : decode cX12_termOf 142 = .ok (.if_icmp .ne 11, 3) := by decide +kernel
theorem dX12_termOf_145 : decode cX12_termOf 145 = .ok (.iload 6, 2) := by decide +kernel
theorem dX12_termOf_147 : decode cX12_termOf 147 = .ok (.iload 7, 2) := by decide +kernel
theorem dX12_termOf_149 : decode cX12_termOf 149 = .ok (.imul, 1) := by decide +kernel
theorem dX12_termOf_150 : decode cX12_termOf 150 = .ok (.goto 38, 3) := by decide +kernel
theorem dX12_termOf_153 : decode cX12_termOf 153 = .ok (.iload 5, 2) := by decide +kernel
theorem dX12_termOf_155 : decode cX12_termOf 155 = .ok (.bipush 6, 2) := by decide +kernel
theorem dX12_termOf_157 : decode cX12_termOf 157 = .ok (.if_icmp .ne 14, 3) := by decide +kernel
theorem dX12_termOf_160 : decode cX12_termOf 160 = .ok (.aload_n 0, 1) := by decide +kernel
theorem dX12_termOf_161 : decode cX12_termOf 161 = .ok (.iload 6, 2) := by decide +kernel
theorem dX12_termOf_163 : decode cX12_termOf 163 = .ok (.iload 7, 2) := by decide +kernel
theorem dX12_termOf_165 : decode cX12_termOf 165 = .ok (.invokevirtual 422, 3) := by decide +kernel
theorem dX12_termOf_168 : decode cX12_termOf 168 = .ok (.goto 20, 3) := by decide +kernel
theorem dX12_termOf_171 : decode cX12_termOf 171 = .ok (.iload 7, 2) := by decide +kernel
theorem dX12_termOf_173 : decode cX12_termOf 173 = .ok (.iconst (-1), 1) := by decide +kernel
theorem dX12_termOf_174 : decode cX12_termOf 174 = .ok (.if_icmp .ne 9, 3) := by decide +kernel
theorem dX12_termOf_177 : decode cX12_termOf 177 = .ok (.iload 6, 2) := by decide +kernel
theorem dX12_termOf_179 : decode cX12_termOf 179 = .ok (.ineg, 1) := by decide +kernel
theorem dX12_termOf_180 : decode cX12_termOf 180 = .ok (.goto 8, 3) := by decide +kernel
theorem dX12_termOf_183 : decode cX12_termOf 183 = .ok (.iload 6, 2) := by decide +kernel
theorem dX12_termOf_185 : decode cX12_termOf 185 = .ok (.iload 7, 2) := by decide +kernel
theorem dX12_termOf_187 : decode cX12_termOf 187 = .ok (.idiv, 1) := by decide +kernel
theorem dX12_termOf_188 : decode cX12_termOf 188 = .ok (.iastore, 1) := by decide +kernel
theorem dX12_termOf_189 : decode cX12_termOf 189 = .ok (.iinc 4 1, 3) := by decide +kernel
theorem dX12_termOf_192 : decode cX12_termOf 192 = .ok (.goto (-187), 3) := by decide +kernel
theorem dX12_termOf_195 : decode cX12_termOf 195 = .ok (.aload_n 0, 1) := by decide +kernel
theorem dX12_termOf_196 : decode cX12_termOf 196 = .ok (.getfield 152, 3) := by decide +kernel
theorem dX12_termOf_199 : decode cX12_termOf 199 = .ok (.iconst 0, 1) := by decide +kernel
theorem dX12_termOf_200 : decode cX12_termOf 200 = .ok (.iaload, 1) := by decide +kernel
theorem dX12_termOf_201 : decode cX12_termOf 201 = .ok (.ireturn, 1) := by decide +kernel
def k_X12_termOf_5 (X : CX) (T : List Dsc) (R : RM) (n1 n2 : Nat) (x2 : Int32) (r : ((Int32 × Int32 × M2) ⊕ ((M2) ⊕ (M2)))) : Prop := match r with
  | .inl s => Wp X cX12_termOf RX12 8 T (mk s.2.2 R) n1 n2 5 [(0, .ref 56), (2, .int x2), (3, .int s.1), (4, .int s.2.1)] []
  | .inr (.inl e) => Wp X cX12_termOf RX12 8 T (mk e R) n1 n2 97 [(0, .ref 56)] []
  | .inr (.inr e) => Wp X cX12_termOf RX12 8 T (mk e R) n1 n2 195 [(0, .ref 56)] []
set_option maxHeartbeats 4000000 in
set_option maxRecDepth 100000 in
theorem w_X12_termOf_189 {X : CX} {T : List Dsc} {R : RM} {c e : Nat} {n1 n2 : Nat} {x2 : Int32} {x3 : Int32} {x4 : Int32} {m : M2} {r : ((Int32 × Int32 × M2) ⊕ ((M2) ⊕ (M2)))} (hX : XR X 4 n1 n2) (hG : Geo T R c e) (hf : f_X12_termOf_189 x2 x3 x4 m = some r) (hk : k_X12_termOf_5 X T R n1 n2 x2 r) : Wp X cX12_termOf RX12 8 T (mk m R) n1 n2 189 [(0, .ref 56), (2, .int x2), (3, .int x3), (4, .int x4)] [] := by
  unfold f_X12_termOf_189 at hf
  obtain ⟨v1, h2, hf⟩ := bnd hf
  refine Wp.iincN (pc := 189) (lo' := [(0, .ref 56), (2, .int x2), (3, .int x3), (4, .int v1)]) (1 : Int32) (by decide) h2 3 rfl [1, 2, 3, 0] rfl (by decide) dX12_termOf_189 ?_
  refine Wp.goto (pc := 192) 5 dX12_termOf_192 (by decide) ?_
  cases hf
  exact hk
set_option maxHeartbeats 4000000 in
set_option maxRecDepth 100000 in
theorem w_X12_termOf_58 {X : CX} {T : List Dsc} {R : RM} {c e : Nat} {n1 n2 : Nat} {x2 : Int32} {x3 : Int32} {x4 : Int32} {s1 : Int32} {s2 : Int32} {m : M2} {r : ((Int32 × Int32 × M2) ⊕ ((M2) ⊕ (M2)))} (hX : XR X 4 n1 n2) (hG : Geo T R c e) (hf : f_X12_termOf_58 x2 x3 x4 s1 s2 m = some r) (hk : k_X12_termOf_5 X T R n1 n2 x2 r) : Wp X cX12_termOf RX12 8 T (mk m R) n1 n2 58 [(0, .ref 56), (2, .int x2), (3, .int x3), (4, .int x4)] [.int s2, .int s1, .ref 101] := by
  unfold f_X12_termOf_58 at hf
  obtain ⟨m1, h2, hf⟩ := bnd hf
  refine Wp.iast2 (pc := 58) h2 (hG.a 101 0 rfl) dX12_termOf_58 ?_
  obtain ⟨v3, h4, hf⟩ := bnd hf
  refine Wp.iincN (pc := 59) (lo' := [(0, .ref 56), (2, .int x2), (3, .int v3), (4, .int x4)]) (1 : Int32) (by decide) h4 2 rfl [1, 2, 0, 3] rfl (by decide) dX12_termOf_59 ?_
  refine Wp.goto (pc := 62) 189 dX12_termOf_62 (by decide) ?_
  exact w_X12_termOf_189 hX hG hf hk
set_option maxHeartbeats 4000000 in
set_option maxRecDepth 100000 in
theorem w_X12_termOf_188 {X : CX} {T : List Dsc} {R : RM} {c e : Nat} {n1 n2 : Nat} {x2 : Int32} {x3 : Int32} {x4 : Int32} {s1 : Int32} {s2 : Int32} {m : M2} {r : ((Int32 × Int32 × M2) ⊕ ((M2) ⊕ (M2)))} (hX : XR X 4 n1 n2) (hG : Geo T R c e) (hf : f_X12_termOf_188 x2 x3 x4 s1 s2 m = some r) (hk : k_X12_termOf_5 X T R n1 n2 x2 r) : Wp X cX12_termOf RX12 8 T (mk m R) n1 n2 188 [(0, .ref 56), (2, .int x2), (3, .int x3), (4, .int x4)] [.int s2, .int s1, .ref 101] := by
  unfold f_X12_termOf_188 at hf
  obtain ⟨m1, h2, hf⟩ := bnd hf
  refine Wp.iast2 (pc := 188) h2 (hG.a 101 0 rfl) dX12_termOf_188 ?_
  exact w_X12_termOf_189 hX hG hf hk
set_option maxHeartbeats 4000000 in
set_option maxRecDepth 100000 in
theorem w_X12_termOf_104 {X : CX} {T : List Dsc} {R : RM} {c e : Nat} {n1 n2 : Nat} {x2 : Int32} {x3 : Int32} {x4 : Int32} {x5 : Int32} {x6 : Int32} {x7 : Int32} {m : M2} {r : ((Int32 × Int32 × M2) ⊕ ((M2) ⊕ (M2)))} (hX : XR X 4 n1 n2) (hG : Geo T R c e) (hf : f_X12_termOf_104 x2 x3 x4 x5 x6 x7 m = some r) (hk : k_X12_termOf_5 X T R n1 n2 x2 r) : Wp X cX12_termOf RX12 8 T (mk m R) n1 n2 104 [(0, .ref 56), (2, .int x2), (3, .int x3), (4, .int x4), (5, .int x5), (6, .int x6), (7, .int x7)] [] := by
  unfold f_X12_termOf_104 at hf
  refine Wp.aload_n (pc := 104) 0 rfl rfl dX12_termOf_104 ?_
  refine Wp.getR2 (pc := 105) (hG.r 56 70 rfl) (hG.t 56 rfl) fk_RX12_152 rfl dX12_termOf_105 ?_
  refine Wp.iload_n (pc := 108) 2 rfl rfl dX12_termOf_108 ?_
  refine Wp.iconst (pc := 109) (1 : Int32) (by decide) dX12_termOf_109 ?_
  refine Wp.isub (pc := 110) dX12_termOf_110 ?_
  refine Wp.iload (pc := 111) 4 rfl dX12_termOf_111 ?_
  refine Wp.iconst (pc := 113) (2 : Int32) (by decide) dX12_termOf_113 ?_
  refine Wp.icmp_ne (pc := 114) 125 dX12_termOf_114 (by decide) (fun hc1 => ?_) (fun hc1 => ?_)
  · rw [if_neg hc1] at hf
    refine Wp.iload (pc := 125) 4 rfl dX12_termOf_125 ?_
    refine Wp.iconst (pc := 127) (3 : Int32) (by decide) dX12_termOf_127 ?_
    refine Wp.icmp_ne (pc := 128) 139 dX12_termOf_128 (by decide) (fun hc2 => ?_) (fun hc2 => ?_)
    · rw [if_neg hc2] at hf
      refine Wp.iload (pc := 139) 4 rfl dX12_termOf_139 ?_
      refine Wp.iconst (pc := 141) (4 : Int32) (by decide) dX12_termOf_141 ?_
      refine Wp.icmp_ne (pc := 142) 153 dX12_termOf_142 (by decide) (fun hc3 => ?_) (fun hc3 => ?_)
      · rw [if_neg hc3] at hf
        refine Wp.iload (pc := 153) 4 rfl dX12_termOf_153 ?_
        refine Wp.bipush (pc := 155) (6 : Int32) (by decide) dX12_termOf_155 ?_
        refine Wp.icmp_ne (pc := 157) 171 dX12_termOf_157 (by decide) (fun hc4 => ?_) (fun hc4 => ?_)
        · rw [if_neg hc4] at hf
          refine Wp.iload (pc := 171) 6 rfl dX12_termOf_171 ?_
          refine Wp.iconst (pc := 173) (-1 : Int32) (by decide) dX12_termOf_173 ?_
          refine Wp.icmp_ne (pc := 174) 183 dX12_termOf_174 (by decide) (fun hc5 => ?_) (fun hc5 => ?_)
          · rw [if_neg hc5] at hf
            refine Wp.iload (pc := 183) 5 rfl dX12_termOf_183 ?_
            refine Wp.iload (pc := 185) 6 rfl dX12_termOf_185 ?_
            obtain ⟨v6, h7, hf⟩ := bnd hf
            refine Wp.dv (pc := 187) h7 dX12_termOf_187 ?_
            refine Wp.lo' (lo' := [(0, .ref 56), (2, .int x2), (3, .int x3), (4, .int x4)]) [0, 1, 2, 3] rfl ?_
            exact w_X12_termOf_188 hX hG hf hk
          · rw [if_pos hc5] at hf
            refine Wp.iload (pc := 177) 5 rfl dX12_termOf_177 ?_
            refine Wp.ineg (pc := 179) dX12_termOf_179 ?_
            refine Wp.goto (pc := 180) 188 dX12_termOf_180 (by decide) ?_
            refine Wp.lo' (lo' := [(0, .ref 56), (2, .int x2), (3, .int x3), (4, .int x4)]) [0, 1, 2, 3] rfl ?_
            exact w_X12_termOf_188 hX hG hf hk
        · rw [if_pos hc4] at hf
          refine Wp.aload_n (pc := 160) 0 rfl rfl dX12_termOf_160 ?_
          refine Wp.iload (pc := 161) 5 rfl dX12_termOf_161 ?_
          refine Wp.iload (pc := 163) 6 rfl dX12_termOf_163 ?_
          obtain ⟨c8, h9, hf⟩ := bnd hf
          refine Wp.callVi (pc := 165) (st := [.int (x3 - (1 : Int32)), .ref 101]) (as := [.int x6, .int x7]) (c_X12_gap hG h9) ml_RX12_422 mv_X12_gap mb_X12_gap hX (Nat.le_of_ble_eq_true rfl) (by decide) rfl (hG.t 56 rfl) rfl (by simp [Value.category]) dX12_termOf_165 rfl ?_
          refine Wp.goto (pc := 168) 188 dX12_termOf_168 (by decide) ?_
          refine Wp.lo' (lo' := [(0, .ref 56), (2, .int x2), (3, .int x3), (4, .int x4)]) [0, 1, 2, 3] rfl ?_
          exact w_X12_termOf_188 hX hG hf hk
      · rw [if_pos hc3] at hf
        refine Wp.iload (pc := 145) 5 rfl dX12_termOf_145 ?_
        refine Wp.iload (pc := 147) 6 rfl dX12_termOf_147 ?_
        refine Wp.imul (pc := 149) dX12_termOf_149 ?_
        refine Wp.goto (pc := 150) 188 dX12_termOf_150 (by decide) ?_
        refine Wp.lo' (lo' := [(0, .ref 56), (2, .int x2), (3, .int x3), (4, .int x4)]) [0, 1, 2, 3] rfl ?_
        exact w_X12_termOf_188 hX hG hf hk
    · rw [if_pos hc2] at hf
      refine Wp.iload (pc := 131) 5 rfl dX12_termOf_131 ?_
      refine Wp.iload (pc := 133) 6 rfl dX12_termOf_133 ?_
      refine Wp.isub (pc := 135) dX12_termOf_135 ?_
      refine Wp.goto (pc := 136) 188 dX12_termOf_136 (by decide) ?_
      refine Wp.lo' (lo' := [(0, .ref 56), (2, .int x2), (3, .int x3), (4, .int x4)]) [0, 1, 2, 3] rfl ?_
      exact w_X12_termOf_188 hX hG hf hk
  · rw [if_pos hc1] at hf
    refine Wp.iload (pc := 117) 5 rfl dX12_termOf_117 ?_
    refine Wp.iload (pc := 119) 6 rfl dX12_termOf_119 ?_
    refine Wp.iadd (pc := 121) dX12_termOf_121 ?_
    refine Wp.goto (pc := 122) 188 dX12_termOf_122 (by decide) ?_
    refine Wp.lo' (lo' := [(0, .ref 56), (2, .int x2), (3, .int x3), (4, .int x4)]) [0, 1, 2, 3] rfl ?_
    exact w_X12_termOf_188 hX hG hf hk
set_option maxHeartbeats 4000000 in
set_option maxRecDepth 100000 in
theorem w_X12_termOf_5 {X : CX} {T : List Dsc} {R : RM} {c e : Nat} {n1 n2 : Nat} {x2 : Int32} {x3 : Int32} {x4 : Int32} {m : M2} {r : ((Int32 × Int32 × M2) ⊕ ((M2) ⊕ (M2)))} (hX : XR X 4 n1 n2) (hG : Geo T R c e) (hf : f_X12_termOf_5 x2 x3 x4 m = some r) (hk : k_X12_termOf_5 X T R n1 n2 x2 r) : Wp X cX12_termOf RX12 8 T (mk m R) n1 n2 5 [(0, .ref 56), (2, .int x2), (3, .int x3), (4, .int x4)] [] := by
  unfold f_X12_termOf_5 at hf
  refine Wp.iload (pc := 5) 3 rfl dX12_termOf_5 ?_
  refine Wp.iload_n (pc := 7) 1 rfl rfl dX12_termOf_7 ?_
  refine Wp.icmp_ge (pc := 8) 195 dX12_termOf_8 (by decide) (fun hc1 => ?_) (fun hc1 => ?_)
  · rw [if_pos hc1] at hf
    refine Wp.lo' (lo' := [(0, .ref 56)]) [0] rfl ?_
    cases hf
    exact hk
  · rw [if_neg hc1] at hf
    refine Wp.aload_n (pc := 11) 0 rfl rfl dX12_termOf_11 ?_
    refine Wp.getR2 (pc := 12) (hG.r 56 49 rfl) (hG.t 56 rfl) fk_RX12_116 rfl dX12_termOf_12 ?_
    refine Wp.iload (pc := 15) 3 rfl dX12_termOf_15 ?_
    obtain ⟨v2, h3, hf⟩ := bnd hf
    refine Wp.iald2 (pc := 17) h3 (hG.a 89 0 rfl) dX12_termOf_17 ?_
    refine Wp.istore (pc := 18) (lo' := [(0, .ref 56), (2, .int x2), (3, .int x3), (4, .int x4), (5, .int v2)]) [1, 2, 3, 4, 0] rfl (by decide) dX12_termOf_18 ?_
    refine Wp.iload (pc := 20) 4 rfl dX12_termOf_20 ?_
    refine Wp.iconst (pc := 22) (2 : Int32) (by decide) dX12_termOf_22 ?_
    refine Wp.icmp_ge (pc := 23) 65 dX12_termOf_23 (by decide) (fun hc4 => ?_) (fun hc4 => ?_)
    · rw [if_pos hc4] at hf
      obtain ⟨v5, h6, hf⟩ := bnd hf
      refine Wp.iincN (pc := 65) (lo' := [(0, .ref 56), (2, .int x2), (3, .int v5), (4, .int x4), (5, .int v2)]) (-1 : Int32) (by decide) h6 2 rfl [1, 2, 0, 3, 4] rfl (by decide) dX12_termOf_65 ?_
      refine Wp.aload_n (pc := 68) 0 rfl rfl dX12_termOf_68 ?_
      refine Wp.getR2 (pc := 69) (hG.r 56 70 rfl) (hG.t 56 rfl) fk_RX12_152 rfl dX12_termOf_69 ?_
      refine Wp.iload_n (pc := 72) 2 rfl rfl dX12_termOf_72 ?_
      refine Wp.iconst (pc := 73) (1 : Int32) (by decide) dX12_termOf_73 ?_
      refine Wp.isub (pc := 74) dX12_termOf_74 ?_
      obtain ⟨v7, h8, hf⟩ := bnd hf
      refine Wp.iald2 (pc := 75) h8 (hG.a 101 0 rfl) dX12_termOf_75 ?_
      refine Wp.istore (pc := 76) (lo' := [(0, .ref 56), (2, .int x2), (3, .int v5), (4, .int x4), (5, .int v2), (6, .int v7)]) [1, 2, 3, 4, 5, 0] rfl (by decide) dX12_termOf_76 ?_
      refine Wp.aload_n (pc := 78) 0 rfl rfl dX12_termOf_78 ?_
      refine Wp.getR2 (pc := 79) (hG.r 56 70 rfl) (hG.t 56 rfl) fk_RX12_152 rfl dX12_termOf_79 ?_
      refine Wp.iload_n (pc := 82) 2 rfl rfl dX12_termOf_82 ?_
      obtain ⟨v9, h10, hf⟩ := bnd hf
      refine Wp.iald2 (pc := 83) h10 (hG.a 101 0 rfl) dX12_termOf_83 ?_
      refine Wp.istore (pc := 84) (lo' := [(0, .ref 56), (2, .int x2), (3, .int v5), (4, .int x4), (5, .int v2), (6, .int v7), (7, .int v9)]) [1, 2, 3, 4, 5, 6, 0] rfl (by decide) dX12_termOf_84 ?_
      refine Wp.iload (pc := 86) 4 rfl dX12_termOf_86 ?_
      refine Wp.iconst (pc := 88) (5 : Int32) (by decide) dX12_termOf_88 ?_
      refine Wp.icmp_ne (pc := 89) 104 dX12_termOf_89 (by decide) (fun hc11 => ?_) (fun hc11 => ?_)
      · rw [if_neg hc11] at hf
        exact w_X12_termOf_104 hX hG hf hk
      · rw [if_pos hc11] at hf
        refine Wp.iload (pc := 92) 6 rfl dX12_termOf_92 ?_
        refine Wp.if_ne (pc := 94) 104 dX12_termOf_94 (by decide) (fun hc12 => ?_) (fun hc12 => ?_)
        · rw [if_neg hc12] at hf
          exact w_X12_termOf_104 hX hG hf hk
        · rw [if_pos hc12] at hf
          refine Wp.lo' (lo' := [(0, .ref 56)]) [0] rfl ?_
          cases hf
          exact hk
    · rw [if_neg hc4] at hf
      refine Wp.aload_n (pc := 26) 0 rfl rfl dX12_termOf_26 ?_
      refine Wp.getR2 (pc := 27) (hG.r 56 70 rfl) (hG.t 56 rfl) fk_RX12_152 rfl dX12_termOf_27 ?_
      refine Wp.iload_n (pc := 30) 2 rfl rfl dX12_termOf_30 ?_
      refine Wp.iload (pc := 31) 4 rfl dX12_termOf_31 ?_
      refine Wp.if_ne (pc := 33) 46 dX12_termOf_33 (by decide) (fun hc13 => ?_) (fun hc13 => ?_)
      · rw [if_neg hc13] at hf
        refine Wp.aload_n (pc := 46) 0 rfl rfl dX12_termOf_46 ?_
        refine Wp.getR2 (pc := 47) (hG.r 56 69 rfl) (hG.t 56 rfl) fk_RX12_149 rfl dX12_termOf_47 ?_
        refine Wp.aload_n (pc := 50) 0 rfl rfl dX12_termOf_50 ?_
        refine Wp.getR2 (pc := 51) (hG.r 56 50 rfl) (hG.t 56 rfl) fk_RX12_119 rfl dX12_termOf_51 ?_
        refine Wp.iload (pc := 54) 3 rfl dX12_termOf_54 ?_
        obtain ⟨v14, h15, hf⟩ := bnd hf
        refine Wp.iald2 (pc := 56) h15 (hG.a 90 0 rfl) dX12_termOf_56 ?_
        obtain ⟨v16, h17, hf⟩ := bnd hf
        refine Wp.iald2 (pc := 57) h17 (hG.a 100 0 rfl) dX12_termOf_57 ?_
        refine Wp.lo' (lo' := [(0, .ref 56), (2, .int x2), (3, .int x3), (4, .int x4)]) [0, 1, 2, 3] rfl ?_
        exact w_X12_termOf_58 hX hG hf hk
      · rw [if_pos hc13] at hf
        refine Wp.aload_n (pc := 36) 0 rfl rfl dX12_termOf_36 ?_
        refine Wp.getR2 (pc := 37) (hG.r 56 50 rfl) (hG.t 56 rfl) fk_RX12_119 rfl dX12_termOf_37 ?_
        refine Wp.iload (pc := 40) 3 rfl dX12_termOf_40 ?_
        obtain ⟨v18, h19, hf⟩ := bnd hf
        refine Wp.iald2 (pc := 42) h19 (hG.a 90 0 rfl) dX12_termOf_42 ?_
        refine Wp.goto (pc := 43) 58 dX12_termOf_43 (by decide) ?_
        refine Wp.lo' (lo' := [(0, .ref 56), (2, .int x2), (3, .int x3), (4, .int x4)]) [0, 1, 2, 3] rfl ?_
        exact w_X12_termOf_58 hX hG hf hk
theorem wl_X12_termOf_5 {X : CX} {T : List Dsc} {R : RM} {c e : Nat} {n1 n2 : Nat} {x2 : Int32} {x3 : Int32} {x4 : Int32} {m : M2} {e1 : ((M2) ⊕ (M2))} (hX : XR X 4 n1 n2) (hG : Geo T R c e) (h : loop (g_X12_termOf_5 x2) (x3, x4, m) = some e1) (he0 : ∀ e_, e1 = (Sum.inl e_) → Wp X cX12_termOf RX12 8 T (mk e_ R) n1 n2 97 [(0, .ref 56)] []) (he1 : ∀ e_, e1 = (Sum.inr e_) → Wp X cX12_termOf RX12 8 T (mk e_ R) n1 n2 195 [(0, .ref 56)] []) : Wp X cX12_termOf RX12 8 T (mk m R) n1 n2 5 [(0, .ref 56), (2, .int x2), (3, .int x3), (4, .int x4)] [] :=
  loop_ok (K := k_X12_termOf_5 X T R n1 n2 x2) (fun s r hf hk => w_X12_termOf_5 hX hG hf hk) h (by rcases e1 with e_ | e_ <;> first | exact he0 _ rfl | exact he1 _ rfl)
set_option maxHeartbeats 4000000 in
set_option maxRecDepth 100000 in
theorem w_X12_termOf {X : CX} {T : List Dsc} {R : RM} {c e : Nat} {n1 n2 : Nat} {x1 : Int32} {x2 : Int32} {m : M2} {r : (Int32 × M2)} (hX : XR X 4 n1 n2) (hG : Geo T R c e) (hf : F_X12_termOf x1 x2 m = some r) (hk : FnI X cX12_termOf RX12 8 T n1 n2 (r.1, mk r.2 R)) : Wp X cX12_termOf RX12 8 T (mk m R) n1 n2 0 [(0, .ref 56), (1, .int x1), (2, .int x2)] [] := by
  unfold F_X12_termOf at hf
  refine Wp.iconst (pc := 0) (0 : Int32) (by decide) dX12_termOf_0 ?_
  refine Wp.istore_n (pc := 1) (lo' := [(0, .ref 56), (1, .int x1), (2, .int x2), (3, .int (0 : Int32))]) [1, 2, 3, 0] rfl (by decide) rfl dX12_termOf_1 ?_
  refine Wp.iload_n (pc := 2) 1 rfl rfl dX12_termOf_2 ?_
  refine Wp.istore (pc := 3) (lo' := [(0, .ref 56), (2, .int x2), (3, .int (0 : Int32)), (4, .int x1)]) [1, 3, 4, 0] rfl (by decide) dX12_termOf_3 ?_
  obtain ⟨e1, h2, hf⟩ := bnd hf
  refine wl_X12_termOf_5 hX hG h2 (fun e1_0 hq => ?_) (fun e1_1 hq => ?_)
  · rw [hq, Sum.elim_inl] at hf
    refine Wp.aload_n (pc := 97) 0 rfl rfl dX12_termOf_97 ?_
    refine Wp.iconst (pc := 98) (1 : Int32) (by decide) dX12_termOf_98 ?_
    obtain ⟨m3, h4, hf⟩ := bnd hf
    refine Wp.ptZ2 (pc := 99) (Or.inr rfl) h4 (hG.t 56 rfl) fk_RX12_418 ff_RX12_11_71 rfl dX12_termOf_99 ?_
    refine Wp.iconst (pc := 102) (0 : Int32) (by decide) dX12_termOf_102 ?_
    cases hf
    exact hk _ _ dX12_termOf_103
  · rw [hq, Sum.elim_inr] at hf
    refine Wp.aload_n (pc := 195) 0 rfl rfl dX12_termOf_195 ?_
    refine Wp.getR2 (pc := 196) (hG.r 56 70 rfl) (hG.t 56 rfl) fk_RX12_152 rfl dX12_termOf_196 ?_
    refine Wp.iconst (pc := 199) (0 : Int32) (by decide) dX12_termOf_199 ?_
    obtain ⟨v5, h6, hf⟩ := bnd hf
    refine Wp.iald2 (pc := 200) h6 (hG.a 101 0 rfl) dX12_termOf_200 ?_
    cases hf
    exact hk _ _ dX12_termOf_201
theorem c_X12_termOf {T : List Dsc} {R : RM} {c e : Nat} {x1 : Int32} {x2 : Int32} {m : M2} {r : (Int32 × M2)} (hG : Geo T R c e) (hf : F_X12_termOf x1 x2 m = some r) : Ct 4 yX12_termOf cX12_termOf 8 (some .int) T (mk m R) [.ref 56, .int x1, .int x2] (some (.int r.1)) (mk r.2 R) := Ct.ofI (r := (r.1, mk r.2 R)) (by decide +kernel) (Nat.le_of_ble_eq_true rfl) (fun X hX hk => w_X12_termOf hX hG hf hk)
theorem dX12_isTrue_0 : decode cX12_isTrue 0 = .ok (.aload_n 0, 1) := by decide +kernel
theorem dX12_isTrue_1 : decode cX12_isTrue 1 = .ok (.aload_n 0, 1) := by decide +kernel
theorem dX12_isTrue_2 : decode cX12_isTrue 2 = .ok (.getfield 107, 3) := by decide +kernel
theorem dX12_isTrue_5 : decode cX12_isTrue 5 = .ok (.iload_n 1, 1) := by decide +kernel
theorem dX12_isTrue_6 : decode cX12_isTrue 6 = .ok (.iaload, 1) := by decide +kernel
theorem dX12_isTrue_7 : decode cX12_isTrue 7 = .ok (.aload_n 0, 1) := by decide +kernel
theorem dX12_isTrue_8 : decode cX12_isTrue 8 = .ok (.getfield 110, 3) := by decide +kernel
theorem dX12_isTrue_11 : decode cX12_isTrue 11 = .ok (.iload_n 1, 1) := by decide +kernel
theorem dX12_isTrue_12 : decode cX12_isTrue 12 = .ok (.iaload, 1) := by decide +kernel
theorem dX12_isTrue_13 : decode cX12_isTrue 13 = .ok (.invokevirtual 425, 3) := by decide +kernel
theorem dX12_isTrue_16 : decode cX12_isTrue 16 = .ok (.istore_n 2, 1) := by decide +kernel
theorem dX12_isTrue_17 : decode cX12_isTrue 17 = .ok (.aload_n 0, 1) := by decide +kernel
theorem dX12_isTrue_18 : decode cX12_isTrue 18 = .ok (.aload_n 0, 1) := by decide +kernel
theorem dX12_isTrue_19 : decode cX12_isTrue 19 = .ok (.getfield 110, 3) := by decide +kernel
theorem dX12_isTrue_22 : decode cX12_isTrue 22 = .ok (.iload_n 1, 1) := by decide +kernel
theorem dX12_isTrue_23 : decode cX12_isTrue 23 = .ok (.iaload, 1) := by decide +kernel
theorem dX12_isTrue_24 : decode cX12_isTrue 24 = .ok (.aload_n 0, 1) := by decide +kernel
theorem dX12_isTrue_25 : decode cX12_isTrue 25 = .ok (.getfield 113, 3) := by decide +kernel
theorem dX12_isTrue_28 : decode cX12_isTrue 28 = .ok (.iload_n 1, 1) := by decide +kernel
theorem dX12_isTrue_29 : decode cX12_isTrue 29 = .ok (.iaload, 1) := by decide +kernel
theorem dX12_isTrue_30 : decode cX12_isTrue 30 = .ok (.invokevirtual 425, 3) := by decide +kernel
theorem dX12_isTrue_33 : decode cX12_isTrue 33 = .ok (.istore_n 3, 1) := by decide +kernel
theorem dX12_isTrue_34 : decode cX12_isTrue 34 = .ok (.aload_n 0, 1) := by decide +kernel
theorem dX12_isTrue_35 : decode cX12_isTrue 35 = .ok (.getfield 97, 3) := by decide +kernel
theorem dX12_isTrue_38 : decode cX12_isTrue 38 = .ok (.iload_n 1, 1) := by decide +kernel
theorem dX12_isTrue_39 : decode cX12_isTrue 39 = .ok (.iaload, 1) := by decide +kernel
theorem dX12_isTrue_40 : decode cX12_isTrue 40 = .ok (.ifCond .ne 16, 3) := by decide +kernel
theorem dX12_isTrue_43 : decode cX12_isTrue 43 = .ok (.iload_n 2, 1) := by decide +kernel
theorem dX12_isTrue_44 : decode cX12_isTrue 44 = .ok (.iload_n 3, 1) := by decide +kernel
theorem dX12_isTrue_45 : decode cX12_isTrue 45 = .ok (.if_icmp .ne 7, 3) := by decide +kernel
theorem dX12_isTrue_48 : decode cX12_isTrue 48 = .ok (.iconst 1, 1) := by decide +kernel
theorem dX12_isTrue_49 : decode cX12_isTrue 49 = .ok (.goto 63, 3) := by decide +kernel
theorem dX12_isTrue_52 : decode cX12_isTrue 52 = .ok (.iconst 0, 1) := by decide +kernel
theorem dX12_isTrue_53 : decode cX12_isTrue 53 = .ok (.goto 59, 3) := by decide +kernel
theorem dX12_isTrue_56 : decode cX12_isTrue 56 = .ok (.aload_n 0, 1) := by decide +kernel
theorem dX12_isTrue_57 : decode cX12_isTrue 57 = .ok (.getfield 97, 3) := by decide +kernel
theorem dX12_isTrue_60 : decode cX12_isTrue 60 = .ok (.iload_n 1, 1) := by decide +kernel
theorem dX12_isTrue_61 : decode cX12_isTrue 61 = .ok (.iaload, 1) := by decide +kernel
theorem dX12_isTrue_62 : decode cX12_isTrue 62 = .ok (.iconst 1, 1) := by decide +kernel
theorem dX12_isTrue_63 : decode cX12_isTrue 63 = .ok (.if_icmp .ne 16, 3) := by decide +kernel
theorem dX12_isTrue_66 : decode cX12_isTrue 66 = .ok (.iload_n 2, 1) := by decide +kernel
theorem dX12_isTrue_67 : decode cX12_isTrue 67 = .ok (.iload_n 3, 1) := by decide +kernel
theorem dX12_isTrue_68 : decode cX12_isTrue 68 = .ok (.if_icmp .eq 7, 3) := by decide +kernel
theorem dX12_isTrue_71 : decode cX12_isTrue 71 = .ok (.iconst 1, 1) := by decide +kernel
theorem dX12_isTrue_72 : decode cX12_isTrue 72 = .ok (.goto 40, 3) := by decide +kernel
theorem dX12_isTrue_75 : decode cX12_isTrue 75 = .ok (.iconst 0, 1) := by decide +kernel
theorem dX12_isTrue_76 : decode cX12_isTrue 76 = .ok (.goto 36, 3) := by decide +kernel
theorem dX12_isTrue_79 : decode cX12_isTrue 79 = .ok (.aload_n 0, 1) := by decide +kernel
theorem dX12_isTrue_80 : decode cX12_isTrue 80 = .ok (.getfield 97, 3) := by decide +kernel
theorem dX12_isTrue_83 : decode cX12_isTrue 83 = .ok (.iload_n 1, 1) := by decide +kernel
theorem dX12_isTrue_84 : decode cX12_isTrue 84 = .ok (.iaload, 1) := by decide +kernel
theorem dX12_isTrue_85 : decode cX12_isTrue 85 = .ok (.iconst 2, 1) := by decide +kernel
theorem dX12_isTrue_86 : decode cX12_isTrue 86 = .ok (.if_icmp .ne 16, 3) := by decide +kernel
theorem dX12_isTrue_89 : decode cX12_isTrue 89 = .ok (.iload_n 2, 1) := by decide +kernel
theorem dX12_isTrue_90 : decode cX12_isTrue 90 = .ok (.iload_n 3, 1) := by decide +kernel
theorem dX12_isTrue_91 : decode cX12_isTrue 91 = .ok (.if_icmp .ge 7, 3) := by decide +kernel
theorem dX12_isTrue_94 : decode cX12_isTrue 94 = .ok (.iconst 1, 1) := by decide +kernel
theorem dX12_isTrue_95 : decode cX12_isTrue 95 = .ok (.goto 17, 3) := by decide +kernel
theorem dX12_isTrue_98 : decode cX12_isTrue 98 = .ok (.iconst 0, 1) := by decide +kernel
theorem dX12_isTrue_99 : decode cX12_isTrue 99 = .ok (.goto 13, 3) := by decide +kernel
theorem dX12_isTrue_102 : decode cX12_isTrue 102 = .ok (.iload_n 2, 1) := by decide +kernel
theorem dX12_isTrue_103 : decode cX12_isTrue 103 = .ok (.iload_n 3, 1) := by decide +kernel
theorem dX12_isTrue_104 : decode cX12_isTrue 104 = .ok (.if_icmp .gt 7, 3) := by decide +kernel
theorem dX12_isTrue_107 : decode cX12_isTrue 107 = .ok (.iconst 1, 1) := by decide +kernel
theorem dX12_isTrue_108 : decode cX12_isTrue 108 = .ok (.goto 4, 3) := by decide +kernel
theorem dX12_isTrue_111 : decode cX12_isTrue 111 = .ok (.iconst 0, 1) := by decide +kernel
theorem dX12_isTrue_112 : decode cX12_isTrue 112 = .ok (.istore 4, 2) := by decide +kernel
theorem dX12_isTrue_114 : decode cX12_isTrue 114 = .ok (.iload 4, 2) := by decide +kernel
theorem dX12_isTrue_116 : decode cX12_isTrue 116 = .ok (.aload_n 0, 1) := by decide +kernel
theorem dX12_isTrue_117 : decode cX12_isTrue 117 = .ok (.getfield 100, 3) := by decide +kernel
theorem dX12_isTrue_120 : decode cX12_isTrue 120 = .ok (.iload_n 1, 1) := by decide +kernel
theorem dX12_isTrue_121 : decode cX12_isTrue 121 = .ok (.baload, 1) := by decide +kernel
theorem dX12_isTrue_122 : decode cX12_isTrue 122 = .ok (.if_icmp .eq 7, 3) := by decide +kernel
theorem dX12_isTrue_125 : decode cX12_isTrue 125 = .ok (.iconst 1, 1) := by decide +kernel
theorem dX12_isTrue_126 : decode cX12_isTrue 126 = .ok (.goto 4, 3) := by decide +kernel
theorem dX12_isTrue_129 : decode cX12_isTrue 129 = .ok (.iconst 0, 1) := by decide +kernel
theorem dX12_isTrue_130 : decode cX12_isTrue 130 = .ok (.ireturn, 1) := by decide +kernel
set_option maxHeartbeats 4000000 in
set_option maxRecDepth 100000 in
theorem w_X12_isTrue_130 {X : CX} {T : List Dsc} {R : RM} {c e : Nat} {n1 n2 : Nat} {s0 : Int32} {m : M2} {r : (Int32 × M2)} (hX : XR X 5 n1 n2) (hG : Geo T R c e) (hf : f_X12_isTrue_130 s0 m = some r) (hk : FnZ X cX12_isTrue RX12 5 T n1 n2 (r.1, mk r.2 R)) : Wp X cX12_isTrue RX12 5 T (mk m R) n1 n2 130 [] [.int s0] := by
  unfold f_X12_isTrue_130 at hf
  obtain ⟨v1, h2, hf⟩ := bnd hf
  refine Wp.zb' h2 (fun h2 => ?_)
  cases hf
  exact hk _ _ h2 dX12_isTrue_130
set_option maxHeartbeats 4000000 in
set_option maxRecDepth 100000 in
theorem w_X12_isTrue_112 {X : CX} {T : List Dsc} {R : RM} {c e : Nat} {n1 n2 : Nat} {x1 : Int32} {s0 : Int32} {m : M2} {r : (Int32 × M2)} (hX : XR X 5 n1 n2) (hG : Geo T R c e) (hf : f_X12_isTrue_112 x1 s0 m = some r) (hk : FnZ X cX12_isTrue RX12 5 T n1 n2 (r.1, mk r.2 R)) : Wp X cX12_isTrue RX12 5 T (mk m R) n1 n2 112 [(0, .ref 56), (1, .int x1)] [.int s0] := by
  unfold f_X12_isTrue_112 at hf
  refine Wp.istore (pc := 112) (lo' := [(0, .ref 56), (1, .int x1), (4, .int s0)]) [1, 2, 0] rfl (by decide) dX12_isTrue_112 ?_
  refine Wp.iload (pc := 114) 2 rfl dX12_isTrue_114 ?_
  refine Wp.aload_n (pc := 116) 0 rfl rfl dX12_isTrue_116 ?_
  refine Wp.getR2 (pc := 117) (hG.r 56 43 rfl) (hG.t 56 rfl) fk_RX12_100 rfl dX12_isTrue_117 ?_
  refine Wp.iload_n (pc := 120) 1 rfl rfl dX12_isTrue_120 ?_
  obtain ⟨v1, h2, hf⟩ := bnd hf
  refine Wp.zald2 (pc := 121) h2 (hG.a 84 3 rfl) dX12_isTrue_121 ?_
  refine Wp.icmp_eq (pc := 122) 129 dX12_isTrue_122 (by decide) (fun hc3 => ?_) (fun hc3 => ?_)
  · rw [if_pos hc3] at hf
    refine Wp.iconst (pc := 129) (0 : Int32) (by decide) dX12_isTrue_129 ?_
    refine Wp.lo' (lo' := []) [] rfl ?_
    exact w_X12_isTrue_130 hX hG hf hk
  · rw [if_neg hc3] at hf
    refine Wp.iconst (pc := 125) (1 : Int32) (by decide) dX12_isTrue_125 ?_
    refine Wp.goto (pc := 126) 130 dX12_isTrue_126 (by decide) ?_
    refine Wp.lo' (lo' := []) [] rfl ?_
    exact w_X12_isTrue_130 hX hG hf hk
set_option maxHeartbeats 4000000 in
set_option maxRecDepth 100000 in
theorem w_X12_isTrue {X : CX} {T : List Dsc} {R : RM} {c e : Nat} {n1 n2 : Nat} {x1 : Int32} {m : M2} {r : (Int32 × M2)} (hX : XR X 5 n1 n2) (hG : Geo T R c e) (hf : F_X12_isTrue x1 m = some r) (hk : FnZ X cX12_isTrue RX12 5 T n1 n2 (r.1, mk r.2 R)) : Wp X cX12_isTrue RX12 5 T (mk m R) n1 n2 0 [(0, .ref 56), (1, .int x1)] [] := by
  unfold F_X12_isTrue at hf
  refine Wp.aload_n (pc := 0) 0 rfl rfl dX12_isTrue_0 ?_
  refine Wp.aload_n (pc := 1) 0 rfl rfl dX12_isTrue_1 ?_
  refine Wp.getR2 (pc := 2) (hG.r 56 45 rfl) (hG.t 56 rfl) fk_RX12_107 rfl dX12_isTrue_2 ?_
  refine Wp.iload_n (pc := 5) 1 rfl rfl dX12_isTrue_5 ?_
  obtain ⟨v1, h2, hf⟩ := bnd hf
  refine Wp.iald2 (pc := 6) h2 (hG.a 86 0 rfl) dX12_isTrue_6 ?_
  refine Wp.aload_n (pc := 7) 0 rfl rfl dX12_isTrue_7 ?_
  refine Wp.getR2 (pc := 8) (hG.r 56 46 rfl) (hG.t 56 rfl) fk_RX12_110 rfl dX12_isTrue_8 ?_
  refine Wp.iload_n (pc := 11) 1 rfl rfl dX12_isTrue_11 ?_
  obtain ⟨v3, h4, hf⟩ := bnd hf
  refine Wp.iald2 (pc := 12) h4 (hG.a 87 0 rfl) dX12_isTrue_12 ?_
  obtain ⟨c5, h6, hf⟩ := bnd hf
  refine Wp.callVi (pc := 13) (st := []) (as := [.int v1, .int v3]) (c_X12_termOf hG h6) ml_RX12_425 mv_X12_termOf mb_X12_termOf hX (Nat.le_of_ble_eq_true rfl) (by decide) rfl (hG.t 56 rfl) rfl (by simp) dX12_isTrue_13 rfl ?_
  refine Wp.istore_n (pc := 16) (lo' := [(0, .ref 56), (1, .int x1), (2, .int c5.1)]) [1, 2, 0] rfl (by decide) rfl dX12_isTrue_16 ?_
  refine Wp.aload_n (pc := 17) 0 rfl rfl dX12_isTrue_17 ?_
  refine Wp.aload_n (pc := 18) 0 rfl rfl dX12_isTrue_18 ?_
  refine Wp.getR2 (pc := 19) (hG.r 56 46 rfl) (hG.t 56 rfl) fk_RX12_110 rfl dX12_isTrue_19 ?_
  refine Wp.iload_n (pc := 22) 1 rfl rfl dX12_isTrue_22 ?_
  obtain ⟨v7, h8, hf⟩ := bnd hf
  refine Wp.iald2 (pc := 23) h8 (hG.a 87 0 rfl) dX12_isTrue_23 ?_
  refine Wp.aload_n (pc := 24) 0 rfl rfl dX12_isTrue_24 ?_
  refine Wp.getR2 (pc := 25) (hG.r 56 47 rfl) (hG.t 56 rfl) fk_RX12_113 rfl dX12_isTrue_25 ?_
  refine Wp.iload_n (pc := 28) 1 rfl rfl dX12_isTrue_28 ?_
  obtain ⟨v9, h10, hf⟩ := bnd hf
  refine Wp.iald2 (pc := 29) h10 (hG.a 88 0 rfl) dX12_isTrue_29 ?_
  obtain ⟨c11, h12, hf⟩ := bnd hf
  refine Wp.callVi (pc := 30) (st := []) (as := [.int v7, .int v9]) (c_X12_termOf hG h12) ml_RX12_425 mv_X12_termOf mb_X12_termOf hX (Nat.le_of_ble_eq_true rfl) (by decide) rfl (hG.t 56 rfl) rfl (by simp) dX12_isTrue_30 rfl ?_
  refine Wp.istore_n (pc := 33) (lo' := [(0, .ref 56), (1, .int x1), (2, .int c5.1), (3, .int c11.1)]) [1, 2, 3, 0] rfl (by decide) rfl dX12_isTrue_33 ?_
  refine Wp.aload_n (pc := 34) 0 rfl rfl dX12_isTrue_34 ?_
  refine Wp.getR2 (pc := 35) (hG.r 56 42 rfl) (hG.t 56 rfl) fk_RX12_97 rfl dX12_isTrue_35 ?_
  refine Wp.iload_n (pc := 38) 1 rfl rfl dX12_isTrue_38 ?_
  obtain ⟨v13, h14, hf⟩ := bnd hf
  refine Wp.iald2 (pc := 39) h14 (hG.a 83 0 rfl) dX12_isTrue_39 ?_
  refine Wp.if_ne (pc := 40) 56 dX12_isTrue_40 (by decide) (fun hc15 => ?_) (fun hc15 => ?_)
  · rw [if_neg hc15] at hf
    refine Wp.aload_n (pc := 56) 0 rfl rfl dX12_isTrue_56 ?_
    refine Wp.getR2 (pc := 57) (hG.r 56 42 rfl) (hG.t 56 rfl) fk_RX12_97 rfl dX12_isTrue_57 ?_
    refine Wp.iload_n (pc := 60) 1 rfl rfl dX12_isTrue_60 ?_
    obtain ⟨v16, h17, hf⟩ := bnd hf
    refine Wp.iald2 (pc := 61) h17 (hG.a 83 0 rfl) dX12_isTrue_61 ?_
    refine Wp.iconst (pc := 62) (1 : Int32) (by decide) dX12_isTrue_62 ?_
    refine Wp.icmp_ne (pc := 63) 79 dX12_isTrue_63 (by decide) (fun hc18 => ?_) (fun hc18 => ?_)
    · rw [if_neg hc18] at hf
      refine Wp.aload_n (pc := 79) 0 rfl rfl dX12_isTrue_79 ?_
      refine Wp.getR2 (pc := 80) (hG.r 56 42 rfl) (hG.t 56 rfl) fk_RX12_97 rfl dX12_isTrue_80 ?_
      refine Wp.iload_n (pc := 83) 1 rfl rfl dX12_isTrue_83 ?_
      obtain ⟨v19, h20, hf⟩ := bnd hf
      refine Wp.iald2 (pc := 84) h20 (hG.a 83 0 rfl) dX12_isTrue_84 ?_
      refine Wp.iconst (pc := 85) (2 : Int32) (by decide) dX12_isTrue_85 ?_
      refine Wp.icmp_ne (pc := 86) 102 dX12_isTrue_86 (by decide) (fun hc21 => ?_) (fun hc21 => ?_)
      · rw [if_neg hc21] at hf
        refine Wp.iload_n (pc := 102) 2 rfl rfl dX12_isTrue_102 ?_
        refine Wp.iload_n (pc := 103) 3 rfl rfl dX12_isTrue_103 ?_
        refine Wp.icmp_gt (pc := 104) 111 dX12_isTrue_104 (by decide) (fun hc22 => ?_) (fun hc22 => ?_)
        · rw [if_pos hc22] at hf
          refine Wp.iconst (pc := 111) (0 : Int32) (by decide) dX12_isTrue_111 ?_
          refine Wp.lo' (lo' := [(0, .ref 56), (1, .int x1)]) [0, 1] rfl ?_
          exact w_X12_isTrue_112 hX hG hf hk
        · rw [if_neg hc22] at hf
          refine Wp.iconst (pc := 107) (1 : Int32) (by decide) dX12_isTrue_107 ?_
          refine Wp.goto (pc := 108) 112 dX12_isTrue_108 (by decide) ?_
          refine Wp.lo' (lo' := [(0, .ref 56), (1, .int x1)]) [0, 1] rfl ?_
          exact w_X12_isTrue_112 hX hG hf hk
      · rw [if_pos hc21] at hf
        refine Wp.iload_n (pc := 89) 2 rfl rfl dX12_isTrue_89 ?_
        refine Wp.iload_n (pc := 90) 3 rfl rfl dX12_isTrue_90 ?_
        refine Wp.icmp_ge (pc := 91) 98 dX12_isTrue_91 (by decide) (fun hc23 => ?_) (fun hc23 => ?_)
        · rw [if_pos hc23] at hf
          refine Wp.iconst (pc := 98) (0 : Int32) (by decide) dX12_isTrue_98 ?_
          refine Wp.goto (pc := 99) 112 dX12_isTrue_99 (by decide) ?_
          refine Wp.lo' (lo' := [(0, .ref 56), (1, .int x1)]) [0, 1] rfl ?_
          exact w_X12_isTrue_112 hX hG hf hk
        · rw [if_neg hc23] at hf
          refine Wp.iconst (pc := 94) (1 : Int32) (by decide) dX12_isTrue_94 ?_
          refine Wp.goto (pc := 95) 112 dX12_isTrue_95 (by decide) ?_
          refine Wp.lo' (lo' := [(0, .ref 56), (1, .int x1)]) [0, 1] rfl ?_
          exact w_X12_isTrue_112 hX hG hf hk
    · rw [if_pos hc18] at hf
      refine Wp.iload_n (pc := 66) 2 rfl rfl dX12_isTrue_66 ?_
      refine Wp.iload_n (pc := 67) 3 rfl rfl dX12_isTrue_67 ?_
      refine Wp.icmp_eq (pc := 68) 75 dX12_isTrue_68 (by decide) (fun hc24 => ?_) (fun hc24 => ?_)
      · rw [if_pos hc24] at hf
        refine Wp.iconst (pc := 75) (0 : Int32) (by decide) dX12_isTrue_75 ?_
        refine Wp.goto (pc := 76) 112 dX12_isTrue_76 (by decide) ?_
        refine Wp.lo' (lo' := [(0, .ref 56), (1, .int x1)]) [0, 1] rfl ?_
        exact w_X12_isTrue_112 hX hG hf hk
      · rw [if_neg hc24] at hf
        refine Wp.iconst (pc := 71) (1 : Int32) (by decide) dX12_isTrue_71 ?_
        refine Wp.goto (pc := 72) 112 dX12_isTrue_72 (by decide) ?_
        refine Wp.lo' (lo' := [(0, .ref 56), (1, .int x1)]) [0, 1] rfl ?_
        exact w_X12_isTrue_112 hX hG hf hk
  · rw [if_pos hc15] at hf
    refine Wp.iload_n (pc := 43) 2 rfl rfl dX12_isTrue_43 ?_
    refine Wp.iload_n (pc := 44) 3 rfl rfl dX12_isTrue_44 ?_
    refine Wp.icmp_ne (pc := 45) 52 dX12_isTrue_45 (by decide) (fun hc25 => ?_) (fun hc25 => ?_)
    · rw [if_neg hc25] at hf
      refine Wp.iconst (pc := 52) (0 : Int32) (by decide) dX12_isTrue_52 ?_
      refine Wp.goto (pc := 53) 112 dX12_isTrue_53 (by decide) ?_
      refine Wp.lo' (lo' := [(0, .ref 56), (1, .int x1)]) [0, 1] rfl ?_
      exact w_X12_isTrue_112 hX hG hf hk
    · rw [if_pos hc25] at hf
      refine Wp.iconst (pc := 48) (1 : Int32) (by decide) dX12_isTrue_48 ?_
      refine Wp.goto (pc := 49) 112 dX12_isTrue_49 (by decide) ?_
      refine Wp.lo' (lo' := [(0, .ref 56), (1, .int x1)]) [0, 1] rfl ?_
      exact w_X12_isTrue_112 hX hG hf hk
theorem c_X12_isTrue {T : List Dsc} {R : RM} {c e : Nat} {x1 : Int32} {m : M2} {r : (Int32 × M2)} (hG : Geo T R c e) (hf : F_X12_isTrue x1 m = some r) : Ct 5 yX12_isTrue cX12_isTrue 5 (some .boolean) T (mk m R) [.ref 56, .int x1] (some (.int r.1)) (mk r.2 R) := Ct.ofZ (r := (r.1, mk r.2 R)) (by decide +kernel) (Nat.le_of_ble_eq_true rfl) (fun X hX hk => w_X12_isTrue hX hG hf hk)
theorem dX12_holds_0 : decode cX12_holds 0 = .ok (.iconst 0, 1) := by decide +kernel
theorem dX12_holds_1 : decode cX12_holds 1 = .ok (.istore_n 2, 1) := by decide +kernel
theorem dX12_holds_2 : decode cX12_holds 2 = .ok (.aload_n 0, 1) := by decide +kernel
theorem dX12_holds_3 : decode cX12_holds 3 = .ok (.getfield 58, 3) := by decide +kernel
theorem dX12_holds_6 : decode cX12_holds 6 = .ok (.iload_n 1, 1) := by decide +kernel
theorem dX12_holds_7 : decode cX12_holds 7 = .ok (.iaload, 1) := by decide +kernel
theorem dX12_holds_8 : decode cX12_holds 8 = .ok (.istore_n 3, 1) := by decide +kernel
theorem dX12_holds_9 : decode cX12_holds 9 = .ok (.iload_n 3, 1) := by decide +kernel
theorem dX12_holds_10 : decode cX12_holds 10 = .ok (.aload_n 0, 1) := by decide +kernel
theorem dX12_holds_11 : decode cX12_holds 11 = .ok (.getfield 61, 3) := by decide +kernel
theorem dX12_holds_14 : decode cX12_holds 14 = .ok (.iload_n 1, 1) := by decide +kernel
theorem dX12_holds_15 : decode cX12_holds 15 = .ok (.iaload, 1) := by decide +kernel
theorem dX12_holds_16 : decode cX12_holds 16 = .ok (.if_icmp .ge 52, 3) := by decide +kernel
theorem dX12_holds_19 : decode cX12_holds 19 = .ok (.aload_n 0, 1) := by decide +kernel
theorem dX12_holds_20 : decode cX12_holds 20 = .ok (.getfield 418, 3) := by decide +kernel
theorem dX12_holds_23 : decode cX12_holds 23 = .ok (.ifCond .ne 45, 3) := by decide +kernel
theorem dX12_holds_26 : decode cX12_holds 26 = .ok (.aload_n 0, 1) := by decide +kernel
theorem dX12_holds_27 : decode cX12_holds 27 = .ok (.getfield 104, 3) := by decide +kernel
theorem dX12_holds_30 : decode cX12_holds 30 = .ok (.iload_n 3, 1) := by decide +kernel
theorem dX12_holds_31 : decode cX12_holds 31 = .ok (.baload, 1) := by decide +kernel
theorem dX12_holds_32 : decode cX12_holds 32 = .ok (.ifCond .eq 9, 3) := by decide +kernel
theorem dX12_holds_35 : decode cX12_holds 35 = .ok (.iload_n 2, 1) := by decide +kernel
theorem dX12_holds_36 : decode cX12_holds 36 = .ok (.ifCond .eq 5, 3) := by decide +kernel
theorem dX12_holds_39 : decode cX12_holds 39 = .ok (.iconst 1, 1) := by decide +kernel
theorem dX12_holds_40 : decode cX12_holds 40 = .ok (.ireturn, 1) := by decide +kernel
theorem dX12_holds_41 : decode cX12_holds 41 = .ok (.aload_n 0, 1) := by decide +kernel
theorem dX12_holds_42 : decode cX12_holds 42 = .ok (.getfield 104, 3) := by decide +kernel
theorem dX12_holds_45 : decode cX12_holds 45 = .ok (.iload_n 3, 1) := by decide +kernel
theorem dX12_holds_46 : decode cX12_holds 46 = .ok (.baload, 1) := by decide +kernel
theorem dX12_holds_47 : decode cX12_holds 47 = .ok (.ifCond .eq 5, 3) := by decide +kernel
theorem dX12_holds_50 : decode cX12_holds 50 = .ok (.iconst 1, 1) := by decide +kernel
theorem dX12_holds_51 : decode cX12_holds 51 = .ok (.istore_n 2, 1) := by decide +kernel
theorem dX12_holds_52 : decode cX12_holds 52 = .ok (.iload_n 2, 1) := by decide +kernel
theorem dX12_holds_53 : decode cX12_holds 53 = .ok (.ifCond .eq 9, 3) := by decide +kernel
theorem dX12_holds_56 : decode cX12_holds 56 = .ok (.aload_n 0, 1) := by decide +kernel
theorem dX12_holds_57 : decode cX12_holds 57 = .ok (.iload_n 3, 1) := by decide +kernel
theorem dX12_holds_58 : decode cX12_holds 58 = .ok (.invokevirtual 428, 3) := by decide +kernel
theorem dX12_holds_61 : decode cX12_holds 61 = .ok (.istore_n 2, 1) := by decide +kernel
theorem dX12_holds_62 : decode cX12_holds 62 = .ok (.iinc 3 1, 3) := by decide +kernel
theorem dX12_holds_65 : decode cX12_holds 65 = .ok (.goto (-56), 3) := by decide +kernel
theorem dX12_holds_68 : decode cX12_holds 68 = .ok (.iload_n 2, 1) := by decide +kernel
theorem dX12_holds_69 : decode cX12_holds 69 = .ok (.ireturn, 1) := by decide +kernel
def k_X12_holds_9 (X : CX) (T : List Dsc) (R : RM) (n1 n2 : Nat) (x1 : Int32) (r : ((Int32 × Int32 × M2) ⊕ ((M2) ⊕ (Int32 × M2)))) : Prop := match r with
  | .inl s => Wp X cX12_holds RX12 4 T (mk s.2.2 R) n1 n2 9 [(0, .ref 56), (1, .int x1), (2, .int s.1), (3, .int s.2.1)] []
  | .inr (.inl e) => Wp X cX12_holds RX12 4 T (mk e R) n1 n2 39 [] []
  | .inr (.inr e) => Wp X cX12_holds RX12 4 T (mk e.2 R) n1 n2 68 [(2, .int e.1)] []
set_option maxHeartbeats 4000000 in
set_option maxRecDepth 100000 in
theorem w_X12_holds_62 {X : CX} {T : List Dsc} {R : RM} {c e : Nat} {n1 n2 : Nat} {x1 : Int32} {x2 : Int32} {x3 : Int32} {m : M2} {r : ((Int32 × Int32 × M2) ⊕ ((M2) ⊕ (Int32 × M2)))} (hX : XR X 6 n1 n2) (hG : Geo T R c e) (hf : f_X12_holds_62 x1 x2 x3 m = some r) (hk : k_X12_holds_9 X T R n1 n2 x1 r) : Wp X cX12_holds RX12 4 T (mk m R) n1 n2 62 [(0, .ref 56), (1, .int x1), (2, .int x2), (3, .int x3)] [] := by
  unfold f_X12_holds_62 at hf
  obtain ⟨v1, h2, hf⟩ := bnd hf
  refine Wp.iincN (pc := 62) (lo' := [(0, .ref 56), (1, .int x1), (2, .int x2), (3, .int v1)]) (1 : Int32) (by decide) h2 3 rfl [1, 2, 3, 0] rfl (by decide) dX12_holds_62 ?_
  refine Wp.goto (pc := 65) 9 dX12_holds_65 (by decide) ?_
  cases hf
  exact hk
set_option maxHeartbeats 4000000 in
set_option maxRecDepth 100000 in
theorem w_X12_holds_52 {X : CX} {T : List Dsc} {R : RM} {c e : Nat} {n1 n2 : Nat} {x1 : Int32} {x2 : Int32} {x3 : Int32} {m : M2} {r : ((Int32 × Int32 × M2) ⊕ ((M2) ⊕ (Int32 × M2)))} (hX : XR X 6 n1 n2) (hG : Geo T R c e) (hf : f_X12_holds_52 x1 x2 x3 m = some r) (hk : k_X12_holds_9 X T R n1 n2 x1 r) : Wp X cX12_holds RX12 4 T (mk m R) n1 n2 52 [(0, .ref 56), (1, .int x1), (2, .int x2), (3, .int x3)] [] := by
  unfold f_X12_holds_52 at hf
  refine Wp.iload_n (pc := 52) 2 rfl rfl dX12_holds_52 ?_
  refine Wp.if_eq (pc := 53) 62 dX12_holds_53 (by decide) (fun hc1 => ?_) (fun hc1 => ?_)
  · rw [if_pos hc1] at hf
    exact w_X12_holds_62 hX hG hf hk
  · rw [if_neg hc1] at hf
    refine Wp.aload_n (pc := 56) 0 rfl rfl dX12_holds_56 ?_
    refine Wp.iload_n (pc := 57) 3 rfl rfl dX12_holds_57 ?_
    obtain ⟨c2, h3, hf⟩ := bnd hf
    refine Wp.callVi (pc := 58) (st := []) (as := [.int x3]) (c_X12_isTrue hG h3) ml_RX12_428 mv_X12_isTrue mb_X12_isTrue hX (Nat.le_of_ble_eq_true rfl) (by decide) rfl (hG.t 56 rfl) rfl (by simp) dX12_holds_58 rfl ?_
    refine Wp.istore_n (pc := 61) (lo' := [(0, .ref 56), (1, .int x1), (2, .int c2.1), (3, .int x3)]) [1, 2, 0, 3] rfl (by decide) rfl dX12_holds_61 ?_
    exact w_X12_holds_62 hX hG hf hk
set_option maxHeartbeats 4000000 in
set_option maxRecDepth 100000 in
theorem w_X12_holds_41 {X : CX} {T : List Dsc} {R : RM} {c e : Nat} {n1 n2 : Nat} {x1 : Int32} {x2 : Int32} {x3 : Int32} {m : M2} {r : ((Int32 × Int32 × M2) ⊕ ((M2) ⊕ (Int32 × M2)))} (hX : XR X 6 n1 n2) (hG : Geo T R c e) (hf : f_X12_holds_41 x1 x2 x3 m = some r) (hk : k_X12_holds_9 X T R n1 n2 x1 r) : Wp X cX12_holds RX12 4 T (mk m R) n1 n2 41 [(0, .ref 56), (1, .int x1), (2, .int x2), (3, .int x3)] [] := by
  unfold f_X12_holds_41 at hf
  refine Wp.aload_n (pc := 41) 0 rfl rfl dX12_holds_41 ?_
  refine Wp.getR2 (pc := 42) (hG.r 56 44 rfl) (hG.t 56 rfl) fk_RX12_104 rfl dX12_holds_42 ?_
  refine Wp.iload_n (pc := 45) 3 rfl rfl dX12_holds_45 ?_
  obtain ⟨v1, h2, hf⟩ := bnd hf
  refine Wp.zald2 (pc := 46) h2 (hG.a 85 3 rfl) dX12_holds_46 ?_
  refine Wp.if_eq (pc := 47) 52 dX12_holds_47 (by decide) (fun hc3 => ?_) (fun hc3 => ?_)
  · rw [if_pos hc3] at hf
    exact w_X12_holds_52 hX hG hf hk
  · rw [if_neg hc3] at hf
    refine Wp.iconst (pc := 50) (1 : Int32) (by decide) dX12_holds_50 ?_
    refine Wp.istore_n (pc := 51) (lo' := [(0, .ref 56), (1, .int x1), (2, .int (1 : Int32)), (3, .int x3)]) [1, 2, 0, 3] rfl (by decide) rfl dX12_holds_51 ?_
    exact w_X12_holds_52 hX hG hf hk
set_option maxHeartbeats 4000000 in
set_option maxRecDepth 100000 in
theorem w_X12_holds_9 {X : CX} {T : List Dsc} {R : RM} {c e : Nat} {n1 n2 : Nat} {x1 : Int32} {x2 : Int32} {x3 : Int32} {m : M2} {r : ((Int32 × Int32 × M2) ⊕ ((M2) ⊕ (Int32 × M2)))} (hX : XR X 6 n1 n2) (hG : Geo T R c e) (hf : f_X12_holds_9 x1 x2 x3 m = some r) (hk : k_X12_holds_9 X T R n1 n2 x1 r) : Wp X cX12_holds RX12 4 T (mk m R) n1 n2 9 [(0, .ref 56), (1, .int x1), (2, .int x2), (3, .int x3)] [] := by
  unfold f_X12_holds_9 at hf
  refine Wp.iload_n (pc := 9) 3 rfl rfl dX12_holds_9 ?_
  refine Wp.aload_n (pc := 10) 0 rfl rfl dX12_holds_10 ?_
  refine Wp.getR2 (pc := 11) (hG.r 56 29 rfl) (hG.t 56 rfl) fk_RX12_61 rfl dX12_holds_11 ?_
  refine Wp.iload_n (pc := 14) 1 rfl rfl dX12_holds_14 ?_
  obtain ⟨v1, h2, hf⟩ := bnd hf
  refine Wp.iald2 (pc := 15) h2 (hG.a 71 0 rfl) dX12_holds_15 ?_
  refine Wp.icmp_ge (pc := 16) 68 dX12_holds_16 (by decide) (fun hc3 => ?_) (fun hc3 => ?_)
  · rw [if_pos hc3] at hf
    refine Wp.lo' (lo' := [(2, .int x2)]) [2] rfl ?_
    cases hf
    exact hk
  · rw [if_neg hc3] at hf
    refine Wp.aload_n (pc := 19) 0 rfl rfl dX12_holds_19 ?_
    refine Wp.getI2 (pc := 20) (hG.t 56 rfl) fk_RX12_418 rfl dX12_holds_20 ?_
    refine Wp.if_ne (pc := 23) 68 dX12_holds_23 (by decide) (fun hc4 => ?_) (fun hc4 => ?_)
    · rw [if_neg hc4] at hf
      refine Wp.lo' (lo' := [(2, .int x2)]) [2] rfl ?_
      cases hf
      exact hk
    · rw [if_pos hc4] at hf
      refine Wp.aload_n (pc := 26) 0 rfl rfl dX12_holds_26 ?_
      refine Wp.getR2 (pc := 27) (hG.r 56 44 rfl) (hG.t 56 rfl) fk_RX12_104 rfl dX12_holds_27 ?_
      refine Wp.iload_n (pc := 30) 3 rfl rfl dX12_holds_30 ?_
      obtain ⟨v5, h6, hf⟩ := bnd hf
      refine Wp.zald2 (pc := 31) h6 (hG.a 85 3 rfl) dX12_holds_31 ?_
      refine Wp.if_eq (pc := 32) 41 dX12_holds_32 (by decide) (fun hc7 => ?_) (fun hc7 => ?_)
      · rw [if_pos hc7] at hf
        exact w_X12_holds_41 hX hG hf hk
      · rw [if_neg hc7] at hf
        refine Wp.iload_n (pc := 35) 2 rfl rfl dX12_holds_35 ?_
        refine Wp.if_eq (pc := 36) 41 dX12_holds_36 (by decide) (fun hc8 => ?_) (fun hc8 => ?_)
        · rw [if_pos hc8] at hf
          exact w_X12_holds_41 hX hG hf hk
        · rw [if_neg hc8] at hf
          refine Wp.lo' (lo' := []) [] rfl ?_
          cases hf
          exact hk
theorem wl_X12_holds_9 {X : CX} {T : List Dsc} {R : RM} {c e : Nat} {n1 n2 : Nat} {x1 : Int32} {x2 : Int32} {x3 : Int32} {m : M2} {e1 : ((M2) ⊕ (Int32 × M2))} (hX : XR X 6 n1 n2) (hG : Geo T R c e) (h : loop (g_X12_holds_9 x1) (x2, x3, m) = some e1) (he0 : ∀ e_, e1 = (Sum.inl e_) → Wp X cX12_holds RX12 4 T (mk e_ R) n1 n2 39 [] []) (he1 : ∀ e_, e1 = (Sum.inr e_) → Wp X cX12_holds RX12 4 T (mk e_.2 R) n1 n2 68 [(2, .int e_.1)] []) : Wp X cX12_holds RX12 4 T (mk m R) n1 n2 9 [(0, .ref 56), (1, .int x1), (2, .int x2), (3, .int x3)] [] :=
  loop_ok (K := k_X12_holds_9 X T R n1 n2 x1) (fun s r hf hk => w_X12_holds_9 hX hG hf hk) h (by rcases e1 with e_ | e_ <;> first | exact he0 _ rfl | exact he1 _ rfl)
set_option maxHeartbeats 4000000 in
set_option maxRecDepth 100000 in
theorem w_X12_holds_68 {X : CX} {T : List Dsc} {R : RM} {c e : Nat} {n1 n2 : Nat} {x2 : Int32} {m : M2} {r : (Int32 × M2)} (hX : XR X 6 n1 n2) (hG : Geo T R c e) (hf : f_X12_holds_68 x2 m = some r) (hk : FnZ X cX12_holds RX12 4 T n1 n2 (r.1, mk r.2 R)) : Wp X cX12_holds RX12 4 T (mk m R) n1 n2 68 [(2, .int x2)] [] := by
  unfold f_X12_holds_68 at hf
  refine Wp.iload_n (pc := 68) 0 rfl rfl dX12_holds_68 ?_
  obtain ⟨v1, h2, hf⟩ := bnd hf
  refine Wp.zb' h2 (fun h2 => ?_)
  cases hf
  exact hk _ _ h2 dX12_holds_69
set_option maxHeartbeats 4000000 in
set_option maxRecDepth 100000 in
theorem w_X12_holds {X : CX} {T : List Dsc} {R : RM} {c e : Nat} {n1 n2 : Nat} {x1 : Int32} {m : M2} {r : (Int32 × M2)} (hX : XR X 6 n1 n2) (hG : Geo T R c e) (hf : F_X12_holds x1 m = some r) (hk : FnZ X cX12_holds RX12 4 T n1 n2 (r.1, mk r.2 R)) : Wp X cX12_holds RX12 4 T (mk m R) n1 n2 0 [(0, .ref 56), (1, .int x1)] [] := by
  unfold F_X12_holds at hf
  refine Wp.iconst (pc := 0) (0 : Int32) (by decide) dX12_holds_0 ?_
  refine Wp.istore_n (pc := 1) (lo' := [(0, .ref 56), (1, .int x1), (2, .int (0 : Int32))]) [1, 2, 0] rfl (by decide) rfl dX12_holds_1 ?_
  refine Wp.aload_n (pc := 2) 0 rfl rfl dX12_holds_2 ?_
  refine Wp.getR2 (pc := 3) (hG.r 56 28 rfl) (hG.t 56 rfl) fk_RX12_58 rfl dX12_holds_3 ?_
  refine Wp.iload_n (pc := 6) 1 rfl rfl dX12_holds_6 ?_
  obtain ⟨v1, h2, hf⟩ := bnd hf
  refine Wp.iald2 (pc := 7) h2 (hG.a 70 0 rfl) dX12_holds_7 ?_
  refine Wp.istore_n (pc := 8) (lo' := [(0, .ref 56), (1, .int x1), (2, .int (0 : Int32)), (3, .int v1)]) [1, 2, 3, 0] rfl (by decide) rfl dX12_holds_8 ?_
  obtain ⟨e3, h4, hf⟩ := bnd hf
  refine wl_X12_holds_9 hX hG h4 (fun e3_0 hq => ?_) (fun e3_1 hq => ?_)
  · rw [hq, Sum.elim_inl] at hf
    refine Wp.iconst (pc := 39) (1 : Int32) (by decide) dX12_holds_39 ?_
    cases hf
    exact hk _ _ (Or.inr rfl) dX12_holds_40
  · rw [hq, Sum.elim_inr] at hf
    exact w_X12_holds_68 hX hG hf hk
theorem c_X12_holds {T : List Dsc} {R : RM} {c e : Nat} {x1 : Int32} {m : M2} {r : (Int32 × M2)} (hG : Geo T R c e) (hf : F_X12_holds x1 m = some r) : Ct 6 yX12_holds cX12_holds 4 (some .boolean) T (mk m R) [.ref 56, .int x1] (some (.int r.1)) (mk r.2 R) := Ct.ofZ (r := (r.1, mk r.2 R)) (by decide +kernel) (Nat.le_of_ble_eq_true rfl) (fun X hX hk => w_X12_holds hX hG hf hk)
theorem dX12_rowsBy_0 : decode cX12_rowsBy 0 = .ok (.iload_n 1, 1) := by decide +kernel
theorem dX12_rowsBy_1 : decode cX12_rowsBy 1 = .ok (.iconst (-1), 1) := by decide +kernel
theorem dX12_rowsBy_2 : decode cX12_rowsBy 2 = .ok (.if_icmp .ne 5, 3) := by decide +kernel
theorem dX12_rowsBy_5 : decode cX12_rowsBy 5 = .ok (.iload_n 2, 1) := by decide +kernel
theorem dX12_rowsBy_6 : decode cX12_rowsBy 6 = .ok (.ireturn, 1) := by decide +kernel
theorem dX12_rowsBy_7 : decode cX12_rowsBy 7 = .ok (.bipush 6, 2) := by decide +kernel
theorem dX12_rowsBy_9 : decode cX12_rowsBy 9 = .ok (.aload_n 0, 1) := by decide +kernel
theorem dX12_rowsBy_10 : decode cX12_rowsBy 10 = .ok (.getfield 284, 3) := by decide +kernel
theorem dX12_rowsBy_13 : decode cX12_rowsBy 13 = .ok (.imul, 1) := by decide +kernel
theorem dX12_rowsBy_14 : decode cX12_rowsBy 14 = .ok (.iload_n 1, 1) := by decide +kernel
theorem dX12_rowsBy_15 : decode cX12_rowsBy 15 = .ok (.iadd, 1) := by decide +kernel
theorem dX12_rowsBy_16 : decode cX12_rowsBy 16 = .ok (.istore_n 3, 1) := by decide +kernel
theorem dX12_rowsBy_17 : decode cX12_rowsBy 17 = .ok (.aload_n 0, 1) := by decide +kernel
theorem dX12_rowsBy_18 : decode cX12_rowsBy 18 = .ok (.iconst 0, 1) := by decide +kernel
theorem dX12_rowsBy_19 : decode cX12_rowsBy 19 = .ok (.putfield 418, 3) := by decide +kernel
theorem dX12_rowsBy_22 : decode cX12_rowsBy 22 = .ok (.aload_n 0, 1) := by decide +kernel
theorem dX12_rowsBy_23 : decode cX12_rowsBy 23 = .ok (.getfield 52, 3) := by decide +kernel
theorem dX12_rowsBy_26 : decode cX12_rowsBy 26 = .ok (.iload_n 3, 1) := by decide +kernel
theorem dX12_rowsBy_27 : decode cX12_rowsBy 27 = .ok (.iaload, 1) := by decide +kernel
theorem dX12_rowsBy_28 : decode cX12_rowsBy 28 = .ok (.istore 4, 2) := by decide +kernel
theorem dX12_rowsBy_30 : decode cX12_rowsBy 30 = .ok (.iload 4, 2) := by decide +kernel
theorem dX12_rowsBy_32 : decode cX12_rowsBy 32 = .ok (.aload_n 0, 1) := by decide +kernel
theorem dX12_rowsBy_33 : decode cX12_rowsBy 33 = .ok (.getfield 55, 3) := by decide +kernel
theorem dX12_rowsBy_36 : decode cX12_rowsBy 36 = .ok (.iload_n 3, 1) := by decide +kernel
theorem dX12_rowsBy_37 : decode cX12_rowsBy 37 = .ok (.iaload, 1) := by decide +kernel
theorem dX12_rowsBy_38 : decode cX12_rowsBy 38 = .ok (.if_icmp .ge 97, 3) := by decide +kernel
theorem dX12_rowsBy_41 : decode cX12_rowsBy 41 = .ok (.aload_n 0, 1) := by decide +kernel
theorem dX12_rowsBy_42 : decode cX12_rowsBy 42 = .ok (.getfield 58, 3) := by decide +kernel
theorem dX12_rowsBy_45 : decode cX12_rowsBy 45 = .ok (.iload 4, 2) := by decide +kernel
theorem dX12_rowsBy_47 : decode cX12_rowsBy 47 = .ok (.iaload, 1) := by decide +kernel
theorem dX12_rowsBy_48 : decode cX12_rowsBy 48 = .ok (.aload_n 0, 1) := by decide +kernel
theorem dX12_rowsBy_49 : decode cX12_rowsBy 49 = .ok (.getfield 61, 3) := by decide +kernel
theorem dX12_rowsBy_52 : decode cX12_rowsBy 52 = .ok (.iload 4, 2) := by decide +kernel
theorem dX12_rowsBy_54 : decode cX12_rowsBy 54 = .ok (.iaload, 1) := by decide +kernel
theorem dX12_rowsBy_55 : decode cX12_rowsBy 55 = .ok (.if_icmp .eq 12, 3) := by decide +kernel
theorem dX12_rowsBy_58 : decode cX12_rowsBy 58 = .ok (.aload_n 0, 1) := by decide +kernel
theorem dX12_rowsBy_59 : decode cX12_rowsBy 59 = .ok (.iload 4, 2) := by decide +kernel
theorem dX12_rowsBy_61 : decode cX12_rowsBy 61 = .ok (.invokevirtual 431, 3) := by decide +kernel
theorem dX12_rowsBy_64 : decode cX12_rowsBy 64 = .ok (.ifCond .eq 7, 3) := by decide +kernel
theorem dX12_rowsBy_67 : decode cX12_rowsBy 67 = .ok (.iconst 1, 1) := by decide +kernel
theorem dX12_rowsBy_68 : decode cX12_rowsBy 68 = .ok (.goto 4, 3) := by decide +kernel
theorem dX12_rowsBy_71 : decode cX12_rowsBy 71 = .ok (.iconst 0, 1) := by decide +kernel
theorem dX12_rowsBy_72 : decode cX12_rowsBy 72 = .ok (.istore 5, 2) := by decide +kernel
theorem dX12_rowsBy_74 : decode cX12_rowsBy 74 = .ok (.aload_n 0, 1) := by decide +kernel
theorem dX12_rowsBy_75 : decode cX12_rowsBy 75 = .ok (.getfield 418, 3) := by decide +kernel
theorem dX12_rowsBy_78 : decode cX12_rowsBy 78 = .ok (.ifCond .eq 5, 3) := by decide +kernel
theorem dX12_rowsBy_81 : decode cX12_rowsBy 81 = .ok (.iload_n 2, 1) := by decide +kernel
theorem dX12_rowsBy_82 : decode cX12_rowsBy 82 = .ok (.ireturn, 1) := by decide +kernel
theorem dX12_rowsBy_83 : decode cX12_rowsBy 83 = .ok (.iload 5, 2) := by decide +kernel
theorem dX12_rowsBy_85 : decode cX12_rowsBy 85 = .ok (.ifCond .ne 6, 3) := by decide +kernel
theorem dX12_rowsBy_88 : decode cX12_rowsBy 88 = .ok (.goto 41, 3) := by decide +kernel
theorem dX12_rowsBy_91 : decode cX12_rowsBy 91 = .ok (.aload_n 0, 1) := by decide +kernel
theorem dX12_rowsBy_92 : decode cX12_rowsBy 92 = .ok (.aload_n 0, 1) := by decide +kernel
theorem dX12_rowsBy_93 : decode cX12_rowsBy 93 = .ok (.getfield 64, 3) := by decide +kernel
theorem dX12_rowsBy_96 : decode cX12_rowsBy 96 = .ok (.iload 4, 2) := by decide +kernel
theorem dX12_rowsBy_98 : decode cX12_rowsBy 98 = .ok (.iaload, 1) := by decide +kernel
theorem dX12_rowsBy_99 : decode cX12_rowsBy 99 = .ok (.aload_n 0, 1) := by decide +kernel
theorem dX12_rowsBy_100 : decode cX12_rowsBy 100 = .ok (.getfield 67, 3) := by decide +kernel
theorem dX12_rowsBy_103 : decode cX12_rowsBy 103 = .ok (.iload 4, 2) := by decide +kernel
theorem dX12_rowsBy_105 : decode cX12_rowsBy 105 = .ok (.iaload, 1) := by decide +kernel
theorem dX12_rowsBy_106 : decode cX12_rowsBy 106 = .ok (.invokevirtual 425, 3) := by decide +kernel
theorem dX12_rowsBy_109 : decode cX12_rowsBy 109 = .ok (.istore 6, 2) := by decide +kernel
theorem dX12_rowsBy_111 : decode cX12_rowsBy 111 = .ok (.aload_n 0, 1) := by decide +kernel
theorem dX12_rowsBy_112 : decode cX12_rowsBy 112 = .ok (.getfield 418, 3) := by decide +kernel
theorem dX12_rowsBy_115 : decode cX12_rowsBy 115 = .ok (.ifCond .eq 7, 3) := by decide +kernel
theorem dX12_rowsBy_118 : decode cX12_rowsBy 118 = .ok (.iload_n 2, 1) := by decide +kernel
theorem dX12_rowsBy_119 : decode cX12_rowsBy 119 = .ok (.goto 9, 3) := by decide +kernel
theorem dX12_rowsBy_122 : decode cX12_rowsBy 122 = .ok (.aload_n 0, 1) := by decide +kernel
theorem dX12_rowsBy_123 : decode cX12_rowsBy 123 = .ok (.iload 6, 2) := by decide +kernel
theorem dX12_rowsBy_125 : decode cX12_rowsBy 125 = .ok (.invokevirtual 411, 3) := by decide +kernel
theorem dX12_rowsBy_128 : decode cX12_rowsBy 128 = .ok (.ireturn, 1) := by decide +kernel
theorem dX12_rowsBy_129 : decode cX12_rowsBy 129 = .ok (.iinc 4 1, 3) := by decide +kernel
theorem dX12_rowsBy_132 : decode cX12_rowsBy 132 = .ok (.goto (-102), 3) := by decide +kernel
theorem dX12_rowsBy_135 : decode cX12_rowsBy 135 = .ok (.iload_n 2, 1) := by decide +kernel
theorem dX12_rowsBy_136 : decode cX12_rowsBy 136 = .ok (.ireturn, 1) := by decide +kernel
def k_X12_rowsBy_30 (X : CX) (T : List Dsc) (R : RM) (n1 n2 : Nat) (x2 : Int32) (x3 : Int32) (r : ((Int32 × M2) ⊕ ((M2) ⊕ (Int32 × M2) ⊕ (M2)))) : Prop := match r with
  | .inl s => Wp X cX12_rowsBy RX12 7 T (mk s.2 R) n1 n2 30 [(0, .ref 56), (2, .int x2), (3, .int x3), (4, .int s.1)] []
  | .inr (.inl e) => Wp X cX12_rowsBy RX12 7 T (mk e R) n1 n2 81 [(2, .int x2)] []
  | .inr (.inr (.inl e)) => Wp X cX12_rowsBy RX12 7 T (mk e.2 R) n1 n2 91 [(0, .ref 56), (2, .int x2), (4, .int e.1)] []
  | .inr (.inr (.inr e)) => Wp X cX12_rowsBy RX12 7 T (mk e R) n1 n2 135 [(2, .int x2)] []
set_option maxHeartbeats 4000000 in
set_option maxRecDepth 100000 in
theorem w_X12_rowsBy_72 {X : CX} {T : List Dsc} {R : RM} {c e : Nat} {n1 n2 : Nat} {x2 : Int32} {x3 : Int32} {x4 : Int32} {s0 : Int32} {m : M2} {r : ((Int32 × M2) ⊕ ((M2) ⊕ (Int32 × M2) ⊕ (M2)))} (hX : XR X 7 n1 n2) (hG : Geo T R c e) (hf : f_X12_rowsBy_72 x2 x3 x4 s0 m = some r) (hk : k_X12_rowsBy_30 X T R n1 n2 x2 x3 r) : Wp X cX12_rowsBy RX12 7 T (mk m R) n1 n2 72 [(0, .ref 56), (2, .int x2), (3, .int x3), (4, .int x4)] [.int s0] := by
  unfold f_X12_rowsBy_72 at hf
  refine Wp.istore (pc := 72) (lo' := [(0, .ref 56), (2, .int x2), (3, .int x3), (4, .int x4), (5, .int s0)]) [1, 2, 3, 4, 0] rfl (by decide) dX12_rowsBy_72 ?_
  refine Wp.aload_n (pc := 74) 0 rfl rfl dX12_rowsBy_74 ?_
  refine Wp.getI2 (pc := 75) (hG.t 56 rfl) fk_RX12_418 rfl dX12_rowsBy_75 ?_
  refine Wp.if_eq (pc := 78) 83 dX12_rowsBy_78 (by decide) (fun hc1 => ?_) (fun hc1 => ?_)
  · rw [if_pos hc1] at hf
    refine Wp.iload (pc := 83) 4 rfl dX12_rowsBy_83 ?_
    refine Wp.if_ne (pc := 85) 91 dX12_rowsBy_85 (by decide) (fun hc2 => ?_) (fun hc2 => ?_)
    · rw [if_neg hc2] at hf
      refine Wp.lo' (lo' := [(0, .ref 56), (2, .int x2), (4, .int x4)]) [0, 1, 3] rfl ?_
      cases hf
      exact hk
    · rw [if_pos hc2] at hf
      refine Wp.goto (pc := 88) 129 dX12_rowsBy_88 (by decide) ?_
      obtain ⟨v3, h4, hf⟩ := bnd hf
      refine Wp.iincN (pc := 129) (lo' := [(0, .ref 56), (2, .int x2), (3, .int x3), (4, .int v3)]) (1 : Int32) (by decide) h4 3 rfl [1, 2, 3, 0] rfl (by decide) dX12_rowsBy_129 ?_
      refine Wp.goto (pc := 132) 30 dX12_rowsBy_132 (by decide) ?_
      cases hf
      exact hk
  · rw [if_neg hc1] at hf
    refine Wp.lo' (lo' := [(2, .int x2)]) [1] rfl ?_
    cases hf
    exact hk
set_option maxHeartbeats 4000000 in
set_option maxRecDepth 100000 in
theorem w_X12_rowsBy_67 {X : CX} {T : List Dsc} {R : RM} {c e : Nat} {n1 n2 : Nat} {x2 : Int32} {x3 : Int32} {x4 : Int32} {m : M2} {r : ((Int32 × M2) ⊕ ((M2) ⊕ (Int32 × M2) ⊕ (M2)))} (hX : XR X 7 n1 n2) (hG : Geo T R c e) (hf : f_X12_rowsBy_67 x2 x3 x4 m = some r) (hk : k_X12_rowsBy_30 X T R n1 n2 x2 x3 r) : Wp X cX12_rowsBy RX12 7 T (mk m R) n1 n2 67 [(0, .ref 56), (2, .int x2), (3, .int x3), (4, .int x4)] [] := by
  unfold f_X12_rowsBy_67 at hf
  refine Wp.iconst (pc := 67) (1 : Int32) (by decide) dX12_rowsBy_67 ?_
  refine Wp.goto (pc := 68) 72 dX12_rowsBy_68 (by decide) ?_
  exact w_X12_rowsBy_72 hX hG hf hk
set_option maxHeartbeats 4000000 in
set_option maxRecDepth 100000 in
theorem w_X12_rowsBy_30 {X : CX} {T : List Dsc} {R : RM} {c e : Nat} {n1 n2 : Nat} {x2 : Int32} {x3 : Int32} {x4 : Int32} {m : M2} {r : ((Int32 × M2) ⊕ ((M2) ⊕ (Int32 × M2) ⊕ (M2)))} (hX : XR X 7 n1 n2) (hG : Geo T R c e) (hf : f_X12_rowsBy_30 x2 x3 x4 m = some r) (hk : k_X12_rowsBy_30 X T R n1 n2 x2 x3 r) : Wp X cX12_rowsBy RX12 7 T (mk m R) n1 n2 30 [(0, .ref 56), (2, .int x2), (3, .int x3), (4, .int x4)] [] := by
  unfold f_X12_rowsBy_30 at hf
  refine Wp.iload (pc := 30) 3 rfl dX12_rowsBy_30 ?_
  refine Wp.aload_n (pc := 32) 0 rfl rfl dX12_rowsBy_32 ?_
  refine Wp.getR2 (pc := 33) (hG.r 56 26 rfl) (hG.t 56 rfl) fk_RX12_55 rfl dX12_rowsBy_33 ?_
  refine Wp.iload_n (pc := 36) 2 rfl rfl dX12_rowsBy_36 ?_
  obtain ⟨v1, h2, hf⟩ := bnd hf
  refine Wp.iald2 (pc := 37) h2 (hG.a 69 0 rfl) dX12_rowsBy_37 ?_
  refine Wp.icmp_ge (pc := 38) 135 dX12_rowsBy_38 (by decide) (fun hc3 => ?_) (fun hc3 => ?_)
  · rw [if_pos hc3] at hf
    refine Wp.lo' (lo' := [(2, .int x2)]) [1] rfl ?_
    cases hf
    exact hk
  · rw [if_neg hc3] at hf
    refine Wp.aload_n (pc := 41) 0 rfl rfl dX12_rowsBy_41 ?_
    refine Wp.getR2 (pc := 42) (hG.r 56 28 rfl) (hG.t 56 rfl) fk_RX12_58 rfl dX12_rowsBy_42 ?_
    refine Wp.iload (pc := 45) 3 rfl dX12_rowsBy_45 ?_
    obtain ⟨v4, h5, hf⟩ := bnd hf
    refine Wp.iald2 (pc := 47) h5 (hG.a 70 0 rfl) dX12_rowsBy_47 ?_
    refine Wp.aload_n (pc := 48) 0 rfl rfl dX12_rowsBy_48 ?_
    refine Wp.getR2 (pc := 49) (hG.r 56 29 rfl) (hG.t 56 rfl) fk_RX12_61 rfl dX12_rowsBy_49 ?_
    refine Wp.iload (pc := 52) 3 rfl dX12_rowsBy_52 ?_
    obtain ⟨v6, h7, hf⟩ := bnd hf
    refine Wp.iald2 (pc := 54) h7 (hG.a 71 0 rfl) dX12_rowsBy_54 ?_
    refine Wp.icmp_eq (pc := 55) 67 dX12_rowsBy_55 (by decide) (fun hc8 => ?_) (fun hc8 => ?_)
    · rw [if_pos hc8] at hf
      exact w_X12_rowsBy_67 hX hG hf hk
    · rw [if_neg hc8] at hf
      refine Wp.aload_n (pc := 58) 0 rfl rfl dX12_rowsBy_58 ?_
      refine Wp.iload (pc := 59) 3 rfl dX12_rowsBy_59 ?_
      obtain ⟨c9, h10, hf⟩ := bnd hf
      refine Wp.callVi (pc := 61) (st := []) (as := [.int x4]) (c_X12_holds hG h10) ml_RX12_431 mv_X12_holds mb_X12_holds hX (Nat.le_of_ble_eq_true rfl) (by decide) rfl (hG.t 56 rfl) rfl (by simp) dX12_rowsBy_61 rfl ?_
      refine Wp.if_eq (pc := 64) 71 dX12_rowsBy_64 (by decide) (fun hc11 => ?_) (fun hc11 => ?_)
      · rw [if_pos hc11] at hf
        refine Wp.iconst (pc := 71) (0 : Int32) (by decide) dX12_rowsBy_71 ?_
        exact w_X12_rowsBy_72 hX hG hf hk
      · rw [if_neg hc11] at hf
        exact w_X12_rowsBy_67 hX hG hf hk
theorem wl_X12_rowsBy_30 {X : CX} {T : List Dsc} {R : RM} {c e : Nat} {n1 n2 : Nat} {x2 : Int32} {x3 : Int32} {x4 : Int32} {m : M2} {e1 : ((M2) ⊕ (Int32 × M2) ⊕ (M2))} (hX : XR X 7 n1 n2) (hG : Geo T R c e) (h : loop (g_X12_rowsBy_30 x2 x3) (x4, m) = some e1) (he0 : ∀ e_, e1 = (Sum.inl e_) → Wp X cX12_rowsBy RX12 7 T (mk e_ R) n1 n2 81 [(2, .int x2)] []) (he1 : ∀ e_, e1 = (Sum.inr (Sum.inl e_)) → Wp X cX12_rowsBy RX12 7 T (mk e_.2 R) n1 n2 91 [(0, .ref 56), (2, .int x2), (4, .int e_.1)] []) (he2 : ∀ e_, e1 = (Sum.inr (Sum.inr e_)) → Wp X cX12_rowsBy RX12 7 T (mk e_ R) n1 n2 135 [(2, .int x2)] []) : Wp X cX12_rowsBy RX12 7 T (mk m R) n1 n2 30 [(0, .ref 56), (2, .int x2), (3, .int x3), (4, .int x4)] [] :=
  loop_ok (K := k_X12_rowsBy_30 X T R n1 n2 x2 x3) (fun s r hf hk => w_X12_rowsBy_30 hX hG hf hk) h (by rcases e1 with e_ | e_ | e_ <;> first | exact he0 _ rfl | exact he1 _ rfl | exact he2 _ rfl)
set_option maxHeartbeats 4000000 in
set_option maxRecDepth 100000 in
theorem w_X12_rowsBy_128 {X : CX} {T : List Dsc} {R : RM} {c e : Nat} {n1 n2 : Nat} {s0 : Int32} {m : M2} {r : (Int32 × M2)} (hX : XR X 7 n1 n2) (hG : Geo T R c e) (hf : f_X12_rowsBy_128 s0 m = some r) (hk : FnI X cX12_rowsBy RX12 7 T n1 n2 (r.1, mk r.2 R)) : Wp X cX12_rowsBy RX12 7 T (mk m R) n1 n2 128 [] [.int s0] := by
  unfold f_X12_rowsBy_128 at hf
  cases hf
  exact hk _ _ dX12_rowsBy_128
set_option maxHeartbeats 4000000 in
set_option maxRecDepth 100000 in
theorem w_X12_rowsBy {X : CX} {T : List Dsc} {R : RM} {c e : Nat} {n1 n2 : Nat} {x1 : Int32} {x2 : Int32} {m : M2} {r : (Int32 × M2)} (hX : XR X 7 n1 n2) (hG : Geo T R c e) (hf : F_X12_rowsBy x1 x2 m = some r) (hk : FnI X cX12_rowsBy RX12 7 T n1 n2 (r.1, mk r.2 R)) : Wp X cX12_rowsBy RX12 7 T (mk m R) n1 n2 0 [(0, .ref 56), (1, .int x1), (2, .int x2)] [] := by
  unfold F_X12_rowsBy at hf
  refine Wp.iload_n (pc := 0) 1 rfl rfl dX12_rowsBy_0 ?_
  refine Wp.iconst (pc := 1) (-1 : Int32) (by decide) dX12_rowsBy_1 ?_
  refine Wp.icmp_ne (pc := 2) 7 dX12_rowsBy_2 (by decide) (fun hc1 => ?_) (fun hc1 => ?_)
  · rw [if_neg hc1] at hf
    refine Wp.bipush (pc := 7) (6 : Int32) (by decide) dX12_rowsBy_7 ?_
    refine Wp.aload_n (pc := 9) 0 rfl rfl dX12_rowsBy_9 ?_
    refine Wp.getI2 (pc := 10) (hG.t 56 rfl) fk_RX12_284 rfl dX12_rowsBy_10 ?_
    refine Wp.imul (pc := 13) dX12_rowsBy_13 ?_
    refine Wp.iload_n (pc := 14) 1 rfl rfl dX12_rowsBy_14 ?_
    refine Wp.iadd (pc := 15) dX12_rowsBy_15 ?_
    obtain ⟨v2, h3, hf⟩ := bnd hf
    refine Wp.nI' h3 ?_
    refine Wp.istore_n (pc := 16) (lo' := [(0, .ref 56), (2, .int x2), (3, .int v2)]) [1, 3, 0] rfl (by decide) rfl dX12_rowsBy_16 ?_
    refine Wp.aload_n (pc := 17) 0 rfl rfl dX12_rowsBy_17 ?_
    refine Wp.iconst (pc := 18) (0 : Int32) (by decide) dX12_rowsBy_18 ?_
    obtain ⟨m4, h5, hf⟩ := bnd hf
    refine Wp.ptZ2 (pc := 19) (Or.inl rfl) h5 (hG.t 56 rfl) fk_RX12_418 ff_RX12_11_71 rfl dX12_rowsBy_19 ?_
    refine Wp.aload_n (pc := 22) 0 rfl rfl dX12_rowsBy_22 ?_
    refine Wp.getR2 (pc := 23) (hG.r 56 25 rfl) (hG.t 56 rfl) fk_RX12_52 rfl dX12_rowsBy_23 ?_
    refine Wp.iload_n (pc := 26) 2 rfl rfl dX12_rowsBy_26 ?_
    obtain ⟨v6, h7, hf⟩ := bnd hf
    refine Wp.iald2 (pc := 27) h7 (hG.a 68 0 rfl) dX12_rowsBy_27 ?_
    refine Wp.istore (pc := 28) (lo' := [(0, .ref 56), (2, .int x2), (3, .int v2), (4, .int v6)]) [1, 2, 3, 0] rfl (by decide) dX12_rowsBy_28 ?_
    obtain ⟨e8, h9, hf⟩ := bnd hf
    refine wl_X12_rowsBy_30 hX hG h9 (fun e8_0 hq => ?_) (fun e8_1 hq => ?_) (fun e8_2 hq => ?_)
    · rw [hq, Sum.elim_inl] at hf
      refine Wp.iload_n (pc := 81) 0 rfl rfl dX12_rowsBy_81 ?_
      cases hf
      exact hk _ _ dX12_rowsBy_82
    · rw [hq, Sum.elim_inr, Sum.elim_inl] at hf
      refine Wp.aload_n (pc := 91) 0 rfl rfl dX12_rowsBy_91 ?_
      refine Wp.aload_n (pc := 92) 0 rfl rfl dX12_rowsBy_92 ?_
      refine Wp.getR2 (pc := 93) (hG.r 56 30 rfl) (hG.t 56 rfl) fk_RX12_64 rfl dX12_rowsBy_93 ?_
      refine Wp.iload (pc := 96) 2 rfl dX12_rowsBy_96 ?_
      obtain ⟨v10, h11, hf⟩ := bnd hf
      refine Wp.iald2 (pc := 98) h11 (hG.a 72 0 rfl) dX12_rowsBy_98 ?_
      refine Wp.aload_n (pc := 99) 0 rfl rfl dX12_rowsBy_99 ?_
      refine Wp.getR2 (pc := 100) (hG.r 56 31 rfl) (hG.t 56 rfl) fk_RX12_67 rfl dX12_rowsBy_100 ?_
      refine Wp.iload (pc := 103) 2 rfl dX12_rowsBy_103 ?_
      obtain ⟨v12, h13, hf⟩ := bnd hf
      refine Wp.iald2 (pc := 105) h13 (hG.a 73 0 rfl) dX12_rowsBy_105 ?_
      obtain ⟨c14, h15, hf⟩ := bnd hf
      refine Wp.callVi (pc := 106) (st := []) (as := [.int v10, .int v12]) (c_X12_termOf hG h15) ml_RX12_425 mv_X12_termOf mb_X12_termOf hX (Nat.le_of_ble_eq_true rfl) (by decide) rfl (hG.t 56 rfl) rfl (by simp) dX12_rowsBy_106 rfl ?_
      refine Wp.istore (pc := 109) (lo' := [(0, .ref 56), (2, .int x2), (6, .int c14.1)]) [1, 2, 0] rfl (by decide) dX12_rowsBy_109 ?_
      refine Wp.aload_n (pc := 111) 0 rfl rfl dX12_rowsBy_111 ?_
      refine Wp.getI2 (pc := 112) (hG.t 56 rfl) fk_RX12_418 rfl dX12_rowsBy_112 ?_
      refine Wp.if_eq (pc := 115) 122 dX12_rowsBy_115 (by decide) (fun hc16 => ?_) (fun hc16 => ?_)
      · rw [if_pos hc16] at hf
        refine Wp.aload_n (pc := 122) 0 rfl rfl dX12_rowsBy_122 ?_
        refine Wp.iload (pc := 123) 2 rfl dX12_rowsBy_123 ?_
        obtain ⟨c17, h18, hf⟩ := bnd hf
        refine Wp.callVi (pc := 125) (st := []) (as := [.int c14.1]) (c_X12_rest hG h18) ml_RX12_411 mv_X12_rest mb_X12_rest hX (Nat.le_of_ble_eq_true rfl) (by decide) rfl (hG.t 56 rfl) rfl (by simp) dX12_rowsBy_125 rfl ?_
        refine Wp.lo' (lo' := []) [] rfl ?_
        exact w_X12_rowsBy_128 hX hG hf hk
      · rw [if_neg hc16] at hf
        refine Wp.iload_n (pc := 118) 1 rfl rfl dX12_rowsBy_118 ?_
        refine Wp.goto (pc := 119) 128 dX12_rowsBy_119 (by decide) ?_
        refine Wp.lo' (lo' := []) [] rfl ?_
        exact w_X12_rowsBy_128 hX hG hf hk
    · rw [hq, Sum.elim_inr, Sum.elim_inr] at hf
      refine Wp.iload_n (pc := 135) 0 rfl rfl dX12_rowsBy_135 ?_
      cases hf
      exact hk _ _ dX12_rowsBy_136
  · rw [if_pos hc1] at hf
    refine Wp.iload_n (pc := 5) 2 rfl rfl dX12_rowsBy_5 ?_
    cases hf
    exact hk _ _ dX12_rowsBy_6
theorem c_X12_rowsBy {T : List Dsc} {R : RM} {c e : Nat} {x1 : Int32} {x2 : Int32} {m : M2} {r : (Int32 × M2)} (hG : Geo T R c e) (hf : F_X12_rowsBy x1 x2 m = some r) : Ct 7 yX12_rowsBy cX12_rowsBy 7 (some .int) T (mk m R) [.ref 56, .int x1, .int x2] (some (.int r.1)) (mk r.2 R) := Ct.ofI (r := (r.1, mk r.2 R)) (by decide +kernel) (Nat.le_of_ble_eq_true rfl) (fun X hX hk => w_X12_rowsBy hX hG hf hk)
