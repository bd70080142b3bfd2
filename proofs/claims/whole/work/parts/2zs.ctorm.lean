/-! ===== the reference's constructor: printed by program from the bytecode ===== -/
def apV (x : Int64) (y : Int32) : Int64 := if y = 0 then x else 27 * x + (y - 97 + 1).toInt64
def wdV (x0 x1 x2 x3 x4 x5 x6 : Int32) : Int64 := apV (apV (apV (apV (apV (apV (apV 0 x0) x1) x2) x3) x4) x5) x6
theorem F_ap_eq (x : Int64) (y : Int32) (m : M2) : F_X12_appends x y m = some (apV x y, m) := by
  unfold F_X12_appends apV
  split <;> rfl
theorem F_wd_eq (x0 x1 x2 x3 x4 x5 x6 : Int32) (m : M2) : F_X12_word x0 x1 x2 x3 x4 x5 x6 m = some (wdV x0 x1 x2 x3 x4 x5 x6, m) := by
  unfold F_X12_word wdV
  simp only [F_ap_eq, Option.bind_some]
theorem ct_word {T : List Dsc} {μ : Mem} (x0 x1 x2 x3 x4 x5 x6 : Int32) : Ct 2 yX12_word cX12_word 7 (some .long) T μ [.int x0, .int x1, .int x2, .int x3, .int x4, .int x5, .int x6] (some (.long (wdV x0 x1 x2 x3 x4 x5 x6))) μ := cf_X12_word (R := μ.2.2) (m := (μ.1, μ.2.1)) (F_wd_eq x0 x1 x2 x3 x4 x5 x6 _)
theorem tnew {T : List Dsc} {n : Nat} {d : Dsc} (h : T.length = n) : (T ++ [d])[n]? = some d := by subst h; simp
theorem aLen_mk {T : List Dsc} {r n tc : Nat} {ty : FieldType} (h : T[r]? = some (.inr (ty, n))) (ht : tyc ty = tc) : aLen T r tc = some n := by
  unfold aLen
  rw [h]
  exact if_pos ht
theorem wI_at {μ : Mem} {r n k : Nat} {i v : Int32} (h : ixb i n = true) (hk : i.toNatClampNeg = k) : wI μ r n i v = some (sI μ r k v) := by
  subst hk
  exact if_pos h
theorem wJ_at {μ : Mem} {r n k : Nat} {i : Int32} {v : Int64} (h : ixb i n = true) (hk : i.toNatClampNeg = k) : wJ μ r n i v = some (sJ μ r k v) := by
  subst hk
  exact if_pos h
theorem dX12_init_0 : decode cX12_init 0 = .ok (.aload_n 0, 1) := by decide +kernel
theorem dX12_init_1 : decode cX12_init 1 = .ok (.invokespecial 7, 3) := by decide +kernel
theorem dX12_init_4 : decode cX12_init 4 = .ok (.aload_n 0, 1) := by decide +kernel
theorem dX12_init_5 : decode cX12_init 5 = .ok (.sipush 2000, 3) := by decide +kernel
theorem dX12_init_8 : decode cX12_init 8 = .ok (.newarray .byte, 2) := by decide +kernel
theorem dX12_init_10 : decode cX12_init 10 = .ok (.putfield 13, 3) := by decide +kernel
theorem dX12_init_13 : decode cX12_init 13 = .ok (.aload_n 0, 1) := by decide +kernel
theorem dX12_init_14 : decode cX12_init 14 = .ok (.sipush 2000, 3) := by decide +kernel
theorem dX12_init_17 : decode cX12_init 17 = .ok (.newarray .byte, 2) := by decide +kernel
theorem dX12_init_19 : decode cX12_init 19 = .ok (.putfield 17, 3) := by decide +kernel
theorem dX12_init_22 : decode cX12_init 22 = .ok (.aload_n 0, 1) := by decide +kernel
theorem dX12_init_23 : decode cX12_init 23 = .ok (.sipush 403, 3) := by decide +kernel
theorem dX12_init_26 : decode cX12_init 26 = .ok (.newarray .int, 2) := by decide +kernel
theorem dX12_init_28 : decode cX12_init 28 = .ok (.putfield 20, 3) := by decide +kernel
theorem dX12_init_31 : decode cX12_init 31 = .ok (.aload_n 0, 1) := by decide +kernel
theorem dX12_init_32 : decode cX12_init 32 = .ok (.sipush 403, 3) := by decide +kernel
theorem dX12_init_35 : decode cX12_init 35 = .ok (.newarray .int, 2) := by decide +kernel
theorem dX12_init_37 : decode cX12_init 37 = .ok (.putfield 24, 3) := by decide +kernel
theorem dX12_init_40 : decode cX12_init 40 = .ok (.aload_n 0, 1) := by decide +kernel
theorem dX12_init_41 : decode cX12_init 41 = .ok (.sipush 403, 3) := by decide +kernel
theorem dX12_init_44 : decode cX12_init 44 = .ok (.newarray .int, 2) := by decide +kernel
theorem dX12_init_46 : decode cX12_init 46 = .ok (.putfield 27, 3) := by decide +kernel
theorem dX12_init_49 : decode cX12_init 49 = .ok (.aload_n 0, 1) := by decide +kernel
theorem dX12_init_50 : decode cX12_init 50 = .ok (.sipush 403, 3) := by decide +kernel
theorem dX12_init_53 : decode cX12_init 53 = .ok (.newarray .long, 2) := by decide +kernel
theorem dX12_init_55 : decode cX12_init 55 = .ok (.putfield 30, 3) := by decide +kernel
theorem dX12_init_58 : decode cX12_init 58 = .ok (.aload_n 0, 1) := by decide +kernel
theorem dX12_init_59 : decode cX12_init 59 = .ok (.bipush 17, 2) := by decide +kernel
theorem dX12_init_61 : decode cX12_init 61 = .ok (.newarray .long, 2) := by decide +kernel
theorem dX12_init_63 : decode cX12_init 63 = .ok (.putfield 34, 3) := by decide +kernel
theorem dX12_init_66 : decode cX12_init 66 = .ok (.aload_n 0, 1) := by decide +kernel
theorem dX12_init_67 : decode cX12_init 67 = .ok (.iconst (-1), 1) := by decide +kernel
theorem dX12_init_68 : decode cX12_init 68 = .ok (.putfield 37, 3) := by decide +kernel
theorem dX12_init_71 : decode cX12_init 71 = .ok (.aload_n 0, 1) := by decide +kernel
theorem dX12_init_72 : decode cX12_init 72 = .ok (.bipush 20, 2) := by decide +kernel
theorem dX12_init_74 : decode cX12_init 74 = .ok (.newarray .long, 2) := by decide +kernel
theorem dX12_init_76 : decode cX12_init 76 = .ok (.putfield 40, 3) := by decide +kernel
theorem dX12_init_79 : decode cX12_init 79 = .ok (.aload_n 0, 1) := by decide +kernel
theorem dX12_init_80 : decode cX12_init 80 = .ok (.bipush 20, 2) := by decide +kernel
theorem dX12_init_82 : decode cX12_init 82 = .ok (.newarray .int, 2) := by decide +kernel
theorem dX12_init_84 : decode cX12_init 84 = .ok (.putfield 43, 3) := by decide +kernel
theorem dX12_init_87 : decode cX12_init 87 = .ok (.aload_n 0, 1) := by decide +kernel
theorem dX12_init_88 : decode cX12_init 88 = .ok (.iconst 2, 1) := by decide +kernel
theorem dX12_init_89 : decode cX12_init 89 = .ok (.newarray .int, 2) := by decide +kernel
theorem dX12_init_91 : decode cX12_init 91 = .ok (.putfield 46, 3) := by decide +kernel
theorem dX12_init_94 : decode cX12_init 94 = .ok (.aload_n 0, 1) := by decide +kernel
theorem dX12_init_95 : decode cX12_init 95 = .ok (.iconst 2, 1) := by decide +kernel
theorem dX12_init_96 : decode cX12_init 96 = .ok (.newarray .int, 2) := by decide +kernel
theorem dX12_init_98 : decode cX12_init 98 = .ok (.putfield 49, 3) := by decide +kernel
theorem dX12_init_101 : decode cX12_init 101 = .ok (.aload_n 0, 1) := by decide +kernel
theorem dX12_init_102 : decode cX12_init 102 = .ok (.bipush 12, 2) := by decide +kernel
theorem dX12_init_104 : decode cX12_init 104 = .ok (.newarray .int, 2) := by decide +kernel
theorem dX12_init_106 : decode cX12_init 106 = .ok (.putfield 52, 3) := by decide +kernel
theorem dX12_init_109 : decode cX12_init 109 = .ok (.aload_n 0, 1) := by decide +kernel
theorem dX12_init_110 : decode cX12_init 110 = .ok (.bipush 12, 2) := by decide +kernel
theorem dX12_init_112 : decode cX12_init 112 = .ok (.newarray .int, 2) := by decide +kernel
theorem dX12_init_114 : decode cX12_init 114 = .ok (.putfield 55, 3) := by decide +kernel
theorem dX12_init_117 : decode cX12_init 117 = .ok (.aload_n 0, 1) := by decide +kernel
theorem dX12_init_118 : decode cX12_init 118 = .ok (.bipush 108, 2) := by decide +kernel
theorem dX12_init_120 : decode cX12_init 120 = .ok (.newarray .int, 2) := by decide +kernel
theorem dX12_init_122 : decode cX12_init 122 = .ok (.putfield 58, 3) := by decide +kernel
theorem dX12_init_125 : decode cX12_init 125 = .ok (.aload_n 0, 1) := by decide +kernel
theorem dX12_init_126 : decode cX12_init 126 = .ok (.bipush 108, 2) := by decide +kernel
theorem dX12_init_128 : decode cX12_init 128 = .ok (.newarray .int, 2) := by decide +kernel
theorem dX12_init_130 : decode cX12_init 130 = .ok (.putfield 61, 3) := by decide +kernel
theorem dX12_init_133 : decode cX12_init 133 = .ok (.aload_n 0, 1) := by decide +kernel
theorem dX12_init_134 : decode cX12_init 134 = .ok (.bipush 108, 2) := by decide +kernel
theorem dX12_init_136 : decode cX12_init 136 = .ok (.newarray .int, 2) := by decide +kernel
theorem dX12_init_138 : decode cX12_init 138 = .ok (.putfield 64, 3) := by decide +kernel
theorem dX12_init_141 : decode cX12_init 141 = .ok (.aload_n 0, 1) := by decide +kernel
theorem dX12_init_142 : decode cX12_init 142 = .ok (.bipush 108, 2) := by decide +kernel
theorem dX12_init_144 : decode cX12_init 144 = .ok (.newarray .int, 2) := by decide +kernel
theorem dX12_init_146 : decode cX12_init 146 = .ok (.putfield 67, 3) := by decide +kernel
theorem dX12_init_149 : decode cX12_init 149 = .ok (.aload_n 0, 1) := by decide +kernel
theorem dX12_init_150 : decode cX12_init 150 = .ok (.iconst 2, 1) := by decide +kernel
theorem dX12_init_151 : decode cX12_init 151 = .ok (.newarray .int, 2) := by decide +kernel
theorem dX12_init_153 : decode cX12_init 153 = .ok (.putfield 70, 3) := by decide +kernel
theorem dX12_init_156 : decode cX12_init 156 = .ok (.aload_n 0, 1) := by decide +kernel
theorem dX12_init_157 : decode cX12_init 157 = .ok (.bipush 24, 2) := by decide +kernel
theorem dX12_init_159 : decode cX12_init 159 = .ok (.newarray .int, 2) := by decide +kernel
theorem dX12_init_161 : decode cX12_init 161 = .ok (.putfield 73, 3) := by decide +kernel
theorem dX12_init_164 : decode cX12_init 164 = .ok (.aload_n 0, 1) := by decide +kernel
theorem dX12_init_165 : decode cX12_init 165 = .ok (.bipush 24, 2) := by decide +kernel
theorem dX12_init_167 : decode cX12_init 167 = .ok (.newarray .int, 2) := by decide +kernel
theorem dX12_init_169 : decode cX12_init 169 = .ok (.putfield 76, 3) := by decide +kernel
theorem dX12_init_172 : decode cX12_init 172 = .ok (.aload_n 0, 1) := by decide +kernel
theorem dX12_init_173 : decode cX12_init 173 = .ok (.iconst 2, 1) := by decide +kernel
theorem dX12_init_174 : decode cX12_init 174 = .ok (.newarray .int, 2) := by decide +kernel
theorem dX12_init_176 : decode cX12_init 176 = .ok (.putfield 79, 3) := by decide +kernel
theorem dX12_init_179 : decode cX12_init 179 = .ok (.aload_n 0, 1) := by decide +kernel
theorem dX12_init_180 : decode cX12_init 180 = .ok (.iconst 2, 1) := by decide +kernel
theorem dX12_init_181 : decode cX12_init 181 = .ok (.newarray .int, 2) := by decide +kernel
theorem dX12_init_183 : decode cX12_init 183 = .ok (.putfield 82, 3) := by decide +kernel
theorem dX12_init_186 : decode cX12_init 186 = .ok (.aload_n 0, 1) := by decide +kernel
theorem dX12_init_187 : decode cX12_init 187 = .ok (.iconst 2, 1) := by decide +kernel
theorem dX12_init_188 : decode cX12_init 188 = .ok (.newarray .int, 2) := by decide +kernel
theorem dX12_init_190 : decode cX12_init 190 = .ok (.putfield 85, 3) := by decide +kernel
theorem dX12_init_193 : decode cX12_init 193 = .ok (.aload_n 0, 1) := by decide +kernel
theorem dX12_init_194 : decode cX12_init 194 = .ok (.iconst 2, 1) := by decide +kernel
theorem dX12_init_195 : decode cX12_init 195 = .ok (.newarray .int, 2) := by decide +kernel
theorem dX12_init_197 : decode cX12_init 197 = .ok (.putfield 88, 3) := by decide +kernel
theorem dX12_init_200 : decode cX12_init 200 = .ok (.aload_n 0, 1) := by decide +kernel
theorem dX12_init_201 : decode cX12_init 201 = .ok (.bipush 8, 2) := by decide +kernel
theorem dX12_init_203 : decode cX12_init 203 = .ok (.newarray .int, 2) := by decide +kernel
theorem dX12_init_205 : decode cX12_init 205 = .ok (.putfield 91, 3) := by decide +kernel
theorem dX12_init_208 : decode cX12_init 208 = .ok (.aload_n 0, 1) := by decide +kernel
theorem dX12_init_209 : decode cX12_init 209 = .ok (.bipush 8, 2) := by decide +kernel
theorem dX12_init_211 : decode cX12_init 211 = .ok (.newarray .int, 2) := by decide +kernel
theorem dX12_init_213 : decode cX12_init 213 = .ok (.putfield 94, 3) := by decide +kernel
theorem dX12_init_216 : decode cX12_init 216 = .ok (.aload_n 0, 1) := by decide +kernel
theorem dX12_init_217 : decode cX12_init 217 = .ok (.sipush 300, 3) := by decide +kernel
theorem dX12_init_220 : decode cX12_init 220 = .ok (.newarray .int, 2) := by decide +kernel
theorem dX12_init_222 : decode cX12_init 222 = .ok (.putfield 97, 3) := by decide +kernel
theorem dX12_init_225 : decode cX12_init 225 = .ok (.aload_n 0, 1) := by decide +kernel
theorem dX12_init_226 : decode cX12_init 226 = .ok (.sipush 300, 3) := by decide +kernel
theorem dX12_init_229 : decode cX12_init 229 = .ok (.newarray .boolean, 2) := by decide +kernel
theorem dX12_init_231 : decode cX12_init 231 = .ok (.putfield 100, 3) := by decide +kernel
theorem dX12_init_234 : decode cX12_init 234 = .ok (.aload_n 0, 1) := by decide +kernel
theorem dX12_init_235 : decode cX12_init 235 = .ok (.sipush 300, 3) := by decide +kernel
theorem dX12_init_238 : decode cX12_init 238 = .ok (.newarray .boolean, 2) := by decide +kernel
theorem dX12_init_240 : decode cX12_init 240 = .ok (.putfield 104, 3) := by decide +kernel
theorem dX12_init_243 : decode cX12_init 243 = .ok (.aload_n 0, 1) := by decide +kernel
theorem dX12_init_244 : decode cX12_init 244 = .ok (.sipush 300, 3) := by decide +kernel
theorem dX12_init_247 : decode cX12_init 247 = .ok (.newarray .int, 2) := by decide +kernel
theorem dX12_init_249 : decode cX12_init 249 = .ok (.putfield 107, 3) := by decide +kernel
theorem dX12_init_252 : decode cX12_init 252 = .ok (.aload_n 0, 1) := by decide +kernel
theorem dX12_init_253 : decode cX12_init 253 = .ok (.sipush 300, 3) := by decide +kernel
theorem dX12_init_256 : decode cX12_init 256 = .ok (.newarray .int, 2) := by decide +kernel
theorem dX12_init_258 : decode cX12_init 258 = .ok (.putfield 110, 3) := by decide +kernel
theorem dX12_init_261 : decode cX12_init 261 = .ok (.aload_n 0, 1) := by decide +kernel
theorem dX12_init_262 : decode cX12_init 262 = .ok (.sipush 300, 3) := by decide +kernel
theorem dX12_init_265 : decode cX12_init 265 = .ok (.newarray .int, 2) := by decide +kernel
theorem dX12_init_267 : decode cX12_init 267 = .ok (.putfield 113, 3) := by decide +kernel
theorem dX12_init_270 : decode cX12_init 270 = .ok (.aload_n 0, 1) := by decide +kernel
theorem dX12_init_271 : decode cX12_init 271 = .ok (.sipush 840, 3) := by decide +kernel
theorem dX12_init_274 : decode cX12_init 274 = .ok (.newarray .int, 2) := by decide +kernel
theorem dX12_init_276 : decode cX12_init 276 = .ok (.putfield 116, 3) := by decide +kernel
theorem dX12_init_279 : decode cX12_init 279 = .ok (.aload_n 0, 1) := by decide +kernel
theorem dX12_init_280 : decode cX12_init 280 = .ok (.sipush 840, 3) := by decide +kernel
theorem dX12_init_283 : decode cX12_init 283 = .ok (.newarray .int, 2) := by decide +kernel
theorem dX12_init_285 : decode cX12_init 285 = .ok (.putfield 119, 3) := by decide +kernel
theorem dX12_init_288 : decode cX12_init 288 = .ok (.aload_n 0, 1) := by decide +kernel
theorem dX12_init_289 : decode cX12_init 289 = .ok (.sipush 140, 3) := by decide +kernel
theorem dX12_init_292 : decode cX12_init 292 = .ok (.newarray .int, 2) := by decide +kernel
theorem dX12_init_294 : decode cX12_init 294 = .ok (.putfield 122, 3) := by decide +kernel
theorem dX12_init_297 : decode cX12_init 297 = .ok (.aload_n 0, 1) := by decide +kernel
theorem dX12_init_298 : decode cX12_init 298 = .ok (.bipush 64, 2) := by decide +kernel
theorem dX12_init_300 : decode cX12_init 300 = .ok (.newarray .int, 2) := by decide +kernel
theorem dX12_init_302 : decode cX12_init 302 = .ok (.putfield 125, 3) := by decide +kernel
theorem dX12_init_305 : decode cX12_init 305 = .ok (.aload_n 0, 1) := by decide +kernel
theorem dX12_init_306 : decode cX12_init 306 = .ok (.bipush 12, 2) := by decide +kernel
theorem dX12_init_308 : decode cX12_init 308 = .ok (.newarray .int, 2) := by decide +kernel
theorem dX12_init_310 : decode cX12_init 310 = .ok (.putfield 128, 3) := by decide +kernel
theorem dX12_init_313 : decode cX12_init 313 = .ok (.aload_n 0, 1) := by decide +kernel
theorem dX12_init_314 : decode cX12_init 314 = .ok (.bipush 12, 2) := by decide +kernel
theorem dX12_init_316 : decode cX12_init 316 = .ok (.newarray .int, 2) := by decide +kernel
theorem dX12_init_318 : decode cX12_init 318 = .ok (.putfield 131, 3) := by decide +kernel
theorem dX12_init_321 : decode cX12_init 321 = .ok (.aload_n 0, 1) := by decide +kernel
theorem dX12_init_322 : decode cX12_init 322 = .ok (.bipush 12, 2) := by decide +kernel
theorem dX12_init_324 : decode cX12_init 324 = .ok (.newarray .int, 2) := by decide +kernel
theorem dX12_init_326 : decode cX12_init 326 = .ok (.putfield 134, 3) := by decide +kernel
theorem dX12_init_329 : decode cX12_init 329 = .ok (.aload_n 0, 1) := by decide +kernel
theorem dX12_init_330 : decode cX12_init 330 = .ok (.sipush 1200, 3) := by decide +kernel
theorem dX12_init_333 : decode cX12_init 333 = .ok (.newarray .int, 2) := by decide +kernel
theorem dX12_init_335 : decode cX12_init 335 = .ok (.putfield 137, 3) := by decide +kernel
theorem dX12_init_338 : decode cX12_init 338 = .ok (.aload_n 0, 1) := by decide +kernel
theorem dX12_init_339 : decode cX12_init 339 = .ok (.bipush 12, 2) := by decide +kernel
theorem dX12_init_341 : decode cX12_init 341 = .ok (.newarray .int, 2) := by decide +kernel
theorem dX12_init_343 : decode cX12_init 343 = .ok (.putfield 140, 3) := by decide +kernel
theorem dX12_init_346 : decode cX12_init 346 = .ok (.aload_n 0, 1) := by decide +kernel
theorem dX12_init_347 : decode cX12_init 347 = .ok (.bipush 12, 2) := by decide +kernel
theorem dX12_init_349 : decode cX12_init 349 = .ok (.newarray .int, 2) := by decide +kernel
theorem dX12_init_351 : decode cX12_init 351 = .ok (.putfield 143, 3) := by decide +kernel
theorem dX12_init_354 : decode cX12_init 354 = .ok (.aload_n 0, 1) := by decide +kernel
theorem dX12_init_355 : decode cX12_init 355 = .ok (.bipush 12, 2) := by decide +kernel
theorem dX12_init_357 : decode cX12_init 357 = .ok (.newarray .int, 2) := by decide +kernel
theorem dX12_init_359 : decode cX12_init 359 = .ok (.putfield 146, 3) := by decide +kernel
theorem dX12_init_362 : decode cX12_init 362 = .ok (.aload_n 0, 1) := by decide +kernel
theorem dX12_init_363 : decode cX12_init 363 = .ok (.bipush 6, 2) := by decide +kernel
theorem dX12_init_365 : decode cX12_init 365 = .ok (.newarray .int, 2) := by decide +kernel
theorem dX12_init_367 : decode cX12_init 367 = .ok (.putfield 149, 3) := by decide +kernel
theorem dX12_init_370 : decode cX12_init 370 = .ok (.aload_n 0, 1) := by decide +kernel
theorem dX12_init_371 : decode cX12_init 371 = .ok (.sipush 400, 3) := by decide +kernel
theorem dX12_init_374 : decode cX12_init 374 = .ok (.newarray .int, 2) := by decide +kernel
theorem dX12_init_376 : decode cX12_init 376 = .ok (.putfield 152, 3) := by decide +kernel
theorem dX12_init_379 : decode cX12_init 379 = .ok (.aload_n 0, 1) := by decide +kernel
theorem dX12_init_380 : decode cX12_init 380 = .ok (.bipush 12, 2) := by decide +kernel
theorem dX12_init_382 : decode cX12_init 382 = .ok (.newarray .int, 2) := by decide +kernel
theorem dX12_init_384 : decode cX12_init 384 = .ok (.putfield 155, 3) := by decide +kernel
theorem dX12_init_387 : decode cX12_init 387 = .ok (.aload_n 0, 1) := by decide +kernel
theorem dX12_init_388 : decode cX12_init 388 = .ok (.bipush 12, 2) := by decide +kernel
theorem dX12_init_390 : decode cX12_init 390 = .ok (.newarray .int, 2) := by decide +kernel
theorem dX12_init_392 : decode cX12_init 392 = .ok (.putfield 158, 3) := by decide +kernel
theorem dX12_init_395 : decode cX12_init 395 = .ok (.aload_n 0, 1) := by decide +kernel
theorem dX12_init_396 : decode cX12_init 396 = .ok (.sipush 4812, 3) := by decide +kernel
theorem dX12_init_399 : decode cX12_init 399 = .ok (.newarray .int, 2) := by decide +kernel
theorem dX12_init_401 : decode cX12_init 401 = .ok (.putfield 161, 3) := by decide +kernel
theorem dX12_init_404 : decode cX12_init 404 = .ok (.aload_n 0, 1) := by decide +kernel
theorem dX12_init_405 : decode cX12_init 405 = .ok (.bipush 12, 2) := by decide +kernel
theorem dX12_init_407 : decode cX12_init 407 = .ok (.newarray .int, 2) := by decide +kernel
theorem dX12_init_409 : decode cX12_init 409 = .ok (.putfield 164, 3) := by decide +kernel
theorem dX12_init_412 : decode cX12_init 412 = .ok (.aload_n 0, 1) := by decide +kernel
theorem dX12_init_413 : decode cX12_init 413 = .ok (.bipush 12, 2) := by decide +kernel
theorem dX12_init_415 : decode cX12_init 415 = .ok (.newarray .int, 2) := by decide +kernel
theorem dX12_init_417 : decode cX12_init 417 = .ok (.putfield 167, 3) := by decide +kernel
theorem dX12_init_420 : decode cX12_init 420 = .ok (.aload_n 0, 1) := by decide +kernel
theorem dX12_init_421 : decode cX12_init 421 = .ok (.sipush 20736, 3) := by decide +kernel
theorem dX12_init_424 : decode cX12_init 424 = .ok (.newarray .int, 2) := by decide +kernel
theorem dX12_init_426 : decode cX12_init 426 = .ok (.putfield 170, 3) := by decide +kernel
theorem dX12_init_429 : decode cX12_init 429 = .ok (.aload_n 0, 1) := by decide +kernel
theorem dX12_init_430 : decode cX12_init 430 = .ok (.sipush 20736, 3) := by decide +kernel
theorem dX12_init_433 : decode cX12_init 433 = .ok (.newarray .int, 2) := by decide +kernel
theorem dX12_init_435 : decode cX12_init 435 = .ok (.putfield 173, 3) := by decide +kernel
theorem dX12_init_438 : decode cX12_init 438 = .ok (.aload_n 0, 1) := by decide +kernel
theorem dX12_init_439 : decode cX12_init 439 = .ok (.bipush 20, 2) := by decide +kernel
theorem dX12_init_441 : decode cX12_init 441 = .ok (.newarray .int, 2) := by decide +kernel
theorem dX12_init_443 : decode cX12_init 443 = .ok (.putfield 176, 3) := by decide +kernel
theorem dX12_init_446 : decode cX12_init 446 = .ok (.aload_n 0, 1) := by decide +kernel
theorem dX12_init_447 : decode cX12_init 447 = .ok (.bipush 20, 2) := by decide +kernel
theorem dX12_init_449 : decode cX12_init 449 = .ok (.newarray .int, 2) := by decide +kernel
theorem dX12_init_451 : decode cX12_init 451 = .ok (.putfield 179, 3) := by decide +kernel
theorem dX12_init_454 : decode cX12_init 454 = .ok (.aload_n 0, 1) := by decide +kernel
theorem dX12_init_455 : decode cX12_init 455 = .ok (.bipush 20, 2) := by decide +kernel
theorem dX12_init_457 : decode cX12_init 457 = .ok (.newarray .boolean, 2) := by decide +kernel
theorem dX12_init_459 : decode cX12_init 459 = .ok (.putfield 182, 3) := by decide +kernel
theorem dX12_init_462 : decode cX12_init 462 = .ok (.aload_n 0, 1) := by decide +kernel
theorem dX12_init_463 : decode cX12_init 463 = .ok (.bipush 80, 2) := by decide +kernel
theorem dX12_init_465 : decode cX12_init 465 = .ok (.newarray .int, 2) := by decide +kernel
theorem dX12_init_467 : decode cX12_init 467 = .ok (.putfield 185, 3) := by decide +kernel
theorem dX12_init_470 : decode cX12_init 470 = .ok (.aload_n 0, 1) := by decide +kernel
theorem dX12_init_471 : decode cX12_init 471 = .ok (.iconst 3, 1) := by decide +kernel
theorem dX12_init_472 : decode cX12_init 472 = .ok (.newarray .boolean, 2) := by decide +kernel
theorem dX12_init_474 : decode cX12_init 474 = .ok (.putfield 188, 3) := by decide +kernel
theorem dX12_init_477 : decode cX12_init 477 = .ok (.aload_n 0, 1) := by decide +kernel
theorem dX12_init_478 : decode cX12_init 478 = .ok (.bipush 36, 2) := by decide +kernel
theorem dX12_init_480 : decode cX12_init 480 = .ok (.newarray .int, 2) := by decide +kernel
theorem dX12_init_482 : decode cX12_init 482 = .ok (.putfield 191, 3) := by decide +kernel
theorem dX12_init_485 : decode cX12_init 485 = .ok (.aload_n 0, 1) := by decide +kernel
theorem dX12_init_486 : decode cX12_init 486 = .ok (.bipush 36, 2) := by decide +kernel
theorem dX12_init_488 : decode cX12_init 488 = .ok (.newarray .int, 2) := by decide +kernel
theorem dX12_init_490 : decode cX12_init 490 = .ok (.putfield 194, 3) := by decide +kernel
theorem dX12_init_493 : decode cX12_init 493 = .ok (.aload_n 0, 1) := by decide +kernel
theorem dX12_init_494 : decode cX12_init 494 = .ok (.bipush 36, 2) := by decide +kernel
theorem dX12_init_496 : decode cX12_init 496 = .ok (.newarray .int, 2) := by decide +kernel
theorem dX12_init_498 : decode cX12_init 498 = .ok (.putfield 197, 3) := by decide +kernel
theorem dX12_init_501 : decode cX12_init 501 = .ok (.aload_n 0, 1) := by decide +kernel
theorem dX12_init_502 : decode cX12_init 502 = .ok (.iconst 3, 1) := by decide +kernel
theorem dX12_init_503 : decode cX12_init 503 = .ok (.newarray .int, 2) := by decide +kernel
theorem dX12_init_505 : decode cX12_init 505 = .ok (.putfield 200, 3) := by decide +kernel
theorem dX12_init_508 : decode cX12_init 508 = .ok (.aload_n 0, 1) := by decide +kernel
theorem dX12_init_509 : decode cX12_init 509 = .ok (.iconst 3, 1) := by decide +kernel
theorem dX12_init_510 : decode cX12_init 510 = .ok (.newarray .int, 2) := by decide +kernel
theorem dX12_init_512 : decode cX12_init 512 = .ok (.putfield 203, 3) := by decide +kernel
theorem dX12_init_515 : decode cX12_init 515 = .ok (.aload_n 0, 1) := by decide +kernel
theorem dX12_init_516 : decode cX12_init 516 = .ok (.iconst 3, 1) := by decide +kernel
theorem dX12_init_517 : decode cX12_init 517 = .ok (.newarray .int, 2) := by decide +kernel
theorem dX12_init_519 : decode cX12_init 519 = .ok (.putfield 206, 3) := by decide +kernel
theorem dX12_init_522 : decode cX12_init 522 = .ok (.aload_n 0, 1) := by decide +kernel
theorem dX12_init_523 : decode cX12_init 523 = .ok (.getfield 46, 3) := by decide +kernel
theorem dX12_init_526 : decode cX12_init 526 = .ok (.iconst 0, 1) := by decide +kernel
theorem dX12_init_527 : decode cX12_init 527 = .ok (.bipush 24, 2) := by decide +kernel
theorem dX12_init_529 : decode cX12_init 529 = .ok (.iastore, 1) := by decide +kernel
theorem dX12_init_530 : decode cX12_init 530 = .ok (.aload_n 0, 1) := by decide +kernel
theorem dX12_init_531 : decode cX12_init 531 = .ok (.getfield 79, 3) := by decide +kernel
theorem dX12_init_534 : decode cX12_init 534 = .ok (.iconst 0, 1) := by decide +kernel
theorem dX12_init_535 : decode cX12_init 535 = .ok (.iconst (-1), 1) := by decide +kernel
theorem dX12_init_536 : decode cX12_init 536 = .ok (.iastore, 1) := by decide +kernel
theorem dX12_init_537 : decode cX12_init 537 = .ok (.aload_n 0, 1) := by decide +kernel
theorem dX12_init_538 : decode cX12_init 538 = .ok (.getfield 85, 3) := by decide +kernel
theorem dX12_init_541 : decode cX12_init 541 = .ok (.iconst 0, 1) := by decide +kernel
theorem dX12_init_542 : decode cX12_init 542 = .ok (.iconst (-1), 1) := by decide +kernel
theorem dX12_init_543 : decode cX12_init 543 = .ok (.iastore, 1) := by decide +kernel
theorem dX12_init_544 : decode cX12_init 544 = .ok (.aload_n 0, 1) := by decide +kernel
theorem dX12_init_545 : decode cX12_init 545 = .ok (.iconst (-1), 1) := by decide +kernel
theorem dX12_init_546 : decode cX12_init 546 = .ok (.putfield 209, 3) := by decide +kernel
theorem dX12_init_549 : decode cX12_init 549 = .ok (.aload_n 0, 1) := by decide +kernel
theorem dX12_init_550 : decode cX12_init 550 = .ok (.getfield 34, 3) := by decide +kernel
theorem dX12_init_553 : decode cX12_init 553 = .ok (.iconst 0, 1) := by decide +kernel
theorem dX12_init_554 : decode cX12_init 554 = .ok (.bipush 112, 2) := by decide +kernel
theorem dX12_init_556 : decode cX12_init 556 = .ok (.bipush 97, 2) := by decide +kernel
theorem dX12_init_558 : decode cX12_init 558 = .ok (.bipush 114, 2) := by decide +kernel
theorem dX12_init_560 : decode cX12_init 560 = .ok (.bipush 116, 2) := by decide +kernel
theorem dX12_init_562 : decode cX12_init 562 = .ok (.bipush 115, 2) := by decide +kernel
theorem dX12_init_564 : decode cX12_init 564 = .ok (.iconst 0, 1) := by decide +kernel
theorem dX12_init_565 : decode cX12_init 565 = .ok (.iconst 0, 1) := by decide +kernel
theorem dX12_init_566 : decode cX12_init 566 = .ok (.invokestatic 212, 3) := by decide +kernel
theorem dX12_init_569 : decode cX12_init 569 = .ok (.lastore, 1) := by decide +kernel
theorem dX12_init_570 : decode cX12_init 570 = .ok (.aload_n 0, 1) := by decide +kernel
theorem dX12_init_571 : decode cX12_init 571 = .ok (.getfield 34, 3) := by decide +kernel
theorem dX12_init_574 : decode cX12_init 574 = .ok (.iconst 1, 1) := by decide +kernel
theorem dX12_init_575 : decode cX12_init 575 = .ok (.bipush 108, 2) := by decide +kernel
theorem dX12_init_577 : decode cX12_init 577 = .ok (.bipush 97, 2) := by decide +kernel
theorem dX12_init_579 : decode cX12_init 579 = .ok (.bipush 119, 2) := by decide +kernel
theorem dX12_init_581 : decode cX12_init 581 = .ok (.iconst 0, 1) := by decide +kernel
theorem dX12_init_582 : decode cX12_init 582 = .ok (.iconst 0, 1) := by decide +kernel
theorem dX12_init_583 : decode cX12_init 583 = .ok (.iconst 0, 1) := by decide +kernel
theorem dX12_init_584 : decode cX12_init 584 = .ok (.iconst 0, 1) := by decide +kernel
theorem dX12_init_585 : decode cX12_init 585 = .ok (.invokestatic 212, 3) := by decide +kernel
theorem dX12_init_588 : decode cX12_init 588 = .ok (.lastore, 1) := by decide +kernel
theorem dX12_init_589 : decode cX12_init 589 = .ok (.aload_n 0, 1) := by decide +kernel
theorem dX12_init_590 : decode cX12_init 590 = .ok (.getfield 34, 3) := by decide +kernel
theorem dX12_init_593 : decode cX12_init 593 = .ok (.iconst 2, 1) := by decide +kernel
theorem dX12_init_594 : decode cX12_init 594 = .ok (.bipush 105, 2) := by decide +kernel
theorem dX12_init_596 : decode cX12_init 596 = .ok (.bipush 102, 2) := by decide +kernel
theorem dX12_init_598 : decode cX12_init 598 = .ok (.iconst 0, 1) := by decide +kernel
theorem dX12_init_599 : decode cX12_init 599 = .ok (.iconst 0, 1) := by decide +kernel
theorem dX12_init_600 : decode cX12_init 600 = .ok (.iconst 0, 1) := by decide +kernel
theorem dX12_init_601 : decode cX12_init 601 = .ok (.iconst 0, 1) := by decide +kernel
theorem dX12_init_602 : decode cX12_init 602 = .ok (.iconst 0, 1) := by decide +kernel
theorem dX12_init_603 : decode cX12_init 603 = .ok (.invokestatic 212, 3) := by decide +kernel
theorem dX12_init_606 : decode cX12_init 606 = .ok (.lastore, 1) := by decide +kernel
theorem dX12_init_607 : decode cX12_init 607 = .ok (.aload_n 0, 1) := by decide +kernel
theorem dX12_init_608 : decode cX12_init 608 = .ok (.getfield 34, 3) := by decide +kernel
theorem dX12_init_611 : decode cX12_init 611 = .ok (.iconst 3, 1) := by decide +kernel
theorem dX12_init_612 : decode cX12_init 612 = .ok (.bipush 116, 2) := by decide +kernel
theorem dX12_init_614 : decode cX12_init 614 = .ok (.bipush 104, 2) := by decide +kernel
theorem dX12_init_616 : decode cX12_init 616 = .ok (.bipush 101, 2) := by decide +kernel
theorem dX12_init_618 : decode cX12_init 618 = .ok (.bipush 110, 2) := by decide +kernel
theorem dX12_init_620 : decode cX12_init 620 = .ok (.iconst 0, 1) := by decide +kernel
theorem dX12_init_621 : decode cX12_init 621 = .ok (.iconst 0, 1) := by decide +kernel
theorem dX12_init_622 : decode cX12_init 622 = .ok (.iconst 0, 1) := by decide +kernel
theorem dX12_init_623 : decode cX12_init 623 = .ok (.invokestatic 212, 3) := by decide +kernel
theorem dX12_init_626 : decode cX12_init 626 = .ok (.lastore, 1) := by decide +kernel
theorem dX12_init_627 : decode cX12_init 627 = .ok (.aload_n 0, 1) := by decide +kernel
theorem dX12_init_628 : decode cX12_init 628 = .ok (.getfield 34, 3) := by decide +kernel
theorem dX12_init_631 : decode cX12_init 631 = .ok (.iconst 4, 1) := by decide +kernel
theorem dX12_init_632 : decode cX12_init 632 = .ok (.bipush 101, 2) := by decide +kernel
theorem dX12_init_634 : decode cX12_init 634 = .ok (.bipush 108, 2) := by decide +kernel
theorem dX12_init_636 : decode cX12_init 636 = .ok (.bipush 115, 2) := by decide +kernel
theorem dX12_init_638 : decode cX12_init 638 = .ok (.bipush 101, 2) := by decide +kernel
theorem dX12_init_640 : decode cX12_init 640 = .ok (.iconst 0, 1) := by decide +kernel
theorem dX12_init_641 : decode cX12_init 641 = .ok (.iconst 0, 1) := by decide +kernel
theorem dX12_init_642 : decode cX12_init 642 = .ok (.iconst 0, 1) := by decide +kernel
theorem dX12_init_643 : decode cX12_init 643 = .ok (.invokestatic 212, 3) := by decide +kernel
theorem dX12_init_646 : decode cX12_init 646 = .ok (.lastore, 1) := by decide +kernel
theorem dX12_init_647 : decode cX12_init 647 = .ok (.aload_n 0, 1) := by decide +kernel
theorem dX12_init_648 : decode cX12_init 648 = .ok (.getfield 34, 3) := by decide +kernel
theorem dX12_init_651 : decode cX12_init 651 = .ok (.iconst 5, 1) := by decide +kernel
theorem dX12_init_652 : decode cX12_init 652 = .ok (.bipush 109, 2) := by decide +kernel
theorem dX12_init_654 : decode cX12_init 654 = .ok (.bipush 97, 2) := by decide +kernel
theorem dX12_init_656 : decode cX12_init 656 = .ok (.bipush 110, 2) := by decide +kernel
theorem dX12_init_658 : decode cX12_init 658 = .ok (.iconst 0, 1) := by decide +kernel
theorem dX12_init_659 : decode cX12_init 659 = .ok (.iconst 0, 1) := by decide +kernel
theorem dX12_init_660 : decode cX12_init 660 = .ok (.iconst 0, 1) := by decide +kernel
theorem dX12_init_661 : decode cX12_init 661 = .ok (.iconst 0, 1) := by decide +kernel
theorem dX12_init_662 : decode cX12_init 662 = .ok (.invokestatic 212, 3) := by decide +kernel
theorem dX12_init_665 : decode cX12_init 665 = .ok (.lastore, 1) := by decide +kernel
theorem dX12_init_666 : decode cX12_init 666 = .ok (.aload_n 0, 1) := by decide +kernel
theorem dX12_init_667 : decode cX12_init 667 = .ok (.getfield 34, 3) := by decide +kernel
theorem dX12_init_670 : decode cX12_init 670 = .ok (.bipush 6, 2) := by decide +kernel
theorem dX12_init_672 : decode cX12_init 672 = .ok (.bipush 100, 2) := by decide +kernel
theorem dX12_init_674 : decode cX12_init 674 = .ok (.bipush 114, 2) := by decide +kernel
theorem dX12_init_676 : decode cX12_init 676 = .ok (.bipush 117, 2) := by decide +kernel
theorem dX12_init_678 : decode cX12_init 678 = .ok (.bipush 109, 2) := by decide +kernel
theorem dX12_init_680 : decode cX12_init 680 = .ok (.iconst 0, 1) := by decide +kernel
theorem dX12_init_681 : decode cX12_init 681 = .ok (.iconst 0, 1) := by decide +kernel
theorem dX12_init_682 : decode cX12_init 682 = .ok (.iconst 0, 1) := by decide +kernel
theorem dX12_init_683 : decode cX12_init 683 = .ok (.invokestatic 212, 3) := by decide +kernel
theorem dX12_init_686 : decode cX12_init 686 = .ok (.lastore, 1) := by decide +kernel
theorem dX12_init_687 : decode cX12_init 687 = .ok (.aload_n 0, 1) := by decide +kernel
theorem dX12_init_688 : decode cX12_init 688 = .ok (.getfield 34, 3) := by decide +kernel
theorem dX12_init_691 : decode cX12_init 691 = .ok (.bipush 7, 2) := by decide +kernel
theorem dX12_init_693 : decode cX12_init 693 = .ok (.bipush 115, 2) := by decide +kernel
theorem dX12_init_695 : decode cX12_init 695 = .ok (.bipush 111, 2) := by decide +kernel
theorem dX12_init_697 : decode cX12_init 697 = .ok (.bipush 110, 2) := by decide +kernel
theorem dX12_init_699 : decode cX12_init 699 = .ok (.bipush 103, 2) := by decide +kernel
theorem dX12_init_701 : decode cX12_init 701 = .ok (.iconst 0, 1) := by decide +kernel
theorem dX12_init_702 : decode cX12_init 702 = .ok (.iconst 0, 1) := by decide +kernel
theorem dX12_init_703 : decode cX12_init 703 = .ok (.iconst 0, 1) := by decide +kernel
theorem dX12_init_704 : decode cX12_init 704 = .ok (.invokestatic 212, 3) := by decide +kernel
theorem dX12_init_707 : decode cX12_init 707 = .ok (.lastore, 1) := by decide +kernel
theorem dX12_init_708 : decode cX12_init 708 = .ok (.aload_n 0, 1) := by decide +kernel
theorem dX12_init_709 : decode cX12_init 709 = .ok (.getfield 34, 3) := by decide +kernel
theorem dX12_init_712 : decode cX12_init 712 = .ok (.bipush 8, 2) := by decide +kernel
theorem dX12_init_714 : decode cX12_init 714 = .ok (.bipush 102, 2) := by decide +kernel
theorem dX12_init_716 : decode cX12_init 716 = .ok (.bipush 111, 2) := by decide +kernel
theorem dX12_init_718 : decode cX12_init 718 = .ok (.bipush 103, 2) := by decide +kernel
theorem dX12_init_720 : decode cX12_init 720 = .ok (.iconst 0, 1) := by decide +kernel
theorem dX12_init_721 : decode cX12_init 721 = .ok (.iconst 0, 1) := by decide +kernel
theorem dX12_init_722 : decode cX12_init 722 = .ok (.iconst 0, 1) := by decide +kernel
theorem dX12_init_723 : decode cX12_init 723 = .ok (.iconst 0, 1) := by decide +kernel
theorem dX12_init_724 : decode cX12_init 724 = .ok (.invokestatic 212, 3) := by decide +kernel
theorem dX12_init_727 : decode cX12_init 727 = .ok (.lastore, 1) := by decide +kernel
theorem dX12_init_728 : decode cX12_init 728 = .ok (.aload_n 0, 1) := by decide +kernel
theorem dX12_init_729 : decode cX12_init 729 = .ok (.getfield 34, 3) := by decide +kernel
theorem dX12_init_732 : decode cX12_init 732 = .ok (.bipush 9, 2) := by decide +kernel
theorem dX12_init_734 : decode cX12_init 734 = .ok (.bipush 111, 2) := by decide +kernel
theorem dX12_init_736 : decode cX12_init 736 = .ok (.bipush 114, 2) := by decide +kernel
theorem dX12_init_738 : decode cX12_init 738 = .ok (.iconst 0, 1) := by decide +kernel
theorem dX12_init_739 : decode cX12_init 739 = .ok (.iconst 0, 1) := by decide +kernel
theorem dX12_init_740 : decode cX12_init 740 = .ok (.iconst 0, 1) := by decide +kernel
theorem dX12_init_741 : decode cX12_init 741 = .ok (.iconst 0, 1) := by decide +kernel
theorem dX12_init_742 : decode cX12_init 742 = .ok (.iconst 0, 1) := by decide +kernel
theorem dX12_init_743 : decode cX12_init 743 = .ok (.invokestatic 212, 3) := by decide +kernel
theorem dX12_init_746 : decode cX12_init 746 = .ok (.lastore, 1) := by decide +kernel
theorem dX12_init_747 : decode cX12_init 747 = .ok (.aload_n 0, 1) := by decide +kernel
theorem dX12_init_748 : decode cX12_init 748 = .ok (.getfield 34, 3) := by decide +kernel
theorem dX12_init_751 : decode cX12_init 751 = .ok (.bipush 10, 2) := by decide +kernel
theorem dX12_init_753 : decode cX12_init 753 = .ok (.bipush 97, 2) := by decide +kernel
theorem dX12_init_755 : decode cX12_init 755 = .ok (.bipush 110, 2) := by decide +kernel
theorem dX12_init_757 : decode cX12_init 757 = .ok (.bipush 100, 2) := by decide +kernel
theorem dX12_init_759 : decode cX12_init 759 = .ok (.iconst 0, 1) := by decide +kernel
theorem dX12_init_760 : decode cX12_init 760 = .ok (.iconst 0, 1) := by decide +kernel
theorem dX12_init_761 : decode cX12_init 761 = .ok (.iconst 0, 1) := by decide +kernel
theorem dX12_init_762 : decode cX12_init 762 = .ok (.iconst 0, 1) := by decide +kernel
theorem dX12_init_763 : decode cX12_init 763 = .ok (.invokestatic 212, 3) := by decide +kernel
theorem dX12_init_766 : decode cX12_init 766 = .ok (.lastore, 1) := by decide +kernel
theorem dX12_init_767 : decode cX12_init 767 = .ok (.aload_n 0, 1) := by decide +kernel
theorem dX12_init_768 : decode cX12_init 768 = .ok (.getfield 34, 3) := by decide +kernel
theorem dX12_init_771 : decode cX12_init 771 = .ok (.bipush 11, 2) := by decide +kernel
theorem dX12_init_773 : decode cX12_init 773 = .ok (.bipush 110, 2) := by decide +kernel
theorem dX12_init_775 : decode cX12_init 775 = .ok (.bipush 111, 2) := by decide +kernel
theorem dX12_init_777 : decode cX12_init 777 = .ok (.bipush 116, 2) := by decide +kernel
theorem dX12_init_779 : decode cX12_init 779 = .ok (.iconst 0, 1) := by decide +kernel
theorem dX12_init_780 : decode cX12_init 780 = .ok (.iconst 0, 1) := by decide +kernel
theorem dX12_init_781 : decode cX12_init 781 = .ok (.iconst 0, 1) := by decide +kernel
theorem dX12_init_782 : decode cX12_init 782 = .ok (.iconst 0, 1) := by decide +kernel
theorem dX12_init_783 : decode cX12_init 783 = .ok (.invokestatic 212, 3) := by decide +kernel
theorem dX12_init_786 : decode cX12_init 786 = .ok (.lastore, 1) := by decide +kernel
theorem dX12_init_787 : decode cX12_init 787 = .ok (.aload_n 0, 1) := by decide +kernel
theorem dX12_init_788 : decode cX12_init 788 = .ok (.getfield 34, 3) := by decide +kernel
theorem dX12_init_791 : decode cX12_init 791 = .ok (.bipush 12, 2) := by decide +kernel
theorem dX12_init_793 : decode cX12_init 793 = .ok (.bipush 111, 2) := by decide +kernel
theorem dX12_init_795 : decode cX12_init 795 = .ok (.bipush 119, 2) := by decide +kernel
theorem dX12_init_797 : decode cX12_init 797 = .ok (.bipush 110, 2) := by decide +kernel
theorem dX12_init_799 : decode cX12_init 799 = .ok (.iconst 0, 1) := by decide +kernel
theorem dX12_init_800 : decode cX12_init 800 = .ok (.iconst 0, 1) := by decide +kernel
theorem dX12_init_801 : decode cX12_init 801 = .ok (.iconst 0, 1) := by decide +kernel
theorem dX12_init_802 : decode cX12_init 802 = .ok (.iconst 0, 1) := by decide +kernel
theorem dX12_init_803 : decode cX12_init 803 = .ok (.invokestatic 212, 3) := by decide +kernel
theorem dX12_init_806 : decode cX12_init 806 = .ok (.lastore, 1) := by decide +kernel
theorem dX12_init_807 : decode cX12_init 807 = .ok (.aload_n 0, 1) := by decide +kernel
theorem dX12_init_808 : decode cX12_init 808 = .ok (.getfield 34, 3) := by decide +kernel
theorem dX12_init_811 : decode cX12_init 811 = .ok (.bipush 13, 2) := by decide +kernel
theorem dX12_init_813 : decode cX12_init 813 = .ok (.bipush 97, 2) := by decide +kernel
theorem dX12_init_815 : decode cX12_init 815 = .ok (.bipush 104, 2) := by decide +kernel
theorem dX12_init_817 : decode cX12_init 817 = .ok (.bipush 101, 2) := by decide +kernel
theorem dX12_init_819 : decode cX12_init 819 = .ok (.bipush 97, 2) := by decide +kernel
theorem dX12_init_821 : decode cX12_init 821 = .ok (.bipush 100, 2) := by decide +kernel
theorem dX12_init_823 : decode cX12_init 823 = .ok (.iconst 0, 1) := by decide +kernel
theorem dX12_init_824 : decode cX12_init 824 = .ok (.iconst 0, 1) := by decide +kernel
theorem dX12_init_825 : decode cX12_init 825 = .ok (.invokestatic 212, 3) := by decide +kernel
theorem dX12_init_828 : decode cX12_init 828 = .ok (.lastore, 1) := by decide +kernel
theorem dX12_init_829 : decode cX12_init 829 = .ok (.aload_n 0, 1) := by decide +kernel
theorem dX12_init_830 : decode cX12_init 830 = .ok (.getfield 34, 3) := by decide +kernel
theorem dX12_init_833 : decode cX12_init 833 = .ok (.bipush 14, 2) := by decide +kernel
theorem dX12_init_835 : decode cX12_init 835 = .ok (.bipush 116, 2) := by decide +kernel
theorem dX12_init_837 : decode cX12_init 837 = .ok (.bipush 119, 2) := by decide +kernel
theorem dX12_init_839 : decode cX12_init 839 = .ok (.bipush 111, 2) := by decide +kernel
theorem dX12_init_841 : decode cX12_init 841 = .ok (.iconst 0, 1) := by decide +kernel
theorem dX12_init_842 : decode cX12_init 842 = .ok (.iconst 0, 1) := by decide +kernel
theorem dX12_init_843 : decode cX12_init 843 = .ok (.iconst 0, 1) := by decide +kernel
theorem dX12_init_844 : decode cX12_init 844 = .ok (.iconst 0, 1) := by decide +kernel
theorem dX12_init_845 : decode cX12_init 845 = .ok (.invokestatic 212, 3) := by decide +kernel
theorem dX12_init_848 : decode cX12_init 848 = .ok (.lastore, 1) := by decide +kernel
theorem dX12_init_849 : decode cX12_init 849 = .ok (.aload_n 0, 1) := by decide +kernel
theorem dX12_init_850 : decode cX12_init 850 = .ok (.getfield 34, 3) := by decide +kernel
theorem dX12_init_853 : decode cX12_init 853 = .ok (.bipush 15, 2) := by decide +kernel
theorem dX12_init_855 : decode cX12_init 855 = .ok (.bipush 98, 2) := by decide +kernel
theorem dX12_init_857 : decode cX12_init 857 = .ok (.bipush 101, 2) := by decide +kernel
theorem dX12_init_859 : decode cX12_init 859 = .ok (.bipush 110, 2) := by decide +kernel
theorem dX12_init_861 : decode cX12_init 861 = .ok (.bipush 99, 2) := by decide +kernel
theorem dX12_init_863 : decode cX12_init 863 = .ok (.bipush 104, 2) := by decide +kernel
theorem dX12_init_865 : decode cX12_init 865 = .ok (.iconst 0, 1) := by decide +kernel
theorem dX12_init_866 : decode cX12_init 866 = .ok (.iconst 0, 1) := by decide +kernel
theorem dX12_init_867 : decode cX12_init 867 = .ok (.invokestatic 212, 3) := by decide +kernel
theorem dX12_init_870 : decode cX12_init 870 = .ok (.lastore, 1) := by decide +kernel
theorem dX12_init_871 : decode cX12_init 871 = .ok (.aload_n 0, 1) := by decide +kernel
theorem dX12_init_872 : decode cX12_init 872 = .ok (.getfield 34, 3) := by decide +kernel
theorem dX12_init_875 : decode cX12_init 875 = .ok (.bipush 16, 2) := by decide +kernel
theorem dX12_init_877 : decode cX12_init 877 = .ok (.bipush 103, 2) := by decide +kernel
theorem dX12_init_879 : decode cX12_init 879 = .ok (.bipush 97, 2) := by decide +kernel
theorem dX12_init_881 : decode cX12_init 881 = .ok (.bipush 112, 2) := by decide +kernel
theorem dX12_init_883 : decode cX12_init 883 = .ok (.iconst 0, 1) := by decide +kernel
theorem dX12_init_884 : decode cX12_init 884 = .ok (.iconst 0, 1) := by decide +kernel
theorem dX12_init_885 : decode cX12_init 885 = .ok (.iconst 0, 1) := by decide +kernel
theorem dX12_init_886 : decode cX12_init 886 = .ok (.iconst 0, 1) := by decide +kernel
theorem dX12_init_887 : decode cX12_init 887 = .ok (.invokestatic 212, 3) := by decide +kernel
theorem dX12_init_890 : decode cX12_init 890 = .ok (.lastore, 1) := by decide +kernel
theorem dX12_init_891 : decode cX12_init 891 = .ok (.return_, 1) := by decide +kernel
theorem nmb_X12_word : MB yX12_word cX12_word 7 (some .long) 7 := ⟨gw_tb 16 (by decide +kernel) rfl, gw_tb 1037 (by decide +kernel) rfl, by decide +kernel, by decide +kernel, by decide +kernel⟩
theorem nms_X12_word : Cond.static yX12_word ∈ gw := gw_tb 1036 (by decide +kernel) rfl
theorem nml_RX12_212 : ML RX12 212 yX12_word := gw_tb 1035 (by decide +kernel) rfl
theorem oi_RX12 : OI RX12 7 := ⟨gw_tb 1034 (by decide +kernel) rfl, gw_tb 27 (by decide +kernel) rfl, gw_tb 28 (by decide +kernel) rfl⟩
theorem ar_byte : Cond.arrayClass (.byte) ∈ gw := gw_tb 118 (by decide +kernel) rfl
theorem nk_RX12_13 : FK RX12 13 11 1 := ⟨_, _, _, rfl, by decide, gw_tb 1042 (by decide +kernel) rfl⟩
theorem nf_RX12_11_1 : FKf RX12 11 1 true := by
  intro C TT N h
  cases h
  exact ⟨rfl, fun h => rfl⟩
theorem nk_RX12_17 : FK RX12 17 11 3 := ⟨_, _, _, rfl, by decide, gw_tb 1044 (by decide +kernel) rfl⟩
theorem nf_RX12_11_3 : FKf RX12 11 3 true := by
  intro C TT N h
  cases h
  exact ⟨rfl, fun h => rfl⟩
theorem nk_RX12_20 : FK RX12 20 11 5 := ⟨_, _, _, rfl, by decide, gw_tb 1046 (by decide +kernel) rfl⟩
theorem nf_RX12_11_5 : FKf RX12 11 5 true := by
  intro C TT N h
  cases h
  exact ⟨rfl, fun h => rfl⟩
theorem nk_RX12_24 : FK RX12 24 11 6 := ⟨_, _, _, rfl, by decide, gw_tb 1047 (by decide +kernel) rfl⟩
theorem nf_RX12_11_6 : FKf RX12 11 6 true := by
  intro C TT N h
  cases h
  exact ⟨rfl, fun h => rfl⟩
theorem nk_RX12_27 : FK RX12 27 11 7 := ⟨_, _, _, rfl, by decide, gw_tb 1048 (by decide +kernel) rfl⟩
theorem nf_RX12_11_7 : FKf RX12 11 7 true := by
  intro C TT N h
  cases h
  exact ⟨rfl, fun h => rfl⟩
theorem nk_RX12_30 : FK RX12 30 11 8 := ⟨_, _, _, rfl, by decide, gw_tb 1049 (by decide +kernel) rfl⟩
theorem nf_RX12_11_8 : FKf RX12 11 8 true := by
  intro C TT N h
  cases h
  exact ⟨rfl, fun h => rfl⟩
theorem nk_RX12_34 : FK RX12 34 11 9 := ⟨_, _, _, rfl, by decide, gw_tb 1050 (by decide +kernel) rfl⟩
theorem nf_RX12_11_9 : FKf RX12 11 9 true := by
  intro C TT N h
  cases h
  exact ⟨rfl, fun h => rfl⟩
theorem nk_RX12_37 : FK RX12 37 11 17 := ⟨_, _, _, rfl, by decide, gw_tb 1058 (by decide +kernel) rfl⟩
theorem nf_RX12_11_17 : FKf RX12 11 17 false := by
  intro C TT N h
  cases h
  exact ⟨rfl, fun h => by cases h⟩
theorem nk_RX12_40 : FK RX12 40 11 21 := ⟨_, _, _, rfl, by decide, gw_tb 1062 (by decide +kernel) rfl⟩
theorem nf_RX12_11_21 : FKf RX12 11 21 true := by
  intro C TT N h
  cases h
  exact ⟨rfl, fun h => rfl⟩
theorem nk_RX12_43 : FK RX12 43 11 22 := ⟨_, _, _, rfl, by decide, gw_tb 1063 (by decide +kernel) rfl⟩
theorem nf_RX12_11_22 : FKf RX12 11 22 true := by
  intro C TT N h
  cases h
  exact ⟨rfl, fun h => rfl⟩
theorem nk_RX12_46 : FK RX12 46 11 23 := ⟨_, _, _, rfl, by decide, gw_tb 1064 (by decide +kernel) rfl⟩
theorem nf_RX12_11_23 : FKf RX12 11 23 true := by
  intro C TT N h
  cases h
  exact ⟨rfl, fun h => rfl⟩
theorem nk_RX12_49 : FK RX12 49 11 24 := ⟨_, _, _, rfl, by decide, gw_tb 1065 (by decide +kernel) rfl⟩
theorem nf_RX12_11_24 : FKf RX12 11 24 true := by
  intro C TT N h
  cases h
  exact ⟨rfl, fun h => rfl⟩
theorem nk_RX12_52 : FK RX12 52 11 25 := ⟨_, _, _, rfl, by decide, gw_tb 1066 (by decide +kernel) rfl⟩
theorem nf_RX12_11_25 : FKf RX12 11 25 true := by
  intro C TT N h
  cases h
  exact ⟨rfl, fun h => rfl⟩
theorem nk_RX12_55 : FK RX12 55 11 26 := ⟨_, _, _, rfl, by decide, gw_tb 1067 (by decide +kernel) rfl⟩
theorem nf_RX12_11_26 : FKf RX12 11 26 true := by
  intro C TT N h
  cases h
  exact ⟨rfl, fun h => rfl⟩
theorem nk_RX12_58 : FK RX12 58 11 28 := ⟨_, _, _, rfl, by decide, gw_tb 1069 (by decide +kernel) rfl⟩
theorem nf_RX12_11_28 : FKf RX12 11 28 true := by
  intro C TT N h
  cases h
  exact ⟨rfl, fun h => rfl⟩
theorem nk_RX12_61 : FK RX12 61 11 29 := ⟨_, _, _, rfl, by decide, gw_tb 1070 (by decide +kernel) rfl⟩
theorem nf_RX12_11_29 : FKf RX12 11 29 true := by
  intro C TT N h
  cases h
  exact ⟨rfl, fun h => rfl⟩
theorem nk_RX12_64 : FK RX12 64 11 30 := ⟨_, _, _, rfl, by decide, gw_tb 1071 (by decide +kernel) rfl⟩
theorem nf_RX12_11_30 : FKf RX12 11 30 true := by
  intro C TT N h
  cases h
  exact ⟨rfl, fun h => rfl⟩
theorem nk_RX12_67 : FK RX12 67 11 31 := ⟨_, _, _, rfl, by decide, gw_tb 1072 (by decide +kernel) rfl⟩
theorem nf_RX12_11_31 : FKf RX12 11 31 true := by
  intro C TT N h
  cases h
  exact ⟨rfl, fun h => rfl⟩
theorem nk_RX12_70 : FK RX12 70 11 32 := ⟨_, _, _, rfl, by decide, gw_tb 1073 (by decide +kernel) rfl⟩
theorem nf_RX12_11_32 : FKf RX12 11 32 true := by
  intro C TT N h
  cases h
  exact ⟨rfl, fun h => rfl⟩
theorem nk_RX12_73 : FK RX12 73 11 33 := ⟨_, _, _, rfl, by decide, gw_tb 1074 (by decide +kernel) rfl⟩
theorem nf_RX12_11_33 : FKf RX12 11 33 true := by
  intro C TT N h
  cases h
  exact ⟨rfl, fun h => rfl⟩
theorem nk_RX12_76 : FK RX12 76 11 34 := ⟨_, _, _, rfl, by decide, gw_tb 1075 (by decide +kernel) rfl⟩
theorem nf_RX12_11_34 : FKf RX12 11 34 true := by
  intro C TT N h
  cases h
  exact ⟨rfl, fun h => rfl⟩
theorem nk_RX12_79 : FK RX12 79 11 35 := ⟨_, _, _, rfl, by decide, gw_tb 1076 (by decide +kernel) rfl⟩
theorem nf_RX12_11_35 : FKf RX12 11 35 true := by
  intro C TT N h
  cases h
  exact ⟨rfl, fun h => rfl⟩
theorem nk_RX12_82 : FK RX12 82 11 36 := ⟨_, _, _, rfl, by decide, gw_tb 1077 (by decide +kernel) rfl⟩
theorem nf_RX12_11_36 : FKf RX12 11 36 true := by
  intro C TT N h
  cases h
  exact ⟨rfl, fun h => rfl⟩
theorem nk_RX12_85 : FK RX12 85 11 37 := ⟨_, _, _, rfl, by decide, gw_tb 1078 (by decide +kernel) rfl⟩
theorem nf_RX12_11_37 : FKf RX12 11 37 true := by
  intro C TT N h
  cases h
  exact ⟨rfl, fun h => rfl⟩
theorem nk_RX12_88 : FK RX12 88 11 38 := ⟨_, _, _, rfl, by decide, gw_tb 1079 (by decide +kernel) rfl⟩
theorem nf_RX12_11_38 : FKf RX12 11 38 true := by
  intro C TT N h
  cases h
  exact ⟨rfl, fun h => rfl⟩
theorem nk_RX12_91 : FK RX12 91 11 39 := ⟨_, _, _, rfl, by decide, gw_tb 1080 (by decide +kernel) rfl⟩
theorem nf_RX12_11_39 : FKf RX12 11 39 true := by
  intro C TT N h
  cases h
  exact ⟨rfl, fun h => rfl⟩
theorem nk_RX12_94 : FK RX12 94 11 40 := ⟨_, _, _, rfl, by decide, gw_tb 1081 (by decide +kernel) rfl⟩
theorem nf_RX12_11_40 : FKf RX12 11 40 true := by
  intro C TT N h
  cases h
  exact ⟨rfl, fun h => rfl⟩
theorem nk_RX12_97 : FK RX12 97 11 42 := ⟨_, _, _, rfl, by decide, gw_tb 1083 (by decide +kernel) rfl⟩
theorem nf_RX12_11_42 : FKf RX12 11 42 true := by
  intro C TT N h
  cases h
  exact ⟨rfl, fun h => rfl⟩
theorem ar_boolean : Cond.arrayClass (.boolean) ∈ gw := gw_tb 1318 (by decide +kernel) rfl
theorem nk_RX12_100 : FK RX12 100 11 43 := ⟨_, _, _, rfl, by decide, gw_tb 1084 (by decide +kernel) rfl⟩
theorem nf_RX12_11_43 : FKf RX12 11 43 true := by
  intro C TT N h
  cases h
  exact ⟨rfl, fun h => rfl⟩
theorem nk_RX12_104 : FK RX12 104 11 44 := ⟨_, _, _, rfl, by decide, gw_tb 1085 (by decide +kernel) rfl⟩
theorem nf_RX12_11_44 : FKf RX12 11 44 true := by
  intro C TT N h
  cases h
  exact ⟨rfl, fun h => rfl⟩
theorem nk_RX12_107 : FK RX12 107 11 45 := ⟨_, _, _, rfl, by decide, gw_tb 1086 (by decide +kernel) rfl⟩
theorem nf_RX12_11_45 : FKf RX12 11 45 true := by
  intro C TT N h
  cases h
  exact ⟨rfl, fun h => rfl⟩
theorem nk_RX12_110 : FK RX12 110 11 46 := ⟨_, _, _, rfl, by decide, gw_tb 1087 (by decide +kernel) rfl⟩
theorem nf_RX12_11_46 : FKf RX12 11 46 true := by
  intro C TT N h
  cases h
  exact ⟨rfl, fun h => rfl⟩
theorem nk_RX12_113 : FK RX12 113 11 47 := ⟨_, _, _, rfl, by decide, gw_tb 1088 (by decide +kernel) rfl⟩
theorem nf_RX12_11_47 : FKf RX12 11 47 true := by
  intro C TT N h
  cases h
  exact ⟨rfl, fun h => rfl⟩
theorem nk_RX12_116 : FK RX12 116 11 49 := ⟨_, _, _, rfl, by decide, gw_tb 1090 (by decide +kernel) rfl⟩
theorem nf_RX12_11_49 : FKf RX12 11 49 true := by
  intro C TT N h
  cases h
  exact ⟨rfl, fun h => rfl⟩
theorem nk_RX12_119 : FK RX12 119 11 50 := ⟨_, _, _, rfl, by decide, gw_tb 1091 (by decide +kernel) rfl⟩
theorem nf_RX12_11_50 : FKf RX12 11 50 true := by
  intro C TT N h
  cases h
  exact ⟨rfl, fun h => rfl⟩
theorem nk_RX12_122 : FK RX12 122 11 52 := ⟨_, _, _, rfl, by decide, gw_tb 1093 (by decide +kernel) rfl⟩
theorem nf_RX12_11_52 : FKf RX12 11 52 true := by
  intro C TT N h
  cases h
  exact ⟨rfl, fun h => rfl⟩
theorem nk_RX12_125 : FK RX12 125 11 53 := ⟨_, _, _, rfl, by decide, gw_tb 1094 (by decide +kernel) rfl⟩
theorem nf_RX12_11_53 : FKf RX12 11 53 true := by
  intro C TT N h
  cases h
  exact ⟨rfl, fun h => rfl⟩
theorem nk_RX12_128 : FK RX12 128 11 55 := ⟨_, _, _, rfl, by decide, gw_tb 1096 (by decide +kernel) rfl⟩
theorem nf_RX12_11_55 : FKf RX12 11 55 true := by
  intro C TT N h
  cases h
  exact ⟨rfl, fun h => rfl⟩
theorem nk_RX12_131 : FK RX12 131 11 56 := ⟨_, _, _, rfl, by decide, gw_tb 1097 (by decide +kernel) rfl⟩
theorem nf_RX12_11_56 : FKf RX12 11 56 true := by
  intro C TT N h
  cases h
  exact ⟨rfl, fun h => rfl⟩
theorem nk_RX12_134 : FK RX12 134 11 57 := ⟨_, _, _, rfl, by decide, gw_tb 1098 (by decide +kernel) rfl⟩
theorem nf_RX12_11_57 : FKf RX12 11 57 true := by
  intro C TT N h
  cases h
  exact ⟨rfl, fun h => rfl⟩
theorem nk_RX12_137 : FK RX12 137 11 62 := ⟨_, _, _, rfl, by decide, gw_tb 1103 (by decide +kernel) rfl⟩
theorem nf_RX12_11_62 : FKf RX12 11 62 true := by
  intro C TT N h
  cases h
  exact ⟨rfl, fun h => rfl⟩
theorem nk_RX12_140 : FK RX12 140 11 63 := ⟨_, _, _, rfl, by decide, gw_tb 1104 (by decide +kernel) rfl⟩
theorem nf_RX12_11_63 : FKf RX12 11 63 true := by
  intro C TT N h
  cases h
  exact ⟨rfl, fun h => rfl⟩
theorem nk_RX12_143 : FK RX12 143 11 64 := ⟨_, _, _, rfl, by decide, gw_tb 1105 (by decide +kernel) rfl⟩
theorem nf_RX12_11_64 : FKf RX12 11 64 true := by
  intro C TT N h
  cases h
  exact ⟨rfl, fun h => rfl⟩
theorem nk_RX12_146 : FK RX12 146 11 68 := ⟨_, _, _, rfl, by decide, gw_tb 1109 (by decide +kernel) rfl⟩
theorem nf_RX12_11_68 : FKf RX12 11 68 true := by
  intro C TT N h
  cases h
  exact ⟨rfl, fun h => rfl⟩
theorem nk_RX12_149 : FK RX12 149 11 69 := ⟨_, _, _, rfl, by decide, gw_tb 1110 (by decide +kernel) rfl⟩
theorem nf_RX12_11_69 : FKf RX12 11 69 true := by
  intro C TT N h
  cases h
  exact ⟨rfl, fun h => rfl⟩
theorem nk_RX12_152 : FK RX12 152 11 70 := ⟨_, _, _, rfl, by decide, gw_tb 1111 (by decide +kernel) rfl⟩
theorem nf_RX12_11_70 : FKf RX12 11 70 true := by
  intro C TT N h
  cases h
  exact ⟨rfl, fun h => rfl⟩
theorem nk_RX12_155 : FK RX12 155 11 72 := ⟨_, _, _, rfl, by decide, gw_tb 1113 (by decide +kernel) rfl⟩
theorem nf_RX12_11_72 : FKf RX12 11 72 true := by
  intro C TT N h
  cases h
  exact ⟨rfl, fun h => rfl⟩
theorem nk_RX12_158 : FK RX12 158 11 73 := ⟨_, _, _, rfl, by decide, gw_tb 1114 (by decide +kernel) rfl⟩
theorem nf_RX12_11_73 : FKf RX12 11 73 true := by
  intro C TT N h
  cases h
  exact ⟨rfl, fun h => rfl⟩
theorem nk_RX12_161 : FK RX12 161 11 74 := ⟨_, _, _, rfl, by decide, gw_tb 1115 (by decide +kernel) rfl⟩
theorem nf_RX12_11_74 : FKf RX12 11 74 true := by
  intro C TT N h
  cases h
  exact ⟨rfl, fun h => rfl⟩
theorem nk_RX12_164 : FK RX12 164 11 75 := ⟨_, _, _, rfl, by decide, gw_tb 1116 (by decide +kernel) rfl⟩
theorem nf_RX12_11_75 : FKf RX12 11 75 true := by
  intro C TT N h
  cases h
  exact ⟨rfl, fun h => rfl⟩
theorem nk_RX12_167 : FK RX12 167 11 76 := ⟨_, _, _, rfl, by decide, gw_tb 1117 (by decide +kernel) rfl⟩
theorem nf_RX12_11_76 : FKf RX12 11 76 true := by
  intro C TT N h
  cases h
  exact ⟨rfl, fun h => rfl⟩
theorem nk_RX12_170 : FK RX12 170 11 77 := ⟨_, _, _, rfl, by decide, gw_tb 1118 (by decide +kernel) rfl⟩
theorem nf_RX12_11_77 : FKf RX12 11 77 true := by
  intro C TT N h
  cases h
  exact ⟨rfl, fun h => rfl⟩
theorem nk_RX12_173 : FK RX12 173 11 78 := ⟨_, _, _, rfl, by decide, gw_tb 1119 (by decide +kernel) rfl⟩
theorem nf_RX12_11_78 : FKf RX12 11 78 true := by
  intro C TT N h
  cases h
  exact ⟨rfl, fun h => rfl⟩
theorem nk_RX12_176 : FK RX12 176 11 80 := ⟨_, _, _, rfl, by decide, gw_tb 1121 (by decide +kernel) rfl⟩
theorem nf_RX12_11_80 : FKf RX12 11 80 true := by
  intro C TT N h
  cases h
  exact ⟨rfl, fun h => rfl⟩
theorem nk_RX12_179 : FK RX12 179 11 81 := ⟨_, _, _, rfl, by decide, gw_tb 1122 (by decide +kernel) rfl⟩
theorem nf_RX12_11_81 : FKf RX12 11 81 true := by
  intro C TT N h
  cases h
  exact ⟨rfl, fun h => rfl⟩
theorem nk_RX12_182 : FK RX12 182 11 82 := ⟨_, _, _, rfl, by decide, gw_tb 1123 (by decide +kernel) rfl⟩
theorem nf_RX12_11_82 : FKf RX12 11 82 true := by
  intro C TT N h
  cases h
  exact ⟨rfl, fun h => rfl⟩
theorem nk_RX12_185 : FK RX12 185 11 83 := ⟨_, _, _, rfl, by decide, gw_tb 1124 (by decide +kernel) rfl⟩
theorem nf_RX12_11_83 : FKf RX12 11 83 true := by
  intro C TT N h
  cases h
  exact ⟨rfl, fun h => rfl⟩
theorem nk_RX12_188 : FK RX12 188 11 85 := ⟨_, _, _, rfl, by decide, gw_tb 1126 (by decide +kernel) rfl⟩
theorem nf_RX12_11_85 : FKf RX12 11 85 true := by
  intro C TT N h
  cases h
  exact ⟨rfl, fun h => rfl⟩
theorem nk_RX12_191 : FK RX12 191 11 86 := ⟨_, _, _, rfl, by decide, gw_tb 1127 (by decide +kernel) rfl⟩
theorem nf_RX12_11_86 : FKf RX12 11 86 true := by
  intro C TT N h
  cases h
  exact ⟨rfl, fun h => rfl⟩
theorem nk_RX12_194 : FK RX12 194 11 87 := ⟨_, _, _, rfl, by decide, gw_tb 1128 (by decide +kernel) rfl⟩
theorem nf_RX12_11_87 : FKf RX12 11 87 true := by
  intro C TT N h
  cases h
  exact ⟨rfl, fun h => rfl⟩
theorem nk_RX12_197 : FK RX12 197 11 88 := ⟨_, _, _, rfl, by decide, gw_tb 1129 (by decide +kernel) rfl⟩
theorem nf_RX12_11_88 : FKf RX12 11 88 true := by
  intro C TT N h
  cases h
  exact ⟨rfl, fun h => rfl⟩
theorem nk_RX12_200 : FK RX12 200 11 89 := ⟨_, _, _, rfl, by decide, gw_tb 1130 (by decide +kernel) rfl⟩
theorem nf_RX12_11_89 : FKf RX12 11 89 true := by
  intro C TT N h
  cases h
  exact ⟨rfl, fun h => rfl⟩
theorem nk_RX12_203 : FK RX12 203 11 90 := ⟨_, _, _, rfl, by decide, gw_tb 1131 (by decide +kernel) rfl⟩
theorem nf_RX12_11_90 : FKf RX12 11 90 true := by
  intro C TT N h
  cases h
  exact ⟨rfl, fun h => rfl⟩
theorem nk_RX12_206 : FK RX12 206 11 91 := ⟨_, _, _, rfl, by decide, gw_tb 1132 (by decide +kernel) rfl⟩
theorem nf_RX12_11_91 : FKf RX12 11 91 true := by
  intro C TT N h
  cases h
  exact ⟨rfl, fun h => rfl⟩
theorem nk_RX12_209 : FK RX12 209 11 58 := ⟨_, _, _, rfl, by decide, gw_tb 1099 (by decide +kernel) rfl⟩
theorem nf_RX12_11_58 : FKf RX12 11 58 false := by
  intro C TT N h
  cases h
  exact ⟨rfl, fun h => by cases h⟩
def muM (μ : Mem) : Mem := (sJ (sJ (sJ (sJ (sJ (sJ (sJ (sJ (sJ (sJ (sJ (sJ (sJ (sJ (sJ (sJ (sJ (sI (sI (sI (sI (sR (sR (sR (sR (sR (sR (sR (sR (sR (sR (sR (sR (sR (sR (sR (sR (sR (sR (sR (sR (sR (sR (sR (sR (sR (sR (sR (sR (sR (sR (sR (sR (sR (sR (sR (sR (sR (sR (sR (sR (sR (sR (sR (sR (sR (sR (sR (sR (sR (sR (sR (sR (sR (sR (sR (sR (sI (sR (sR (sR (sR (sR (sR (sR μ 56 1 (some 57)) 56 3 (some 58)) 56 5 (some 59)) 56 6 (some 60)) 56 7 (some 61)) 56 8 (some 62)) 56 9 (some 63)) 56 17 (-1)) 56 21 (some 64)) 56 22 (some 65)) 56 23 (some 66)) 56 24 (some 67)) 56 25 (some 68)) 56 26 (some 69)) 56 28 (some 70)) 56 29 (some 71)) 56 30 (some 72)) 56 31 (some 73)) 56 32 (some 74)) 56 33 (some 75)) 56 34 (some 76)) 56 35 (some 77)) 56 36 (some 78)) 56 37 (some 79)) 56 38 (some 80)) 56 39 (some 81)) 56 40 (some 82)) 56 42 (some 83)) 56 43 (some 84)) 56 44 (some 85)) 56 45 (some 86)) 56 46 (some 87)) 56 47 (some 88)) 56 49 (some 89)) 56 50 (some 90)) 56 52 (some 91)) 56 53 (some 92)) 56 55 (some 93)) 56 56 (some 94)) 56 57 (some 95)) 56 62 (some 96)) 56 63 (some 97)) 56 64 (some 98)) 56 68 (some 99)) 56 69 (some 100)) 56 70 (some 101)) 56 72 (some 102)) 56 73 (some 103)) 56 74 (some 104)) 56 75 (some 105)) 56 76 (some 106)) 56 77 (some 107)) 56 78 (some 108)) 56 80 (some 109)) 56 81 (some 110)) 56 82 (some 111)) 56 83 (some 112)) 56 85 (some 113)) 56 86 (some 114)) 56 87 (some 115)) 56 88 (some 116)) 56 89 (some 117)) 56 90 (some 118)) 56 91 (some 119)) 66 0 (24)) 77 0 (-1)) 79 0 (-1)) 56 58 (-1)) 63 0 (wdV 112 97 114 116 115 0 0)) 63 1 (wdV 108 97 119 0 0 0 0)) 63 2 (wdV 105 102 0 0 0 0 0)) 63 3 (wdV 116 104 101 110 0 0 0)) 63 4 (wdV 101 108 115 101 0 0 0)) 63 5 (wdV 109 97 110 0 0 0 0)) 63 6 (wdV 100 114 117 109 0 0 0)) 63 7 (wdV 115 111 110 103 0 0 0)) 63 8 (wdV 102 111 103 0 0 0 0)) 63 9 (wdV 111 114 0 0 0 0 0)) 63 10 (wdV 97 110 100 0 0 0 0)) 63 11 (wdV 110 111 116 0 0 0 0)) 63 12 (wdV 111 119 110 0 0 0 0)) 63 13 (wdV 97 104 101 97 100 0 0)) 63 14 (wdV 116 119 111 0 0 0 0)) 63 15 (wdV 98 101 110 99 104 0 0)) 63 16 (wdV 103 97 112 0 0 0 0))
def TM (T : List Dsc) : List Dsc := (((((((((((((((((((((((((((((((((((((((((((((((((((((((((((((((T ++ [.inr (.byte, 2000)]) ++ [.inr (.byte, 2000)]) ++ [.inr (.int, 403)]) ++ [.inr (.int, 403)]) ++ [.inr (.int, 403)]) ++ [.inr (.long, 403)]) ++ [.inr (.long, 17)]) ++ [.inr (.long, 20)]) ++ [.inr (.int, 20)]) ++ [.inr (.int, 2)]) ++ [.inr (.int, 2)]) ++ [.inr (.int, 12)]) ++ [.inr (.int, 12)]) ++ [.inr (.int, 108)]) ++ [.inr (.int, 108)]) ++ [.inr (.int, 108)]) ++ [.inr (.int, 108)]) ++ [.inr (.int, 2)]) ++ [.inr (.int, 24)]) ++ [.inr (.int, 24)]) ++ [.inr (.int, 2)]) ++ [.inr (.int, 2)]) ++ [.inr (.int, 2)]) ++ [.inr (.int, 2)]) ++ [.inr (.int, 8)]) ++ [.inr (.int, 8)]) ++ [.inr (.int, 300)]) ++ [.inr (.boolean, 300)]) ++ [.inr (.boolean, 300)]) ++ [.inr (.int, 300)]) ++ [.inr (.int, 300)]) ++ [.inr (.int, 300)]) ++ [.inr (.int, 840)]) ++ [.inr (.int, 840)]) ++ [.inr (.int, 140)]) ++ [.inr (.int, 64)]) ++ [.inr (.int, 12)]) ++ [.inr (.int, 12)]) ++ [.inr (.int, 12)]) ++ [.inr (.int, 1200)]) ++ [.inr (.int, 12)]) ++ [.inr (.int, 12)]) ++ [.inr (.int, 12)]) ++ [.inr (.int, 6)]) ++ [.inr (.int, 400)]) ++ [.inr (.int, 12)]) ++ [.inr (.int, 12)]) ++ [.inr (.int, 4812)]) ++ [.inr (.int, 12)]) ++ [.inr (.int, 12)]) ++ [.inr (.int, 20736)]) ++ [.inr (.int, 20736)]) ++ [.inr (.int, 20)]) ++ [.inr (.int, 20)]) ++ [.inr (.boolean, 20)]) ++ [.inr (.int, 80)]) ++ [.inr (.boolean, 3)]) ++ [.inr (.int, 36)]) ++ [.inr (.int, 36)]) ++ [.inr (.int, 36)]) ++ [.inr (.int, 3)]) ++ [.inr (.int, 3)]) ++ [.inr (.int, 3)])
theorem fr_X12_init {μ : Mem} (hF : Frs μ 57) : Frs (muM μ) 120 := by
  have hF := hF.up (show 57 ≤ 120 by decide)
  have hF := hF.sR (k := 56) (j := 1) (r := 57) (by decide) (by decide)
  have hF := hF.sR (k := 56) (j := 3) (r := 58) (by decide) (by decide)
  have hF := hF.sR (k := 56) (j := 5) (r := 59) (by decide) (by decide)
  have hF := hF.sR (k := 56) (j := 6) (r := 60) (by decide) (by decide)
  have hF := hF.sR (k := 56) (j := 7) (r := 61) (by decide) (by decide)
  have hF := hF.sR (k := 56) (j := 8) (r := 62) (by decide) (by decide)
  have hF := hF.sR (k := 56) (j := 9) (r := 63) (by decide) (by decide)
  have hF := hF.sI (k := 56) (j := 17) (v := (-1)) (by decide)
  have hF := hF.sR (k := 56) (j := 21) (r := 64) (by decide) (by decide)
  have hF := hF.sR (k := 56) (j := 22) (r := 65) (by decide) (by decide)
  have hF := hF.sR (k := 56) (j := 23) (r := 66) (by decide) (by decide)
  have hF := hF.sR (k := 56) (j := 24) (r := 67) (by decide) (by decide)
  have hF := hF.sR (k := 56) (j := 25) (r := 68) (by decide) (by decide)
  have hF := hF.sR (k := 56) (j := 26) (r := 69) (by decide) (by decide)
  have hF := hF.sR (k := 56) (j := 28) (r := 70) (by decide) (by decide)
  have hF := hF.sR (k := 56) (j := 29) (r := 71) (by decide) (by decide)
  have hF := hF.sR (k := 56) (j := 30) (r := 72) (by decide) (by decide)
  have hF := hF.sR (k := 56) (j := 31) (r := 73) (by decide) (by decide)
  have hF := hF.sR (k := 56) (j := 32) (r := 74) (by decide) (by decide)
  have hF := hF.sR (k := 56) (j := 33) (r := 75) (by decide) (by decide)
  have hF := hF.sR (k := 56) (j := 34) (r := 76) (by decide) (by decide)
  have hF := hF.sR (k := 56) (j := 35) (r := 77) (by decide) (by decide)
  have hF := hF.sR (k := 56) (j := 36) (r := 78) (by decide) (by decide)
  have hF := hF.sR (k := 56) (j := 37) (r := 79) (by decide) (by decide)
  have hF := hF.sR (k := 56) (j := 38) (r := 80) (by decide) (by decide)
  have hF := hF.sR (k := 56) (j := 39) (r := 81) (by decide) (by decide)
  have hF := hF.sR (k := 56) (j := 40) (r := 82) (by decide) (by decide)
  have hF := hF.sR (k := 56) (j := 42) (r := 83) (by decide) (by decide)
  have hF := hF.sR (k := 56) (j := 43) (r := 84) (by decide) (by decide)
  have hF := hF.sR (k := 56) (j := 44) (r := 85) (by decide) (by decide)
  have hF := hF.sR (k := 56) (j := 45) (r := 86) (by decide) (by decide)
  have hF := hF.sR (k := 56) (j := 46) (r := 87) (by decide) (by decide)
  have hF := hF.sR (k := 56) (j := 47) (r := 88) (by decide) (by decide)
  have hF := hF.sR (k := 56) (j := 49) (r := 89) (by decide) (by decide)
  have hF := hF.sR (k := 56) (j := 50) (r := 90) (by decide) (by decide)
  have hF := hF.sR (k := 56) (j := 52) (r := 91) (by decide) (by decide)
  have hF := hF.sR (k := 56) (j := 53) (r := 92) (by decide) (by decide)
  have hF := hF.sR (k := 56) (j := 55) (r := 93) (by decide) (by decide)
  have hF := hF.sR (k := 56) (j := 56) (r := 94) (by decide) (by decide)
  have hF := hF.sR (k := 56) (j := 57) (r := 95) (by decide) (by decide)
  have hF := hF.sR (k := 56) (j := 62) (r := 96) (by decide) (by decide)
  have hF := hF.sR (k := 56) (j := 63) (r := 97) (by decide) (by decide)
  have hF := hF.sR (k := 56) (j := 64) (r := 98) (by decide) (by decide)
  have hF := hF.sR (k := 56) (j := 68) (r := 99) (by decide) (by decide)
  have hF := hF.sR (k := 56) (j := 69) (r := 100) (by decide) (by decide)
  have hF := hF.sR (k := 56) (j := 70) (r := 101) (by decide) (by decide)
  have hF := hF.sR (k := 56) (j := 72) (r := 102) (by decide) (by decide)
  have hF := hF.sR (k := 56) (j := 73) (r := 103) (by decide) (by decide)
  have hF := hF.sR (k := 56) (j := 74) (r := 104) (by decide) (by decide)
  have hF := hF.sR (k := 56) (j := 75) (r := 105) (by decide) (by decide)
  have hF := hF.sR (k := 56) (j := 76) (r := 106) (by decide) (by decide)
  have hF := hF.sR (k := 56) (j := 77) (r := 107) (by decide) (by decide)
  have hF := hF.sR (k := 56) (j := 78) (r := 108) (by decide) (by decide)
  have hF := hF.sR (k := 56) (j := 80) (r := 109) (by decide) (by decide)
  have hF := hF.sR (k := 56) (j := 81) (r := 110) (by decide) (by decide)
  have hF := hF.sR (k := 56) (j := 82) (r := 111) (by decide) (by decide)
  have hF := hF.sR (k := 56) (j := 83) (r := 112) (by decide) (by decide)
  have hF := hF.sR (k := 56) (j := 85) (r := 113) (by decide) (by decide)
  have hF := hF.sR (k := 56) (j := 86) (r := 114) (by decide) (by decide)
  have hF := hF.sR (k := 56) (j := 87) (r := 115) (by decide) (by decide)
  have hF := hF.sR (k := 56) (j := 88) (r := 116) (by decide) (by decide)
  have hF := hF.sR (k := 56) (j := 89) (r := 117) (by decide) (by decide)
  have hF := hF.sR (k := 56) (j := 90) (r := 118) (by decide) (by decide)
  have hF := hF.sR (k := 56) (j := 91) (r := 119) (by decide) (by decide)
  have hF := hF.sI (k := 66) (j := 0) (v := (24)) (by decide)
  have hF := hF.sI (k := 77) (j := 0) (v := (-1)) (by decide)
  have hF := hF.sI (k := 79) (j := 0) (v := (-1)) (by decide)
  have hF := hF.sI (k := 56) (j := 58) (v := (-1)) (by decide)
  have hF := hF.sJ (k := 63) (j := 0) (v := (wdV 112 97 114 116 115 0 0)) (by decide)
  have hF := hF.sJ (k := 63) (j := 1) (v := (wdV 108 97 119 0 0 0 0)) (by decide)
  have hF := hF.sJ (k := 63) (j := 2) (v := (wdV 105 102 0 0 0 0 0)) (by decide)
  have hF := hF.sJ (k := 63) (j := 3) (v := (wdV 116 104 101 110 0 0 0)) (by decide)
  have hF := hF.sJ (k := 63) (j := 4) (v := (wdV 101 108 115 101 0 0 0)) (by decide)
  have hF := hF.sJ (k := 63) (j := 5) (v := (wdV 109 97 110 0 0 0 0)) (by decide)
  have hF := hF.sJ (k := 63) (j := 6) (v := (wdV 100 114 117 109 0 0 0)) (by decide)
  have hF := hF.sJ (k := 63) (j := 7) (v := (wdV 115 111 110 103 0 0 0)) (by decide)
  have hF := hF.sJ (k := 63) (j := 8) (v := (wdV 102 111 103 0 0 0 0)) (by decide)
  have hF := hF.sJ (k := 63) (j := 9) (v := (wdV 111 114 0 0 0 0 0)) (by decide)
  have hF := hF.sJ (k := 63) (j := 10) (v := (wdV 97 110 100 0 0 0 0)) (by decide)
  have hF := hF.sJ (k := 63) (j := 11) (v := (wdV 110 111 116 0 0 0 0)) (by decide)
  have hF := hF.sJ (k := 63) (j := 12) (v := (wdV 111 119 110 0 0 0 0)) (by decide)
  have hF := hF.sJ (k := 63) (j := 13) (v := (wdV 97 104 101 97 100 0 0)) (by decide)
  have hF := hF.sJ (k := 63) (j := 14) (v := (wdV 116 119 111 0 0 0 0)) (by decide)
  have hF := hF.sJ (k := 63) (j := 15) (v := (wdV 98 101 110 99 104 0 0)) (by decide)
  have hF := hF.sJ (k := 63) (j := 16) (v := (wdV 103 97 112 0 0 0 0)) (by decide)
  exact hF
set_option maxHeartbeats 40000000 in
set_option maxRecDepth 100000 in
theorem ct_X12_init {T : List Dsc} {μ : Mem} (hn : T.length = 57) (hT : T[56]? = some (.inl 11)) (hF : Frs μ 57) : CtA 3 yX12_init cX12_init 1 none T μ [.ref 56] none (TM T) (muM μ) 63 58157 := by
  refine CtA.ofV (by decide +kernel) (Nat.le_of_ble_eq_true rfl) (fun X hX hN hO hQ => ?_)
  refine Wp.lo' (lo' := [(0, .ref 56)]) [0] rfl ?_
  rw [hn] at hO
  refine Wp.aload_n (pc := 0) 0 rfl rfl dX12_init_0 ?_
  refine Wp.objI (pc := 1) oi_RX12 (hX.le (Nat.le_refl _) (by decide) (by decide)) (by decide) (by decide) dX12_init_1 ?_
  refine Wp.aload_n (pc := 4) 0 rfl rfl dX12_init_4 ?_
  refine Wp.sipush (pc := 5) (2000 : Int32) (by decide) dX12_init_5 ?_
  refine Wp.newA1 (pc := 8) (N := 2000) (atype := .byte) (ty := .byte) hn hF hO (hX.le (Nat.le_refl _) (by decide) (by decide)) (vbc (vbr (by omega)) vbn) (lbc (vbr (by omega)) lbn) ar_byte rfl (Or.inl rfl) (by decide) (by decide) (by decide) dX12_init_8 ?_
  have hT := tapp (L := ([.inr (.byte, 2000)] : List Dsc)) hT
  have hn : _ = 58 := tlen1 (d := (.inr (.byte, 2000) : Dsc)) hn
  have hO := hO.up (show 57 ≤ 58 by decide)
  have hF := hF.up (show 57 ≤ 58 by decide)
  refine Wp.putFR (pc := 10) hN hT nk_RX12_13 nf_RX12_11_1 rfl dX12_init_10 ?_
  have hF := hF.sR (k := 56) (j := 1) (r := 57) (by decide) (by decide)
  refine Wp.aload_n (pc := 13) 0 rfl rfl dX12_init_13 ?_
  refine Wp.sipush (pc := 14) (2000 : Int32) (by decide) dX12_init_14 ?_
  refine Wp.newA1 (pc := 17) (N := 2000) (atype := .byte) (ty := .byte) hn hF hO (hX.le (Nat.le_refl _) (by decide) (by decide)) (vbc (vbr (by omega)) vbn) (lbc (vbr (by omega)) lbn) ar_byte rfl (Or.inl rfl) (by decide) (by decide) (by decide) dX12_init_17 ?_
  have hT := tapp (L := ([.inr (.byte, 2000)] : List Dsc)) hT
  have hn : _ = 59 := tlen1 (d := (.inr (.byte, 2000) : Dsc)) hn
  have hO := hO.up (show 58 ≤ 59 by decide)
  have hF := hF.up (show 58 ≤ 59 by decide)
  refine Wp.putFR (pc := 19) hN hT nk_RX12_17 nf_RX12_11_3 rfl dX12_init_19 ?_
  have hF := hF.sR (k := 56) (j := 3) (r := 58) (by decide) (by decide)
  refine Wp.aload_n (pc := 22) 0 rfl rfl dX12_init_22 ?_
  refine Wp.sipush (pc := 23) (403 : Int32) (by decide) dX12_init_23 ?_
  refine Wp.newA1 (pc := 26) (N := 403) (atype := .int) (ty := .int) hn hF hO (hX.le (Nat.le_refl _) (by decide) (by decide)) (vbc (vbr (by omega)) vbn) (lbc (vbr (by omega)) lbn) ar_int rfl (Or.inl rfl) (by decide) (by decide) (by decide) dX12_init_26 ?_
  have hT := tapp (L := ([.inr (.int, 403)] : List Dsc)) hT
  have hn : _ = 60 := tlen1 (d := (.inr (.int, 403) : Dsc)) hn
  have hO := hO.up (show 59 ≤ 60 by decide)
  have hF := hF.up (show 59 ≤ 60 by decide)
  refine Wp.putFR (pc := 28) hN hT nk_RX12_20 nf_RX12_11_5 rfl dX12_init_28 ?_
  have hF := hF.sR (k := 56) (j := 5) (r := 59) (by decide) (by decide)
  refine Wp.aload_n (pc := 31) 0 rfl rfl dX12_init_31 ?_
  refine Wp.sipush (pc := 32) (403 : Int32) (by decide) dX12_init_32 ?_
  refine Wp.newA1 (pc := 35) (N := 403) (atype := .int) (ty := .int) hn hF hO (hX.le (Nat.le_refl _) (by decide) (by decide)) (vbc (vbr (by omega)) vbn) (lbc (vbr (by omega)) lbn) ar_int rfl (Or.inl rfl) (by decide) (by decide) (by decide) dX12_init_35 ?_
  have hT := tapp (L := ([.inr (.int, 403)] : List Dsc)) hT
  have hn : _ = 61 := tlen1 (d := (.inr (.int, 403) : Dsc)) hn
  have hO := hO.up (show 60 ≤ 61 by decide)
  have hF := hF.up (show 60 ≤ 61 by decide)
  refine Wp.putFR (pc := 37) hN hT nk_RX12_24 nf_RX12_11_6 rfl dX12_init_37 ?_
  have hF := hF.sR (k := 56) (j := 6) (r := 60) (by decide) (by decide)
  refine Wp.aload_n (pc := 40) 0 rfl rfl dX12_init_40 ?_
  refine Wp.sipush (pc := 41) (403 : Int32) (by decide) dX12_init_41 ?_
  refine Wp.newA1 (pc := 44) (N := 403) (atype := .int) (ty := .int) hn hF hO (hX.le (Nat.le_refl _) (by decide) (by decide)) (vbc (vbr (by omega)) vbn) (lbc (vbr (by omega)) lbn) ar_int rfl (Or.inl rfl) (by decide) (by decide) (by decide) dX12_init_44 ?_
  have hT := tapp (L := ([.inr (.int, 403)] : List Dsc)) hT
  have hn : _ = 62 := tlen1 (d := (.inr (.int, 403) : Dsc)) hn
  have hO := hO.up (show 61 ≤ 62 by decide)
  have hF := hF.up (show 61 ≤ 62 by decide)
  refine Wp.putFR (pc := 46) hN hT nk_RX12_27 nf_RX12_11_7 rfl dX12_init_46 ?_
  have hF := hF.sR (k := 56) (j := 7) (r := 61) (by decide) (by decide)
  refine Wp.aload_n (pc := 49) 0 rfl rfl dX12_init_49 ?_
  refine Wp.sipush (pc := 50) (403 : Int32) (by decide) dX12_init_50 ?_
  refine Wp.newA1 (pc := 53) (N := 403) (atype := .long) (ty := .long) hn hF hO (hX.le (Nat.le_refl _) (by decide) (by decide)) (vbc (vbr (by omega)) vbn) (lbc (vbr (by omega)) lbn) ar_long rfl (Or.inr rfl) (by decide) (by decide) (by decide) dX12_init_53 ?_
  have hT := tapp (L := ([.inr (.long, 403)] : List Dsc)) hT
  have hn : _ = 63 := tlen1 (d := (.inr (.long, 403) : Dsc)) hn
  have hO := hO.up (show 62 ≤ 63 by decide)
  have hF := hF.up (show 62 ≤ 63 by decide)
  refine Wp.putFR (pc := 55) hN hT nk_RX12_30 nf_RX12_11_8 rfl dX12_init_55 ?_
  have hF := hF.sR (k := 56) (j := 8) (r := 62) (by decide) (by decide)
  refine Wp.aload_n (pc := 58) 0 rfl rfl dX12_init_58 ?_
  refine Wp.bipush (pc := 59) (17 : Int32) (by decide) dX12_init_59 ?_
  refine Wp.newA1 (pc := 61) (N := 17) (atype := .long) (ty := .long) hn hF hO (hX.le (Nat.le_refl _) (by decide) (by decide)) (vbc (vbr (by omega)) vbn) (lbc (vbr (by omega)) lbn) ar_long rfl (Or.inr rfl) (by decide) (by decide) (by decide) dX12_init_61 ?_
  have hA63 := tnew (d := (.inr (.long, 17) : Dsc)) hn
  have hT := tapp (L := ([.inr (.long, 17)] : List Dsc)) hT
  have hn : _ = 64 := tlen1 (d := (.inr (.long, 17) : Dsc)) hn
  have hO := hO.up (show 63 ≤ 64 by decide)
  have hF := hF.up (show 63 ≤ 64 by decide)
  refine Wp.putFR (pc := 63) hN hT nk_RX12_34 nf_RX12_11_9 rfl dX12_init_63 ?_
  have hF := hF.sR (k := 56) (j := 9) (r := 63) (by decide) (by decide)
  refine Wp.aload_n (pc := 66) 0 rfl rfl dX12_init_66 ?_
  refine Wp.iconst (pc := 67) (-1 : Int32) (by decide) dX12_init_67 ?_
  refine Wp.putI (pc := 68) hT nk_RX12_37 nf_RX12_11_17 rfl dX12_init_68 ?_
  have hF := hF.sI (k := 56) (j := 17) (v := (-1)) (by decide)
  refine Wp.aload_n (pc := 71) 0 rfl rfl dX12_init_71 ?_
  refine Wp.bipush (pc := 72) (20 : Int32) (by decide) dX12_init_72 ?_
  refine Wp.newA1 (pc := 74) (N := 20) (atype := .long) (ty := .long) hn hF hO (hX.le (Nat.le_refl _) (by decide) (by decide)) (vbc (vbr (by omega)) vbn) (lbc (vbr (by omega)) lbn) ar_long rfl (Or.inr rfl) (by decide) (by decide) (by decide) dX12_init_74 ?_
  have hA63 := tapp (L := ([.inr (.long, 20)] : List Dsc)) hA63
  have hT := tapp (L := ([.inr (.long, 20)] : List Dsc)) hT
  have hn : _ = 65 := tlen1 (d := (.inr (.long, 20) : Dsc)) hn
  have hO := hO.up (show 64 ≤ 65 by decide)
  have hF := hF.up (show 64 ≤ 65 by decide)
  refine Wp.putFR (pc := 76) hN hT nk_RX12_40 nf_RX12_11_21 rfl dX12_init_76 ?_
  have hF := hF.sR (k := 56) (j := 21) (r := 64) (by decide) (by decide)
  refine Wp.aload_n (pc := 79) 0 rfl rfl dX12_init_79 ?_
  refine Wp.bipush (pc := 80) (20 : Int32) (by decide) dX12_init_80 ?_
  refine Wp.newA1 (pc := 82) (N := 20) (atype := .int) (ty := .int) hn hF hO (hX.le (Nat.le_refl _) (by decide) (by decide)) (vbc (vbr (by omega)) vbn) (lbc (vbr (by omega)) lbn) ar_int rfl (Or.inl rfl) (by decide) (by decide) (by decide) dX12_init_82 ?_
  have hA63 := tapp (L := ([.inr (.int, 20)] : List Dsc)) hA63
  have hT := tapp (L := ([.inr (.int, 20)] : List Dsc)) hT
  have hn : _ = 66 := tlen1 (d := (.inr (.int, 20) : Dsc)) hn
  have hO := hO.up (show 65 ≤ 66 by decide)
  have hF := hF.up (show 65 ≤ 66 by decide)
  refine Wp.putFR (pc := 84) hN hT nk_RX12_43 nf_RX12_11_22 rfl dX12_init_84 ?_
  have hF := hF.sR (k := 56) (j := 22) (r := 65) (by decide) (by decide)
  refine Wp.aload_n (pc := 87) 0 rfl rfl dX12_init_87 ?_
  refine Wp.iconst (pc := 88) (2 : Int32) (by decide) dX12_init_88 ?_
  refine Wp.newA1 (pc := 89) (N := 2) (atype := .int) (ty := .int) hn hF hO (hX.le (Nat.le_refl _) (by decide) (by decide)) (vbc (vbr (by omega)) vbn) (lbc (vbr (by omega)) lbn) ar_int rfl (Or.inl rfl) (by decide) (by decide) (by decide) dX12_init_89 ?_
  have hA63 := tapp (L := ([.inr (.int, 2)] : List Dsc)) hA63
  have hA66 := tnew (d := (.inr (.int, 2) : Dsc)) hn
  have hT := tapp (L := ([.inr (.int, 2)] : List Dsc)) hT
  have hn : _ = 67 := tlen1 (d := (.inr (.int, 2) : Dsc)) hn
  have hO := hO.up (show 66 ≤ 67 by decide)
  have hF := hF.up (show 66 ≤ 67 by decide)
  refine Wp.putFR (pc := 91) hN hT nk_RX12_46 nf_RX12_11_23 rfl dX12_init_91 ?_
  have hF := hF.sR (k := 56) (j := 23) (r := 66) (by decide) (by decide)
  refine Wp.aload_n (pc := 94) 0 rfl rfl dX12_init_94 ?_
  refine Wp.iconst (pc := 95) (2 : Int32) (by decide) dX12_init_95 ?_
  refine Wp.newA1 (pc := 96) (N := 2) (atype := .int) (ty := .int) hn hF hO (hX.le (Nat.le_refl _) (by decide) (by decide)) (vbc (vbr (by omega)) vbn) (lbc (vbr (by omega)) lbn) ar_int rfl (Or.inl rfl) (by decide) (by decide) (by decide) dX12_init_96 ?_
  have hA63 := tapp (L := ([.inr (.int, 2)] : List Dsc)) hA63
  have hA66 := tapp (L := ([.inr (.int, 2)] : List Dsc)) hA66
  have hT := tapp (L := ([.inr (.int, 2)] : List Dsc)) hT
  have hn : _ = 68 := tlen1 (d := (.inr (.int, 2) : Dsc)) hn
  have hO := hO.up (show 67 ≤ 68 by decide)
  have hF := hF.up (show 67 ≤ 68 by decide)
  refine Wp.putFR (pc := 98) hN hT nk_RX12_49 nf_RX12_11_24 rfl dX12_init_98 ?_
  have hF := hF.sR (k := 56) (j := 24) (r := 67) (by decide) (by decide)
  refine Wp.aload_n (pc := 101) 0 rfl rfl dX12_init_101 ?_
  refine Wp.bipush (pc := 102) (12 : Int32) (by decide) dX12_init_102 ?_
  refine Wp.newA1 (pc := 104) (N := 12) (atype := .int) (ty := .int) hn hF hO (hX.le (Nat.le_refl _) (by decide) (by decide)) (vbc (vbr (by omega)) vbn) (lbc (vbr (by omega)) lbn) ar_int rfl (Or.inl rfl) (by decide) (by decide) (by decide) dX12_init_104 ?_
  have hA63 := tapp (L := ([.inr (.int, 12)] : List Dsc)) hA63
  have hA66 := tapp (L := ([.inr (.int, 12)] : List Dsc)) hA66
  have hT := tapp (L := ([.inr (.int, 12)] : List Dsc)) hT
  have hn : _ = 69 := tlen1 (d := (.inr (.int, 12) : Dsc)) hn
  have hO := hO.up (show 68 ≤ 69 by decide)
  have hF := hF.up (show 68 ≤ 69 by decide)
  refine Wp.putFR (pc := 106) hN hT nk_RX12_52 nf_RX12_11_25 rfl dX12_init_106 ?_
  have hF := hF.sR (k := 56) (j := 25) (r := 68) (by decide) (by decide)
  refine Wp.aload_n (pc := 109) 0 rfl rfl dX12_init_109 ?_
  refine Wp.bipush (pc := 110) (12 : Int32) (by decide) dX12_init_110 ?_
  refine Wp.newA1 (pc := 112) (N := 12) (atype := .int) (ty := .int) hn hF hO (hX.le (Nat.le_refl _) (by decide) (by decide)) (vbc (vbr (by omega)) vbn) (lbc (vbr (by omega)) lbn) ar_int rfl (Or.inl rfl) (by decide) (by decide) (by decide) dX12_init_112 ?_
  have hA63 := tapp (L := ([.inr (.int, 12)] : List Dsc)) hA63
  have hA66 := tapp (L := ([.inr (.int, 12)] : List Dsc)) hA66
  have hT := tapp (L := ([.inr (.int, 12)] : List Dsc)) hT
  have hn : _ = 70 := tlen1 (d := (.inr (.int, 12) : Dsc)) hn
  have hO := hO.up (show 69 ≤ 70 by decide)
  have hF := hF.up (show 69 ≤ 70 by decide)
  refine Wp.putFR (pc := 114) hN hT nk_RX12_55 nf_RX12_11_26 rfl dX12_init_114 ?_
  have hF := hF.sR (k := 56) (j := 26) (r := 69) (by decide) (by decide)
  refine Wp.aload_n (pc := 117) 0 rfl rfl dX12_init_117 ?_
  refine Wp.bipush (pc := 118) (108 : Int32) (by decide) dX12_init_118 ?_
  refine Wp.newA1 (pc := 120) (N := 108) (atype := .int) (ty := .int) hn hF hO (hX.le (Nat.le_refl _) (by decide) (by decide)) (vbc (vbr (by omega)) vbn) (lbc (vbr (by omega)) lbn) ar_int rfl (Or.inl rfl) (by decide) (by decide) (by decide) dX12_init_120 ?_
  have hA63 := tapp (L := ([.inr (.int, 108)] : List Dsc)) hA63
  have hA66 := tapp (L := ([.inr (.int, 108)] : List Dsc)) hA66
  have hT := tapp (L := ([.inr (.int, 108)] : List Dsc)) hT
  have hn : _ = 71 := tlen1 (d := (.inr (.int, 108) : Dsc)) hn
  have hO := hO.up (show 70 ≤ 71 by decide)
  have hF := hF.up (show 70 ≤ 71 by decide)
  refine Wp.putFR (pc := 122) hN hT nk_RX12_58 nf_RX12_11_28 rfl dX12_init_122 ?_
  have hF := hF.sR (k := 56) (j := 28) (r := 70) (by decide) (by decide)
  refine Wp.aload_n (pc := 125) 0 rfl rfl dX12_init_125 ?_
  refine Wp.bipush (pc := 126) (108 : Int32) (by decide) dX12_init_126 ?_
  refine Wp.newA1 (pc := 128) (N := 108) (atype := .int) (ty := .int) hn hF hO (hX.le (Nat.le_refl _) (by decide) (by decide)) (vbc (vbr (by omega)) vbn) (lbc (vbr (by omega)) lbn) ar_int rfl (Or.inl rfl) (by decide) (by decide) (by decide) dX12_init_128 ?_
  have hA63 := tapp (L := ([.inr (.int, 108)] : List Dsc)) hA63
  have hA66 := tapp (L := ([.inr (.int, 108)] : List Dsc)) hA66
  have hT := tapp (L := ([.inr (.int, 108)] : List Dsc)) hT
  have hn : _ = 72 := tlen1 (d := (.inr (.int, 108) : Dsc)) hn
  have hO := hO.up (show 71 ≤ 72 by decide)
  have hF := hF.up (show 71 ≤ 72 by decide)
  refine Wp.putFR (pc := 130) hN hT nk_RX12_61 nf_RX12_11_29 rfl dX12_init_130 ?_
  have hF := hF.sR (k := 56) (j := 29) (r := 71) (by decide) (by decide)
  refine Wp.aload_n (pc := 133) 0 rfl rfl dX12_init_133 ?_
  refine Wp.bipush (pc := 134) (108 : Int32) (by decide) dX12_init_134 ?_
  refine Wp.newA1 (pc := 136) (N := 108) (atype := .int) (ty := .int) hn hF hO (hX.le (Nat.le_refl _) (by decide) (by decide)) (vbc (vbr (by omega)) vbn) (lbc (vbr (by omega)) lbn) ar_int rfl (Or.inl rfl) (by decide) (by decide) (by decide) dX12_init_136 ?_
  have hA63 := tapp (L := ([.inr (.int, 108)] : List Dsc)) hA63
  have hA66 := tapp (L := ([.inr (.int, 108)] : List Dsc)) hA66
  have hT := tapp (L := ([.inr (.int, 108)] : List Dsc)) hT
  have hn : _ = 73 := tlen1 (d := (.inr (.int, 108) : Dsc)) hn
  have hO := hO.up (show 72 ≤ 73 by decide)
  have hF := hF.up (show 72 ≤ 73 by decide)
  refine Wp.putFR (pc := 138) hN hT nk_RX12_64 nf_RX12_11_30 rfl dX12_init_138 ?_
  have hF := hF.sR (k := 56) (j := 30) (r := 72) (by decide) (by decide)
  refine Wp.aload_n (pc := 141) 0 rfl rfl dX12_init_141 ?_
  refine Wp.bipush (pc := 142) (108 : Int32) (by decide) dX12_init_142 ?_
  refine Wp.newA1 (pc := 144) (N := 108) (atype := .int) (ty := .int) hn hF hO (hX.le (Nat.le_refl _) (by decide) (by decide)) (vbc (vbr (by omega)) vbn) (lbc (vbr (by omega)) lbn) ar_int rfl (Or.inl rfl) (by decide) (by decide) (by decide) dX12_init_144 ?_
  have hA63 := tapp (L := ([.inr (.int, 108)] : List Dsc)) hA63
  have hA66 := tapp (L := ([.inr (.int, 108)] : List Dsc)) hA66
  have hT := tapp (L := ([.inr (.int, 108)] : List Dsc)) hT
  have hn : _ = 74 := tlen1 (d := (.inr (.int, 108) : Dsc)) hn
  have hO := hO.up (show 73 ≤ 74 by decide)
  have hF := hF.up (show 73 ≤ 74 by decide)
  refine Wp.putFR (pc := 146) hN hT nk_RX12_67 nf_RX12_11_31 rfl dX12_init_146 ?_
  have hF := hF.sR (k := 56) (j := 31) (r := 73) (by decide) (by decide)
  refine Wp.aload_n (pc := 149) 0 rfl rfl dX12_init_149 ?_
  refine Wp.iconst (pc := 150) (2 : Int32) (by decide) dX12_init_150 ?_
  refine Wp.newA1 (pc := 151) (N := 2) (atype := .int) (ty := .int) hn hF hO (hX.le (Nat.le_refl _) (by decide) (by decide)) (vbc (vbr (by omega)) vbn) (lbc (vbr (by omega)) lbn) ar_int rfl (Or.inl rfl) (by decide) (by decide) (by decide) dX12_init_151 ?_
  have hA63 := tapp (L := ([.inr (.int, 2)] : List Dsc)) hA63
  have hA66 := tapp (L := ([.inr (.int, 2)] : List Dsc)) hA66
  have hT := tapp (L := ([.inr (.int, 2)] : List Dsc)) hT
  have hn : _ = 75 := tlen1 (d := (.inr (.int, 2) : Dsc)) hn
  have hO := hO.up (show 74 ≤ 75 by decide)
  have hF := hF.up (show 74 ≤ 75 by decide)
  refine Wp.putFR (pc := 153) hN hT nk_RX12_70 nf_RX12_11_32 rfl dX12_init_153 ?_
  have hF := hF.sR (k := 56) (j := 32) (r := 74) (by decide) (by decide)
  refine Wp.aload_n (pc := 156) 0 rfl rfl dX12_init_156 ?_
  refine Wp.bipush (pc := 157) (24 : Int32) (by decide) dX12_init_157 ?_
  refine Wp.newA1 (pc := 159) (N := 24) (atype := .int) (ty := .int) hn hF hO (hX.le (Nat.le_refl _) (by decide) (by decide)) (vbc (vbr (by omega)) vbn) (lbc (vbr (by omega)) lbn) ar_int rfl (Or.inl rfl) (by decide) (by decide) (by decide) dX12_init_159 ?_
  have hA63 := tapp (L := ([.inr (.int, 24)] : List Dsc)) hA63
  have hA66 := tapp (L := ([.inr (.int, 24)] : List Dsc)) hA66
  have hT := tapp (L := ([.inr (.int, 24)] : List Dsc)) hT
  have hn : _ = 76 := tlen1 (d := (.inr (.int, 24) : Dsc)) hn
  have hO := hO.up (show 75 ≤ 76 by decide)
  have hF := hF.up (show 75 ≤ 76 by decide)
  refine Wp.putFR (pc := 161) hN hT nk_RX12_73 nf_RX12_11_33 rfl dX12_init_161 ?_
  have hF := hF.sR (k := 56) (j := 33) (r := 75) (by decide) (by decide)
  refine Wp.aload_n (pc := 164) 0 rfl rfl dX12_init_164 ?_
  refine Wp.bipush (pc := 165) (24 : Int32) (by decide) dX12_init_165 ?_
  refine Wp.newA1 (pc := 167) (N := 24) (atype := .int) (ty := .int) hn hF hO (hX.le (Nat.le_refl _) (by decide) (by decide)) (vbc (vbr (by omega)) vbn) (lbc (vbr (by omega)) lbn) ar_int rfl (Or.inl rfl) (by decide) (by decide) (by decide) dX12_init_167 ?_
  have hA63 := tapp (L := ([.inr (.int, 24)] : List Dsc)) hA63
  have hA66 := tapp (L := ([.inr (.int, 24)] : List Dsc)) hA66
  have hT := tapp (L := ([.inr (.int, 24)] : List Dsc)) hT
  have hn : _ = 77 := tlen1 (d := (.inr (.int, 24) : Dsc)) hn
  have hO := hO.up (show 76 ≤ 77 by decide)
  have hF := hF.up (show 76 ≤ 77 by decide)
  refine Wp.putFR (pc := 169) hN hT nk_RX12_76 nf_RX12_11_34 rfl dX12_init_169 ?_
  have hF := hF.sR (k := 56) (j := 34) (r := 76) (by decide) (by decide)
  refine Wp.aload_n (pc := 172) 0 rfl rfl dX12_init_172 ?_
  refine Wp.iconst (pc := 173) (2 : Int32) (by decide) dX12_init_173 ?_
  refine Wp.newA1 (pc := 174) (N := 2) (atype := .int) (ty := .int) hn hF hO (hX.le (Nat.le_refl _) (by decide) (by decide)) (vbc (vbr (by omega)) vbn) (lbc (vbr (by omega)) lbn) ar_int rfl (Or.inl rfl) (by decide) (by decide) (by decide) dX12_init_174 ?_
  have hA63 := tapp (L := ([.inr (.int, 2)] : List Dsc)) hA63
  have hA66 := tapp (L := ([.inr (.int, 2)] : List Dsc)) hA66
  have hA77 := tnew (d := (.inr (.int, 2) : Dsc)) hn
  have hT := tapp (L := ([.inr (.int, 2)] : List Dsc)) hT
  have hn : _ = 78 := tlen1 (d := (.inr (.int, 2) : Dsc)) hn
  have hO := hO.up (show 77 ≤ 78 by decide)
  have hF := hF.up (show 77 ≤ 78 by decide)
  refine Wp.putFR (pc := 176) hN hT nk_RX12_79 nf_RX12_11_35 rfl dX12_init_176 ?_
  have hF := hF.sR (k := 56) (j := 35) (r := 77) (by decide) (by decide)
  refine Wp.aload_n (pc := 179) 0 rfl rfl dX12_init_179 ?_
  refine Wp.iconst (pc := 180) (2 : Int32) (by decide) dX12_init_180 ?_
  refine Wp.newA1 (pc := 181) (N := 2) (atype := .int) (ty := .int) hn hF hO (hX.le (Nat.le_refl _) (by decide) (by decide)) (vbc (vbr (by omega)) vbn) (lbc (vbr (by omega)) lbn) ar_int rfl (Or.inl rfl) (by decide) (by decide) (by decide) dX12_init_181 ?_
  have hA63 := tapp (L := ([.inr (.int, 2)] : List Dsc)) hA63
  have hA66 := tapp (L := ([.inr (.int, 2)] : List Dsc)) hA66
  have hA77 := tapp (L := ([.inr (.int, 2)] : List Dsc)) hA77
  have hT := tapp (L := ([.inr (.int, 2)] : List Dsc)) hT
  have hn : _ = 79 := tlen1 (d := (.inr (.int, 2) : Dsc)) hn
  have hO := hO.up (show 78 ≤ 79 by decide)
  have hF := hF.up (show 78 ≤ 79 by decide)
  refine Wp.putFR (pc := 183) hN hT nk_RX12_82 nf_RX12_11_36 rfl dX12_init_183 ?_
  have hF := hF.sR (k := 56) (j := 36) (r := 78) (by decide) (by decide)
  refine Wp.aload_n (pc := 186) 0 rfl rfl dX12_init_186 ?_
  refine Wp.iconst (pc := 187) (2 : Int32) (by decide) dX12_init_187 ?_
  refine Wp.newA1 (pc := 188) (N := 2) (atype := .int) (ty := .int) hn hF hO (hX.le (Nat.le_refl _) (by decide) (by decide)) (vbc (vbr (by omega)) vbn) (lbc (vbr (by omega)) lbn) ar_int rfl (Or.inl rfl) (by decide) (by decide) (by decide) dX12_init_188 ?_
  have hA63 := tapp (L := ([.inr (.int, 2)] : List Dsc)) hA63
  have hA66 := tapp (L := ([.inr (.int, 2)] : List Dsc)) hA66
  have hA77 := tapp (L := ([.inr (.int, 2)] : List Dsc)) hA77
  have hA79 := tnew (d := (.inr (.int, 2) : Dsc)) hn
  have hT := tapp (L := ([.inr (.int, 2)] : List Dsc)) hT
  have hn : _ = 80 := tlen1 (d := (.inr (.int, 2) : Dsc)) hn
  have hO := hO.up (show 79 ≤ 80 by decide)
  have hF := hF.up (show 79 ≤ 80 by decide)
  refine Wp.putFR (pc := 190) hN hT nk_RX12_85 nf_RX12_11_37 rfl dX12_init_190 ?_
  have hF := hF.sR (k := 56) (j := 37) (r := 79) (by decide) (by decide)
  refine Wp.aload_n (pc := 193) 0 rfl rfl dX12_init_193 ?_
  refine Wp.iconst (pc := 194) (2 : Int32) (by decide) dX12_init_194 ?_
  refine Wp.newA1 (pc := 195) (N := 2) (atype := .int) (ty := .int) hn hF hO (hX.le (Nat.le_refl _) (by decide) (by decide)) (vbc (vbr (by omega)) vbn) (lbc (vbr (by omega)) lbn) ar_int rfl (Or.inl rfl) (by decide) (by decide) (by decide) dX12_init_195 ?_
  have hA63 := tapp (L := ([.inr (.int, 2)] : List Dsc)) hA63
  have hA66 := tapp (L := ([.inr (.int, 2)] : List Dsc)) hA66
  have hA77 := tapp (L := ([.inr (.int, 2)] : List Dsc)) hA77
  have hA79 := tapp (L := ([.inr (.int, 2)] : List Dsc)) hA79
  have hT := tapp (L := ([.inr (.int, 2)] : List Dsc)) hT
  have hn : _ = 81 := tlen1 (d := (.inr (.int, 2) : Dsc)) hn
  have hO := hO.up (show 80 ≤ 81 by decide)
  have hF := hF.up (show 80 ≤ 81 by decide)
  refine Wp.putFR (pc := 197) hN hT nk_RX12_88 nf_RX12_11_38 rfl dX12_init_197 ?_
  have hF := hF.sR (k := 56) (j := 38) (r := 80) (by decide) (by decide)
  refine Wp.aload_n (pc := 200) 0 rfl rfl dX12_init_200 ?_
  refine Wp.bipush (pc := 201) (8 : Int32) (by decide) dX12_init_201 ?_
  refine Wp.newA1 (pc := 203) (N := 8) (atype := .int) (ty := .int) hn hF hO (hX.le (Nat.le_refl _) (by decide) (by decide)) (vbc (vbr (by omega)) vbn) (lbc (vbr (by omega)) lbn) ar_int rfl (Or.inl rfl) (by decide) (by decide) (by decide) dX12_init_203 ?_
  have hA63 := tapp (L := ([.inr (.int, 8)] : List Dsc)) hA63
  have hA66 := tapp (L := ([.inr (.int, 8)] : List Dsc)) hA66
  have hA77 := tapp (L := ([.inr (.int, 8)] : List Dsc)) hA77
  have hA79 := tapp (L := ([.inr (.int, 8)] : List Dsc)) hA79
  have hT := tapp (L := ([.inr (.int, 8)] : List Dsc)) hT
  have hn : _ = 82 := tlen1 (d := (.inr (.int, 8) : Dsc)) hn
  have hO := hO.up (show 81 ≤ 82 by decide)
  have hF := hF.up (show 81 ≤ 82 by decide)
  refine Wp.putFR (pc := 205) hN hT nk_RX12_91 nf_RX12_11_39 rfl dX12_init_205 ?_
  have hF := hF.sR (k := 56) (j := 39) (r := 81) (by decide) (by decide)
  refine Wp.aload_n (pc := 208) 0 rfl rfl dX12_init_208 ?_
  refine Wp.bipush (pc := 209) (8 : Int32) (by decide) dX12_init_209 ?_
  refine Wp.newA1 (pc := 211) (N := 8) (atype := .int) (ty := .int) hn hF hO (hX.le (Nat.le_refl _) (by decide) (by decide)) (vbc (vbr (by omega)) vbn) (lbc (vbr (by omega)) lbn) ar_int rfl (Or.inl rfl) (by decide) (by decide) (by decide) dX12_init_211 ?_
  have hA63 := tapp (L := ([.inr (.int, 8)] : List Dsc)) hA63
  have hA66 := tapp (L := ([.inr (.int, 8)] : List Dsc)) hA66
  have hA77 := tapp (L := ([.inr (.int, 8)] : List Dsc)) hA77
  have hA79 := tapp (L := ([.inr (.int, 8)] : List Dsc)) hA79
  have hT := tapp (L := ([.inr (.int, 8)] : List Dsc)) hT
  have hn : _ = 83 := tlen1 (d := (.inr (.int, 8) : Dsc)) hn
  have hO := hO.up (show 82 ≤ 83 by decide)
  have hF := hF.up (show 82 ≤ 83 by decide)
  refine Wp.putFR (pc := 213) hN hT nk_RX12_94 nf_RX12_11_40 rfl dX12_init_213 ?_
  have hF := hF.sR (k := 56) (j := 40) (r := 82) (by decide) (by decide)
  refine Wp.aload_n (pc := 216) 0 rfl rfl dX12_init_216 ?_
  refine Wp.sipush (pc := 217) (300 : Int32) (by decide) dX12_init_217 ?_
  refine Wp.newA1 (pc := 220) (N := 300) (atype := .int) (ty := .int) hn hF hO (hX.le (Nat.le_refl _) (by decide) (by decide)) (vbc (vbr (by omega)) vbn) (lbc (vbr (by omega)) lbn) ar_int rfl (Or.inl rfl) (by decide) (by decide) (by decide) dX12_init_220 ?_
  have hA63 := tapp (L := ([.inr (.int, 300)] : List Dsc)) hA63
  have hA66 := tapp (L := ([.inr (.int, 300)] : List Dsc)) hA66
  have hA77 := tapp (L := ([.inr (.int, 300)] : List Dsc)) hA77
  have hA79 := tapp (L := ([.inr (.int, 300)] : List Dsc)) hA79
  have hT := tapp (L := ([.inr (.int, 300)] : List Dsc)) hT
  have hn : _ = 84 := tlen1 (d := (.inr (.int, 300) : Dsc)) hn
  have hO := hO.up (show 83 ≤ 84 by decide)
  have hF := hF.up (show 83 ≤ 84 by decide)
  refine Wp.putFR (pc := 222) hN hT nk_RX12_97 nf_RX12_11_42 rfl dX12_init_222 ?_
  have hF := hF.sR (k := 56) (j := 42) (r := 83) (by decide) (by decide)
  refine Wp.aload_n (pc := 225) 0 rfl rfl dX12_init_225 ?_
  refine Wp.sipush (pc := 226) (300 : Int32) (by decide) dX12_init_226 ?_
  refine Wp.newA1 (pc := 229) (N := 300) (atype := .boolean) (ty := .boolean) hn hF hO (hX.le (Nat.le_refl _) (by decide) (by decide)) (vbc (vbr (by omega)) vbn) (lbc (vbr (by omega)) lbn) ar_boolean rfl (Or.inl rfl) (by decide) (by decide) (by decide) dX12_init_229 ?_
  have hA63 := tapp (L := ([.inr (.boolean, 300)] : List Dsc)) hA63
  have hA66 := tapp (L := ([.inr (.boolean, 300)] : List Dsc)) hA66
  have hA77 := tapp (L := ([.inr (.boolean, 300)] : List Dsc)) hA77
  have hA79 := tapp (L := ([.inr (.boolean, 300)] : List Dsc)) hA79
  have hT := tapp (L := ([.inr (.boolean, 300)] : List Dsc)) hT
  have hn : _ = 85 := tlen1 (d := (.inr (.boolean, 300) : Dsc)) hn
  have hO := hO.up (show 84 ≤ 85 by decide)
  have hF := hF.up (show 84 ≤ 85 by decide)
  refine Wp.putFR (pc := 231) hN hT nk_RX12_100 nf_RX12_11_43 rfl dX12_init_231 ?_
  have hF := hF.sR (k := 56) (j := 43) (r := 84) (by decide) (by decide)
  refine Wp.aload_n (pc := 234) 0 rfl rfl dX12_init_234 ?_
  refine Wp.sipush (pc := 235) (300 : Int32) (by decide) dX12_init_235 ?_
  refine Wp.newA1 (pc := 238) (N := 300) (atype := .boolean) (ty := .boolean) hn hF hO (hX.le (Nat.le_refl _) (by decide) (by decide)) (vbc (vbr (by omega)) vbn) (lbc (vbr (by omega)) lbn) ar_boolean rfl (Or.inl rfl) (by decide) (by decide) (by decide) dX12_init_238 ?_
  have hA63 := tapp (L := ([.inr (.boolean, 300)] : List Dsc)) hA63
  have hA66 := tapp (L := ([.inr (.boolean, 300)] : List Dsc)) hA66
  have hA77 := tapp (L := ([.inr (.boolean, 300)] : List Dsc)) hA77
  have hA79 := tapp (L := ([.inr (.boolean, 300)] : List Dsc)) hA79
  have hT := tapp (L := ([.inr (.boolean, 300)] : List Dsc)) hT
  have hn : _ = 86 := tlen1 (d := (.inr (.boolean, 300) : Dsc)) hn
  have hO := hO.up (show 85 ≤ 86 by decide)
  have hF := hF.up (show 85 ≤ 86 by decide)
  refine Wp.putFR (pc := 240) hN hT nk_RX12_104 nf_RX12_11_44 rfl dX12_init_240 ?_
  have hF := hF.sR (k := 56) (j := 44) (r := 85) (by decide) (by decide)
  refine Wp.aload_n (pc := 243) 0 rfl rfl dX12_init_243 ?_
  refine Wp.sipush (pc := 244) (300 : Int32) (by decide) dX12_init_244 ?_
  refine Wp.newA1 (pc := 247) (N := 300) (atype := .int) (ty := .int) hn hF hO (hX.le (Nat.le_refl _) (by decide) (by decide)) (vbc (vbr (by omega)) vbn) (lbc (vbr (by omega)) lbn) ar_int rfl (Or.inl rfl) (by decide) (by decide) (by decide) dX12_init_247 ?_
  have hA63 := tapp (L := ([.inr (.int, 300)] : List Dsc)) hA63
  have hA66 := tapp (L := ([.inr (.int, 300)] : List Dsc)) hA66
  have hA77 := tapp (L := ([.inr (.int, 300)] : List Dsc)) hA77
  have hA79 := tapp (L := ([.inr (.int, 300)] : List Dsc)) hA79
  have hT := tapp (L := ([.inr (.int, 300)] : List Dsc)) hT
  have hn : _ = 87 := tlen1 (d := (.inr (.int, 300) : Dsc)) hn
  have hO := hO.up (show 86 ≤ 87 by decide)
  have hF := hF.up (show 86 ≤ 87 by decide)
  refine Wp.putFR (pc := 249) hN hT nk_RX12_107 nf_RX12_11_45 rfl dX12_init_249 ?_
  have hF := hF.sR (k := 56) (j := 45) (r := 86) (by decide) (by decide)
  refine Wp.aload_n (pc := 252) 0 rfl rfl dX12_init_252 ?_
  refine Wp.sipush (pc := 253) (300 : Int32) (by decide) dX12_init_253 ?_
  refine Wp.newA1 (pc := 256) (N := 300) (atype := .int) (ty := .int) hn hF hO (hX.le (Nat.le_refl _) (by decide) (by decide)) (vbc (vbr (by omega)) vbn) (lbc (vbr (by omega)) lbn) ar_int rfl (Or.inl rfl) (by decide) (by decide) (by decide) dX12_init_256 ?_
  have hA63 := tapp (L := ([.inr (.int, 300)] : List Dsc)) hA63
  have hA66 := tapp (L := ([.inr (.int, 300)] : List Dsc)) hA66
  have hA77 := tapp (L := ([.inr (.int, 300)] : List Dsc)) hA77
  have hA79 := tapp (L := ([.inr (.int, 300)] : List Dsc)) hA79
  have hT := tapp (L := ([.inr (.int, 300)] : List Dsc)) hT
  have hn : _ = 88 := tlen1 (d := (.inr (.int, 300) : Dsc)) hn
  have hO := hO.up (show 87 ≤ 88 by decide)
  have hF := hF.up (show 87 ≤ 88 by decide)
  refine Wp.putFR (pc := 258) hN hT nk_RX12_110 nf_RX12_11_46 rfl dX12_init_258 ?_
  have hF := hF.sR (k := 56) (j := 46) (r := 87) (by decide) (by decide)
  refine Wp.aload_n (pc := 261) 0 rfl rfl dX12_init_261 ?_
  refine Wp.sipush (pc := 262) (300 : Int32) (by decide) dX12_init_262 ?_
  refine Wp.newA1 (pc := 265) (N := 300) (atype := .int) (ty := .int) hn hF hO (hX.le (Nat.le_refl _) (by decide) (by decide)) (vbc (vbr (by omega)) vbn) (lbc (vbr (by omega)) lbn) ar_int rfl (Or.inl rfl) (by decide) (by decide) (by decide) dX12_init_265 ?_
  have hA63 := tapp (L := ([.inr (.int, 300)] : List Dsc)) hA63
  have hA66 := tapp (L := ([.inr (.int, 300)] : List Dsc)) hA66
  have hA77 := tapp (L := ([.inr (.int, 300)] : List Dsc)) hA77
  have hA79 := tapp (L := ([.inr (.int, 300)] : List Dsc)) hA79
  have hT := tapp (L := ([.inr (.int, 300)] : List Dsc)) hT
  have hn : _ = 89 := tlen1 (d := (.inr (.int, 300) : Dsc)) hn
  have hO := hO.up (show 88 ≤ 89 by decide)
  have hF := hF.up (show 88 ≤ 89 by decide)
  refine Wp.putFR (pc := 267) hN hT nk_RX12_113 nf_RX12_11_47 rfl dX12_init_267 ?_
  have hF := hF.sR (k := 56) (j := 47) (r := 88) (by decide) (by decide)
  refine Wp.aload_n (pc := 270) 0 rfl rfl dX12_init_270 ?_
  refine Wp.sipush (pc := 271) (840 : Int32) (by decide) dX12_init_271 ?_
  refine Wp.newA1 (pc := 274) (N := 840) (atype := .int) (ty := .int) hn hF hO (hX.le (Nat.le_refl _) (by decide) (by decide)) (vbc (vbr (by omega)) vbn) (lbc (vbr (by omega)) lbn) ar_int rfl (Or.inl rfl) (by decide) (by decide) (by decide) dX12_init_274 ?_
  have hA63 := tapp (L := ([.inr (.int, 840)] : List Dsc)) hA63
  have hA66 := tapp (L := ([.inr (.int, 840)] : List Dsc)) hA66
  have hA77 := tapp (L := ([.inr (.int, 840)] : List Dsc)) hA77
  have hA79 := tapp (L := ([.inr (.int, 840)] : List Dsc)) hA79
  have hT := tapp (L := ([.inr (.int, 840)] : List Dsc)) hT
  have hn : _ = 90 := tlen1 (d := (.inr (.int, 840) : Dsc)) hn
  have hO := hO.up (show 89 ≤ 90 by decide)
  have hF := hF.up (show 89 ≤ 90 by decide)
  refine Wp.putFR (pc := 276) hN hT nk_RX12_116 nf_RX12_11_49 rfl dX12_init_276 ?_
  have hF := hF.sR (k := 56) (j := 49) (r := 89) (by decide) (by decide)
  refine Wp.aload_n (pc := 279) 0 rfl rfl dX12_init_279 ?_
  refine Wp.sipush (pc := 280) (840 : Int32) (by decide) dX12_init_280 ?_
  refine Wp.newA1 (pc := 283) (N := 840) (atype := .int) (ty := .int) hn hF hO (hX.le (Nat.le_refl _) (by decide) (by decide)) (vbc (vbr (by omega)) vbn) (lbc (vbr (by omega)) lbn) ar_int rfl (Or.inl rfl) (by decide) (by decide) (by decide) dX12_init_283 ?_
  have hA63 := tapp (L := ([.inr (.int, 840)] : List Dsc)) hA63
  have hA66 := tapp (L := ([.inr (.int, 840)] : List Dsc)) hA66
  have hA77 := tapp (L := ([.inr (.int, 840)] : List Dsc)) hA77
  have hA79 := tapp (L := ([.inr (.int, 840)] : List Dsc)) hA79
  have hT := tapp (L := ([.inr (.int, 840)] : List Dsc)) hT
  have hn : _ = 91 := tlen1 (d := (.inr (.int, 840) : Dsc)) hn
  have hO := hO.up (show 90 ≤ 91 by decide)
  have hF := hF.up (show 90 ≤ 91 by decide)
  refine Wp.putFR (pc := 285) hN hT nk_RX12_119 nf_RX12_11_50 rfl dX12_init_285 ?_
  have hF := hF.sR (k := 56) (j := 50) (r := 90) (by decide) (by decide)
  refine Wp.aload_n (pc := 288) 0 rfl rfl dX12_init_288 ?_
  refine Wp.sipush (pc := 289) (140 : Int32) (by decide) dX12_init_289 ?_
  refine Wp.newA1 (pc := 292) (N := 140) (atype := .int) (ty := .int) hn hF hO (hX.le (Nat.le_refl _) (by decide) (by decide)) (vbc (vbr (by omega)) vbn) (lbc (vbr (by omega)) lbn) ar_int rfl (Or.inl rfl) (by decide) (by decide) (by decide) dX12_init_292 ?_
  have hA63 := tapp (L := ([.inr (.int, 140)] : List Dsc)) hA63
  have hA66 := tapp (L := ([.inr (.int, 140)] : List Dsc)) hA66
  have hA77 := tapp (L := ([.inr (.int, 140)] : List Dsc)) hA77
  have hA79 := tapp (L := ([.inr (.int, 140)] : List Dsc)) hA79
  have hT := tapp (L := ([.inr (.int, 140)] : List Dsc)) hT
  have hn : _ = 92 := tlen1 (d := (.inr (.int, 140) : Dsc)) hn
  have hO := hO.up (show 91 ≤ 92 by decide)
  have hF := hF.up (show 91 ≤ 92 by decide)
  refine Wp.putFR (pc := 294) hN hT nk_RX12_122 nf_RX12_11_52 rfl dX12_init_294 ?_
  have hF := hF.sR (k := 56) (j := 52) (r := 91) (by decide) (by decide)
  refine Wp.aload_n (pc := 297) 0 rfl rfl dX12_init_297 ?_
  refine Wp.bipush (pc := 298) (64 : Int32) (by decide) dX12_init_298 ?_
  refine Wp.newA1 (pc := 300) (N := 64) (atype := .int) (ty := .int) hn hF hO (hX.le (Nat.le_refl _) (by decide) (by decide)) (vbc (vbr (by omega)) vbn) (lbc (vbr (by omega)) lbn) ar_int rfl (Or.inl rfl) (by decide) (by decide) (by decide) dX12_init_300 ?_
  have hA63 := tapp (L := ([.inr (.int, 64)] : List Dsc)) hA63
  have hA66 := tapp (L := ([.inr (.int, 64)] : List Dsc)) hA66
  have hA77 := tapp (L := ([.inr (.int, 64)] : List Dsc)) hA77
  have hA79 := tapp (L := ([.inr (.int, 64)] : List Dsc)) hA79
  have hT := tapp (L := ([.inr (.int, 64)] : List Dsc)) hT
  have hn : _ = 93 := tlen1 (d := (.inr (.int, 64) : Dsc)) hn
  have hO := hO.up (show 92 ≤ 93 by decide)
  have hF := hF.up (show 92 ≤ 93 by decide)
  refine Wp.putFR (pc := 302) hN hT nk_RX12_125 nf_RX12_11_53 rfl dX12_init_302 ?_
  have hF := hF.sR (k := 56) (j := 53) (r := 92) (by decide) (by decide)
  refine Wp.aload_n (pc := 305) 0 rfl rfl dX12_init_305 ?_
  refine Wp.bipush (pc := 306) (12 : Int32) (by decide) dX12_init_306 ?_
  refine Wp.newA1 (pc := 308) (N := 12) (atype := .int) (ty := .int) hn hF hO (hX.le (Nat.le_refl _) (by decide) (by decide)) (vbc (vbr (by omega)) vbn) (lbc (vbr (by omega)) lbn) ar_int rfl (Or.inl rfl) (by decide) (by decide) (by decide) dX12_init_308 ?_
  have hA63 := tapp (L := ([.inr (.int, 12)] : List Dsc)) hA63
  have hA66 := tapp (L := ([.inr (.int, 12)] : List Dsc)) hA66
  have hA77 := tapp (L := ([.inr (.int, 12)] : List Dsc)) hA77
  have hA79 := tapp (L := ([.inr (.int, 12)] : List Dsc)) hA79
  have hT := tapp (L := ([.inr (.int, 12)] : List Dsc)) hT
  have hn : _ = 94 := tlen1 (d := (.inr (.int, 12) : Dsc)) hn
  have hO := hO.up (show 93 ≤ 94 by decide)
  have hF := hF.up (show 93 ≤ 94 by decide)
  refine Wp.putFR (pc := 310) hN hT nk_RX12_128 nf_RX12_11_55 rfl dX12_init_310 ?_
  have hF := hF.sR (k := 56) (j := 55) (r := 93) (by decide) (by decide)
  refine Wp.aload_n (pc := 313) 0 rfl rfl dX12_init_313 ?_
  refine Wp.bipush (pc := 314) (12 : Int32) (by decide) dX12_init_314 ?_
  refine Wp.newA1 (pc := 316) (N := 12) (atype := .int) (ty := .int) hn hF hO (hX.le (Nat.le_refl _) (by decide) (by decide)) (vbc (vbr (by omega)) vbn) (lbc (vbr (by omega)) lbn) ar_int rfl (Or.inl rfl) (by decide) (by decide) (by decide) dX12_init_316 ?_
  have hA63 := tapp (L := ([.inr (.int, 12)] : List Dsc)) hA63
  have hA66 := tapp (L := ([.inr (.int, 12)] : List Dsc)) hA66
  have hA77 := tapp (L := ([.inr (.int, 12)] : List Dsc)) hA77
  have hA79 := tapp (L := ([.inr (.int, 12)] : List Dsc)) hA79
  have hT := tapp (L := ([.inr (.int, 12)] : List Dsc)) hT
  have hn : _ = 95 := tlen1 (d := (.inr (.int, 12) : Dsc)) hn
  have hO := hO.up (show 94 ≤ 95 by decide)
  have hF := hF.up (show 94 ≤ 95 by decide)
  refine Wp.putFR (pc := 318) hN hT nk_RX12_131 nf_RX12_11_56 rfl dX12_init_318 ?_
  have hF := hF.sR (k := 56) (j := 56) (r := 94) (by decide) (by decide)
  refine Wp.aload_n (pc := 321) 0 rfl rfl dX12_init_321 ?_
  refine Wp.bipush (pc := 322) (12 : Int32) (by decide) dX12_init_322 ?_
  refine Wp.newA1 (pc := 324) (N := 12) (atype := .int) (ty := .int) hn hF hO (hX.le (Nat.le_refl _) (by decide) (by decide)) (vbc (vbr (by omega)) vbn) (lbc (vbr (by omega)) lbn) ar_int rfl (Or.inl rfl) (by decide) (by decide) (by decide) dX12_init_324 ?_
  have hA63 := tapp (L := ([.inr (.int, 12)] : List Dsc)) hA63
  have hA66 := tapp (L := ([.inr (.int, 12)] : List Dsc)) hA66
  have hA77 := tapp (L := ([.inr (.int, 12)] : List Dsc)) hA77
  have hA79 := tapp (L := ([.inr (.int, 12)] : List Dsc)) hA79
  have hT := tapp (L := ([.inr (.int, 12)] : List Dsc)) hT
  have hn : _ = 96 := tlen1 (d := (.inr (.int, 12) : Dsc)) hn
  have hO := hO.up (show 95 ≤ 96 by decide)
  have hF := hF.up (show 95 ≤ 96 by decide)
  refine Wp.putFR (pc := 326) hN hT nk_RX12_134 nf_RX12_11_57 rfl dX12_init_326 ?_
  have hF := hF.sR (k := 56) (j := 57) (r := 95) (by decide) (by decide)
  refine Wp.aload_n (pc := 329) 0 rfl rfl dX12_init_329 ?_
  refine Wp.sipush (pc := 330) (1200 : Int32) (by decide) dX12_init_330 ?_
  refine Wp.newA1 (pc := 333) (N := 1200) (atype := .int) (ty := .int) hn hF hO (hX.le (Nat.le_refl _) (by decide) (by decide)) (vbc (vbr (by omega)) vbn) (lbc (vbr (by omega)) lbn) ar_int rfl (Or.inl rfl) (by decide) (by decide) (by decide) dX12_init_333 ?_
  have hA63 := tapp (L := ([.inr (.int, 1200)] : List Dsc)) hA63
  have hA66 := tapp (L := ([.inr (.int, 1200)] : List Dsc)) hA66
  have hA77 := tapp (L := ([.inr (.int, 1200)] : List Dsc)) hA77
  have hA79 := tapp (L := ([.inr (.int, 1200)] : List Dsc)) hA79
  have hT := tapp (L := ([.inr (.int, 1200)] : List Dsc)) hT
  have hn : _ = 97 := tlen1 (d := (.inr (.int, 1200) : Dsc)) hn
  have hO := hO.up (show 96 ≤ 97 by decide)
  have hF := hF.up (show 96 ≤ 97 by decide)
  refine Wp.putFR (pc := 335) hN hT nk_RX12_137 nf_RX12_11_62 rfl dX12_init_335 ?_
  have hF := hF.sR (k := 56) (j := 62) (r := 96) (by decide) (by decide)
  refine Wp.aload_n (pc := 338) 0 rfl rfl dX12_init_338 ?_
  refine Wp.bipush (pc := 339) (12 : Int32) (by decide) dX12_init_339 ?_
  refine Wp.newA1 (pc := 341) (N := 12) (atype := .int) (ty := .int) hn hF hO (hX.le (Nat.le_refl _) (by decide) (by decide)) (vbc (vbr (by omega)) vbn) (lbc (vbr (by omega)) lbn) ar_int rfl (Or.inl rfl) (by decide) (by decide) (by decide) dX12_init_341 ?_
  have hA63 := tapp (L := ([.inr (.int, 12)] : List Dsc)) hA63
  have hA66 := tapp (L := ([.inr (.int, 12)] : List Dsc)) hA66
  have hA77 := tapp (L := ([.inr (.int, 12)] : List Dsc)) hA77
  have hA79 := tapp (L := ([.inr (.int, 12)] : List Dsc)) hA79
  have hT := tapp (L := ([.inr (.int, 12)] : List Dsc)) hT
  have hn : _ = 98 := tlen1 (d := (.inr (.int, 12) : Dsc)) hn
  have hO := hO.up (show 97 ≤ 98 by decide)
  have hF := hF.up (show 97 ≤ 98 by decide)
  refine Wp.putFR (pc := 343) hN hT nk_RX12_140 nf_RX12_11_63 rfl dX12_init_343 ?_
  have hF := hF.sR (k := 56) (j := 63) (r := 97) (by decide) (by decide)
  refine Wp.aload_n (pc := 346) 0 rfl rfl dX12_init_346 ?_
  refine Wp.bipush (pc := 347) (12 : Int32) (by decide) dX12_init_347 ?_
  refine Wp.newA1 (pc := 349) (N := 12) (atype := .int) (ty := .int) hn hF hO (hX.le (Nat.le_refl _) (by decide) (by decide)) (vbc (vbr (by omega)) vbn) (lbc (vbr (by omega)) lbn) ar_int rfl (Or.inl rfl) (by decide) (by decide) (by decide) dX12_init_349 ?_
  have hA63 := tapp (L := ([.inr (.int, 12)] : List Dsc)) hA63
  have hA66 := tapp (L := ([.inr (.int, 12)] : List Dsc)) hA66
  have hA77 := tapp (L := ([.inr (.int, 12)] : List Dsc)) hA77
  have hA79 := tapp (L := ([.inr (.int, 12)] : List Dsc)) hA79
  have hT := tapp (L := ([.inr (.int, 12)] : List Dsc)) hT
  have hn : _ = 99 := tlen1 (d := (.inr (.int, 12) : Dsc)) hn
  have hO := hO.up (show 98 ≤ 99 by decide)
  have hF := hF.up (show 98 ≤ 99 by decide)
  refine Wp.putFR (pc := 351) hN hT nk_RX12_143 nf_RX12_11_64 rfl dX12_init_351 ?_
  have hF := hF.sR (k := 56) (j := 64) (r := 98) (by decide) (by decide)
  refine Wp.aload_n (pc := 354) 0 rfl rfl dX12_init_354 ?_
  refine Wp.bipush (pc := 355) (12 : Int32) (by decide) dX12_init_355 ?_
  refine Wp.newA1 (pc := 357) (N := 12) (atype := .int) (ty := .int) hn hF hO (hX.le (Nat.le_refl _) (by decide) (by decide)) (vbc (vbr (by omega)) vbn) (lbc (vbr (by omega)) lbn) ar_int rfl (Or.inl rfl) (by decide) (by decide) (by decide) dX12_init_357 ?_
  have hA63 := tapp (L := ([.inr (.int, 12)] : List Dsc)) hA63
  have hA66 := tapp (L := ([.inr (.int, 12)] : List Dsc)) hA66
  have hA77 := tapp (L := ([.inr (.int, 12)] : List Dsc)) hA77
  have hA79 := tapp (L := ([.inr (.int, 12)] : List Dsc)) hA79
  have hT := tapp (L := ([.inr (.int, 12)] : List Dsc)) hT
  have hn : _ = 100 := tlen1 (d := (.inr (.int, 12) : Dsc)) hn
  have hO := hO.up (show 99 ≤ 100 by decide)
  have hF := hF.up (show 99 ≤ 100 by decide)
  refine Wp.putFR (pc := 359) hN hT nk_RX12_146 nf_RX12_11_68 rfl dX12_init_359 ?_
  have hF := hF.sR (k := 56) (j := 68) (r := 99) (by decide) (by decide)
  refine Wp.aload_n (pc := 362) 0 rfl rfl dX12_init_362 ?_
  refine Wp.bipush (pc := 363) (6 : Int32) (by decide) dX12_init_363 ?_
  refine Wp.newA1 (pc := 365) (N := 6) (atype := .int) (ty := .int) hn hF hO (hX.le (Nat.le_refl _) (by decide) (by decide)) (vbc (vbr (by omega)) vbn) (lbc (vbr (by omega)) lbn) ar_int rfl (Or.inl rfl) (by decide) (by decide) (by decide) dX12_init_365 ?_
  have hA63 := tapp (L := ([.inr (.int, 6)] : List Dsc)) hA63
  have hA66 := tapp (L := ([.inr (.int, 6)] : List Dsc)) hA66
  have hA77 := tapp (L := ([.inr (.int, 6)] : List Dsc)) hA77
  have hA79 := tapp (L := ([.inr (.int, 6)] : List Dsc)) hA79
  have hT := tapp (L := ([.inr (.int, 6)] : List Dsc)) hT
  have hn : _ = 101 := tlen1 (d := (.inr (.int, 6) : Dsc)) hn
  have hO := hO.up (show 100 ≤ 101 by decide)
  have hF := hF.up (show 100 ≤ 101 by decide)
  refine Wp.putFR (pc := 367) hN hT nk_RX12_149 nf_RX12_11_69 rfl dX12_init_367 ?_
  have hF := hF.sR (k := 56) (j := 69) (r := 100) (by decide) (by decide)
  refine Wp.aload_n (pc := 370) 0 rfl rfl dX12_init_370 ?_
  refine Wp.sipush (pc := 371) (400 : Int32) (by decide) dX12_init_371 ?_
  refine Wp.newA1 (pc := 374) (N := 400) (atype := .int) (ty := .int) hn hF hO (hX.le (Nat.le_refl _) (by decide) (by decide)) (vbc (vbr (by omega)) vbn) (lbc (vbr (by omega)) lbn) ar_int rfl (Or.inl rfl) (by decide) (by decide) (by decide) dX12_init_374 ?_
  have hA63 := tapp (L := ([.inr (.int, 400)] : List Dsc)) hA63
  have hA66 := tapp (L := ([.inr (.int, 400)] : List Dsc)) hA66
  have hA77 := tapp (L := ([.inr (.int, 400)] : List Dsc)) hA77
  have hA79 := tapp (L := ([.inr (.int, 400)] : List Dsc)) hA79
  have hT := tapp (L := ([.inr (.int, 400)] : List Dsc)) hT
  have hn : _ = 102 := tlen1 (d := (.inr (.int, 400) : Dsc)) hn
  have hO := hO.up (show 101 ≤ 102 by decide)
  have hF := hF.up (show 101 ≤ 102 by decide)
  refine Wp.putFR (pc := 376) hN hT nk_RX12_152 nf_RX12_11_70 rfl dX12_init_376 ?_
  have hF := hF.sR (k := 56) (j := 70) (r := 101) (by decide) (by decide)
  refine Wp.aload_n (pc := 379) 0 rfl rfl dX12_init_379 ?_
  refine Wp.bipush (pc := 380) (12 : Int32) (by decide) dX12_init_380 ?_
  refine Wp.newA1 (pc := 382) (N := 12) (atype := .int) (ty := .int) hn hF hO (hX.le (Nat.le_refl _) (by decide) (by decide)) (vbc (vbr (by omega)) vbn) (lbc (vbr (by omega)) lbn) ar_int rfl (Or.inl rfl) (by decide) (by decide) (by decide) dX12_init_382 ?_
  have hA63 := tapp (L := ([.inr (.int, 12)] : List Dsc)) hA63
  have hA66 := tapp (L := ([.inr (.int, 12)] : List Dsc)) hA66
  have hA77 := tapp (L := ([.inr (.int, 12)] : List Dsc)) hA77
  have hA79 := tapp (L := ([.inr (.int, 12)] : List Dsc)) hA79
  have hT := tapp (L := ([.inr (.int, 12)] : List Dsc)) hT
  have hn : _ = 103 := tlen1 (d := (.inr (.int, 12) : Dsc)) hn
  have hO := hO.up (show 102 ≤ 103 by decide)
  have hF := hF.up (show 102 ≤ 103 by decide)
  refine Wp.putFR (pc := 384) hN hT nk_RX12_155 nf_RX12_11_72 rfl dX12_init_384 ?_
  have hF := hF.sR (k := 56) (j := 72) (r := 102) (by decide) (by decide)
  refine Wp.aload_n (pc := 387) 0 rfl rfl dX12_init_387 ?_
  refine Wp.bipush (pc := 388) (12 : Int32) (by decide) dX12_init_388 ?_
  refine Wp.newA1 (pc := 390) (N := 12) (atype := .int) (ty := .int) hn hF hO (hX.le (Nat.le_refl _) (by decide) (by decide)) (vbc (vbr (by omega)) vbn) (lbc (vbr (by omega)) lbn) ar_int rfl (Or.inl rfl) (by decide) (by decide) (by decide) dX12_init_390 ?_
  have hA63 := tapp (L := ([.inr (.int, 12)] : List Dsc)) hA63
  have hA66 := tapp (L := ([.inr (.int, 12)] : List Dsc)) hA66
  have hA77 := tapp (L := ([.inr (.int, 12)] : List Dsc)) hA77
  have hA79 := tapp (L := ([.inr (.int, 12)] : List Dsc)) hA79
  have hT := tapp (L := ([.inr (.int, 12)] : List Dsc)) hT
  have hn : _ = 104 := tlen1 (d := (.inr (.int, 12) : Dsc)) hn
  have hO := hO.up (show 103 ≤ 104 by decide)
  have hF := hF.up (show 103 ≤ 104 by decide)
  refine Wp.putFR (pc := 392) hN hT nk_RX12_158 nf_RX12_11_73 rfl dX12_init_392 ?_
  have hF := hF.sR (k := 56) (j := 73) (r := 103) (by decide) (by decide)
  refine Wp.aload_n (pc := 395) 0 rfl rfl dX12_init_395 ?_
  refine Wp.sipush (pc := 396) (4812 : Int32) (by decide) dX12_init_396 ?_
  refine Wp.newA1 (pc := 399) (N := 4812) (atype := .int) (ty := .int) hn hF hO (hX.le (Nat.le_refl _) (by decide) (by decide)) (vbc (vbr (by omega)) vbn) (lbc (vbr (by omega)) lbn) ar_int rfl (Or.inl rfl) (by decide) (by decide) (by decide) dX12_init_399 ?_
  have hA63 := tapp (L := ([.inr (.int, 4812)] : List Dsc)) hA63
  have hA66 := tapp (L := ([.inr (.int, 4812)] : List Dsc)) hA66
  have hA77 := tapp (L := ([.inr (.int, 4812)] : List Dsc)) hA77
  have hA79 := tapp (L := ([.inr (.int, 4812)] : List Dsc)) hA79
  have hT := tapp (L := ([.inr (.int, 4812)] : List Dsc)) hT
  have hn : _ = 105 := tlen1 (d := (.inr (.int, 4812) : Dsc)) hn
  have hO := hO.up (show 104 ≤ 105 by decide)
  have hF := hF.up (show 104 ≤ 105 by decide)
  refine Wp.putFR (pc := 401) hN hT nk_RX12_161 nf_RX12_11_74 rfl dX12_init_401 ?_
  have hF := hF.sR (k := 56) (j := 74) (r := 104) (by decide) (by decide)
  refine Wp.aload_n (pc := 404) 0 rfl rfl dX12_init_404 ?_
  refine Wp.bipush (pc := 405) (12 : Int32) (by decide) dX12_init_405 ?_
  refine Wp.newA1 (pc := 407) (N := 12) (atype := .int) (ty := .int) hn hF hO (hX.le (Nat.le_refl _) (by decide) (by decide)) (vbc (vbr (by omega)) vbn) (lbc (vbr (by omega)) lbn) ar_int rfl (Or.inl rfl) (by decide) (by decide) (by decide) dX12_init_407 ?_
  have hA63 := tapp (L := ([.inr (.int, 12)] : List Dsc)) hA63
  have hA66 := tapp (L := ([.inr (.int, 12)] : List Dsc)) hA66
  have hA77 := tapp (L := ([.inr (.int, 12)] : List Dsc)) hA77
  have hA79 := tapp (L := ([.inr (.int, 12)] : List Dsc)) hA79
  have hT := tapp (L := ([.inr (.int, 12)] : List Dsc)) hT
  have hn : _ = 106 := tlen1 (d := (.inr (.int, 12) : Dsc)) hn
  have hO := hO.up (show 105 ≤ 106 by decide)
  have hF := hF.up (show 105 ≤ 106 by decide)
  refine Wp.putFR (pc := 409) hN hT nk_RX12_164 nf_RX12_11_75 rfl dX12_init_409 ?_
  have hF := hF.sR (k := 56) (j := 75) (r := 105) (by decide) (by decide)
  refine Wp.aload_n (pc := 412) 0 rfl rfl dX12_init_412 ?_
  refine Wp.bipush (pc := 413) (12 : Int32) (by decide) dX12_init_413 ?_
  refine Wp.newA1 (pc := 415) (N := 12) (atype := .int) (ty := .int) hn hF hO (hX.le (Nat.le_refl _) (by decide) (by decide)) (vbc (vbr (by omega)) vbn) (lbc (vbr (by omega)) lbn) ar_int rfl (Or.inl rfl) (by decide) (by decide) (by decide) dX12_init_415 ?_
  have hA63 := tapp (L := ([.inr (.int, 12)] : List Dsc)) hA63
  have hA66 := tapp (L := ([.inr (.int, 12)] : List Dsc)) hA66
  have hA77 := tapp (L := ([.inr (.int, 12)] : List Dsc)) hA77
  have hA79 := tapp (L := ([.inr (.int, 12)] : List Dsc)) hA79
  have hT := tapp (L := ([.inr (.int, 12)] : List Dsc)) hT
  have hn : _ = 107 := tlen1 (d := (.inr (.int, 12) : Dsc)) hn
  have hO := hO.up (show 106 ≤ 107 by decide)
  have hF := hF.up (show 106 ≤ 107 by decide)
  refine Wp.putFR (pc := 417) hN hT nk_RX12_167 nf_RX12_11_76 rfl dX12_init_417 ?_
  have hF := hF.sR (k := 56) (j := 76) (r := 106) (by decide) (by decide)
  refine Wp.aload_n (pc := 420) 0 rfl rfl dX12_init_420 ?_
  refine Wp.sipush (pc := 421) (20736 : Int32) (by decide) dX12_init_421 ?_
  refine Wp.newA1 (pc := 424) (N := 20736) (atype := .int) (ty := .int) hn hF hO (hX.le (Nat.le_refl _) (by decide) (by decide)) (vbc (vbr (by omega)) vbn) (lbc (vbr (by omega)) lbn) ar_int rfl (Or.inl rfl) (by decide) (by decide) (by decide) dX12_init_424 ?_
  have hA63 := tapp (L := ([.inr (.int, 20736)] : List Dsc)) hA63
  have hA66 := tapp (L := ([.inr (.int, 20736)] : List Dsc)) hA66
  have hA77 := tapp (L := ([.inr (.int, 20736)] : List Dsc)) hA77
  have hA79 := tapp (L := ([.inr (.int, 20736)] : List Dsc)) hA79
  have hT := tapp (L := ([.inr (.int, 20736)] : List Dsc)) hT
  have hn : _ = 108 := tlen1 (d := (.inr (.int, 20736) : Dsc)) hn
  have hO := hO.up (show 107 ≤ 108 by decide)
  have hF := hF.up (show 107 ≤ 108 by decide)
  refine Wp.putFR (pc := 426) hN hT nk_RX12_170 nf_RX12_11_77 rfl dX12_init_426 ?_
  have hF := hF.sR (k := 56) (j := 77) (r := 107) (by decide) (by decide)
  refine Wp.aload_n (pc := 429) 0 rfl rfl dX12_init_429 ?_
  refine Wp.sipush (pc := 430) (20736 : Int32) (by decide) dX12_init_430 ?_
  refine Wp.newA1 (pc := 433) (N := 20736) (atype := .int) (ty := .int) hn hF hO (hX.le (Nat.le_refl _) (by decide) (by decide)) (vbc (vbr (by omega)) vbn) (lbc (vbr (by omega)) lbn) ar_int rfl (Or.inl rfl) (by decide) (by decide) (by decide) dX12_init_433 ?_
  have hA63 := tapp (L := ([.inr (.int, 20736)] : List Dsc)) hA63
  have hA66 := tapp (L := ([.inr (.int, 20736)] : List Dsc)) hA66
  have hA77 := tapp (L := ([.inr (.int, 20736)] : List Dsc)) hA77
  have hA79 := tapp (L := ([.inr (.int, 20736)] : List Dsc)) hA79
  have hT := tapp (L := ([.inr (.int, 20736)] : List Dsc)) hT
  have hn : _ = 109 := tlen1 (d := (.inr (.int, 20736) : Dsc)) hn
  have hO := hO.up (show 108 ≤ 109 by decide)
  have hF := hF.up (show 108 ≤ 109 by decide)
  refine Wp.putFR (pc := 435) hN hT nk_RX12_173 nf_RX12_11_78 rfl dX12_init_435 ?_
  have hF := hF.sR (k := 56) (j := 78) (r := 108) (by decide) (by decide)
  refine Wp.aload_n (pc := 438) 0 rfl rfl dX12_init_438 ?_
  refine Wp.bipush (pc := 439) (20 : Int32) (by decide) dX12_init_439 ?_
  refine Wp.newA1 (pc := 441) (N := 20) (atype := .int) (ty := .int) hn hF hO (hX.le (Nat.le_refl _) (by decide) (by decide)) (vbc (vbr (by omega)) vbn) (lbc (vbr (by omega)) lbn) ar_int rfl (Or.inl rfl) (by decide) (by decide) (by decide) dX12_init_441 ?_
  have hA63 := tapp (L := ([.inr (.int, 20)] : List Dsc)) hA63
  have hA66 := tapp (L := ([.inr (.int, 20)] : List Dsc)) hA66
  have hA77 := tapp (L := ([.inr (.int, 20)] : List Dsc)) hA77
  have hA79 := tapp (L := ([.inr (.int, 20)] : List Dsc)) hA79
  have hT := tapp (L := ([.inr (.int, 20)] : List Dsc)) hT
  have hn : _ = 110 := tlen1 (d := (.inr (.int, 20) : Dsc)) hn
  have hO := hO.up (show 109 ≤ 110 by decide)
  have hF := hF.up (show 109 ≤ 110 by decide)
  refine Wp.putFR (pc := 443) hN hT nk_RX12_176 nf_RX12_11_80 rfl dX12_init_443 ?_
  have hF := hF.sR (k := 56) (j := 80) (r := 109) (by decide) (by decide)
  refine Wp.aload_n (pc := 446) 0 rfl rfl dX12_init_446 ?_
  refine Wp.bipush (pc := 447) (20 : Int32) (by decide) dX12_init_447 ?_
  refine Wp.newA1 (pc := 449) (N := 20) (atype := .int) (ty := .int) hn hF hO (hX.le (Nat.le_refl _) (by decide) (by decide)) (vbc (vbr (by omega)) vbn) (lbc (vbr (by omega)) lbn) ar_int rfl (Or.inl rfl) (by decide) (by decide) (by decide) dX12_init_449 ?_
  have hA63 := tapp (L := ([.inr (.int, 20)] : List Dsc)) hA63
  have hA66 := tapp (L := ([.inr (.int, 20)] : List Dsc)) hA66
  have hA77 := tapp (L := ([.inr (.int, 20)] : List Dsc)) hA77
  have hA79 := tapp (L := ([.inr (.int, 20)] : List Dsc)) hA79
  have hT := tapp (L := ([.inr (.int, 20)] : List Dsc)) hT
  have hn : _ = 111 := tlen1 (d := (.inr (.int, 20) : Dsc)) hn
  have hO := hO.up (show 110 ≤ 111 by decide)
  have hF := hF.up (show 110 ≤ 111 by decide)
  refine Wp.putFR (pc := 451) hN hT nk_RX12_179 nf_RX12_11_81 rfl dX12_init_451 ?_
  have hF := hF.sR (k := 56) (j := 81) (r := 110) (by decide) (by decide)
  refine Wp.aload_n (pc := 454) 0 rfl rfl dX12_init_454 ?_
  refine Wp.bipush (pc := 455) (20 : Int32) (by decide) dX12_init_455 ?_
  refine Wp.newA1 (pc := 457) (N := 20) (atype := .boolean) (ty := .boolean) hn hF hO (hX.le (Nat.le_refl _) (by decide) (by decide)) (vbc (vbr (by omega)) vbn) (lbc (vbr (by omega)) lbn) ar_boolean rfl (Or.inl rfl) (by decide) (by decide) (by decide) dX12_init_457 ?_
  have hA63 := tapp (L := ([.inr (.boolean, 20)] : List Dsc)) hA63
  have hA66 := tapp (L := ([.inr (.boolean, 20)] : List Dsc)) hA66
  have hA77 := tapp (L := ([.inr (.boolean, 20)] : List Dsc)) hA77
  have hA79 := tapp (L := ([.inr (.boolean, 20)] : List Dsc)) hA79
  have hT := tapp (L := ([.inr (.boolean, 20)] : List Dsc)) hT
  have hn : _ = 112 := tlen1 (d := (.inr (.boolean, 20) : Dsc)) hn
  have hO := hO.up (show 111 ≤ 112 by decide)
  have hF := hF.up (show 111 ≤ 112 by decide)
  refine Wp.putFR (pc := 459) hN hT nk_RX12_182 nf_RX12_11_82 rfl dX12_init_459 ?_
  have hF := hF.sR (k := 56) (j := 82) (r := 111) (by decide) (by decide)
  refine Wp.aload_n (pc := 462) 0 rfl rfl dX12_init_462 ?_
  refine Wp.bipush (pc := 463) (80 : Int32) (by decide) dX12_init_463 ?_
  refine Wp.newA1 (pc := 465) (N := 80) (atype := .int) (ty := .int) hn hF hO (hX.le (Nat.le_refl _) (by decide) (by decide)) (vbc (vbr (by omega)) vbn) (lbc (vbr (by omega)) lbn) ar_int rfl (Or.inl rfl) (by decide) (by decide) (by decide) dX12_init_465 ?_
  have hA63 := tapp (L := ([.inr (.int, 80)] : List Dsc)) hA63
  have hA66 := tapp (L := ([.inr (.int, 80)] : List Dsc)) hA66
  have hA77 := tapp (L := ([.inr (.int, 80)] : List Dsc)) hA77
  have hA79 := tapp (L := ([.inr (.int, 80)] : List Dsc)) hA79
  have hT := tapp (L := ([.inr (.int, 80)] : List Dsc)) hT
  have hn : _ = 113 := tlen1 (d := (.inr (.int, 80) : Dsc)) hn
  have hO := hO.up (show 112 ≤ 113 by decide)
  have hF := hF.up (show 112 ≤ 113 by decide)
  refine Wp.putFR (pc := 467) hN hT nk_RX12_185 nf_RX12_11_83 rfl dX12_init_467 ?_
  have hF := hF.sR (k := 56) (j := 83) (r := 112) (by decide) (by decide)
  refine Wp.aload_n (pc := 470) 0 rfl rfl dX12_init_470 ?_
  refine Wp.iconst (pc := 471) (3 : Int32) (by decide) dX12_init_471 ?_
  refine Wp.newA1 (pc := 472) (N := 3) (atype := .boolean) (ty := .boolean) hn hF hO (hX.le (Nat.le_refl _) (by decide) (by decide)) (vbc (vbr (by omega)) vbn) (lbc (vbr (by omega)) lbn) ar_boolean rfl (Or.inl rfl) (by decide) (by decide) (by decide) dX12_init_472 ?_
  have hA63 := tapp (L := ([.inr (.boolean, 3)] : List Dsc)) hA63
  have hA66 := tapp (L := ([.inr (.boolean, 3)] : List Dsc)) hA66
  have hA77 := tapp (L := ([.inr (.boolean, 3)] : List Dsc)) hA77
  have hA79 := tapp (L := ([.inr (.boolean, 3)] : List Dsc)) hA79
  have hT := tapp (L := ([.inr (.boolean, 3)] : List Dsc)) hT
  have hn : _ = 114 := tlen1 (d := (.inr (.boolean, 3) : Dsc)) hn
  have hO := hO.up (show 113 ≤ 114 by decide)
  have hF := hF.up (show 113 ≤ 114 by decide)
  refine Wp.putFR (pc := 474) hN hT nk_RX12_188 nf_RX12_11_85 rfl dX12_init_474 ?_
  have hF := hF.sR (k := 56) (j := 85) (r := 113) (by decide) (by decide)
  refine Wp.aload_n (pc := 477) 0 rfl rfl dX12_init_477 ?_
  refine Wp.bipush (pc := 478) (36 : Int32) (by decide) dX12_init_478 ?_
  refine Wp.newA1 (pc := 480) (N := 36) (atype := .int) (ty := .int) hn hF hO (hX.le (Nat.le_refl _) (by decide) (by decide)) (vbc (vbr (by omega)) vbn) (lbc (vbr (by omega)) lbn) ar_int rfl (Or.inl rfl) (by decide) (by decide) (by decide) dX12_init_480 ?_
  have hA63 := tapp (L := ([.inr (.int, 36)] : List Dsc)) hA63
  have hA66 := tapp (L := ([.inr (.int, 36)] : List Dsc)) hA66
  have hA77 := tapp (L := ([.inr (.int, 36)] : List Dsc)) hA77
  have hA79 := tapp (L := ([.inr (.int, 36)] : List Dsc)) hA79
  have hT := tapp (L := ([.inr (.int, 36)] : List Dsc)) hT
  have hn : _ = 115 := tlen1 (d := (.inr (.int, 36) : Dsc)) hn
  have hO := hO.up (show 114 ≤ 115 by decide)
  have hF := hF.up (show 114 ≤ 115 by decide)
  refine Wp.putFR (pc := 482) hN hT nk_RX12_191 nf_RX12_11_86 rfl dX12_init_482 ?_
  have hF := hF.sR (k := 56) (j := 86) (r := 114) (by decide) (by decide)
  refine Wp.aload_n (pc := 485) 0 rfl rfl dX12_init_485 ?_
  refine Wp.bipush (pc := 486) (36 : Int32) (by decide) dX12_init_486 ?_
  refine Wp.newA1 (pc := 488) (N := 36) (atype := .int) (ty := .int) hn hF hO (hX.le (Nat.le_refl _) (by decide) (by decide)) (vbc (vbr (by omega)) vbn) (lbc (vbr (by omega)) lbn) ar_int rfl (Or.inl rfl) (by decide) (by decide) (by decide) dX12_init_488 ?_
  have hA63 := tapp (L := ([.inr (.int, 36)] : List Dsc)) hA63
  have hA66 := tapp (L := ([.inr (.int, 36)] : List Dsc)) hA66
  have hA77 := tapp (L := ([.inr (.int, 36)] : List Dsc)) hA77
  have hA79 := tapp (L := ([.inr (.int, 36)] : List Dsc)) hA79
  have hT := tapp (L := ([.inr (.int, 36)] : List Dsc)) hT
  have hn : _ = 116 := tlen1 (d := (.inr (.int, 36) : Dsc)) hn
  have hO := hO.up (show 115 ≤ 116 by decide)
  have hF := hF.up (show 115 ≤ 116 by decide)
  refine Wp.putFR (pc := 490) hN hT nk_RX12_194 nf_RX12_11_87 rfl dX12_init_490 ?_
  have hF := hF.sR (k := 56) (j := 87) (r := 115) (by decide) (by decide)
  refine Wp.aload_n (pc := 493) 0 rfl rfl dX12_init_493 ?_
  refine Wp.bipush (pc := 494) (36 : Int32) (by decide) dX12_init_494 ?_
  refine Wp.newA1 (pc := 496) (N := 36) (atype := .int) (ty := .int) hn hF hO (hX.le (Nat.le_refl _) (by decide) (by decide)) (vbc (vbr (by omega)) vbn) (lbc (vbr (by omega)) lbn) ar_int rfl (Or.inl rfl) (by decide) (by decide) (by decide) dX12_init_496 ?_
  have hA63 := tapp (L := ([.inr (.int, 36)] : List Dsc)) hA63
  have hA66 := tapp (L := ([.inr (.int, 36)] : List Dsc)) hA66
  have hA77 := tapp (L := ([.inr (.int, 36)] : List Dsc)) hA77
  have hA79 := tapp (L := ([.inr (.int, 36)] : List Dsc)) hA79
  have hT := tapp (L := ([.inr (.int, 36)] : List Dsc)) hT
  have hn : _ = 117 := tlen1 (d := (.inr (.int, 36) : Dsc)) hn
  have hO := hO.up (show 116 ≤ 117 by decide)
  have hF := hF.up (show 116 ≤ 117 by decide)
  refine Wp.putFR (pc := 498) hN hT nk_RX12_197 nf_RX12_11_88 rfl dX12_init_498 ?_
  have hF := hF.sR (k := 56) (j := 88) (r := 116) (by decide) (by decide)
  refine Wp.aload_n (pc := 501) 0 rfl rfl dX12_init_501 ?_
  refine Wp.iconst (pc := 502) (3 : Int32) (by decide) dX12_init_502 ?_
  refine Wp.newA1 (pc := 503) (N := 3) (atype := .int) (ty := .int) hn hF hO (hX.le (Nat.le_refl _) (by decide) (by decide)) (vbc (vbr (by omega)) vbn) (lbc (vbr (by omega)) lbn) ar_int rfl (Or.inl rfl) (by decide) (by decide) (by decide) dX12_init_503 ?_
  have hA63 := tapp (L := ([.inr (.int, 3)] : List Dsc)) hA63
  have hA66 := tapp (L := ([.inr (.int, 3)] : List Dsc)) hA66
  have hA77 := tapp (L := ([.inr (.int, 3)] : List Dsc)) hA77
  have hA79 := tapp (L := ([.inr (.int, 3)] : List Dsc)) hA79
  have hT := tapp (L := ([.inr (.int, 3)] : List Dsc)) hT
  have hn : _ = 118 := tlen1 (d := (.inr (.int, 3) : Dsc)) hn
  have hO := hO.up (show 117 ≤ 118 by decide)
  have hF := hF.up (show 117 ≤ 118 by decide)
  refine Wp.putFR (pc := 505) hN hT nk_RX12_200 nf_RX12_11_89 rfl dX12_init_505 ?_
  have hF := hF.sR (k := 56) (j := 89) (r := 117) (by decide) (by decide)
  refine Wp.aload_n (pc := 508) 0 rfl rfl dX12_init_508 ?_
  refine Wp.iconst (pc := 509) (3 : Int32) (by decide) dX12_init_509 ?_
  refine Wp.newA1 (pc := 510) (N := 3) (atype := .int) (ty := .int) hn hF hO (hX.le (Nat.le_refl _) (by decide) (by decide)) (vbc (vbr (by omega)) vbn) (lbc (vbr (by omega)) lbn) ar_int rfl (Or.inl rfl) (by decide) (by decide) (by decide) dX12_init_510 ?_
  have hA63 := tapp (L := ([.inr (.int, 3)] : List Dsc)) hA63
  have hA66 := tapp (L := ([.inr (.int, 3)] : List Dsc)) hA66
  have hA77 := tapp (L := ([.inr (.int, 3)] : List Dsc)) hA77
  have hA79 := tapp (L := ([.inr (.int, 3)] : List Dsc)) hA79
  have hT := tapp (L := ([.inr (.int, 3)] : List Dsc)) hT
  have hn : _ = 119 := tlen1 (d := (.inr (.int, 3) : Dsc)) hn
  have hO := hO.up (show 118 ≤ 119 by decide)
  have hF := hF.up (show 118 ≤ 119 by decide)
  refine Wp.putFR (pc := 512) hN hT nk_RX12_203 nf_RX12_11_90 rfl dX12_init_512 ?_
  have hF := hF.sR (k := 56) (j := 90) (r := 118) (by decide) (by decide)
  refine Wp.aload_n (pc := 515) 0 rfl rfl dX12_init_515 ?_
  refine Wp.iconst (pc := 516) (3 : Int32) (by decide) dX12_init_516 ?_
  refine Wp.newA1 (pc := 517) (N := 3) (atype := .int) (ty := .int) hn hF hO (hX.le (Nat.le_refl _) (by decide) (by decide)) (vbc (vbr (by omega)) vbn) (lbc (vbr (by omega)) lbn) ar_int rfl (Or.inl rfl) (by decide) (by decide) (by decide) dX12_init_517 ?_
  have hA63 := tapp (L := ([.inr (.int, 3)] : List Dsc)) hA63
  have hA66 := tapp (L := ([.inr (.int, 3)] : List Dsc)) hA66
  have hA77 := tapp (L := ([.inr (.int, 3)] : List Dsc)) hA77
  have hA79 := tapp (L := ([.inr (.int, 3)] : List Dsc)) hA79
  have hT := tapp (L := ([.inr (.int, 3)] : List Dsc)) hT
  have hn : _ = 120 := tlen1 (d := (.inr (.int, 3) : Dsc)) hn
  have hO := hO.up (show 119 ≤ 120 by decide)
  have hF := hF.up (show 119 ≤ 120 by decide)
  refine Wp.putFR (pc := 519) hN hT nk_RX12_206 nf_RX12_11_91 rfl dX12_init_519 ?_
  have hF := hF.sR (k := 56) (j := 91) (r := 119) (by decide) (by decide)
  refine Wp.aload_n (pc := 522) 0 rfl rfl dX12_init_522 ?_
  refine Wp.getR (pc := 523) (r := 66) rfl hT nk_RX12_46 rfl dX12_init_523 ?_
  refine Wp.iconst (pc := 526) (0 : Int32) (by decide) dX12_init_526 ?_
  refine Wp.bipush (pc := 527) (24 : Int32) (by decide) dX12_init_527 ?_
  refine Wp.iast (pc := 529) (wI_at (k := 0) (by decide) (by decide)) (aLen_mk hA66 rfl) dX12_init_529 ?_
  have hF := hF.sI (k := 66) (j := 0) (v := (24)) (by decide)
  refine Wp.aload_n (pc := 530) 0 rfl rfl dX12_init_530 ?_
  refine Wp.getR (pc := 531) (r := 77) rfl hT nk_RX12_79 rfl dX12_init_531 ?_
  refine Wp.iconst (pc := 534) (0 : Int32) (by decide) dX12_init_534 ?_
  refine Wp.iconst (pc := 535) (-1 : Int32) (by decide) dX12_init_535 ?_
  refine Wp.iast (pc := 536) (wI_at (k := 0) (by decide) (by decide)) (aLen_mk hA77 rfl) dX12_init_536 ?_
  have hF := hF.sI (k := 77) (j := 0) (v := (-1)) (by decide)
  refine Wp.aload_n (pc := 537) 0 rfl rfl dX12_init_537 ?_
  refine Wp.getR (pc := 538) (r := 79) rfl hT nk_RX12_85 rfl dX12_init_538 ?_
  refine Wp.iconst (pc := 541) (0 : Int32) (by decide) dX12_init_541 ?_
  refine Wp.iconst (pc := 542) (-1 : Int32) (by decide) dX12_init_542 ?_
  refine Wp.iast (pc := 543) (wI_at (k := 0) (by decide) (by decide)) (aLen_mk hA79 rfl) dX12_init_543 ?_
  have hF := hF.sI (k := 79) (j := 0) (v := (-1)) (by decide)
  refine Wp.aload_n (pc := 544) 0 rfl rfl dX12_init_544 ?_
  refine Wp.iconst (pc := 545) (-1 : Int32) (by decide) dX12_init_545 ?_
  refine Wp.putI (pc := 546) hT nk_RX12_209 nf_RX12_11_58 rfl dX12_init_546 ?_
  have hF := hF.sI (k := 56) (j := 58) (v := (-1)) (by decide)
  refine Wp.aload_n (pc := 549) 0 rfl rfl dX12_init_549 ?_
  refine Wp.getR (pc := 550) (r := 63) rfl hT nk_RX12_34 rfl dX12_init_550 ?_
  refine Wp.iconst (pc := 553) (0 : Int32) (by decide) dX12_init_553 ?_
  refine Wp.bipush (pc := 554) (112 : Int32) (by decide) dX12_init_554 ?_
  refine Wp.bipush (pc := 556) (97 : Int32) (by decide) dX12_init_556 ?_
  refine Wp.bipush (pc := 558) (114 : Int32) (by decide) dX12_init_558 ?_
  refine Wp.bipush (pc := 560) (116 : Int32) (by decide) dX12_init_560 ?_
  refine Wp.bipush (pc := 562) (115 : Int32) (by decide) dX12_init_562 ?_
  refine Wp.iconst (pc := 564) (0 : Int32) (by decide) dX12_init_564 ?_
  refine Wp.iconst (pc := 565) (0 : Int32) (by decide) dX12_init_565 ?_
  refine Wp.callSl (pc := 566) (st := [.int 0, .ref 63]) (as := [.int 112, .int 97, .int 114, .int 116, .int 115, .int 0, .int 0]) (ct_word 112 97 114 116 115 0 0) nml_RX12_212 nms_X12_word nmb_X12_word (hX.le (Nat.le_refl _) (by decide) (by decide)) (by decide) (by decide) rfl (by decide) dX12_init_566 rfl ?_
  refine Wp.last (pc := 569) (wJ_at (k := 0) (by decide) (by decide)) (aLen_mk hA63 rfl) dX12_init_569 ?_
  have hF := hF.sJ (k := 63) (j := 0) (v := (wdV 112 97 114 116 115 0 0)) (by decide)
  refine Wp.aload_n (pc := 570) 0 rfl rfl dX12_init_570 ?_
  refine Wp.getR (pc := 571) (r := 63) rfl hT nk_RX12_34 rfl dX12_init_571 ?_
  refine Wp.iconst (pc := 574) (1 : Int32) (by decide) dX12_init_574 ?_
  refine Wp.bipush (pc := 575) (108 : Int32) (by decide) dX12_init_575 ?_
  refine Wp.bipush (pc := 577) (97 : Int32) (by decide) dX12_init_577 ?_
  refine Wp.bipush (pc := 579) (119 : Int32) (by decide) dX12_init_579 ?_
  refine Wp.iconst (pc := 581) (0 : Int32) (by decide) dX12_init_581 ?_
  refine Wp.iconst (pc := 582) (0 : Int32) (by decide) dX12_init_582 ?_
  refine Wp.iconst (pc := 583) (0 : Int32) (by decide) dX12_init_583 ?_
  refine Wp.iconst (pc := 584) (0 : Int32) (by decide) dX12_init_584 ?_
  refine Wp.callSl (pc := 585) (st := [.int 1, .ref 63]) (as := [.int 108, .int 97, .int 119, .int 0, .int 0, .int 0, .int 0]) (ct_word 108 97 119 0 0 0 0) nml_RX12_212 nms_X12_word nmb_X12_word (hX.le (Nat.le_refl _) (by decide) (by decide)) (by decide) (by decide) rfl (by decide) dX12_init_585 rfl ?_
  refine Wp.last (pc := 588) (wJ_at (k := 1) (by decide) (by decide)) (aLen_mk hA63 rfl) dX12_init_588 ?_
  have hF := hF.sJ (k := 63) (j := 1) (v := (wdV 108 97 119 0 0 0 0)) (by decide)
  refine Wp.aload_n (pc := 589) 0 rfl rfl dX12_init_589 ?_
  refine Wp.getR (pc := 590) (r := 63) rfl hT nk_RX12_34 rfl dX12_init_590 ?_
  refine Wp.iconst (pc := 593) (2 : Int32) (by decide) dX12_init_593 ?_
  refine Wp.bipush (pc := 594) (105 : Int32) (by decide) dX12_init_594 ?_
  refine Wp.bipush (pc := 596) (102 : Int32) (by decide) dX12_init_596 ?_
  refine Wp.iconst (pc := 598) (0 : Int32) (by decide) dX12_init_598 ?_
  refine Wp.iconst (pc := 599) (0 : Int32) (by decide) dX12_init_599 ?_
  refine Wp.iconst (pc := 600) (0 : Int32) (by decide) dX12_init_600 ?_
  refine Wp.iconst (pc := 601) (0 : Int32) (by decide) dX12_init_601 ?_
  refine Wp.iconst (pc := 602) (0 : Int32) (by decide) dX12_init_602 ?_
  refine Wp.callSl (pc := 603) (st := [.int 2, .ref 63]) (as := [.int 105, .int 102, .int 0, .int 0, .int 0, .int 0, .int 0]) (ct_word 105 102 0 0 0 0 0) nml_RX12_212 nms_X12_word nmb_X12_word (hX.le (Nat.le_refl _) (by decide) (by decide)) (by decide) (by decide) rfl (by decide) dX12_init_603 rfl ?_
  refine Wp.last (pc := 606) (wJ_at (k := 2) (by decide) (by decide)) (aLen_mk hA63 rfl) dX12_init_606 ?_
  have hF := hF.sJ (k := 63) (j := 2) (v := (wdV 105 102 0 0 0 0 0)) (by decide)
  refine Wp.aload_n (pc := 607) 0 rfl rfl dX12_init_607 ?_
  refine Wp.getR (pc := 608) (r := 63) rfl hT nk_RX12_34 rfl dX12_init_608 ?_
  refine Wp.iconst (pc := 611) (3 : Int32) (by decide) dX12_init_611 ?_
  refine Wp.bipush (pc := 612) (116 : Int32) (by decide) dX12_init_612 ?_
  refine Wp.bipush (pc := 614) (104 : Int32) (by decide) dX12_init_614 ?_
  refine Wp.bipush (pc := 616) (101 : Int32) (by decide) dX12_init_616 ?_
  refine Wp.bipush (pc := 618) (110 : Int32) (by decide) dX12_init_618 ?_
  refine Wp.iconst (pc := 620) (0 : Int32) (by decide) dX12_init_620 ?_
  refine Wp.iconst (pc := 621) (0 : Int32) (by decide) dX12_init_621 ?_
  refine Wp.iconst (pc := 622) (0 : Int32) (by decide) dX12_init_622 ?_
  refine Wp.callSl (pc := 623) (st := [.int 3, .ref 63]) (as := [.int 116, .int 104, .int 101, .int 110, .int 0, .int 0, .int 0]) (ct_word 116 104 101 110 0 0 0) nml_RX12_212 nms_X12_word nmb_X12_word (hX.le (Nat.le_refl _) (by decide) (by decide)) (by decide) (by decide) rfl (by decide) dX12_init_623 rfl ?_
  refine Wp.last (pc := 626) (wJ_at (k := 3) (by decide) (by decide)) (aLen_mk hA63 rfl) dX12_init_626 ?_
  have hF := hF.sJ (k := 63) (j := 3) (v := (wdV 116 104 101 110 0 0 0)) (by decide)
  refine Wp.aload_n (pc := 627) 0 rfl rfl dX12_init_627 ?_
  refine Wp.getR (pc := 628) (r := 63) rfl hT nk_RX12_34 rfl dX12_init_628 ?_
  refine Wp.iconst (pc := 631) (4 : Int32) (by decide) dX12_init_631 ?_
  refine Wp.bipush (pc := 632) (101 : Int32) (by decide) dX12_init_632 ?_
  refine Wp.bipush (pc := 634) (108 : Int32) (by decide) dX12_init_634 ?_
  refine Wp.bipush (pc := 636) (115 : Int32) (by decide) dX12_init_636 ?_
  refine Wp.bipush (pc := 638) (101 : Int32) (by decide) dX12_init_638 ?_
  refine Wp.iconst (pc := 640) (0 : Int32) (by decide) dX12_init_640 ?_
  refine Wp.iconst (pc := 641) (0 : Int32) (by decide) dX12_init_641 ?_
  refine Wp.iconst (pc := 642) (0 : Int32) (by decide) dX12_init_642 ?_
  refine Wp.callSl (pc := 643) (st := [.int 4, .ref 63]) (as := [.int 101, .int 108, .int 115, .int 101, .int 0, .int 0, .int 0]) (ct_word 101 108 115 101 0 0 0) nml_RX12_212 nms_X12_word nmb_X12_word (hX.le (Nat.le_refl _) (by decide) (by decide)) (by decide) (by decide) rfl (by decide) dX12_init_643 rfl ?_
  refine Wp.last (pc := 646) (wJ_at (k := 4) (by decide) (by decide)) (aLen_mk hA63 rfl) dX12_init_646 ?_
  have hF := hF.sJ (k := 63) (j := 4) (v := (wdV 101 108 115 101 0 0 0)) (by decide)
  refine Wp.aload_n (pc := 647) 0 rfl rfl dX12_init_647 ?_
  refine Wp.getR (pc := 648) (r := 63) rfl hT nk_RX12_34 rfl dX12_init_648 ?_
  refine Wp.iconst (pc := 651) (5 : Int32) (by decide) dX12_init_651 ?_
  refine Wp.bipush (pc := 652) (109 : Int32) (by decide) dX12_init_652 ?_
  refine Wp.bipush (pc := 654) (97 : Int32) (by decide) dX12_init_654 ?_
  refine Wp.bipush (pc := 656) (110 : Int32) (by decide) dX12_init_656 ?_
  refine Wp.iconst (pc := 658) (0 : Int32) (by decide) dX12_init_658 ?_
  refine Wp.iconst (pc := 659) (0 : Int32) (by decide) dX12_init_659 ?_
  refine Wp.iconst (pc := 660) (0 : Int32) (by decide) dX12_init_660 ?_
  refine Wp.iconst (pc := 661) (0 : Int32) (by decide) dX12_init_661 ?_
  refine Wp.callSl (pc := 662) (st := [.int 5, .ref 63]) (as := [.int 109, .int 97, .int 110, .int 0, .int 0, .int 0, .int 0]) (ct_word 109 97 110 0 0 0 0) nml_RX12_212 nms_X12_word nmb_X12_word (hX.le (Nat.le_refl _) (by decide) (by decide)) (by decide) (by decide) rfl (by decide) dX12_init_662 rfl ?_
  refine Wp.last (pc := 665) (wJ_at (k := 5) (by decide) (by decide)) (aLen_mk hA63 rfl) dX12_init_665 ?_
  have hF := hF.sJ (k := 63) (j := 5) (v := (wdV 109 97 110 0 0 0 0)) (by decide)
  refine Wp.aload_n (pc := 666) 0 rfl rfl dX12_init_666 ?_
  refine Wp.getR (pc := 667) (r := 63) rfl hT nk_RX12_34 rfl dX12_init_667 ?_
  refine Wp.bipush (pc := 670) (6 : Int32) (by decide) dX12_init_670 ?_
  refine Wp.bipush (pc := 672) (100 : Int32) (by decide) dX12_init_672 ?_
  refine Wp.bipush (pc := 674) (114 : Int32) (by decide) dX12_init_674 ?_
  refine Wp.bipush (pc := 676) (117 : Int32) (by decide) dX12_init_676 ?_
  refine Wp.bipush (pc := 678) (109 : Int32) (by decide) dX12_init_678 ?_
  refine Wp.iconst (pc := 680) (0 : Int32) (by decide) dX12_init_680 ?_
  refine Wp.iconst (pc := 681) (0 : Int32) (by decide) dX12_init_681 ?_
  refine Wp.iconst (pc := 682) (0 : Int32) (by decide) dX12_init_682 ?_
  refine Wp.callSl (pc := 683) (st := [.int 6, .ref 63]) (as := [.int 100, .int 114, .int 117, .int 109, .int 0, .int 0, .int 0]) (ct_word 100 114 117 109 0 0 0) nml_RX12_212 nms_X12_word nmb_X12_word (hX.le (Nat.le_refl _) (by decide) (by decide)) (by decide) (by decide) rfl (by decide) dX12_init_683 rfl ?_
  refine Wp.last (pc := 686) (wJ_at (k := 6) (by decide) (by decide)) (aLen_mk hA63 rfl) dX12_init_686 ?_
  have hF := hF.sJ (k := 63) (j := 6) (v := (wdV 100 114 117 109 0 0 0)) (by decide)
  refine Wp.aload_n (pc := 687) 0 rfl rfl dX12_init_687 ?_
  refine Wp.getR (pc := 688) (r := 63) rfl hT nk_RX12_34 rfl dX12_init_688 ?_
  refine Wp.bipush (pc := 691) (7 : Int32) (by decide) dX12_init_691 ?_
  refine Wp.bipush (pc := 693) (115 : Int32) (by decide) dX12_init_693 ?_
  refine Wp.bipush (pc := 695) (111 : Int32) (by decide) dX12_init_695 ?_
  refine Wp.bipush (pc := 697) (110 : Int32) (by decide) dX12_init_697 ?_
  refine Wp.bipush (pc := 699) (103 : Int32) (by decide) dX12_init_699 ?_
  refine Wp.iconst (pc := 701) (0 : Int32) (by decide) dX12_init_701 ?_
  refine Wp.iconst (pc := 702) (0 : Int32) (by decide) dX12_init_702 ?_
  refine Wp.iconst (pc := 703) (0 : Int32) (by decide) dX12_init_703 ?_
  refine Wp.callSl (pc := 704) (st := [.int 7, .ref 63]) (as := [.int 115, .int 111, .int 110, .int 103, .int 0, .int 0, .int 0]) (ct_word 115 111 110 103 0 0 0) nml_RX12_212 nms_X12_word nmb_X12_word (hX.le (Nat.le_refl _) (by decide) (by decide)) (by decide) (by decide) rfl (by decide) dX12_init_704 rfl ?_
  refine Wp.last (pc := 707) (wJ_at (k := 7) (by decide) (by decide)) (aLen_mk hA63 rfl) dX12_init_707 ?_
  have hF := hF.sJ (k := 63) (j := 7) (v := (wdV 115 111 110 103 0 0 0)) (by decide)
  refine Wp.aload_n (pc := 708) 0 rfl rfl dX12_init_708 ?_
  refine Wp.getR (pc := 709) (r := 63) rfl hT nk_RX12_34 rfl dX12_init_709 ?_
  refine Wp.bipush (pc := 712) (8 : Int32) (by decide) dX12_init_712 ?_
  refine Wp.bipush (pc := 714) (102 : Int32) (by decide) dX12_init_714 ?_
  refine Wp.bipush (pc := 716) (111 : Int32) (by decide) dX12_init_716 ?_
  refine Wp.bipush (pc := 718) (103 : Int32) (by decide) dX12_init_718 ?_
  refine Wp.iconst (pc := 720) (0 : Int32) (by decide) dX12_init_720 ?_
  refine Wp.iconst (pc := 721) (0 : Int32) (by decide) dX12_init_721 ?_
  refine Wp.iconst (pc := 722) (0 : Int32) (by decide) dX12_init_722 ?_
  refine Wp.iconst (pc := 723) (0 : Int32) (by decide) dX12_init_723 ?_
  refine Wp.callSl (pc := 724) (st := [.int 8, .ref 63]) (as := [.int 102, .int 111, .int 103, .int 0, .int 0, .int 0, .int 0]) (ct_word 102 111 103 0 0 0 0) nml_RX12_212 nms_X12_word nmb_X12_word (hX.le (Nat.le_refl _) (by decide) (by decide)) (by decide) (by decide) rfl (by decide) dX12_init_724 rfl ?_
  refine Wp.last (pc := 727) (wJ_at (k := 8) (by decide) (by decide)) (aLen_mk hA63 rfl) dX12_init_727 ?_
  have hF := hF.sJ (k := 63) (j := 8) (v := (wdV 102 111 103 0 0 0 0)) (by decide)
  refine Wp.aload_n (pc := 728) 0 rfl rfl dX12_init_728 ?_
  refine Wp.getR (pc := 729) (r := 63) rfl hT nk_RX12_34 rfl dX12_init_729 ?_
  refine Wp.bipush (pc := 732) (9 : Int32) (by decide) dX12_init_732 ?_
  refine Wp.bipush (pc := 734) (111 : Int32) (by decide) dX12_init_734 ?_
  refine Wp.bipush (pc := 736) (114 : Int32) (by decide) dX12_init_736 ?_
  refine Wp.iconst (pc := 738) (0 : Int32) (by decide) dX12_init_738 ?_
  refine Wp.iconst (pc := 739) (0 : Int32) (by decide) dX12_init_739 ?_
  refine Wp.iconst (pc := 740) (0 : Int32) (by decide) dX12_init_740 ?_
  refine Wp.iconst (pc := 741) (0 : Int32) (by decide) dX12_init_741 ?_
  refine Wp.iconst (pc := 742) (0 : Int32) (by decide) dX12_init_742 ?_
  refine Wp.callSl (pc := 743) (st := [.int 9, .ref 63]) (as := [.int 111, .int 114, .int 0, .int 0, .int 0, .int 0, .int 0]) (ct_word 111 114 0 0 0 0 0) nml_RX12_212 nms_X12_word nmb_X12_word (hX.le (Nat.le_refl _) (by decide) (by decide)) (by decide) (by decide) rfl (by decide) dX12_init_743 rfl ?_
  refine Wp.last (pc := 746) (wJ_at (k := 9) (by decide) (by decide)) (aLen_mk hA63 rfl) dX12_init_746 ?_
  have hF := hF.sJ (k := 63) (j := 9) (v := (wdV 111 114 0 0 0 0 0)) (by decide)
  refine Wp.aload_n (pc := 747) 0 rfl rfl dX12_init_747 ?_
  refine Wp.getR (pc := 748) (r := 63) rfl hT nk_RX12_34 rfl dX12_init_748 ?_
  refine Wp.bipush (pc := 751) (10 : Int32) (by decide) dX12_init_751 ?_
  refine Wp.bipush (pc := 753) (97 : Int32) (by decide) dX12_init_753 ?_
  refine Wp.bipush (pc := 755) (110 : Int32) (by decide) dX12_init_755 ?_
  refine Wp.bipush (pc := 757) (100 : Int32) (by decide) dX12_init_757 ?_
  refine Wp.iconst (pc := 759) (0 : Int32) (by decide) dX12_init_759 ?_
  refine Wp.iconst (pc := 760) (0 : Int32) (by decide) dX12_init_760 ?_
  refine Wp.iconst (pc := 761) (0 : Int32) (by decide) dX12_init_761 ?_
  refine Wp.iconst (pc := 762) (0 : Int32) (by decide) dX12_init_762 ?_
  refine Wp.callSl (pc := 763) (st := [.int 10, .ref 63]) (as := [.int 97, .int 110, .int 100, .int 0, .int 0, .int 0, .int 0]) (ct_word 97 110 100 0 0 0 0) nml_RX12_212 nms_X12_word nmb_X12_word (hX.le (Nat.le_refl _) (by decide) (by decide)) (by decide) (by decide) rfl (by decide) dX12_init_763 rfl ?_
  refine Wp.last (pc := 766) (wJ_at (k := 10) (by decide) (by decide)) (aLen_mk hA63 rfl) dX12_init_766 ?_
  have hF := hF.sJ (k := 63) (j := 10) (v := (wdV 97 110 100 0 0 0 0)) (by decide)
  refine Wp.aload_n (pc := 767) 0 rfl rfl dX12_init_767 ?_
  refine Wp.getR (pc := 768) (r := 63) rfl hT nk_RX12_34 rfl dX12_init_768 ?_
  refine Wp.bipush (pc := 771) (11 : Int32) (by decide) dX12_init_771 ?_
  refine Wp.bipush (pc := 773) (110 : Int32) (by decide) dX12_init_773 ?_
  refine Wp.bipush (pc := 775) (111 : Int32) (by decide) dX12_init_775 ?_
  refine Wp.bipush (pc := 777) (116 : Int32) (by decide) dX12_init_777 ?_
  refine Wp.iconst (pc := 779) (0 : Int32) (by decide) dX12_init_779 ?_
  refine Wp.iconst (pc := 780) (0 : Int32) (by decide) dX12_init_780 ?_
  refine Wp.iconst (pc := 781) (0 : Int32) (by decide) dX12_init_781 ?_
  refine Wp.iconst (pc := 782) (0 : Int32) (by decide) dX12_init_782 ?_
  refine Wp.callSl (pc := 783) (st := [.int 11, .ref 63]) (as := [.int 110, .int 111, .int 116, .int 0, .int 0, .int 0, .int 0]) (ct_word 110 111 116 0 0 0 0) nml_RX12_212 nms_X12_word nmb_X12_word (hX.le (Nat.le_refl _) (by decide) (by decide)) (by decide) (by decide) rfl (by decide) dX12_init_783 rfl ?_
  refine Wp.last (pc := 786) (wJ_at (k := 11) (by decide) (by decide)) (aLen_mk hA63 rfl) dX12_init_786 ?_
  have hF := hF.sJ (k := 63) (j := 11) (v := (wdV 110 111 116 0 0 0 0)) (by decide)
  refine Wp.aload_n (pc := 787) 0 rfl rfl dX12_init_787 ?_
  refine Wp.getR (pc := 788) (r := 63) rfl hT nk_RX12_34 rfl dX12_init_788 ?_
  refine Wp.bipush (pc := 791) (12 : Int32) (by decide) dX12_init_791 ?_
  refine Wp.bipush (pc := 793) (111 : Int32) (by decide) dX12_init_793 ?_
  refine Wp.bipush (pc := 795) (119 : Int32) (by decide) dX12_init_795 ?_
  refine Wp.bipush (pc := 797) (110 : Int32) (by decide) dX12_init_797 ?_
  refine Wp.iconst (pc := 799) (0 : Int32) (by decide) dX12_init_799 ?_
  refine Wp.iconst (pc := 800) (0 : Int32) (by decide) dX12_init_800 ?_
  refine Wp.iconst (pc := 801) (0 : Int32) (by decide) dX12_init_801 ?_
  refine Wp.iconst (pc := 802) (0 : Int32) (by decide) dX12_init_802 ?_
  refine Wp.callSl (pc := 803) (st := [.int 12, .ref 63]) (as := [.int 111, .int 119, .int 110, .int 0, .int 0, .int 0, .int 0]) (ct_word 111 119 110 0 0 0 0) nml_RX12_212 nms_X12_word nmb_X12_word (hX.le (Nat.le_refl _) (by decide) (by decide)) (by decide) (by decide) rfl (by decide) dX12_init_803 rfl ?_
  refine Wp.last (pc := 806) (wJ_at (k := 12) (by decide) (by decide)) (aLen_mk hA63 rfl) dX12_init_806 ?_
  have hF := hF.sJ (k := 63) (j := 12) (v := (wdV 111 119 110 0 0 0 0)) (by decide)
  refine Wp.aload_n (pc := 807) 0 rfl rfl dX12_init_807 ?_
  refine Wp.getR (pc := 808) (r := 63) rfl hT nk_RX12_34 rfl dX12_init_808 ?_
  refine Wp.bipush (pc := 811) (13 : Int32) (by decide) dX12_init_811 ?_
  refine Wp.bipush (pc := 813) (97 : Int32) (by decide) dX12_init_813 ?_
  refine Wp.bipush (pc := 815) (104 : Int32) (by decide) dX12_init_815 ?_
  refine Wp.bipush (pc := 817) (101 : Int32) (by decide) dX12_init_817 ?_
  refine Wp.bipush (pc := 819) (97 : Int32) (by decide) dX12_init_819 ?_
  refine Wp.bipush (pc := 821) (100 : Int32) (by decide) dX12_init_821 ?_
  refine Wp.iconst (pc := 823) (0 : Int32) (by decide) dX12_init_823 ?_
  refine Wp.iconst (pc := 824) (0 : Int32) (by decide) dX12_init_824 ?_
  refine Wp.callSl (pc := 825) (st := [.int 13, .ref 63]) (as := [.int 97, .int 104, .int 101, .int 97, .int 100, .int 0, .int 0]) (ct_word 97 104 101 97 100 0 0) nml_RX12_212 nms_X12_word nmb_X12_word (hX.le (Nat.le_refl _) (by decide) (by decide)) (by decide) (by decide) rfl (by decide) dX12_init_825 rfl ?_
  refine Wp.last (pc := 828) (wJ_at (k := 13) (by decide) (by decide)) (aLen_mk hA63 rfl) dX12_init_828 ?_
  have hF := hF.sJ (k := 63) (j := 13) (v := (wdV 97 104 101 97 100 0 0)) (by decide)
  refine Wp.aload_n (pc := 829) 0 rfl rfl dX12_init_829 ?_
  refine Wp.getR (pc := 830) (r := 63) rfl hT nk_RX12_34 rfl dX12_init_830 ?_
  refine Wp.bipush (pc := 833) (14 : Int32) (by decide) dX12_init_833 ?_
  refine Wp.bipush (pc := 835) (116 : Int32) (by decide) dX12_init_835 ?_
  refine Wp.bipush (pc := 837) (119 : Int32) (by decide) dX12_init_837 ?_
  refine Wp.bipush (pc := 839) (111 : Int32) (by decide) dX12_init_839 ?_
  refine Wp.iconst (pc := 841) (0 : Int32) (by decide) dX12_init_841 ?_
  refine Wp.iconst (pc := 842) (0 : Int32) (by decide) dX12_init_842 ?_
  refine Wp.iconst (pc := 843) (0 : Int32) (by decide) dX12_init_843 ?_
  refine Wp.iconst (pc := 844) (0 : Int32) (by decide) dX12_init_844 ?_
  refine Wp.callSl (pc := 845) (st := [.int 14, .ref 63]) (as := [.int 116, .int 119, .int 111, .int 0, .int 0, .int 0, .int 0]) (ct_word 116 119 111 0 0 0 0) nml_RX12_212 nms_X12_word nmb_X12_word (hX.le (Nat.le_refl _) (by decide) (by decide)) (by decide) (by decide) rfl (by decide) dX12_init_845 rfl ?_
  refine Wp.last (pc := 848) (wJ_at (k := 14) (by decide) (by decide)) (aLen_mk hA63 rfl) dX12_init_848 ?_
  have hF := hF.sJ (k := 63) (j := 14) (v := (wdV 116 119 111 0 0 0 0)) (by decide)
  refine Wp.aload_n (pc := 849) 0 rfl rfl dX12_init_849 ?_
  refine Wp.getR (pc := 850) (r := 63) rfl hT nk_RX12_34 rfl dX12_init_850 ?_
  refine Wp.bipush (pc := 853) (15 : Int32) (by decide) dX12_init_853 ?_
  refine Wp.bipush (pc := 855) (98 : Int32) (by decide) dX12_init_855 ?_
  refine Wp.bipush (pc := 857) (101 : Int32) (by decide) dX12_init_857 ?_
  refine Wp.bipush (pc := 859) (110 : Int32) (by decide) dX12_init_859 ?_
  refine Wp.bipush (pc := 861) (99 : Int32) (by decide) dX12_init_861 ?_
  refine Wp.bipush (pc := 863) (104 : Int32) (by decide) dX12_init_863 ?_
  refine Wp.iconst (pc := 865) (0 : Int32) (by decide) dX12_init_865 ?_
  refine Wp.iconst (pc := 866) (0 : Int32) (by decide) dX12_init_866 ?_
  refine Wp.callSl (pc := 867) (st := [.int 15, .ref 63]) (as := [.int 98, .int 101, .int 110, .int 99, .int 104, .int 0, .int 0]) (ct_word 98 101 110 99 104 0 0) nml_RX12_212 nms_X12_word nmb_X12_word (hX.le (Nat.le_refl _) (by decide) (by decide)) (by decide) (by decide) rfl (by decide) dX12_init_867 rfl ?_
  refine Wp.last (pc := 870) (wJ_at (k := 15) (by decide) (by decide)) (aLen_mk hA63 rfl) dX12_init_870 ?_
  have hF := hF.sJ (k := 63) (j := 15) (v := (wdV 98 101 110 99 104 0 0)) (by decide)
  refine Wp.aload_n (pc := 871) 0 rfl rfl dX12_init_871 ?_
  refine Wp.getR (pc := 872) (r := 63) rfl hT nk_RX12_34 rfl dX12_init_872 ?_
  refine Wp.bipush (pc := 875) (16 : Int32) (by decide) dX12_init_875 ?_
  refine Wp.bipush (pc := 877) (103 : Int32) (by decide) dX12_init_877 ?_
  refine Wp.bipush (pc := 879) (97 : Int32) (by decide) dX12_init_879 ?_
  refine Wp.bipush (pc := 881) (112 : Int32) (by decide) dX12_init_881 ?_
  refine Wp.iconst (pc := 883) (0 : Int32) (by decide) dX12_init_883 ?_
  refine Wp.iconst (pc := 884) (0 : Int32) (by decide) dX12_init_884 ?_
  refine Wp.iconst (pc := 885) (0 : Int32) (by decide) dX12_init_885 ?_
  refine Wp.iconst (pc := 886) (0 : Int32) (by decide) dX12_init_886 ?_
  refine Wp.callSl (pc := 887) (st := [.int 16, .ref 63]) (as := [.int 103, .int 97, .int 112, .int 0, .int 0, .int 0, .int 0]) (ct_word 103 97 112 0 0 0 0) nml_RX12_212 nms_X12_word nmb_X12_word (hX.le (Nat.le_refl _) (by decide) (by decide)) (by decide) (by decide) rfl (by decide) dX12_init_887 rfl ?_
  refine Wp.last (pc := 890) (wJ_at (k := 16) (by decide) (by decide)) (aLen_mk hA63 rfl) dX12_init_890 ?_
  have hF := hF.sJ (k := 63) (j := 16) (v := (wdV 103 97 112 0 0 0 0)) (by decide)
  exact hQ 891 _ dX12_init_891
