/-! the law's cases -/
set_option maxHeartbeats 4000000 in
set_option maxRecDepth 100000 in
theorem lc_0 {X : CX} {T : List Dsc} {R : RM} {c e l a b L i n1 n2 : Nat} {s : SS} {m : M2} {xs : Nat → Int32} (hLw : XLw X b L xs) (hL : L ≤ 3072) (hi : i + 6 ≤ L) (hX : XR X 80 n1 n2) (hG : Geo T R c e) (hB : BS m c l s) (kk : ∀ (m' : M2) (s' : SS), BS m' c l s' → Wp X code RL 4 T (mk m' R) n1 n2 1109 [(0, .ref 1000), (1, .ref 0), (2, .ref 56), (3, .int (nI i))] []) : Wp X code RL 4 T (mk m R) n1 n2 176 [(0, .ref 1000), (1, .ref 0), (2, .ref 56), (3, .int (nI i))] [] := by
  obtain ⟨v, m1, m2, s', e1, e2, hB'⟩ := tt_feed hB (xs (i + 1)) (xs (i + 2)) (xs (i + 3)) (xs (i + 4)) (xs (i + 5))
  refine Wp.aload_n (pc := 176) 1 rfl rfl dL_176 ?_
  refine Wp.aload_n (pc := 177) 0 rfl rfl dL_177 ?_
  refine Wp.iload_n (pc := 178) 3 rfl rfl dL_178 ?_
  refine Wp.iconst (pc := 179) (1 : Int32) (by decide) dL_179 ?_
  refine Wp.iadd (pc := 180) dL_180 ?_
  refine Wp.sarg (pc := 181) (k := 1) hLw rfl (by omega) hL dL_181 ?_
  refine Wp.aload_n (pc := 182) 0 rfl rfl dL_182 ?_
  refine Wp.iload_n (pc := 183) 3 rfl rfl dL_183 ?_
  refine Wp.iconst (pc := 184) (2 : Int32) (by decide) dL_184 ?_
  refine Wp.iadd (pc := 185) dL_185 ?_
  refine Wp.sarg (pc := 186) (k := 2) hLw rfl (by omega) hL dL_186 ?_
  refine Wp.aload_n (pc := 187) 0 rfl rfl dL_187 ?_
  refine Wp.iload_n (pc := 188) 3 rfl rfl dL_188 ?_
  refine Wp.iconst (pc := 189) (3 : Int32) (by decide) dL_189 ?_
  refine Wp.iadd (pc := 190) dL_190 ?_
  refine Wp.sarg (pc := 191) (k := 3) hLw rfl (by omega) hL dL_191 ?_
  refine Wp.aload_n (pc := 192) 0 rfl rfl dL_192 ?_
  refine Wp.iload_n (pc := 193) 3 rfl rfl dL_193 ?_
  refine Wp.iconst (pc := 194) (4 : Int32) (by decide) dL_194 ?_
  refine Wp.iadd (pc := 195) dL_195 ?_
  refine Wp.sarg (pc := 196) (k := 4) hLw rfl (by omega) hL dL_196 ?_
  refine Wp.aload_n (pc := 197) 0 rfl rfl dL_197 ?_
  refine Wp.iload_n (pc := 198) 3 rfl rfl dL_198 ?_
  refine Wp.iconst (pc := 199) (5 : Int32) (by decide) dL_199 ?_
  refine Wp.iadd (pc := 200) dL_200 ?_
  refine Wp.sarg (pc := 201) (k := 5) hLw rfl (by omega) hL dL_201 ?_
  refine Wp.callVi (pc := 202) (b := 0) (st := []) (as := [.int (xs (i + 1)), .int (xs (i + 2)), .int (xs (i + 3)), .int (xs (i + 4)), .int (xs (i + 5))]) (ci := 10) (c_X11_feed hG e1) lml_13 lmv_X11_feed lmb_X11_feed hX (by decide) (by decide) rfl (hG.t 0 rfl) rfl (by decide) dL_202 rfl ?_
  refine Wp.aload_n (pc := 205) 2 rfl rfl dL_205 ?_
  refine Wp.aload_n (pc := 206) 0 rfl rfl dL_206 ?_
  refine Wp.iload_n (pc := 207) 3 rfl rfl dL_207 ?_
  refine Wp.iconst (pc := 208) (1 : Int32) (by decide) dL_208 ?_
  refine Wp.iadd (pc := 209) dL_209 ?_
  refine Wp.sarg (pc := 210) (k := 1) hLw rfl (by omega) hL dL_210 ?_
  refine Wp.aload_n (pc := 211) 0 rfl rfl dL_211 ?_
  refine Wp.iload_n (pc := 212) 3 rfl rfl dL_212 ?_
  refine Wp.iconst (pc := 213) (2 : Int32) (by decide) dL_213 ?_
  refine Wp.iadd (pc := 214) dL_214 ?_
  refine Wp.sarg (pc := 215) (k := 2) hLw rfl (by omega) hL dL_215 ?_
  refine Wp.aload_n (pc := 216) 0 rfl rfl dL_216 ?_
  refine Wp.iload_n (pc := 217) 3 rfl rfl dL_217 ?_
  refine Wp.iconst (pc := 218) (3 : Int32) (by decide) dL_218 ?_
  refine Wp.iadd (pc := 219) dL_219 ?_
  refine Wp.sarg (pc := 220) (k := 3) hLw rfl (by omega) hL dL_220 ?_
  refine Wp.aload_n (pc := 221) 0 rfl rfl dL_221 ?_
  refine Wp.iload_n (pc := 222) 3 rfl rfl dL_222 ?_
  refine Wp.iconst (pc := 223) (4 : Int32) (by decide) dL_223 ?_
  refine Wp.iadd (pc := 224) dL_224 ?_
  refine Wp.sarg (pc := 225) (k := 4) hLw rfl (by omega) hL dL_225 ?_
  refine Wp.aload_n (pc := 226) 0 rfl rfl dL_226 ?_
  refine Wp.iload_n (pc := 227) 3 rfl rfl dL_227 ?_
  refine Wp.iconst (pc := 228) (5 : Int32) (by decide) dL_228 ?_
  refine Wp.iadd (pc := 229) dL_229 ?_
  refine Wp.sarg (pc := 230) (k := 5) hLw rfl (by omega) hL dL_230 ?_
  refine Wp.callVi (pc := 231) (b := 56) (st := [.int v]) (as := [.int (xs (i + 1)), .int (xs (i + 2)), .int (xs (i + 3)), .int (xs (i + 4)), .int (xs (i + 5))]) (ci := 11) (c_X12_feed hG e2) lml_17 lmv_X12_feed lmb_X12_feed hX (by decide) (by decide) rfl (hG.t 56 rfl) rfl (Nat.le_of_ble_eq_true rfl) dL_231 rfl ?_
  refine Wp.icmp_eq (pc := 234) 1109 dL_234 (by decide) (fun _ => ?_) (fun q => absurd rfl q)
  exact kk _ _ hB'
set_option maxHeartbeats 4000000 in
set_option maxRecDepth 100000 in
theorem lc_1 {X : CX} {T : List Dsc} {R : RM} {c e l a b L i n1 n2 : Nat} {s : SS} {m : M2} {xs : Nat → Int32} (hLw : XLw X b L xs) (hL : L ≤ 3072) (hi : i + 6 ≤ L) (hX : XR X 80 n1 n2) (hG : Geo T R c e) (hB : BS m c l s) (kk : ∀ (m' : M2) (s' : SS), BS m' c l s' → Wp X code RL 4 T (mk m' R) n1 n2 1109 [(0, .ref 1000), (1, .ref 0), (2, .ref 56), (3, .int (nI i))] []) : Wp X code RL 4 T (mk m R) n1 n2 239 [(0, .ref 1000), (1, .ref 0), (2, .ref 56), (3, .int (nI i))] [] := by
  obtain ⟨v, m1, m2, s', e1, e2, hB'⟩ := tt_back hB (xs (i + 1))
  refine Wp.aload_n (pc := 239) 1 rfl rfl dL_239 ?_
  refine Wp.aload_n (pc := 240) 0 rfl rfl dL_240 ?_
  refine Wp.iload_n (pc := 241) 3 rfl rfl dL_241 ?_
  refine Wp.iconst (pc := 242) (1 : Int32) (by decide) dL_242 ?_
  refine Wp.iadd (pc := 243) dL_243 ?_
  refine Wp.sarg (pc := 244) (k := 1) hLw rfl (by omega) hL dL_244 ?_
  refine Wp.callVi (pc := 245) (b := 0) (st := []) (as := [.int (xs (i + 1))]) (ci := 10) (c_X11_back hG e1) lml_18 lmv_X11_back lmb_X11_back hX (by decide) (by decide) rfl (hG.t 0 rfl) rfl (by decide) dL_245 rfl ?_
  refine Wp.aload_n (pc := 248) 2 rfl rfl dL_248 ?_
  refine Wp.aload_n (pc := 249) 0 rfl rfl dL_249 ?_
  refine Wp.iload_n (pc := 250) 3 rfl rfl dL_250 ?_
  refine Wp.iconst (pc := 251) (1 : Int32) (by decide) dL_251 ?_
  refine Wp.iadd (pc := 252) dL_252 ?_
  refine Wp.sarg (pc := 253) (k := 1) hLw rfl (by omega) hL dL_253 ?_
  refine Wp.callVi (pc := 254) (b := 56) (st := [.int v]) (as := [.int (xs (i + 1))]) (ci := 11) (c_X12_back hG e2) lml_22 lmv_X12_back lmb_X12_back hX (by decide) (by decide) rfl (hG.t 56 rfl) rfl (Nat.le_of_ble_eq_true rfl) dL_254 rfl ?_
  refine Wp.icmp_eq (pc := 257) 1109 dL_257 (by decide) (fun _ => ?_) (fun q => absurd rfl q)
  exact kk _ _ hB'
set_option maxHeartbeats 4000000 in
set_option maxRecDepth 100000 in
theorem lc_2 {X : CX} {T : List Dsc} {R : RM} {c e l a b L i n1 n2 : Nat} {s : SS} {m : M2} {xs : Nat → Int32} (hLw : XLw X b L xs) (hL : L ≤ 3072) (hi : i + 6 ≤ L) (hX : XR X 80 n1 n2) (hG : Geo T R c e) (hP : PH T R a) (hB : BS m c l s) (kk : ∀ (R' : RM) (c' e' l' : Nat) (m' : M2) (s' : SS), Geo T R' c' e' → PH T R' a → BS m' c' l' s' → Wp X code RL 4 T (mk m' R') n1 n2 1109 [(0, .ref 1000), (1, .ref 0), (2, .ref 56), (3, .int (nI i))] []) : Wp X code RL 4 T (mk m R) n1 n2 262 [(0, .ref 1000), (1, .ref 0), (2, .ref 56), (3, .int (nI i))] [] := by
  obtain ⟨c', l', ⟨hc', hl'⟩, ⟨v, m1, m2, s', e1, e2, hB'⟩, hor, hv⟩ := tt_read (e0 := e) hB
  have hcc : (if v = 0 then 10 - c else c) = c' := by
    have h1 := hv v m1 e1
    by_cases hz : v = 0
    · rw [if_pos hz]
      exact (h1.mp hz).symm
    · rw [if_neg hz]
      rcases hor with h | h
      · exact h.symm
      · exact absurd (h1.mpr h) hz
  have hG1 := geo_rd hG v
  rw [hcc] at hG1
  refine Wp.aload_n (pc := 262) 1 rfl rfl dL_262 ?_
  refine Wp.callVi (pc := 263) (b := 0) (st := []) (as := []) (ci := 10) (ca_read hG e1) lml_23 lmv_X11_read lmb_X11_read hX (by decide) (by decide) rfl (hG.t 0 rfl) rfl (by decide) dL_263 rfl ?_
  refine Wp.aload_n (pc := 266) 2 rfl rfl dL_266 ?_
  refine Wp.callVi (pc := 267) (b := 56) (st := [.int v]) (as := []) (ci := 11) (c_X12_read hG1 e2) lml_27 lmv_X12_read lmb_X12_read hX (by decide) (by decide) rfl (hG1.t 56 rfl) rfl (Nat.le_of_ble_eq_true rfl) dL_267 rfl ?_
  refine Wp.icmp_eq (pc := 270) 1109 dL_270 (by decide) (fun _ => ?_) (fun q => absurd rfl q)
  exact kk _ _ _ _ _ _ hG1 (ph_rd hG.hc hP v) hB'
set_option maxHeartbeats 4000000 in
set_option maxRecDepth 100000 in
theorem lc_3 {X : CX} {T : List Dsc} {R : RM} {c e l a b L i n1 n2 : Nat} {s : SS} {m : M2} {xs : Nat → Int32} (hLw : XLw X b L xs) (hL : L ≤ 3072) (hi : i + 6 ≤ L) (hX : XR X 80 n1 n2) (hG : Geo T R c e) (hB : BS m c l s) (kk : ∀ (m' : M2) (s' : SS), BS m' c l s' → Wp X code RL 4 T (mk m' R) n1 n2 1109 [(0, .ref 1000), (1, .ref 0), (2, .ref 56), (3, .int (nI i))] []) : Wp X code RL 4 T (mk m R) n1 n2 275 [(0, .ref 1000), (1, .ref 0), (2, .ref 56), (3, .int (nI i))] [] := by
  obtain ⟨v, m1, m2, s', e1, e2, hB'⟩ := tt_place hB 
  refine Wp.aload_n (pc := 275) 1 rfl rfl dL_275 ?_
  refine Wp.callVi (pc := 276) (b := 0) (st := []) (as := []) (ci := 10) (c_X11_place hG e1) lml_28 lmv_X11_place lmb_X11_place hX (by decide) (by decide) rfl (hG.t 0 rfl) rfl (by decide) dL_276 rfl ?_
  refine Wp.aload_n (pc := 279) 2 rfl rfl dL_279 ?_
  refine Wp.callVi (pc := 280) (b := 56) (st := [.int v]) (as := []) (ci := 11) (c_X12_place hG e2) lml_31 lmv_X12_place lmb_X12_place hX (by decide) (by decide) rfl (hG.t 56 rfl) rfl (Nat.le_of_ble_eq_true rfl) dL_280 rfl ?_
  refine Wp.icmp_eq (pc := 283) 1109 dL_283 (by decide) (fun _ => ?_) (fun q => absurd rfl q)
  exact kk _ _ hB'
set_option maxHeartbeats 4000000 in
set_option maxRecDepth 100000 in
theorem lc_4 {X : CX} {T : List Dsc} {R : RM} {c e l a b L i n1 n2 : Nat} {s : SS} {m : M2} {xs : Nat → Int32} (hLw : XLw X b L xs) (hL : L ≤ 3072) (hi : i + 6 ≤ L) (hX : XR X 80 n1 n2) (hG : Geo T R c e) (hB : BS m c l s) (kk : ∀ (m' : M2) (s' : SS), BS m' c l s' → Wp X code RL 4 T (mk m' R) n1 n2 1109 [(0, .ref 1000), (1, .ref 0), (2, .ref 56), (3, .int (nI i))] []) : Wp X code RL 4 T (mk m R) n1 n2 288 [(0, .ref 1000), (1, .ref 0), (2, .ref 56), (3, .int (nI i))] [] := by
  obtain ⟨v, m1, m2, s', e1, e2, hB'⟩ := tt_bench hB (xs (i + 1)) (xs (i + 2))
  refine Wp.aload_n (pc := 288) 1 rfl rfl dL_288 ?_
  refine Wp.aload_n (pc := 289) 0 rfl rfl dL_289 ?_
  refine Wp.iload_n (pc := 290) 3 rfl rfl dL_290 ?_
  refine Wp.iconst (pc := 291) (1 : Int32) (by decide) dL_291 ?_
  refine Wp.iadd (pc := 292) dL_292 ?_
  refine Wp.sarg (pc := 293) (k := 1) hLw rfl (by omega) hL dL_293 ?_
  refine Wp.aload_n (pc := 294) 0 rfl rfl dL_294 ?_
  refine Wp.iload_n (pc := 295) 3 rfl rfl dL_295 ?_
  refine Wp.iconst (pc := 296) (2 : Int32) (by decide) dL_296 ?_
  refine Wp.iadd (pc := 297) dL_297 ?_
  refine Wp.sarg (pc := 298) (k := 2) hLw rfl (by omega) hL dL_298 ?_
  refine Wp.callVi (pc := 299) (b := 0) (st := []) (as := [.int (xs (i + 1)), .int (xs (i + 2))]) (ci := 10) (c_X11_bench hG e1) lml_32 lmv_X11_bench lmb_X11_bench hX (by decide) (by decide) rfl (hG.t 0 rfl) rfl (by decide) dL_299 rfl ?_
  refine Wp.aload_n (pc := 302) 2 rfl rfl dL_302 ?_
  refine Wp.aload_n (pc := 303) 0 rfl rfl dL_303 ?_
  refine Wp.iload_n (pc := 304) 3 rfl rfl dL_304 ?_
  refine Wp.iconst (pc := 305) (1 : Int32) (by decide) dL_305 ?_
  refine Wp.iadd (pc := 306) dL_306 ?_
  refine Wp.sarg (pc := 307) (k := 1) hLw rfl (by omega) hL dL_307 ?_
  refine Wp.aload_n (pc := 308) 0 rfl rfl dL_308 ?_
  refine Wp.iload_n (pc := 309) 3 rfl rfl dL_309 ?_
  refine Wp.iconst (pc := 310) (2 : Int32) (by decide) dL_310 ?_
  refine Wp.iadd (pc := 311) dL_311 ?_
  refine Wp.sarg (pc := 312) (k := 2) hLw rfl (by omega) hL dL_312 ?_
  refine Wp.callVi (pc := 313) (b := 56) (st := [.int v]) (as := [.int (xs (i + 1)), .int (xs (i + 2))]) (ci := 11) (c_X12_bench hG e2) lml_36 lmv_X12_bench lmb_X12_bench hX (by decide) (by decide) rfl (hG.t 56 rfl) rfl (Nat.le_of_ble_eq_true rfl) dL_313 rfl ?_
  refine Wp.icmp_eq (pc := 316) 1109 dL_316 (by decide) (fun _ => ?_) (fun q => absurd rfl q)
  exact kk _ _ hB'
set_option maxHeartbeats 4000000 in
set_option maxRecDepth 100000 in
theorem lc_5 {X : CX} {T : List Dsc} {R : RM} {c e l a b L i n1 n2 : Nat} {s : SS} {m : M2} {xs : Nat → Int32} (hLw : XLw X b L xs) (hL : L ≤ 3072) (hi : i + 6 ≤ L) (hX : XR X 80 n1 n2) (hG : Geo T R c e) (hB : BS m c l s) (kk : ∀ (m' : M2) (s' : SS), BS m' c l s' → Wp X code RL 4 T (mk m' R) n1 n2 1109 [(0, .ref 1000), (1, .ref 0), (2, .ref 56), (3, .int (nI i))] []) : Wp X code RL 4 T (mk m R) n1 n2 321 [(0, .ref 1000), (1, .ref 0), (2, .ref 56), (3, .int (nI i))] [] := by
  obtain ⟨v, m1, m2, s', e1, e2, hB'⟩ := tt_row hB (xs (i + 1))
  refine Wp.aload_n (pc := 321) 1 rfl rfl dL_321 ?_
  refine Wp.aload_n (pc := 322) 0 rfl rfl dL_322 ?_
  refine Wp.iload_n (pc := 323) 3 rfl rfl dL_323 ?_
  refine Wp.iconst (pc := 324) (1 : Int32) (by decide) dL_324 ?_
  refine Wp.iadd (pc := 325) dL_325 ?_
  refine Wp.sarg (pc := 326) (k := 1) hLw rfl (by omega) hL dL_326 ?_
  refine Wp.callVi (pc := 327) (b := 0) (st := []) (as := [.int (xs (i + 1))]) (ci := 10) (c_X11_row hG e1) lml_37 lmv_X11_row lmb_X11_row hX (by decide) (by decide) rfl (hG.t 0 rfl) rfl (by decide) dL_327 rfl ?_
  refine Wp.aload_n (pc := 330) 2 rfl rfl dL_330 ?_
  refine Wp.aload_n (pc := 331) 0 rfl rfl dL_331 ?_
  refine Wp.iload_n (pc := 332) 3 rfl rfl dL_332 ?_
  refine Wp.iconst (pc := 333) (1 : Int32) (by decide) dL_333 ?_
  refine Wp.iadd (pc := 334) dL_334 ?_
  refine Wp.sarg (pc := 335) (k := 1) hLw rfl (by omega) hL dL_335 ?_
  refine Wp.callVi (pc := 336) (b := 56) (st := [.int v]) (as := [.int (xs (i + 1))]) (ci := 11) (c_X12_row hG e2) lml_40 lmv_X12_row lmb_X12_row hX (by decide) (by decide) rfl (hG.t 56 rfl) rfl (Nat.le_of_ble_eq_true rfl) dL_336 rfl ?_
  refine Wp.icmp_eq (pc := 339) 1109 dL_339 (by decide) (fun _ => ?_) (fun q => absurd rfl q)
  exact kk _ _ hB'
set_option maxHeartbeats 4000000 in
set_option maxRecDepth 100000 in
theorem lc_6 {X : CX} {T : List Dsc} {R : RM} {c e l a b L i n1 n2 : Nat} {s : SS} {m : M2} {xs : Nat → Int32} (hLw : XLw X b L xs) (hL : L ≤ 3072) (hi : i + 6 ≤ L) (hX : XR X 80 n1 n2) (hG : Geo T R c e) (hB : BS m c l s) (kk : ∀ (m' : M2) (s' : SS), BS m' c l s' → Wp X code RL 4 T (mk m' R) n1 n2 1109 [(0, .ref 1000), (1, .ref 0), (2, .ref 56), (3, .int (nI i))] []) : Wp X code RL 4 T (mk m R) n1 n2 344 [(0, .ref 1000), (1, .ref 0), (2, .ref 56), (3, .int (nI i))] [] := by
  obtain ⟨v, m1, m2, s', e1, e2, hB'⟩ := tt_undo hB 
  refine Wp.aload_n (pc := 344) 1 rfl rfl dL_344 ?_
  refine Wp.callVi (pc := 345) (b := 0) (st := []) (as := []) (ci := 10) (c_X11_undo hG e1) lml_41 lmv_X11_undo lmb_X11_undo hX (by decide) (by decide) rfl (hG.t 0 rfl) rfl (by decide) dL_345 rfl ?_
  refine Wp.aload_n (pc := 348) 2 rfl rfl dL_348 ?_
  refine Wp.callVi (pc := 349) (b := 56) (st := [.int v]) (as := []) (ci := 11) (c_X12_undo hG e2) lml_45 lmv_X12_undo lmb_X12_undo hX (by decide) (by decide) rfl (hG.t 56 rfl) rfl (Nat.le_of_ble_eq_true rfl) dL_349 rfl ?_
  refine Wp.icmp_eq (pc := 352) 1109 dL_352 (by decide) (fun _ => ?_) (fun q => absurd rfl q)
  exact kk _ _ hB'
set_option maxHeartbeats 4000000 in
set_option maxRecDepth 100000 in
theorem lc_7 {X : CX} {T : List Dsc} {R : RM} {c e l a b L i n1 n2 : Nat} {s : SS} {m : M2} {xs : Nat → Int32} (hLw : XLw X b L xs) (hL : L ≤ 3072) (hi : i + 6 ≤ L) (hX : XR X 80 n1 n2) (hG : Geo T R c e) (hB : BS m c l s) (kk : ∀ (m' : M2) (s' : SS), BS m' c l s' → Wp X code RL 4 T (mk m' R) n1 n2 1109 [(0, .ref 1000), (1, .ref 0), (2, .ref 56), (3, .int (nI i))] []) : Wp X code RL 4 T (mk m R) n1 n2 357 [(0, .ref 1000), (1, .ref 0), (2, .ref 56), (3, .int (nI i))] [] := by
  obtain ⟨v, m1, m2, s', e1, e2, hB'⟩ := tt_clashes hB 
  refine Wp.aload_n (pc := 357) 1 rfl rfl dL_357 ?_
  refine Wp.callVi (pc := 358) (b := 0) (st := []) (as := []) (ci := 10) (c_X11_clashes hG e1) lml_46 lmv_X11_clashes lmb_X11_clashes hX (by decide) (by decide) rfl (hG.t 0 rfl) rfl (by decide) dL_358 rfl ?_
  refine Wp.aload_n (pc := 361) 2 rfl rfl dL_361 ?_
  refine Wp.callVi (pc := 362) (b := 56) (st := [.int v]) (as := []) (ci := 11) (c_X12_clashes hG e2) lml_49 lmv_X12_clashes lmb_X12_clashes hX (by decide) (by decide) rfl (hG.t 56 rfl) rfl (Nat.le_of_ble_eq_true rfl) dL_362 rfl ?_
  refine Wp.icmp_eq (pc := 365) 1109 dL_365 (by decide) (fun _ => ?_) (fun q => absurd rfl q)
  exact kk _ _ hB'
set_option maxHeartbeats 4000000 in
set_option maxRecDepth 100000 in
theorem lc_8 {X : CX} {T : List Dsc} {R : RM} {c e l a b L i n1 n2 : Nat} {s : SS} {m : M2} {xs : Nat → Int32} (hLw : XLw X b L xs) (hL : L ≤ 3072) (hi : i + 6 ≤ L) (hX : XR X 80 n1 n2) (hG : Geo T R c e) (hB : BS m c l s) (kk : ∀ (m' : M2) (s' : SS), BS m' c l s' → Wp X code RL 4 T (mk m' R) n1 n2 1109 [(0, .ref 1000), (1, .ref 0), (2, .ref 56), (3, .int (nI i))] []) : Wp X code RL 4 T (mk m R) n1 n2 370 [(0, .ref 1000), (1, .ref 0), (2, .ref 56), (3, .int (nI i))] [] := by
  obtain ⟨v, m1, m2, s', e1, e2, hB'⟩ := tt_way hB (xs (i + 1))
  refine Wp.aload_n (pc := 370) 1 rfl rfl dL_370 ?_
  refine Wp.aload_n (pc := 371) 0 rfl rfl dL_371 ?_
  refine Wp.iload_n (pc := 372) 3 rfl rfl dL_372 ?_
  refine Wp.iconst (pc := 373) (1 : Int32) (by decide) dL_373 ?_
  refine Wp.iadd (pc := 374) dL_374 ?_
  refine Wp.sarg (pc := 375) (k := 1) hLw rfl (by omega) hL dL_375 ?_
  refine Wp.callVi (pc := 376) (b := 0) (st := []) (as := [.int (xs (i + 1))]) (ci := 10) (c_X11_way hG e1) lml_50 lmv_X11_way lmb_X11_way hX (by decide) (by decide) rfl (hG.t 0 rfl) rfl (by decide) dL_376 rfl ?_
  refine Wp.aload_n (pc := 379) 2 rfl rfl dL_379 ?_
  refine Wp.aload_n (pc := 380) 0 rfl rfl dL_380 ?_
  refine Wp.iload_n (pc := 381) 3 rfl rfl dL_381 ?_
  refine Wp.iconst (pc := 382) (1 : Int32) (by decide) dL_382 ?_
  refine Wp.iadd (pc := 383) dL_383 ?_
  refine Wp.sarg (pc := 384) (k := 1) hLw rfl (by omega) hL dL_384 ?_
  refine Wp.callVi (pc := 385) (b := 56) (st := [.int v]) (as := [.int (xs (i + 1))]) (ci := 11) (c_X12_way hG e2) lml_53 lmv_X12_way lmb_X12_way hX (by decide) (by decide) rfl (hG.t 56 rfl) rfl (Nat.le_of_ble_eq_true rfl) dL_385 rfl ?_
  refine Wp.icmp_eq (pc := 388) 1109 dL_388 (by decide) (fun _ => ?_) (fun q => absurd rfl q)
  exact kk _ _ hB'
set_option maxHeartbeats 4000000 in
set_option maxRecDepth 100000 in
theorem lc_9 {X : CX} {T : List Dsc} {R : RM} {c e l a b L i n1 n2 : Nat} {s : SS} {m : M2} {xs : Nat → Int32} (hLw : XLw X b L xs) (hL : L ≤ 3072) (hi : i + 6 ≤ L) (hX : XR X 80 n1 n2) (hG : Geo T R c e) (hB : BS m c l s) (kk : ∀ (m' : M2) (s' : SS), BS m' c l s' → Wp X code RL 4 T (mk m' R) n1 n2 1109 [(0, .ref 1000), (1, .ref 0), (2, .ref 56), (3, .int (nI i))] []) : Wp X code RL 4 T (mk m R) n1 n2 393 [(0, .ref 1000), (1, .ref 0), (2, .ref 56), (3, .int (nI i))] [] := by
  obtain ⟨v, m1, m2, s', e1, e2, hB'⟩ := tt_wave hB (xs (i + 1))
  refine Wp.aload_n (pc := 393) 1 rfl rfl dL_393 ?_
  refine Wp.aload_n (pc := 394) 0 rfl rfl dL_394 ?_
  refine Wp.iload_n (pc := 395) 3 rfl rfl dL_395 ?_
  refine Wp.iconst (pc := 396) (1 : Int32) (by decide) dL_396 ?_
  refine Wp.iadd (pc := 397) dL_397 ?_
  refine Wp.sarg (pc := 398) (k := 1) hLw rfl (by omega) hL dL_398 ?_
  refine Wp.callVi (pc := 399) (b := 0) (st := []) (as := [.int (xs (i + 1))]) (ci := 10) (c_X11_wave hG e1) lml_54 lmv_X11_wave lmb_X11_wave hX (by decide) (by decide) rfl (hG.t 0 rfl) rfl (by decide) dL_399 rfl ?_
  refine Wp.aload_n (pc := 402) 2 rfl rfl dL_402 ?_
  refine Wp.aload_n (pc := 403) 0 rfl rfl dL_403 ?_
  refine Wp.iload_n (pc := 404) 3 rfl rfl dL_404 ?_
  refine Wp.iconst (pc := 405) (1 : Int32) (by decide) dL_405 ?_
  refine Wp.iadd (pc := 406) dL_406 ?_
  refine Wp.sarg (pc := 407) (k := 1) hLw rfl (by omega) hL dL_407 ?_
  refine Wp.callVi (pc := 408) (b := 56) (st := [.int v]) (as := [.int (xs (i + 1))]) (ci := 11) (c_X12_wave hG e2) lml_57 lmv_X12_wave lmb_X12_wave hX (by decide) (by decide) rfl (hG.t 56 rfl) rfl (Nat.le_of_ble_eq_true rfl) dL_408 rfl ?_
  refine Wp.icmp_eq (pc := 411) 1109 dL_411 (by decide) (fun _ => ?_) (fun q => absurd rfl q)
  exact kk _ _ hB'
set_option maxHeartbeats 4000000 in
set_option maxRecDepth 100000 in
theorem lc_10 {X : CX} {T : List Dsc} {R : RM} {c e l a b L i n1 n2 : Nat} {s : SS} {m : M2} {xs : Nat → Int32} (hLw : XLw X b L xs) (hL : L ≤ 3072) (hi : i + 6 ≤ L) (hX : XR X 80 n1 n2) (hG : Geo T R c e) (hB : BS m c l s) (kk : ∀ (m' : M2) (s' : SS), BS m' c l s' → Wp X code RL 4 T (mk m' R) n1 n2 1109 [(0, .ref 1000), (1, .ref 0), (2, .ref 56), (3, .int (nI i))] []) : Wp X code RL 4 T (mk m R) n1 n2 416 [(0, .ref 1000), (1, .ref 0), (2, .ref 56), (3, .int (nI i))] [] := by
  obtain ⟨v, m1, m2, s', e1, e2, hB'⟩ := tt_soon hB (xs (i + 1))
  refine Wp.aload_n (pc := 416) 1 rfl rfl dL_416 ?_
  refine Wp.aload_n (pc := 417) 0 rfl rfl dL_417 ?_
  refine Wp.iload_n (pc := 418) 3 rfl rfl dL_418 ?_
  refine Wp.iconst (pc := 419) (1 : Int32) (by decide) dL_419 ?_
  refine Wp.iadd (pc := 420) dL_420 ?_
  refine Wp.sarg (pc := 421) (k := 1) hLw rfl (by omega) hL dL_421 ?_
  refine Wp.callVi (pc := 422) (b := 0) (st := []) (as := [.int (xs (i + 1))]) (ci := 10) (c_X11_soon hG e1) lml_58 lmv_X11_soon lmb_X11_soon hX (by decide) (by decide) rfl (hG.t 0 rfl) rfl (by decide) dL_422 rfl ?_
  refine Wp.aload_n (pc := 425) 2 rfl rfl dL_425 ?_
  refine Wp.aload_n (pc := 426) 0 rfl rfl dL_426 ?_
  refine Wp.iload_n (pc := 427) 3 rfl rfl dL_427 ?_
  refine Wp.iconst (pc := 428) (1 : Int32) (by decide) dL_428 ?_
  refine Wp.iadd (pc := 429) dL_429 ?_
  refine Wp.sarg (pc := 430) (k := 1) hLw rfl (by omega) hL dL_430 ?_
  refine Wp.callVi (pc := 431) (b := 56) (st := [.int v]) (as := [.int (xs (i + 1))]) (ci := 11) (c_X12_soon hG e2) lml_61 lmv_X12_soon lmb_X12_soon hX (by decide) (by decide) rfl (hG.t 56 rfl) rfl (Nat.le_of_ble_eq_true rfl) dL_431 rfl ?_
  refine Wp.icmp_eq (pc := 434) 1109 dL_434 (by decide) (fun _ => ?_) (fun q => absurd rfl q)
  exact kk _ _ hB'
