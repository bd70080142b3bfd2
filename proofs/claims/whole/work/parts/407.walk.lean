theorem dX12_cut_0 : decode cX12_cut 0 = .ok (.aload_n 0, 1) := by decide +kernel
theorem dX12_cut_1 : decode cX12_cut 1 = .ok (.iconst 0, 1) := by decide +kernel
theorem dX12_cut_2 : decode cX12_cut 2 = .ok (.putfield 232, 3) := by decide +kernel
theorem dX12_cut_5 : decode cX12_cut 5 = .ok (.iconst 0, 1) := by decide +kernel
theorem dX12_cut_6 : decode cX12_cut 6 = .ok (.istore_n 1, 1) := by decide +kernel
theorem dX12_cut_7 : decode cX12_cut 7 = .ok (.aload_n 0, 1) := by decide +kernel
theorem dX12_cut_8 : decode cX12_cut 8 = .ok (.getfield 232, 3) := by decide +kernel
theorem dX12_cut_11 : decode cX12_cut 11 = .ok (.sipush 400, 3) := by decide +kernel
theorem dX12_cut_14 : decode cX12_cut 14 = .ok (.if_icmp .gt 280, 3) := by decide +kernel
theorem dX12_cut_17 : decode cX12_cut 17 = .ok (.aload_n 0, 1) := by decide +kernel
theorem dX12_cut_18 : decode cX12_cut 18 = .ok (.iload_n 1, 1) := by decide +kernel
theorem dX12_cut_19 : decode cX12_cut 19 = .ok (.invokevirtual 235, 3) := by decide +kernel
theorem dX12_cut_22 : decode cX12_cut 22 = .ok (.istore_n 2, 1) := by decide +kernel
theorem dX12_cut_23 : decode cX12_cut 23 = .ok (.iload_n 1, 1) := by decide +kernel
theorem dX12_cut_24 : decode cX12_cut 24 = .ok (.aload_n 0, 1) := by decide +kernel
theorem dX12_cut_25 : decode cX12_cut 25 = .ok (.getfield 223, 3) := by decide +kernel
theorem dX12_cut_28 : decode cX12_cut 28 = .ok (.if_icmp .lt 15, 3) := by decide +kernel
theorem dX12_cut_31 : decode cX12_cut 31 = .ok (.aload_n 0, 1) := by decide +kernel
theorem dX12_cut_32 : decode cX12_cut 32 = .ok (.iconst 0, 1) := by decide +kernel
theorem dX12_cut_33 : decode cX12_cut 33 = .ok (.aload_n 0, 1) := by decide +kernel
theorem dX12_cut_34 : decode cX12_cut 34 = .ok (.getfield 223, 3) := by decide +kernel
theorem dX12_cut_37 : decode cX12_cut 37 = .ok (.iconst 0, 1) := by decide +kernel
theorem dX12_cut_38 : decode cX12_cut 38 = .ok (.lconst 0, 1) := by decide +kernel
theorem dX12_cut_39 : decode cX12_cut 39 = .ok (.invokevirtual 239, 3) := by decide +kernel
theorem dX12_cut_42 : decode cX12_cut 42 = .ok (.return_, 1) := by decide +kernel
theorem dX12_cut_43 : decode cX12_cut 43 = .ok (.iload_n 2, 1) := by decide +kernel
theorem dX12_cut_44 : decode cX12_cut 44 = .ok (.bipush 9, 2) := by decide +kernel
theorem dX12_cut_46 : decode cX12_cut 46 = .ok (.if_icmp .eq 21, 3) := by decide +kernel
theorem dX12_cut_49 : decode cX12_cut 49 = .ok (.iload_n 2, 1) := by decide +kernel
theorem dX12_cut_50 : decode cX12_cut 50 = .ok (.bipush 10, 2) := by decide +kernel
theorem dX12_cut_52 : decode cX12_cut 52 = .ok (.if_icmp .eq 15, 3) := by decide +kernel
theorem dX12_cut_55 : decode cX12_cut 55 = .ok (.iload_n 2, 1) := by decide +kernel
theorem dX12_cut_56 : decode cX12_cut 56 = .ok (.bipush 13, 2) := by decide +kernel
theorem dX12_cut_58 : decode cX12_cut 58 = .ok (.if_icmp .eq 9, 3) := by decide +kernel
theorem dX12_cut_61 : decode cX12_cut 61 = .ok (.iload_n 2, 1) := by decide +kernel
theorem dX12_cut_62 : decode cX12_cut 62 = .ok (.bipush 32, 2) := by decide +kernel
theorem dX12_cut_64 : decode cX12_cut 64 = .ok (.if_icmp .ne 9, 3) := by decide +kernel
theorem dX12_cut_67 : decode cX12_cut 67 = .ok (.iinc 1 1, 3) := by decide +kernel
theorem dX12_cut_70 : decode cX12_cut 70 = .ok (.goto 221, 3) := by decide +kernel
theorem dX12_cut_73 : decode cX12_cut 73 = .ok (.iload_n 2, 1) := by decide +kernel
theorem dX12_cut_74 : decode cX12_cut 74 = .ok (.invokestatic 243, 3) := by decide +kernel
theorem dX12_cut_77 : decode cX12_cut 77 = .ok (.ifCond .eq 119, 3) := by decide +kernel
theorem dX12_cut_80 : decode cX12_cut 80 = .ok (.iconst 0, 1) := by decide +kernel
theorem dX12_cut_81 : decode cX12_cut 81 = .ok (.istore_n 3, 1) := by decide +kernel
theorem dX12_cut_82 : decode cX12_cut 82 = .ok (.lconst 0, 1) := by decide +kernel
theorem dX12_cut_83 : decode cX12_cut 83 = .ok (.lstore 4, 2) := by decide +kernel
theorem dX12_cut_85 : decode cX12_cut 85 = .ok (.aload_n 0, 1) := by decide +kernel
theorem dX12_cut_86 : decode cX12_cut 86 = .ok (.iload_n 1, 1) := by decide +kernel
theorem dX12_cut_87 : decode cX12_cut 87 = .ok (.iload_n 3, 1) := by decide +kernel
theorem dX12_cut_88 : decode cX12_cut 88 = .ok (.iadd, 1) := by decide +kernel
theorem dX12_cut_89 : decode cX12_cut 89 = .ok (.invokevirtual 235, 3) := by decide +kernel
theorem dX12_cut_92 : decode cX12_cut 92 = .ok (.invokestatic 243, 3) := by decide +kernel
theorem dX12_cut_95 : decode cX12_cut 95 = .ok (.ifCond .eq 29, 3) := by decide +kernel
theorem dX12_cut_98 : decode cX12_cut 98 = .ok (.iload_n 3, 1) := by decide +kernel
theorem dX12_cut_99 : decode cX12_cut 99 = .ok (.bipush 8, 2) := by decide +kernel
theorem dX12_cut_101 : decode cX12_cut 101 = .ok (.if_icmp .ge 17, 3) := by decide +kernel
theorem dX12_cut_104 : decode cX12_cut 104 = .ok (.lload 4, 2) := by decide +kernel
theorem dX12_cut_106 : decode cX12_cut 106 = .ok (.aload_n 0, 1) := by decide +kernel
theorem dX12_cut_107 : decode cX12_cut 107 = .ok (.iload_n 1, 1) := by decide +kernel
theorem dX12_cut_108 : decode cX12_cut 108 = .ok (.iload_n 3, 1) := by decide +kernel
theorem dX12_cut_109 : decode cX12_cut 109 = .ok (.iadd, 1) := by decide +kernel
theorem dX12_cut_110 : decode cX12_cut 110 = .ok (.invokevirtual 235, 3) := by decide +kernel
theorem dX12_cut_113 : decode cX12_cut 113 = .ok (.invokestatic 228, 3) := by decide +kernel
theorem dX12_cut_116 : decode cX12_cut 116 = .ok (.lstore 4, 2) := by decide +kernel
theorem dX12_cut_118 : decode cX12_cut 118 = .ok (.iinc 3 1, 3) := by decide +kernel
theorem dX12_cut_121 : decode cX12_cut 121 = .ok (.goto (-36), 3) := by decide +kernel
theorem dX12_cut_124 : decode cX12_cut 124 = .ok (.iload_n 3, 1) := by decide +kernel
theorem dX12_cut_125 : decode cX12_cut 125 = .ok (.bipush 8, 2) := by decide +kernel
theorem dX12_cut_127 : decode cX12_cut 127 = .ok (.if_icmp .le 7, 3) := by decide +kernel
theorem dX12_cut_130 : decode cX12_cut 130 = .ok (.iconst 3, 1) := by decide +kernel
theorem dX12_cut_131 : decode cX12_cut 131 = .ok (.goto 4, 3) := by decide +kernel
theorem dX12_cut_134 : decode cX12_cut 134 = .ok (.iconst 1, 1) := by decide +kernel
theorem dX12_cut_135 : decode cX12_cut 135 = .ok (.istore 6, 2) := by decide +kernel
theorem dX12_cut_137 : decode cX12_cut 137 = .ok (.iload_n 3, 1) := by decide +kernel
theorem dX12_cut_138 : decode cX12_cut 138 = .ok (.bipush 7, 2) := by decide +kernel
theorem dX12_cut_140 : decode cX12_cut 140 = .ok (.if_icmp .gt 39, 3) := by decide +kernel
theorem dX12_cut_143 : decode cX12_cut 143 = .ok (.iconst 0, 1) := by decide +kernel
theorem dX12_cut_144 : decode cX12_cut 144 = .ok (.istore 7, 2) := by decide +kernel
theorem dX12_cut_146 : decode cX12_cut 146 = .ok (.iload 7, 2) := by decide +kernel
theorem dX12_cut_148 : decode cX12_cut 148 = .ok (.bipush 17, 2) := by decide +kernel
theorem dX12_cut_150 : decode cX12_cut 150 = .ok (.if_icmp .ge 29, 3) := by decide +kernel
theorem dX12_cut_153 : decode cX12_cut 153 = .ok (.aload_n 0, 1) := by decide +kernel
theorem dX12_cut_154 : decode cX12_cut 154 = .ok (.getfield 34, 3) := by decide +kernel
theorem dX12_cut_157 : decode cX12_cut 157 = .ok (.iload 7, 2) := by decide +kernel
theorem dX12_cut_159 : decode cX12_cut 159 = .ok (.laload, 1) := by decide +kernel
theorem dX12_cut_160 : decode cX12_cut 160 = .ok (.lload 4, 2) := by decide +kernel
theorem dX12_cut_162 : decode cX12_cut 162 = .ok (.lcmp, 1) := by decide +kernel
theorem dX12_cut_163 : decode cX12_cut 163 = .ok (.ifCond .ne 10, 3) := by decide +kernel
theorem dX12_cut_166 : decode cX12_cut 166 = .ok (.bipush 20, 2) := by decide +kernel
theorem dX12_cut_168 : decode cX12_cut 168 = .ok (.iload 7, 2) := by decide +kernel
theorem dX12_cut_170 : decode cX12_cut 170 = .ok (.iadd, 1) := by decide +kernel
theorem dX12_cut_171 : decode cX12_cut 171 = .ok (.istore 6, 2) := by decide +kernel
theorem dX12_cut_173 : decode cX12_cut 173 = .ok (.iinc 7 1, 3) := by decide +kernel
theorem dX12_cut_176 : decode cX12_cut 176 = .ok (.goto (-30), 3) := by decide +kernel
theorem dX12_cut_179 : decode cX12_cut 179 = .ok (.aload_n 0, 1) := by decide +kernel
theorem dX12_cut_180 : decode cX12_cut 180 = .ok (.iload 6, 2) := by decide +kernel
theorem dX12_cut_182 : decode cX12_cut 182 = .ok (.iload_n 1, 1) := by decide +kernel
theorem dX12_cut_183 : decode cX12_cut 183 = .ok (.iconst 0, 1) := by decide +kernel
theorem dX12_cut_184 : decode cX12_cut 184 = .ok (.lload 4, 2) := by decide +kernel
theorem dX12_cut_186 : decode cX12_cut 186 = .ok (.invokevirtual 239, 3) := by decide +kernel
theorem dX12_cut_189 : decode cX12_cut 189 = .ok (.iload_n 1, 1) := by decide +kernel
theorem dX12_cut_190 : decode cX12_cut 190 = .ok (.iload_n 3, 1) := by decide +kernel
theorem dX12_cut_191 : decode cX12_cut 191 = .ok (.iadd, 1) := by decide +kernel
theorem dX12_cut_192 : decode cX12_cut 192 = .ok (.istore_n 1, 1) := by decide +kernel
theorem dX12_cut_193 : decode cX12_cut 193 = .ok (.goto 98, 3) := by decide +kernel
theorem dX12_cut_196 : decode cX12_cut 196 = .ok (.iload_n 2, 1) := by decide +kernel
theorem dX12_cut_197 : decode cX12_cut 197 = .ok (.invokestatic 247, 3) := by decide +kernel
theorem dX12_cut_200 : decode cX12_cut 200 = .ok (.ifCond .eq 75, 3) := by decide +kernel
theorem dX12_cut_203 : decode cX12_cut 203 = .ok (.iconst 0, 1) := by decide +kernel
theorem dX12_cut_204 : decode cX12_cut 204 = .ok (.istore_n 3, 1) := by decide +kernel
theorem dX12_cut_205 : decode cX12_cut 205 = .ok (.iconst 0, 1) := by decide +kernel
theorem dX12_cut_206 : decode cX12_cut 206 = .ok (.istore 4, 2) := by decide +kernel
theorem dX12_cut_208 : decode cX12_cut 208 = .ok (.aload_n 0, 1) := by decide +kernel
theorem dX12_cut_209 : decode cX12_cut 209 = .ok (.iload_n 1, 1) := by decide +kernel
theorem dX12_cut_210 : decode cX12_cut 210 = .ok (.iload_n 3, 1) := by decide +kernel
theorem dX12_cut_211 : decode cX12_cut 211 = .ok (.iadd, 1) := by decide +kernel
theorem dX12_cut_212 : decode cX12_cut 212 = .ok (.invokevirtual 235, 3) := by decide +kernel
theorem dX12_cut_215 : decode cX12_cut 215 = .ok (.invokestatic 247, 3) := by decide +kernel
theorem dX12_cut_218 : decode cX12_cut 218 = .ok (.ifCond .eq 32, 3) := by decide +kernel
theorem dX12_cut_221 : decode cX12_cut 221 = .ok (.iload_n 3, 1) := by decide +kernel
theorem dX12_cut_222 : decode cX12_cut 222 = .ok (.iconst 4, 1) := by decide +kernel
theorem dX12_cut_223 : decode cX12_cut 223 = .ok (.if_icmp .ge 21, 3) := by decide +kernel
theorem dX12_cut_226 : decode cX12_cut 226 = .ok (.bipush 10, 2) := by decide +kernel
theorem dX12_cut_228 : decode cX12_cut 228 = .ok (.iload 4, 2) := by decide +kernel
theorem dX12_cut_230 : decode cX12_cut 230 = .ok (.imul, 1) := by decide +kernel
theorem dX12_cut_231 : decode cX12_cut 231 = .ok (.aload_n 0, 1) := by decide +kernel
theorem dX12_cut_232 : decode cX12_cut 232 = .ok (.iload_n 1, 1) := by decide +kernel
theorem dX12_cut_233 : decode cX12_cut 233 = .ok (.iload_n 3, 1) := by decide +kernel
theorem dX12_cut_234 : decode cX12_cut 234 = .ok (.iadd, 1) := by decide +kernel
theorem dX12_cut_235 : decode cX12_cut 235 = .ok (.invokevirtual 235, 3) := by decide +kernel
theorem dX12_cut_238 : decode cX12_cut 238 = .ok (.iadd, 1) := by decide +kernel
theorem dX12_cut_239 : decode cX12_cut 239 = .ok (.bipush 48, 2) := by decide +kernel
theorem dX12_cut_241 : decode cX12_cut 241 = .ok (.isub, 1) := by decide +kernel
theorem dX12_cut_242 : decode cX12_cut 242 = .ok (.istore 4, 2) := by decide +kernel
theorem dX12_cut_244 : decode cX12_cut 244 = .ok (.iinc 3 1, 3) := by decide +kernel
theorem dX12_cut_247 : decode cX12_cut 247 = .ok (.goto (-39), 3) := by decide +kernel
theorem dX12_cut_250 : decode cX12_cut 250 = .ok (.aload_n 0, 1) := by decide +kernel
theorem dX12_cut_251 : decode cX12_cut 251 = .ok (.iload_n 3, 1) := by decide +kernel
theorem dX12_cut_252 : decode cX12_cut 252 = .ok (.iconst 4, 1) := by decide +kernel
theorem dX12_cut_253 : decode cX12_cut 253 = .ok (.if_icmp .le 7, 3) := by decide +kernel
theorem dX12_cut_256 : decode cX12_cut 256 = .ok (.iconst 3, 1) := by decide +kernel
theorem dX12_cut_257 : decode cX12_cut 257 = .ok (.goto 4, 3) := by decide +kernel
theorem dX12_cut_260 : decode cX12_cut 260 = .ok (.iconst 2, 1) := by decide +kernel
theorem dX12_cut_261 : decode cX12_cut 261 = .ok (.iload_n 1, 1) := by decide +kernel
theorem dX12_cut_262 : decode cX12_cut 262 = .ok (.iload 4, 2) := by decide +kernel
theorem dX12_cut_264 : decode cX12_cut 264 = .ok (.lconst 0, 1) := by decide +kernel
theorem dX12_cut_265 : decode cX12_cut 265 = .ok (.invokevirtual 239, 3) := by decide +kernel
theorem dX12_cut_268 : decode cX12_cut 268 = .ok (.iload_n 1, 1) := by decide +kernel
theorem dX12_cut_269 : decode cX12_cut 269 = .ok (.iload_n 3, 1) := by decide +kernel
theorem dX12_cut_270 : decode cX12_cut 270 = .ok (.iadd, 1) := by decide +kernel
theorem dX12_cut_271 : decode cX12_cut 271 = .ok (.istore_n 1, 1) := by decide +kernel
theorem dX12_cut_272 : decode cX12_cut 272 = .ok (.goto 19, 3) := by decide +kernel
theorem dX12_cut_275 : decode cX12_cut 275 = .ok (.iload_n 1, 1) := by decide +kernel
theorem dX12_cut_276 : decode cX12_cut 276 = .ok (.aload_n 0, 1) := by decide +kernel
theorem dX12_cut_277 : decode cX12_cut 277 = .ok (.iload_n 1, 1) := by decide +kernel
theorem dX12_cut_278 : decode cX12_cut 278 = .ok (.iload_n 2, 1) := by decide +kernel
theorem dX12_cut_279 : decode cX12_cut 279 = .ok (.aload_n 0, 1) := by decide +kernel
theorem dX12_cut_280 : decode cX12_cut 280 = .ok (.iload_n 1, 1) := by decide +kernel
theorem dX12_cut_281 : decode cX12_cut 281 = .ok (.iconst 1, 1) := by decide +kernel
theorem dX12_cut_282 : decode cX12_cut 282 = .ok (.iadd, 1) := by decide +kernel
theorem dX12_cut_283 : decode cX12_cut 283 = .ok (.invokevirtual 235, 3) := by decide +kernel
theorem dX12_cut_286 : decode cX12_cut 286 = .ok (.invokevirtual 250, 3) := by decide +kernel
theorem dX12_cut_289 : decode cX12_cut 289 = .ok (.iadd, 1) := by decide +kernel
theorem dX12_cut_290 : decode cX12_cut 290 = .ok (.istore_n 1, 1) := by decide +kernel
theorem dX12_cut_291 : decode cX12_cut 291 = .ok (.goto (-284), 3) := by decide +kernel
theorem dX12_cut_294 : decode cX12_cut 294 = .ok (.return_, 1) := by decide +kernel
def k_X12_cut_85 (X : CX) (T : List Dsc) (R : RM) (n1 n2 : Nat) (x1 : Int32) (r : ((Int32 × Int64 × M2) ⊕ ((Int32 × Int64 × M2)))) : Prop := match r with
  | .inl s => Wp X cX12_cut RX12 8 T (mk s.2.2 R) n1 n2 85 [(0, .ref 56), (1, .int x1), (3, .int s.1), (4, .long s.2.1)] []
  | .inr e => Wp X cX12_cut RX12 8 T (mk e.2.2 R) n1 n2 124 [(0, .ref 56), (1, .int x1), (3, .int e.1), (4, .long e.2.1)] []
def k_X12_cut_146 (X : CX) (T : List Dsc) (R : RM) (n1 n2 : Nat) (x1 : Int32) (x3 : Int32) (x4 : Int64) (r : ((Int32 × Int32 × M2) ⊕ ((Int32 × M2)))) : Prop := match r with
  | .inl s => Wp X cX12_cut RX12 8 T (mk s.2.2 R) n1 n2 146 [(0, .ref 56), (1, .int x1), (3, .int x3), (4, .long x4), (6, .int s.1), (7, .int s.2.1)] []
  | .inr e => Wp X cX12_cut RX12 8 T (mk e.2 R) n1 n2 179 [(0, .ref 56), (1, .int x1), (3, .int x3), (4, .long x4), (6, .int e.1)] []
def k_X12_cut_208 (X : CX) (T : List Dsc) (R : RM) (n1 n2 : Nat) (x1 : Int32) (r : ((Int32 × Int32 × M2) ⊕ ((Int32 × Int32 × M2)))) : Prop := match r with
  | .inl s => Wp X cX12_cut RX12 8 T (mk s.2.2 R) n1 n2 208 [(0, .ref 56), (1, .int x1), (3, .int s.1), (4, .int s.2.1)] []
  | .inr e => Wp X cX12_cut RX12 8 T (mk e.2.2 R) n1 n2 250 [(0, .ref 56), (1, .int x1), (3, .int e.1), (4, .int e.2.1)] []
def k_X12_cut_7 (X : CX) (T : List Dsc) (R : RM) (n1 n2 : Nat) (r : ((Int32 × M2) ⊕ ((M2) ⊕ (M2)))) : Prop := match r with
  | .inl s => Wp X cX12_cut RX12 8 T (mk s.2 R) n1 n2 7 [(0, .ref 56), (1, .int s.1)] []
  | .inr (.inl e) => Wp X cX12_cut RX12 8 T (mk e R) n1 n2 31 [(0, .ref 56)] []
  | .inr (.inr e) => Wp X cX12_cut RX12 8 T (mk e R) n1 n2 294 [] []
set_option maxHeartbeats 4000000 in
set_option maxRecDepth 100000 in
theorem w_X12_cut_291 {X : CX} {T : List Dsc} {R : RM} {c e : Nat} {n1 n2 : Nat} {x1 : Int32} {m : M2} {r : ((Int32 × M2) ⊕ ((M2) ⊕ (M2)))} (hX : XR X 3 n1 n2) (hG : Geo T R c e) (hf : f_X12_cut_291 x1 m = some r) (hk : k_X12_cut_7 X T R n1 n2 r) : Wp X cX12_cut RX12 8 T (mk m R) n1 n2 291 [(0, .ref 56), (1, .int x1)] [] := by
  unfold f_X12_cut_291 at hf
  refine Wp.goto (pc := 291) 7 dX12_cut_291 (by decide) ?_
  cases hf
  exact hk
set_option maxHeartbeats 4000000 in
set_option maxRecDepth 100000 in
theorem w_X12_cut_67 {X : CX} {T : List Dsc} {R : RM} {c e : Nat} {n1 n2 : Nat} {x1 : Int32} {m : M2} {r : ((Int32 × M2) ⊕ ((M2) ⊕ (M2)))} (hX : XR X 3 n1 n2) (hG : Geo T R c e) (hf : f_X12_cut_67 x1 m = some r) (hk : k_X12_cut_7 X T R n1 n2 r) : Wp X cX12_cut RX12 8 T (mk m R) n1 n2 67 [(0, .ref 56), (1, .int x1)] [] := by
  unfold f_X12_cut_67 at hf
  obtain ⟨v1, h2, hf⟩ := bnd hf
  refine Wp.iincN (pc := 67) (lo' := [(0, .ref 56), (1, .int v1)]) (1 : Int32) (by decide) h2 1 rfl [1, 0] rfl (by decide) dX12_cut_67 ?_
  refine Wp.goto (pc := 70) 291 dX12_cut_70 (by decide) ?_
  exact w_X12_cut_291 hX hG hf hk
set_option maxHeartbeats 4000000 in
set_option maxRecDepth 100000 in
theorem w_X12_cut_118 {X : CX} {T : List Dsc} {R : RM} {c e : Nat} {n1 n2 : Nat} {x1 : Int32} {x3 : Int32} {x4 : Int64} {m : M2} {r : ((Int32 × Int64 × M2) ⊕ ((Int32 × Int64 × M2)))} (hX : XR X 3 n1 n2) (hG : Geo T R c e) (hf : f_X12_cut_118 x1 x3 x4 m = some r) (hk : k_X12_cut_85 X T R n1 n2 x1 r) : Wp X cX12_cut RX12 8 T (mk m R) n1 n2 118 [(0, .ref 56), (1, .int x1), (3, .int x3), (4, .long x4)] [] := by
  unfold f_X12_cut_118 at hf
  obtain ⟨v1, h2, hf⟩ := bnd hf
  refine Wp.iincN (pc := 118) (lo' := [(0, .ref 56), (1, .int x1), (3, .int v1), (4, .long x4)]) (1 : Int32) (by decide) h2 2 rfl [1, 2, 0, 3] rfl (by decide) dX12_cut_118 ?_
  refine Wp.goto (pc := 121) 85 dX12_cut_121 (by decide) ?_
  cases hf
  exact hk
set_option maxHeartbeats 4000000 in
set_option maxRecDepth 100000 in
theorem w_X12_cut_85 {X : CX} {T : List Dsc} {R : RM} {c e : Nat} {n1 n2 : Nat} {x1 : Int32} {x3 : Int32} {x4 : Int64} {m : M2} {r : ((Int32 × Int64 × M2) ⊕ ((Int32 × Int64 × M2)))} (hX : XR X 3 n1 n2) (hG : Geo T R c e) (hf : f_X12_cut_85 x1 x3 x4 m = some r) (hk : k_X12_cut_85 X T R n1 n2 x1 r) : Wp X cX12_cut RX12 8 T (mk m R) n1 n2 85 [(0, .ref 56), (1, .int x1), (3, .int x3), (4, .long x4)] [] := by
  unfold f_X12_cut_85 at hf
  refine Wp.aload_n (pc := 85) 0 rfl rfl dX12_cut_85 ?_
  refine Wp.iload_n (pc := 86) 1 rfl rfl dX12_cut_86 ?_
  refine Wp.iload_n (pc := 87) 2 rfl rfl dX12_cut_87 ?_
  refine Wp.iadd (pc := 88) dX12_cut_88 ?_
  obtain ⟨c1, h2, hf⟩ := bnd hf
  refine Wp.callVi (pc := 89) (st := []) (as := [.int (x1 + x3)]) (c_X12_byteAt hG h2) ml_RX12_235 mv_X12_byteAt mb_X12_byteAt hX (Nat.le_of_ble_eq_true rfl) (by decide) rfl (hG.t 56 rfl) rfl (by simp) dX12_cut_89 rfl ?_
  obtain ⟨c3, h4, hf⟩ := bnd hf
  refine Wp.callSi (pc := 92) (st := []) (as := [.int c1.1]) (c_X12_isLetter hG h4) ml_RX12_243 ms_X12_isLetter mb_X12_isLetter hX (Nat.le_of_ble_eq_true rfl) (by decide) rfl (by simp) dX12_cut_92 rfl ?_
  refine Wp.if_eq (pc := 95) 124 dX12_cut_95 (by decide) (fun hc5 => ?_) (fun hc5 => ?_)
  · rw [if_pos hc5] at hf
    cases hf
    exact hk
  · rw [if_neg hc5] at hf
    refine Wp.iload_n (pc := 98) 2 rfl rfl dX12_cut_98 ?_
    refine Wp.bipush (pc := 99) (8 : Int32) (by decide) dX12_cut_99 ?_
    refine Wp.icmp_ge (pc := 101) 118 dX12_cut_101 (by decide) (fun hc6 => ?_) (fun hc6 => ?_)
    · rw [if_pos hc6] at hf
      exact w_X12_cut_118 hX hG hf hk
    · rw [if_neg hc6] at hf
      refine Wp.lload (pc := 104) 3 rfl dX12_cut_104 ?_
      refine Wp.aload_n (pc := 106) 0 rfl rfl dX12_cut_106 ?_
      refine Wp.iload_n (pc := 107) 1 rfl rfl dX12_cut_107 ?_
      refine Wp.iload_n (pc := 108) 2 rfl rfl dX12_cut_108 ?_
      refine Wp.iadd (pc := 109) dX12_cut_109 ?_
      obtain ⟨c7, h8, hf⟩ := bnd hf
      refine Wp.callVi (pc := 110) (st := [.long x4]) (as := [.int (x1 + x3)]) (c_X12_byteAt hG h8) ml_RX12_235 mv_X12_byteAt mb_X12_byteAt hX (Nat.le_of_ble_eq_true rfl) (by decide) rfl (hG.t 56 rfl) rfl (by simp [Value.category]) dX12_cut_110 rfl ?_
      obtain ⟨c9, h10, hf⟩ := bnd hf
      refine Wp.callSl (pc := 113) (st := []) (as := [.long x4, .int c7.1]) (c_X12_appends hG h10) ml_RX12_228 ms_X12_appends mb_X12_appends hX (Nat.le_of_ble_eq_true rfl) (by decide) rfl (by simp) dX12_cut_113 rfl ?_
      refine Wp.lstore (pc := 116) (lo' := [(0, .ref 56), (1, .int x1), (3, .int x3), (4, .long c9.1)]) [1, 2, 3, 0] rfl (by decide) dX12_cut_116 ?_
      exact w_X12_cut_118 hX hG hf hk
theorem wl_X12_cut_85 {X : CX} {T : List Dsc} {R : RM} {c e : Nat} {n1 n2 : Nat} {x1 : Int32} {x3 : Int32} {x4 : Int64} {m : M2} {e1 : ((Int32 × Int64 × M2))} (hX : XR X 3 n1 n2) (hG : Geo T R c e) (h : loop (g_X12_cut_85 x1) (x3, x4, m) = some e1) (he : Wp X cX12_cut RX12 8 T (mk e1.2.2 R) n1 n2 124 [(0, .ref 56), (1, .int x1), (3, .int e1.1), (4, .long e1.2.1)] []) : Wp X cX12_cut RX12 8 T (mk m R) n1 n2 85 [(0, .ref 56), (1, .int x1), (3, .int x3), (4, .long x4)] [] :=
  loop_ok (K := k_X12_cut_85 X T R n1 n2 x1) (fun s r hf hk => w_X12_cut_85 hX hG hf hk) h he
set_option maxHeartbeats 4000000 in
set_option maxRecDepth 100000 in
theorem w_X12_cut_173 {X : CX} {T : List Dsc} {R : RM} {c e : Nat} {n1 n2 : Nat} {x1 : Int32} {x3 : Int32} {x4 : Int64} {x6 : Int32} {x7 : Int32} {m : M2} {r : ((Int32 × Int32 × M2) ⊕ ((Int32 × M2)))} (hX : XR X 3 n1 n2) (hG : Geo T R c e) (hf : f_X12_cut_173 x1 x3 x4 x6 x7 m = some r) (hk : k_X12_cut_146 X T R n1 n2 x1 x3 x4 r) : Wp X cX12_cut RX12 8 T (mk m R) n1 n2 173 [(0, .ref 56), (1, .int x1), (3, .int x3), (4, .long x4), (6, .int x6), (7, .int x7)] [] := by
  unfold f_X12_cut_173 at hf
  obtain ⟨v1, h2, hf⟩ := bnd hf
  refine Wp.iincN (pc := 173) (lo' := [(0, .ref 56), (1, .int x1), (3, .int x3), (4, .long x4), (6, .int x6), (7, .int v1)]) (1 : Int32) (by decide) h2 5 rfl [1, 2, 3, 4, 5, 0] rfl (by decide) dX12_cut_173 ?_
  refine Wp.goto (pc := 176) 146 dX12_cut_176 (by decide) ?_
  cases hf
  exact hk
set_option maxHeartbeats 4000000 in
set_option maxRecDepth 100000 in
theorem w_X12_cut_146 {X : CX} {T : List Dsc} {R : RM} {c e : Nat} {n1 n2 : Nat} {x1 : Int32} {x3 : Int32} {x4 : Int64} {x6 : Int32} {x7 : Int32} {m : M2} {r : ((Int32 × Int32 × M2) ⊕ ((Int32 × M2)))} (hX : XR X 3 n1 n2) (hG : Geo T R c e) (hf : f_X12_cut_146 x1 x3 x4 x6 x7 m = some r) (hk : k_X12_cut_146 X T R n1 n2 x1 x3 x4 r) : Wp X cX12_cut RX12 8 T (mk m R) n1 n2 146 [(0, .ref 56), (1, .int x1), (3, .int x3), (4, .long x4), (6, .int x6), (7, .int x7)] [] := by
  unfold f_X12_cut_146 at hf
  refine Wp.iload (pc := 146) 5 rfl dX12_cut_146 ?_
  refine Wp.bipush (pc := 148) (17 : Int32) (by decide) dX12_cut_148 ?_
  refine Wp.icmp_ge (pc := 150) 179 dX12_cut_150 (by decide) (fun hc1 => ?_) (fun hc1 => ?_)
  · rw [if_pos hc1] at hf
    refine Wp.lo' (lo' := [(0, .ref 56), (1, .int x1), (3, .int x3), (4, .long x4), (6, .int x6)]) [0, 1, 2, 3, 4] rfl ?_
    cases hf
    exact hk
  · rw [if_neg hc1] at hf
    refine Wp.aload_n (pc := 153) 0 rfl rfl dX12_cut_153 ?_
    refine Wp.getR2 (pc := 154) (hG.r 56 9 rfl) (hG.t 56 rfl) fk_RX12_34 rfl dX12_cut_154 ?_
    refine Wp.iload (pc := 157) 5 rfl dX12_cut_157 ?_
    obtain ⟨v2, h3, hf⟩ := bnd hf
    refine Wp.lald2 (pc := 159) h3 (hG.a 63 1 rfl) dX12_cut_159 ?_
    refine Wp.lload (pc := 160) 3 rfl dX12_cut_160 ?_
    refine Wp.lcmp (pc := 162) dX12_cut_162 ?_
    refine Wp.if_ne (pc := 163) 173 dX12_cut_163 (by decide) (fun hc4 => ?_) (fun hc4 => ?_)
    · rw [if_neg hc4] at hf
      exact w_X12_cut_173 hX hG hf hk
    · rw [if_pos hc4] at hf
      refine Wp.bipush (pc := 166) (20 : Int32) (by decide) dX12_cut_166 ?_
      refine Wp.iload (pc := 168) 5 rfl dX12_cut_168 ?_
      refine Wp.iadd (pc := 170) dX12_cut_170 ?_
      obtain ⟨v5, h6, hf⟩ := bnd hf
      refine Wp.nI' h6 ?_
      refine Wp.istore (pc := 171) (lo' := [(0, .ref 56), (1, .int x1), (3, .int x3), (4, .long x4), (6, .int v5), (7, .int x7)]) [1, 2, 3, 4, 0, 5] rfl (by decide) dX12_cut_171 ?_
      exact w_X12_cut_173 hX hG hf hk
theorem wl_X12_cut_146 {X : CX} {T : List Dsc} {R : RM} {c e : Nat} {n1 n2 : Nat} {x1 : Int32} {x3 : Int32} {x4 : Int64} {x6 : Int32} {x7 : Int32} {m : M2} {e1 : ((Int32 × M2))} (hX : XR X 3 n1 n2) (hG : Geo T R c e) (h : loop (g_X12_cut_146 x1 x3 x4) (x6, x7, m) = some e1) (he : Wp X cX12_cut RX12 8 T (mk e1.2 R) n1 n2 179 [(0, .ref 56), (1, .int x1), (3, .int x3), (4, .long x4), (6, .int e1.1)] []) : Wp X cX12_cut RX12 8 T (mk m R) n1 n2 146 [(0, .ref 56), (1, .int x1), (3, .int x3), (4, .long x4), (6, .int x6), (7, .int x7)] [] :=
  loop_ok (K := k_X12_cut_146 X T R n1 n2 x1 x3 x4) (fun s r hf hk => w_X12_cut_146 hX hG hf hk) h he
set_option maxHeartbeats 4000000 in
set_option maxRecDepth 100000 in
theorem w_X12_cut_179 {X : CX} {T : List Dsc} {R : RM} {c e : Nat} {n1 n2 : Nat} {x1 : Int32} {x3 : Int32} {x4 : Int64} {x6 : Int32} {m : M2} {r : ((Int32 × M2) ⊕ ((M2) ⊕ (M2)))} (hX : XR X 3 n1 n2) (hG : Geo T R c e) (hf : f_X12_cut_179 x1 x3 x4 x6 m = some r) (hk : k_X12_cut_7 X T R n1 n2 r) : Wp X cX12_cut RX12 8 T (mk m R) n1 n2 179 [(0, .ref 56), (1, .int x1), (3, .int x3), (4, .long x4), (6, .int x6)] [] := by
  unfold f_X12_cut_179 at hf
  refine Wp.aload_n (pc := 179) 0 rfl rfl dX12_cut_179 ?_
  refine Wp.iload (pc := 180) 4 rfl dX12_cut_180 ?_
  refine Wp.iload_n (pc := 182) 1 rfl rfl dX12_cut_182 ?_
  refine Wp.iconst (pc := 183) (0 : Int32) (by decide) dX12_cut_183 ?_
  refine Wp.lload (pc := 184) 3 rfl dX12_cut_184 ?_
  obtain ⟨c1, h2, hf⟩ := bnd hf
  refine Wp.callVv (pc := 186) (st := []) (as := [.int x6, .int x1, .int (0 : Int32), .long x4]) (c_X12_token hG h2) ml_RX12_239 mv_X12_token mb_X12_token hX (Nat.le_of_ble_eq_true rfl) (by decide) rfl (hG.t 56 rfl) rfl (by simp) dX12_cut_186 rfl ?_
  refine Wp.iload_n (pc := 189) 1 rfl rfl dX12_cut_189 ?_
  refine Wp.iload_n (pc := 190) 2 rfl rfl dX12_cut_190 ?_
  refine Wp.iadd (pc := 191) dX12_cut_191 ?_
  obtain ⟨v3, h4, hf⟩ := bnd hf
  refine Wp.nI' h4 ?_
  refine Wp.istore_n (pc := 192) (lo' := [(0, .ref 56), (1, .int v3)]) [1, 0] rfl (by decide) rfl dX12_cut_192 ?_
  refine Wp.goto (pc := 193) 291 dX12_cut_193 (by decide) ?_
  exact w_X12_cut_291 hX hG hf hk
set_option maxHeartbeats 4000000 in
set_option maxRecDepth 100000 in
theorem w_X12_cut_135 {X : CX} {T : List Dsc} {R : RM} {c e : Nat} {n1 n2 : Nat} {x1 : Int32} {x3 : Int32} {x4 : Int64} {s0 : Int32} {m : M2} {r : ((Int32 × M2) ⊕ ((M2) ⊕ (M2)))} (hX : XR X 3 n1 n2) (hG : Geo T R c e) (hf : f_X12_cut_135 x1 x3 x4 s0 m = some r) (hk : k_X12_cut_7 X T R n1 n2 r) : Wp X cX12_cut RX12 8 T (mk m R) n1 n2 135 [(0, .ref 56), (1, .int x1), (3, .int x3), (4, .long x4)] [.int s0] := by
  unfold f_X12_cut_135 at hf
  refine Wp.istore (pc := 135) (lo' := [(0, .ref 56), (1, .int x1), (3, .int x3), (4, .long x4), (6, .int s0)]) [1, 2, 3, 4, 0] rfl (by decide) dX12_cut_135 ?_
  refine Wp.iload_n (pc := 137) 2 rfl rfl dX12_cut_137 ?_
  refine Wp.bipush (pc := 138) (7 : Int32) (by decide) dX12_cut_138 ?_
  refine Wp.icmp_gt (pc := 140) 179 dX12_cut_140 (by decide) (fun hc1 => ?_) (fun hc1 => ?_)
  · rw [if_pos hc1] at hf
    exact w_X12_cut_179 hX hG hf hk
  · rw [if_neg hc1] at hf
    refine Wp.iconst (pc := 143) (0 : Int32) (by decide) dX12_cut_143 ?_
    refine Wp.istore (pc := 144) (lo' := [(0, .ref 56), (1, .int x1), (3, .int x3), (4, .long x4), (6, .int s0), (7, .int (0 : Int32))]) [1, 2, 3, 4, 5, 0] rfl (by decide) dX12_cut_144 ?_
    obtain ⟨e2, h3, hf⟩ := bnd hf
    refine wl_X12_cut_146 hX hG h3 ?_
    exact w_X12_cut_179 hX hG hf hk
set_option maxHeartbeats 4000000 in
set_option maxRecDepth 100000 in
theorem w_X12_cut_244 {X : CX} {T : List Dsc} {R : RM} {c e : Nat} {n1 n2 : Nat} {x1 : Int32} {x3 : Int32} {x4 : Int32} {m : M2} {r : ((Int32 × Int32 × M2) ⊕ ((Int32 × Int32 × M2)))} (hX : XR X 3 n1 n2) (hG : Geo T R c e) (hf : f_X12_cut_244 x1 x3 x4 m = some r) (hk : k_X12_cut_208 X T R n1 n2 x1 r) : Wp X cX12_cut RX12 8 T (mk m R) n1 n2 244 [(0, .ref 56), (1, .int x1), (3, .int x3), (4, .int x4)] [] := by
  unfold f_X12_cut_244 at hf
  obtain ⟨v1, h2, hf⟩ := bnd hf
  refine Wp.iincN (pc := 244) (lo' := [(0, .ref 56), (1, .int x1), (3, .int v1), (4, .int x4)]) (1 : Int32) (by decide) h2 2 rfl [1, 2, 0, 3] rfl (by decide) dX12_cut_244 ?_
  refine Wp.goto (pc := 247) 208 dX12_cut_247 (by decide) ?_
  cases hf
  exact hk
set_option maxHeartbeats 4000000 in
set_option maxRecDepth 100000 in
theorem w_X12_cut_208 {X : CX} {T : List Dsc} {R : RM} {c e : Nat} {n1 n2 : Nat} {x1 : Int32} {x3 : Int32} {x4 : Int32} {m : M2} {r : ((Int32 × Int32 × M2) ⊕ ((Int32 × Int32 × M2)))} (hX : XR X 3 n1 n2) (hG : Geo T R c e) (hf : f_X12_cut_208 x1 x3 x4 m = some r) (hk : k_X12_cut_208 X T R n1 n2 x1 r) : Wp X cX12_cut RX12 8 T (mk m R) n1 n2 208 [(0, .ref 56), (1, .int x1), (3, .int x3), (4, .int x4)] [] := by
  unfold f_X12_cut_208 at hf
  refine Wp.aload_n (pc := 208) 0 rfl rfl dX12_cut_208 ?_
  refine Wp.iload_n (pc := 209) 1 rfl rfl dX12_cut_209 ?_
  refine Wp.iload_n (pc := 210) 2 rfl rfl dX12_cut_210 ?_
  refine Wp.iadd (pc := 211) dX12_cut_211 ?_
  obtain ⟨c1, h2, hf⟩ := bnd hf
  refine Wp.callVi (pc := 212) (st := []) (as := [.int (x1 + x3)]) (c_X12_byteAt hG h2) ml_RX12_235 mv_X12_byteAt mb_X12_byteAt hX (Nat.le_of_ble_eq_true rfl) (by decide) rfl (hG.t 56 rfl) rfl (by simp) dX12_cut_212 rfl ?_
  obtain ⟨c3, h4, hf⟩ := bnd hf
  refine Wp.callSi (pc := 215) (st := []) (as := [.int c1.1]) (c_X12_isDigit hG h4) ml_RX12_247 ms_X12_isDigit mb_X12_isDigit hX (Nat.le_of_ble_eq_true rfl) (by decide) rfl (by simp) dX12_cut_215 rfl ?_
  refine Wp.if_eq (pc := 218) 250 dX12_cut_218 (by decide) (fun hc5 => ?_) (fun hc5 => ?_)
  · rw [if_pos hc5] at hf
    cases hf
    exact hk
  · rw [if_neg hc5] at hf
    refine Wp.iload_n (pc := 221) 2 rfl rfl dX12_cut_221 ?_
    refine Wp.iconst (pc := 222) (4 : Int32) (by decide) dX12_cut_222 ?_
    refine Wp.icmp_ge (pc := 223) 244 dX12_cut_223 (by decide) (fun hc6 => ?_) (fun hc6 => ?_)
    · rw [if_pos hc6] at hf
      exact w_X12_cut_244 hX hG hf hk
    · rw [if_neg hc6] at hf
      refine Wp.bipush (pc := 226) (10 : Int32) (by decide) dX12_cut_226 ?_
      refine Wp.iload (pc := 228) 3 rfl dX12_cut_228 ?_
      refine Wp.imul (pc := 230) dX12_cut_230 ?_
      refine Wp.aload_n (pc := 231) 0 rfl rfl dX12_cut_231 ?_
      refine Wp.iload_n (pc := 232) 1 rfl rfl dX12_cut_232 ?_
      refine Wp.iload_n (pc := 233) 2 rfl rfl dX12_cut_233 ?_
      refine Wp.iadd (pc := 234) dX12_cut_234 ?_
      obtain ⟨c7, h8, hf⟩ := bnd hf
      refine Wp.callVi (pc := 235) (st := [.int ((10 : Int32) * x4)]) (as := [.int (x1 + x3)]) (c_X12_byteAt hG h8) ml_RX12_235 mv_X12_byteAt mb_X12_byteAt hX (Nat.le_of_ble_eq_true rfl) (by decide) rfl (hG.t 56 rfl) rfl (by simp [Value.category]) dX12_cut_235 rfl ?_
      refine Wp.iadd (pc := 238) dX12_cut_238 ?_
      refine Wp.bipush (pc := 239) (48 : Int32) (by decide) dX12_cut_239 ?_
      refine Wp.isub (pc := 241) dX12_cut_241 ?_
      obtain ⟨v9, h10, hf⟩ := bnd hf
      refine Wp.nI' h10 ?_
      refine Wp.istore (pc := 242) (lo' := [(0, .ref 56), (1, .int x1), (3, .int x3), (4, .int v9)]) [1, 2, 3, 0] rfl (by decide) dX12_cut_242 ?_
      exact w_X12_cut_244 hX hG hf hk
theorem wl_X12_cut_208 {X : CX} {T : List Dsc} {R : RM} {c e : Nat} {n1 n2 : Nat} {x1 : Int32} {x3 : Int32} {x4 : Int32} {m : M2} {e1 : ((Int32 × Int32 × M2))} (hX : XR X 3 n1 n2) (hG : Geo T R c e) (h : loop (g_X12_cut_208 x1) (x3, x4, m) = some e1) (he : Wp X cX12_cut RX12 8 T (mk e1.2.2 R) n1 n2 250 [(0, .ref 56), (1, .int x1), (3, .int e1.1), (4, .int e1.2.1)] []) : Wp X cX12_cut RX12 8 T (mk m R) n1 n2 208 [(0, .ref 56), (1, .int x1), (3, .int x3), (4, .int x4)] [] :=
  loop_ok (K := k_X12_cut_208 X T R n1 n2 x1) (fun s r hf hk => w_X12_cut_208 hX hG hf hk) h he
set_option maxHeartbeats 4000000 in
set_option maxRecDepth 100000 in
theorem w_X12_cut_261 {X : CX} {T : List Dsc} {R : RM} {c e : Nat} {n1 n2 : Nat} {x1 : Int32} {x3 : Int32} {x4 : Int32} {s1 : Int32} {m : M2} {r : ((Int32 × M2) ⊕ ((M2) ⊕ (M2)))} (hX : XR X 3 n1 n2) (hG : Geo T R c e) (hf : f_X12_cut_261 x1 x3 x4 s1 m = some r) (hk : k_X12_cut_7 X T R n1 n2 r) : Wp X cX12_cut RX12 8 T (mk m R) n1 n2 261 [(0, .ref 56), (1, .int x1), (3, .int x3), (4, .int x4)] [.int s1, .ref 56] := by
  unfold f_X12_cut_261 at hf
  refine Wp.iload_n (pc := 261) 1 rfl rfl dX12_cut_261 ?_
  refine Wp.iload (pc := 262) 3 rfl dX12_cut_262 ?_
  refine Wp.lconst (pc := 264) (0 : Int64) (by decide) dX12_cut_264 ?_
  obtain ⟨c1, h2, hf⟩ := bnd hf
  refine Wp.callVv (pc := 265) (st := []) (as := [.int s1, .int x1, .int x4, .long (0 : Int64)]) (c_X12_token hG h2) ml_RX12_239 mv_X12_token mb_X12_token hX (Nat.le_of_ble_eq_true rfl) (by decide) rfl (hG.t 56 rfl) rfl (by simp) dX12_cut_265 rfl ?_
  refine Wp.iload_n (pc := 268) 1 rfl rfl dX12_cut_268 ?_
  refine Wp.iload_n (pc := 269) 2 rfl rfl dX12_cut_269 ?_
  refine Wp.iadd (pc := 270) dX12_cut_270 ?_
  obtain ⟨v3, h4, hf⟩ := bnd hf
  refine Wp.nI' h4 ?_
  refine Wp.istore_n (pc := 271) (lo' := [(0, .ref 56), (1, .int v3)]) [1, 0] rfl (by decide) rfl dX12_cut_271 ?_
  refine Wp.goto (pc := 272) 291 dX12_cut_272 (by decide) ?_
  exact w_X12_cut_291 hX hG hf hk
set_option maxHeartbeats 4000000 in
set_option maxRecDepth 100000 in
theorem w_X12_cut_7 {X : CX} {T : List Dsc} {R : RM} {c e : Nat} {n1 n2 : Nat} {x1 : Int32} {m : M2} {r : ((Int32 × M2) ⊕ ((M2) ⊕ (M2)))} (hX : XR X 3 n1 n2) (hG : Geo T R c e) (hf : f_X12_cut_7 x1 m = some r) (hk : k_X12_cut_7 X T R n1 n2 r) : Wp X cX12_cut RX12 8 T (mk m R) n1 n2 7 [(0, .ref 56), (1, .int x1)] [] := by
  unfold f_X12_cut_7 at hf
  refine Wp.aload_n (pc := 7) 0 rfl rfl dX12_cut_7 ?_
  refine Wp.getI2 (pc := 8) (hG.t 56 rfl) fk_RX12_232 rfl dX12_cut_8 ?_
  refine Wp.sipush (pc := 11) (400 : Int32) (by decide) dX12_cut_11 ?_
  refine Wp.icmp_gt (pc := 14) 294 dX12_cut_14 (by decide) (fun hc1 => ?_) (fun hc1 => ?_)
  · rw [if_pos hc1] at hf
    refine Wp.lo' (lo' := []) [] rfl ?_
    cases hf
    exact hk
  · rw [if_neg hc1] at hf
    refine Wp.aload_n (pc := 17) 0 rfl rfl dX12_cut_17 ?_
    refine Wp.iload_n (pc := 18) 1 rfl rfl dX12_cut_18 ?_
    obtain ⟨c2, h3, hf⟩ := bnd hf
    refine Wp.callVi (pc := 19) (st := []) (as := [.int x1]) (c_X12_byteAt hG h3) ml_RX12_235 mv_X12_byteAt mb_X12_byteAt hX (Nat.le_of_ble_eq_true rfl) (by decide) rfl (hG.t 56 rfl) rfl (by simp) dX12_cut_19 rfl ?_
    refine Wp.istore_n (pc := 22) (lo' := [(0, .ref 56), (1, .int x1), (2, .int c2.1)]) [1, 2, 0] rfl (by decide) rfl dX12_cut_22 ?_
    refine Wp.iload_n (pc := 23) 1 rfl rfl dX12_cut_23 ?_
    refine Wp.aload_n (pc := 24) 0 rfl rfl dX12_cut_24 ?_
    refine Wp.getI2 (pc := 25) (hG.t 56 rfl) fk_RX12_223 rfl dX12_cut_25 ?_
    refine Wp.icmp_lt (pc := 28) 43 dX12_cut_28 (by decide) (fun hc4 => ?_) (fun hc4 => ?_)
    · rw [if_pos hc4] at hf
      refine Wp.iload_n (pc := 43) 2 rfl rfl dX12_cut_43 ?_
      refine Wp.bipush (pc := 44) (9 : Int32) (by decide) dX12_cut_44 ?_
      refine Wp.icmp_eq (pc := 46) 67 dX12_cut_46 (by decide) (fun hc5 => ?_) (fun hc5 => ?_)
      · rw [if_pos hc5] at hf
        refine Wp.lo' (lo' := [(0, .ref 56), (1, .int x1)]) [0, 1] rfl ?_
        exact w_X12_cut_67 hX hG hf hk
      · rw [if_neg hc5] at hf
        refine Wp.iload_n (pc := 49) 2 rfl rfl dX12_cut_49 ?_
        refine Wp.bipush (pc := 50) (10 : Int32) (by decide) dX12_cut_50 ?_
        refine Wp.icmp_eq (pc := 52) 67 dX12_cut_52 (by decide) (fun hc6 => ?_) (fun hc6 => ?_)
        · rw [if_pos hc6] at hf
          refine Wp.lo' (lo' := [(0, .ref 56), (1, .int x1)]) [0, 1] rfl ?_
          exact w_X12_cut_67 hX hG hf hk
        · rw [if_neg hc6] at hf
          refine Wp.iload_n (pc := 55) 2 rfl rfl dX12_cut_55 ?_
          refine Wp.bipush (pc := 56) (13 : Int32) (by decide) dX12_cut_56 ?_
          refine Wp.icmp_eq (pc := 58) 67 dX12_cut_58 (by decide) (fun hc7 => ?_) (fun hc7 => ?_)
          · rw [if_pos hc7] at hf
            refine Wp.lo' (lo' := [(0, .ref 56), (1, .int x1)]) [0, 1] rfl ?_
            exact w_X12_cut_67 hX hG hf hk
          · rw [if_neg hc7] at hf
            refine Wp.iload_n (pc := 61) 2 rfl rfl dX12_cut_61 ?_
            refine Wp.bipush (pc := 62) (32 : Int32) (by decide) dX12_cut_62 ?_
            refine Wp.icmp_ne (pc := 64) 73 dX12_cut_64 (by decide) (fun hc8 => ?_) (fun hc8 => ?_)
            · rw [if_neg hc8] at hf
              refine Wp.iload_n (pc := 73) 2 rfl rfl dX12_cut_73 ?_
              obtain ⟨c9, h10, hf⟩ := bnd hf
              refine Wp.callSi (pc := 74) (st := []) (as := [.int c2.1]) (c_X12_isLetter hG h10) ml_RX12_243 ms_X12_isLetter mb_X12_isLetter hX (Nat.le_of_ble_eq_true rfl) (by decide) rfl (by simp) dX12_cut_74 rfl ?_
              refine Wp.if_eq (pc := 77) 196 dX12_cut_77 (by decide) (fun hc11 => ?_) (fun hc11 => ?_)
              · rw [if_pos hc11] at hf
                refine Wp.iload_n (pc := 196) 2 rfl rfl dX12_cut_196 ?_
                obtain ⟨c12, h13, hf⟩ := bnd hf
                refine Wp.callSi (pc := 197) (st := []) (as := [.int c2.1]) (c_X12_isDigit hG h13) ml_RX12_247 ms_X12_isDigit mb_X12_isDigit hX (Nat.le_of_ble_eq_true rfl) (by decide) rfl (by simp) dX12_cut_197 rfl ?_
                refine Wp.if_eq (pc := 200) 275 dX12_cut_200 (by decide) (fun hc14 => ?_) (fun hc14 => ?_)
                · rw [if_pos hc14] at hf
                  refine Wp.iload_n (pc := 275) 1 rfl rfl dX12_cut_275 ?_
                  refine Wp.aload_n (pc := 276) 0 rfl rfl dX12_cut_276 ?_
                  refine Wp.iload_n (pc := 277) 1 rfl rfl dX12_cut_277 ?_
                  refine Wp.iload_n (pc := 278) 2 rfl rfl dX12_cut_278 ?_
                  refine Wp.aload_n (pc := 279) 0 rfl rfl dX12_cut_279 ?_
                  refine Wp.iload_n (pc := 280) 1 rfl rfl dX12_cut_280 ?_
                  refine Wp.iconst (pc := 281) (1 : Int32) (by decide) dX12_cut_281 ?_
                  refine Wp.iadd (pc := 282) dX12_cut_282 ?_
                  obtain ⟨c15, h16, hf⟩ := bnd hf
                  refine Wp.callVi (pc := 283) (st := [.int c2.1, .int x1, .ref 56, .int x1]) (as := [.int (x1 + (1 : Int32))]) (c_X12_byteAt hG h16) ml_RX12_235 mv_X12_byteAt mb_X12_byteAt hX (Nat.le_of_ble_eq_true rfl) (by decide) rfl (hG.t 56 rfl) rfl (by simp [Value.category]) dX12_cut_283 rfl ?_
                  obtain ⟨c17, h18, hf⟩ := bnd hf
                  refine Wp.callVi (pc := 286) (st := [.int x1]) (as := [.int x1, .int c2.1, .int c15.1]) (c_X12_sign hG h18) ml_RX12_250 mv_X12_sign mb_X12_sign hX (Nat.le_of_ble_eq_true rfl) (by decide) rfl (hG.t 56 rfl) rfl (by simp [Value.category]) dX12_cut_286 rfl ?_
                  refine Wp.iadd (pc := 289) dX12_cut_289 ?_
                  obtain ⟨v19, h20, hf⟩ := bnd hf
                  refine Wp.nI' h20 ?_
                  refine Wp.istore_n (pc := 290) (lo' := [(0, .ref 56), (1, .int v19)]) [1, 0] rfl (by decide) rfl dX12_cut_290 ?_
                  exact w_X12_cut_291 hX hG hf hk
                · rw [if_neg hc14] at hf
                  refine Wp.iconst (pc := 203) (0 : Int32) (by decide) dX12_cut_203 ?_
                  refine Wp.istore_n (pc := 204) (lo' := [(0, .ref 56), (1, .int x1), (3, .int (0 : Int32))]) [1, 2, 0] rfl (by decide) rfl dX12_cut_204 ?_
                  refine Wp.iconst (pc := 205) (0 : Int32) (by decide) dX12_cut_205 ?_
                  refine Wp.istore (pc := 206) (lo' := [(0, .ref 56), (1, .int x1), (3, .int (0 : Int32)), (4, .int (0 : Int32))]) [1, 2, 3, 0] rfl (by decide) dX12_cut_206 ?_
                  obtain ⟨e21, h22, hf⟩ := bnd hf
                  refine wl_X12_cut_208 hX hG h22 ?_
                  refine Wp.aload_n (pc := 250) 0 rfl rfl dX12_cut_250 ?_
                  refine Wp.iload_n (pc := 251) 2 rfl rfl dX12_cut_251 ?_
                  refine Wp.iconst (pc := 252) (4 : Int32) (by decide) dX12_cut_252 ?_
                  refine Wp.icmp_le (pc := 253) 260 dX12_cut_253 (by decide) (fun hc23 => ?_) (fun hc23 => ?_)
                  · rw [if_pos hc23] at hf
                    refine Wp.iconst (pc := 260) (2 : Int32) (by decide) dX12_cut_260 ?_
                    exact w_X12_cut_261 hX hG hf hk
                  · rw [if_neg hc23] at hf
                    refine Wp.iconst (pc := 256) (3 : Int32) (by decide) dX12_cut_256 ?_
                    refine Wp.goto (pc := 257) 261 dX12_cut_257 (by decide) ?_
                    exact w_X12_cut_261 hX hG hf hk
              · rw [if_neg hc11] at hf
                refine Wp.iconst (pc := 80) (0 : Int32) (by decide) dX12_cut_80 ?_
                refine Wp.istore_n (pc := 81) (lo' := [(0, .ref 56), (1, .int x1), (3, .int (0 : Int32))]) [1, 2, 0] rfl (by decide) rfl dX12_cut_81 ?_
                refine Wp.lconst (pc := 82) (0 : Int64) (by decide) dX12_cut_82 ?_
                refine Wp.lstore (pc := 83) (lo' := [(0, .ref 56), (1, .int x1), (3, .int (0 : Int32)), (4, .long (0 : Int64))]) [1, 2, 3, 0] rfl (by decide) dX12_cut_83 ?_
                obtain ⟨e24, h25, hf⟩ := bnd hf
                refine wl_X12_cut_85 hX hG h25 ?_
                refine Wp.iload_n (pc := 124) 2 rfl rfl dX12_cut_124 ?_
                refine Wp.bipush (pc := 125) (8 : Int32) (by decide) dX12_cut_125 ?_
                refine Wp.icmp_le (pc := 127) 134 dX12_cut_127 (by decide) (fun hc26 => ?_) (fun hc26 => ?_)
                · rw [if_pos hc26] at hf
                  refine Wp.iconst (pc := 134) (1 : Int32) (by decide) dX12_cut_134 ?_
                  exact w_X12_cut_135 hX hG hf hk
                · rw [if_neg hc26] at hf
                  refine Wp.iconst (pc := 130) (3 : Int32) (by decide) dX12_cut_130 ?_
                  refine Wp.goto (pc := 131) 135 dX12_cut_131 (by decide) ?_
                  exact w_X12_cut_135 hX hG hf hk
            · rw [if_pos hc8] at hf
              refine Wp.lo' (lo' := [(0, .ref 56), (1, .int x1)]) [0, 1] rfl ?_
              exact w_X12_cut_67 hX hG hf hk
    · rw [if_neg hc4] at hf
      refine Wp.lo' (lo' := [(0, .ref 56)]) [0] rfl ?_
      cases hf
      exact hk
theorem wl_X12_cut_7 {X : CX} {T : List Dsc} {R : RM} {c e : Nat} {n1 n2 : Nat} {x1 : Int32} {m : M2} {e1 : ((M2) ⊕ (M2))} (hX : XR X 3 n1 n2) (hG : Geo T R c e) (h : loop (g_X12_cut_7) (x1, m) = some e1) (he0 : ∀ e_, e1 = (Sum.inl e_) → Wp X cX12_cut RX12 8 T (mk e_ R) n1 n2 31 [(0, .ref 56)] []) (he1 : ∀ e_, e1 = (Sum.inr e_) → Wp X cX12_cut RX12 8 T (mk e_ R) n1 n2 294 [] []) : Wp X cX12_cut RX12 8 T (mk m R) n1 n2 7 [(0, .ref 56), (1, .int x1)] [] :=
  loop_ok (K := k_X12_cut_7 X T R n1 n2) (fun s r hf hk => w_X12_cut_7 hX hG hf hk) h (by rcases e1 with e_ | e_ <;> first | exact he0 _ rfl | exact he1 _ rfl)
set_option maxHeartbeats 4000000 in
set_option maxRecDepth 100000 in
theorem w_X12_cut {X : CX} {T : List Dsc} {R : RM} {c e : Nat} {n1 n2 : Nat} {m : M2} {r : M2} (hX : XR X 3 n1 n2) (hG : Geo T R c e) (hf : F_X12_cut m = some r) (hk : FnV X cX12_cut RX12 8 T n1 n2 (mk r R)) : Wp X cX12_cut RX12 8 T (mk m R) n1 n2 0 [(0, .ref 56)] [] := by
  unfold F_X12_cut at hf
  refine Wp.aload_n (pc := 0) 0 rfl rfl dX12_cut_0 ?_
  refine Wp.iconst (pc := 1) (0 : Int32) (by decide) dX12_cut_1 ?_
  obtain ⟨m1, h2, hf⟩ := bnd hf
  refine Wp.ptI2 (pc := 2) h2 (hG.t 56 rfl) fk_RX12_232 ff_RX12_11_10 rfl dX12_cut_2 ?_
  refine Wp.iconst (pc := 5) (0 : Int32) (by decide) dX12_cut_5 ?_
  refine Wp.istore_n (pc := 6) (lo' := [(0, .ref 56), (1, .int (0 : Int32))]) [1, 0] rfl (by decide) rfl dX12_cut_6 ?_
  obtain ⟨e3, h4, hf⟩ := bnd hf
  refine wl_X12_cut_7 hX hG h4 (fun e3_0 hq => ?_) (fun e3_1 hq => ?_)
  · rw [hq, Sum.elim_inl] at hf
    refine Wp.aload_n (pc := 31) 0 rfl rfl dX12_cut_31 ?_
    refine Wp.iconst (pc := 32) (0 : Int32) (by decide) dX12_cut_32 ?_
    refine Wp.aload_n (pc := 33) 0 rfl rfl dX12_cut_33 ?_
    refine Wp.getI2 (pc := 34) (hG.t 56 rfl) fk_RX12_223 rfl dX12_cut_34 ?_
    refine Wp.iconst (pc := 37) (0 : Int32) (by decide) dX12_cut_37 ?_
    refine Wp.lconst (pc := 38) (0 : Int64) (by decide) dX12_cut_38 ?_
    obtain ⟨c5, h6, hf⟩ := bnd hf
    refine Wp.callVv (pc := 39) (st := []) (as := [.int (0 : Int32), .int (hI e3_0 56 4), .int (0 : Int32), .long (0 : Int64)]) (c_X12_token hG h6) ml_RX12_239 mv_X12_token mb_X12_token hX (Nat.le_of_ble_eq_true rfl) (by decide) rfl (hG.t 56 rfl) rfl (by simp) dX12_cut_39 rfl ?_
    cases hf
    exact hk _ _ dX12_cut_42
  · rw [hq, Sum.elim_inr] at hf
    cases hf
    exact hk _ _ dX12_cut_294
theorem c_X12_cut {T : List Dsc} {R : RM} {c e : Nat} {m : M2} {r : M2} (hG : Geo T R c e) (hf : F_X12_cut m = some r) : Ct 3 yX12_cut cX12_cut 8 none T (mk m R) [.ref 56] none (mk r R) := Ct.ofV (r := mk r R) (by decide +kernel) (Nat.le_of_ble_eq_true rfl) (fun X hX hk => w_X12_cut hX hG hf hk)
theorem dX12_is_0 : decode cX12_is 0 = .ok (.aload_n 0, 1) := by decide +kernel
theorem dX12_is_1 : decode cX12_is 1 = .ok (.getfield 254, 3) := by decide +kernel
theorem dX12_is_4 : decode cX12_is 4 = .ok (.ifCond .ne 20, 3) := by decide +kernel
theorem dX12_is_7 : decode cX12_is 7 = .ok (.aload_n 0, 1) := by decide +kernel
theorem dX12_is_8 : decode cX12_is 8 = .ok (.getfield 20, 3) := by decide +kernel
theorem dX12_is_11 : decode cX12_is 11 = .ok (.aload_n 0, 1) := by decide +kernel
theorem dX12_is_12 : decode cX12_is 12 = .ok (.getfield 257, 3) := by decide +kernel
theorem dX12_is_15 : decode cX12_is 15 = .ok (.iaload, 1) := by decide +kernel
theorem dX12_is_16 : decode cX12_is 16 = .ok (.iload_n 1, 1) := by decide +kernel
theorem dX12_is_17 : decode cX12_is 17 = .ok (.if_icmp .ne 7, 3) := by decide +kernel
theorem dX12_is_20 : decode cX12_is 20 = .ok (.iconst 1, 1) := by decide +kernel
theorem dX12_is_21 : decode cX12_is 21 = .ok (.goto 4, 3) := by decide +kernel
theorem dX12_is_24 : decode cX12_is 24 = .ok (.iconst 0, 1) := by decide +kernel
theorem dX12_is_25 : decode cX12_is 25 = .ok (.ireturn, 1) := by decide +kernel
set_option maxHeartbeats 4000000 in
set_option maxRecDepth 100000 in
theorem w_X12_is_25 {X : CX} {T : List Dsc} {R : RM} {c e : Nat} {n1 n2 : Nat} {s0 : Int32} {m : M2} {r : (Int32 × M2)} (hX : XR X 1 n1 n2) (hG : Geo T R c e) (hf : f_X12_is_25 s0 m = some r) (hk : FnZ X cX12_is RX12 2 T n1 n2 (r.1, mk r.2 R)) : Wp X cX12_is RX12 2 T (mk m R) n1 n2 25 [] [.int s0] := by
  unfold f_X12_is_25 at hf
  obtain ⟨v1, h2, hf⟩ := bnd hf
  refine Wp.zb' h2 (fun h2 => ?_)
  cases hf
  exact hk _ _ h2 dX12_is_25
set_option maxHeartbeats 4000000 in
set_option maxRecDepth 100000 in
theorem w_X12_is_24 {X : CX} {T : List Dsc} {R : RM} {c e : Nat} {n1 n2 : Nat} {m : M2} {r : (Int32 × M2)} (hX : XR X 1 n1 n2) (hG : Geo T R c e) (hf : f_X12_is_24 m = some r) (hk : FnZ X cX12_is RX12 2 T n1 n2 (r.1, mk r.2 R)) : Wp X cX12_is RX12 2 T (mk m R) n1 n2 24 [] [] := by
  unfold f_X12_is_24 at hf
  refine Wp.iconst (pc := 24) (0 : Int32) (by decide) dX12_is_24 ?_
  exact w_X12_is_25 hX hG hf hk
set_option maxHeartbeats 4000000 in
set_option maxRecDepth 100000 in
theorem w_X12_is {X : CX} {T : List Dsc} {R : RM} {c e : Nat} {n1 n2 : Nat} {x1 : Int32} {m : M2} {r : (Int32 × M2)} (hX : XR X 1 n1 n2) (hG : Geo T R c e) (hf : F_X12_is x1 m = some r) (hk : FnZ X cX12_is RX12 2 T n1 n2 (r.1, mk r.2 R)) : Wp X cX12_is RX12 2 T (mk m R) n1 n2 0 [(0, .ref 56), (1, .int x1)] [] := by
  unfold F_X12_is at hf
  refine Wp.aload_n (pc := 0) 0 rfl rfl dX12_is_0 ?_
  refine Wp.getI2 (pc := 1) (hG.t 56 rfl) fk_RX12_254 rfl dX12_is_1 ?_
  refine Wp.if_ne (pc := 4) 24 dX12_is_4 (by decide) (fun hc1 => ?_) (fun hc1 => ?_)
  · rw [if_neg hc1] at hf
    refine Wp.lo' (lo' := []) [] rfl ?_
    exact w_X12_is_24 hX hG hf hk
  · rw [if_pos hc1] at hf
    refine Wp.aload_n (pc := 7) 0 rfl rfl dX12_is_7 ?_
    refine Wp.getR2 (pc := 8) (hG.r 56 5 rfl) (hG.t 56 rfl) fk_RX12_20 rfl dX12_is_8 ?_
    refine Wp.aload_n (pc := 11) 0 rfl rfl dX12_is_11 ?_
    refine Wp.getI2 (pc := 12) (hG.t 56 rfl) fk_RX12_257 rfl dX12_is_12 ?_
    obtain ⟨v2, h3, hf⟩ := bnd hf
    refine Wp.iald2 (pc := 15) h3 (hG.a 59 0 rfl) dX12_is_15 ?_
    refine Wp.iload_n (pc := 16) 1 rfl rfl dX12_is_16 ?_
    refine Wp.icmp_ne (pc := 17) 24 dX12_is_17 (by decide) (fun hc4 => ?_) (fun hc4 => ?_)
    · rw [if_neg hc4] at hf
      refine Wp.lo' (lo' := []) [] rfl ?_
      exact w_X12_is_24 hX hG hf hk
    · rw [if_pos hc4] at hf
      refine Wp.iconst (pc := 20) (1 : Int32) (by decide) dX12_is_20 ?_
      refine Wp.goto (pc := 21) 25 dX12_is_21 (by decide) ?_
      refine Wp.lo' (lo' := []) [] rfl ?_
      exact w_X12_is_25 hX hG hf hk
theorem c_X12_is {T : List Dsc} {R : RM} {c e : Nat} {x1 : Int32} {m : M2} {r : (Int32 × M2)} (hG : Geo T R c e) (hf : F_X12_is x1 m = some r) : Ct 1 yX12_is cX12_is 2 (some .boolean) T (mk m R) [.ref 56, .int x1] (some (.int r.1)) (mk r.2 R) := Ct.ofZ (r := (r.1, mk r.2 R)) (by decide +kernel) (Nat.le_of_ble_eq_true rfl) (fun X hX hk => w_X12_is hX hG hf hk)
theorem dX12_fail_0 : decode cX12_fail 0 = .ok (.aload_n 0, 1) := by decide +kernel
theorem dX12_fail_1 : decode cX12_fail 1 = .ok (.getfield 254, 3) := by decide +kernel
theorem dX12_fail_4 : decode cX12_fail 4 = .ok (.ifCond .le 4, 3) := by decide +kernel
theorem dX12_fail_7 : decode cX12_fail 7 = .ok (.return_, 1) := by decide +kernel
theorem dX12_fail_8 : decode cX12_fail 8 = .ok (.aload_n 0, 1) := by decide +kernel
theorem dX12_fail_9 : decode cX12_fail 9 = .ok (.iload_n 1, 1) := by decide +kernel
theorem dX12_fail_10 : decode cX12_fail 10 = .ok (.putfield 254, 3) := by decide +kernel
theorem dX12_fail_13 : decode cX12_fail 13 = .ok (.aload_n 0, 1) := by decide +kernel
theorem dX12_fail_14 : decode cX12_fail 14 = .ok (.aload_n 0, 1) := by decide +kernel
theorem dX12_fail_15 : decode cX12_fail 15 = .ok (.getfield 24, 3) := by decide +kernel
theorem dX12_fail_18 : decode cX12_fail 18 = .ok (.aload_n 0, 1) := by decide +kernel
theorem dX12_fail_19 : decode cX12_fail 19 = .ok (.getfield 257, 3) := by decide +kernel
theorem dX12_fail_22 : decode cX12_fail 22 = .ok (.iaload, 1) := by decide +kernel
theorem dX12_fail_23 : decode cX12_fail 23 = .ok (.putfield 260, 3) := by decide +kernel
theorem dX12_fail_26 : decode cX12_fail 26 = .ok (.return_, 1) := by decide +kernel
set_option maxHeartbeats 4000000 in
set_option maxRecDepth 100000 in
theorem w_X12_fail {X : CX} {T : List Dsc} {R : RM} {c e : Nat} {n1 n2 : Nat} {x1 : Int32} {m : M2} {r : M2} (hX : XR X 1 n1 n2) (hG : Geo T R c e) (hf : F_X12_fail x1 m = some r) (hk : FnV X cX12_fail RX12 2 T n1 n2 (mk r R)) : Wp X cX12_fail RX12 2 T (mk m R) n1 n2 0 [(0, .ref 56), (1, .int x1)] [] := by
  unfold F_X12_fail at hf
  refine Wp.aload_n (pc := 0) 0 rfl rfl dX12_fail_0 ?_
  refine Wp.getI2 (pc := 1) (hG.t 56 rfl) fk_RX12_254 rfl dX12_fail_1 ?_
  refine Wp.if_le (pc := 4) 8 dX12_fail_4 (by decide) (fun hc1 => ?_) (fun hc1 => ?_)
  · rw [if_pos hc1] at hf
    refine Wp.aload_n (pc := 8) 0 rfl rfl dX12_fail_8 ?_
    refine Wp.iload_n (pc := 9) 1 rfl rfl dX12_fail_9 ?_
    obtain ⟨m2, h3, hf⟩ := bnd hf
    refine Wp.ptI2 (pc := 10) h3 (hG.t 56 rfl) fk_RX12_254 ff_RX12_11_13 rfl dX12_fail_10 ?_
    refine Wp.aload_n (pc := 13) 0 rfl rfl dX12_fail_13 ?_
    refine Wp.aload_n (pc := 14) 0 rfl rfl dX12_fail_14 ?_
    refine Wp.getR2 (pc := 15) (hG.r 56 6 rfl) (hG.t 56 rfl) fk_RX12_24 rfl dX12_fail_15 ?_
    refine Wp.aload_n (pc := 18) 0 rfl rfl dX12_fail_18 ?_
    refine Wp.getI2 (pc := 19) (hG.t 56 rfl) fk_RX12_257 rfl dX12_fail_19 ?_
    obtain ⟨v4, h5, hf⟩ := bnd hf
    refine Wp.iald2 (pc := 22) h5 (hG.a 60 0 rfl) dX12_fail_22 ?_
    obtain ⟨m6, h7, hf⟩ := bnd hf
    refine Wp.ptI2 (pc := 23) h7 (hG.t 56 rfl) fk_RX12_260 ff_RX12_11_14 rfl dX12_fail_23 ?_
    cases hf
    exact hk _ _ dX12_fail_26
  · rw [if_neg hc1] at hf
    cases hf
    exact hk _ _ dX12_fail_7
theorem c_X12_fail {T : List Dsc} {R : RM} {c e : Nat} {x1 : Int32} {m : M2} {r : M2} (hG : Geo T R c e) (hf : F_X12_fail x1 m = some r) : Ct 1 yX12_fail cX12_fail 2 none T (mk m R) [.ref 56, .int x1] none (mk r R) := Ct.ofV (r := mk r R) (by decide +kernel) (Nat.le_of_ble_eq_true rfl) (fun X hX hk => w_X12_fail hX hG hf hk)
theorem dX12_wrong_0 : decode cX12_wrong 0 = .ok (.aload_n 0, 1) := by decide +kernel
theorem dX12_wrong_1 : decode cX12_wrong 1 = .ok (.getfield 24, 3) := by decide +kernel
theorem dX12_wrong_4 : decode cX12_wrong 4 = .ok (.iload_n 2, 1) := by decide +kernel
theorem dX12_wrong_5 : decode cX12_wrong 5 = .ok (.iaload, 1) := by decide +kernel
theorem dX12_wrong_6 : decode cX12_wrong 6 = .ok (.istore_n 3, 1) := by decide +kernel
theorem dX12_wrong_7 : decode cX12_wrong 7 = .ok (.aload_n 0, 1) := by decide +kernel
theorem dX12_wrong_8 : decode cX12_wrong 8 = .ok (.getfield 254, 3) := by decide +kernel
theorem dX12_wrong_11 : decode cX12_wrong 11 = .ok (.ifCond .gt 34, 3) := by decide +kernel
theorem dX12_wrong_14 : decode cX12_wrong 14 = .ok (.aload_n 0, 1) := by decide +kernel
theorem dX12_wrong_15 : decode cX12_wrong 15 = .ok (.getfield 263, 3) := by decide +kernel
theorem dX12_wrong_18 : decode cX12_wrong 18 = .ok (.ifCond .eq 28, 3) := by decide +kernel
theorem dX12_wrong_21 : decode cX12_wrong 21 = .ok (.iload_n 3, 1) := by decide +kernel
theorem dX12_wrong_22 : decode cX12_wrong 22 = .ok (.aload_n 0, 1) := by decide +kernel
theorem dX12_wrong_23 : decode cX12_wrong 23 = .ok (.getfield 266, 3) := by decide +kernel
theorem dX12_wrong_26 : decode cX12_wrong 26 = .ok (.if_icmp .gt 19, 3) := by decide +kernel
theorem dX12_wrong_29 : decode cX12_wrong 29 = .ok (.iload_n 3, 1) := by decide +kernel
theorem dX12_wrong_30 : decode cX12_wrong 30 = .ok (.aload_n 0, 1) := by decide +kernel
theorem dX12_wrong_31 : decode cX12_wrong 31 = .ok (.getfield 266, 3) := by decide +kernel
theorem dX12_wrong_34 : decode cX12_wrong 34 = .ok (.if_icmp .ne 12, 3) := by decide +kernel
theorem dX12_wrong_37 : decode cX12_wrong 37 = .ok (.iload_n 1, 1) := by decide +kernel
theorem dX12_wrong_38 : decode cX12_wrong 38 = .ok (.aload_n 0, 1) := by decide +kernel
theorem dX12_wrong_39 : decode cX12_wrong 39 = .ok (.getfield 263, 3) := by decide +kernel
theorem dX12_wrong_42 : decode cX12_wrong 42 = .ok (.if_icmp .lt 4, 3) := by decide +kernel
theorem dX12_wrong_45 : decode cX12_wrong 45 = .ok (.return_, 1) := by decide +kernel
theorem dX12_wrong_46 : decode cX12_wrong 46 = .ok (.aload_n 0, 1) := by decide +kernel
theorem dX12_wrong_47 : decode cX12_wrong 47 = .ok (.iload_n 1, 1) := by decide +kernel
theorem dX12_wrong_48 : decode cX12_wrong 48 = .ok (.putfield 263, 3) := by decide +kernel
theorem dX12_wrong_51 : decode cX12_wrong 51 = .ok (.aload_n 0, 1) := by decide +kernel
theorem dX12_wrong_52 : decode cX12_wrong 52 = .ok (.iload_n 3, 1) := by decide +kernel
theorem dX12_wrong_53 : decode cX12_wrong 53 = .ok (.putfield 266, 3) := by decide +kernel
theorem dX12_wrong_56 : decode cX12_wrong 56 = .ok (.return_, 1) := by decide +kernel
set_option maxHeartbeats 4000000 in
set_option maxRecDepth 100000 in
theorem w_X12_wrong_45 {X : CX} {T : List Dsc} {R : RM} {c e : Nat} {n1 n2 : Nat} {m : M2} {r : M2} (hX : XR X 1 n1 n2) (hG : Geo T R c e) (hf : f_X12_wrong_45 m = some r) (hk : FnV X cX12_wrong RX12 4 T n1 n2 (mk r R)) : Wp X cX12_wrong RX12 4 T (mk m R) n1 n2 45 [] [] := by
  unfold f_X12_wrong_45 at hf
  cases hf
  exact hk _ _ dX12_wrong_45
set_option maxHeartbeats 4000000 in
set_option maxRecDepth 100000 in
theorem w_X12_wrong_46 {X : CX} {T : List Dsc} {R : RM} {c e : Nat} {n1 n2 : Nat} {x1 : Int32} {x3 : Int32} {m : M2} {r : M2} (hX : XR X 1 n1 n2) (hG : Geo T R c e) (hf : f_X12_wrong_46 x1 x3 m = some r) (hk : FnV X cX12_wrong RX12 4 T n1 n2 (mk r R)) : Wp X cX12_wrong RX12 4 T (mk m R) n1 n2 46 [(0, .ref 56), (1, .int x1), (3, .int x3)] [] := by
  unfold f_X12_wrong_46 at hf
  refine Wp.aload_n (pc := 46) 0 rfl rfl dX12_wrong_46 ?_
  refine Wp.iload_n (pc := 47) 1 rfl rfl dX12_wrong_47 ?_
  obtain ⟨m1, h2, hf⟩ := bnd hf
  refine Wp.ptI2 (pc := 48) h2 (hG.t 56 rfl) fk_RX12_263 ff_RX12_11_15 rfl dX12_wrong_48 ?_
  refine Wp.aload_n (pc := 51) 0 rfl rfl dX12_wrong_51 ?_
  refine Wp.iload_n (pc := 52) 2 rfl rfl dX12_wrong_52 ?_
  obtain ⟨m3, h4, hf⟩ := bnd hf
  refine Wp.ptI2 (pc := 53) h4 (hG.t 56 rfl) fk_RX12_266 ff_RX12_11_16 rfl dX12_wrong_53 ?_
  cases hf
  exact hk _ _ dX12_wrong_56
set_option maxHeartbeats 4000000 in
set_option maxRecDepth 100000 in
theorem w_X12_wrong {X : CX} {T : List Dsc} {R : RM} {c e : Nat} {n1 n2 : Nat} {x1 : Int32} {x2 : Int32} {m : M2} {r : M2} (hX : XR X 1 n1 n2) (hG : Geo T R c e) (hf : F_X12_wrong x1 x2 m = some r) (hk : FnV X cX12_wrong RX12 4 T n1 n2 (mk r R)) : Wp X cX12_wrong RX12 4 T (mk m R) n1 n2 0 [(0, .ref 56), (1, .int x1), (2, .int x2)] [] := by
  unfold F_X12_wrong at hf
  refine Wp.aload_n (pc := 0) 0 rfl rfl dX12_wrong_0 ?_
  refine Wp.getR2 (pc := 1) (hG.r 56 6 rfl) (hG.t 56 rfl) fk_RX12_24 rfl dX12_wrong_1 ?_
  refine Wp.iload_n (pc := 4) 2 rfl rfl dX12_wrong_4 ?_
  obtain ⟨v1, h2, hf⟩ := bnd hf
  refine Wp.iald2 (pc := 5) h2 (hG.a 60 0 rfl) dX12_wrong_5 ?_
  refine Wp.istore_n (pc := 6) (lo' := [(0, .ref 56), (1, .int x1), (3, .int v1)]) [1, 2, 0] rfl (by decide) rfl dX12_wrong_6 ?_
  refine Wp.aload_n (pc := 7) 0 rfl rfl dX12_wrong_7 ?_
  refine Wp.getI2 (pc := 8) (hG.t 56 rfl) fk_RX12_254 rfl dX12_wrong_8 ?_
  refine Wp.if_gt (pc := 11) 45 dX12_wrong_11 (by decide) (fun hc3 => ?_) (fun hc3 => ?_)
  · rw [if_pos hc3] at hf
    refine Wp.lo' (lo' := []) [] rfl ?_
    exact w_X12_wrong_45 hX hG hf hk
  · rw [if_neg hc3] at hf
    refine Wp.aload_n (pc := 14) 0 rfl rfl dX12_wrong_14 ?_
    refine Wp.getI2 (pc := 15) (hG.t 56 rfl) fk_RX12_263 rfl dX12_wrong_15 ?_
    refine Wp.if_eq (pc := 18) 46 dX12_wrong_18 (by decide) (fun hc4 => ?_) (fun hc4 => ?_)
    · rw [if_pos hc4] at hf
      exact w_X12_wrong_46 hX hG hf hk
    · rw [if_neg hc4] at hf
      refine Wp.iload_n (pc := 21) 2 rfl rfl dX12_wrong_21 ?_
      refine Wp.aload_n (pc := 22) 0 rfl rfl dX12_wrong_22 ?_
      refine Wp.getI2 (pc := 23) (hG.t 56 rfl) fk_RX12_266 rfl dX12_wrong_23 ?_
      refine Wp.icmp_gt (pc := 26) 45 dX12_wrong_26 (by decide) (fun hc5 => ?_) (fun hc5 => ?_)
      · rw [if_pos hc5] at hf
        refine Wp.lo' (lo' := []) [] rfl ?_
        exact w_X12_wrong_45 hX hG hf hk
      · rw [if_neg hc5] at hf
        refine Wp.iload_n (pc := 29) 2 rfl rfl dX12_wrong_29 ?_
        refine Wp.aload_n (pc := 30) 0 rfl rfl dX12_wrong_30 ?_
        refine Wp.getI2 (pc := 31) (hG.t 56 rfl) fk_RX12_266 rfl dX12_wrong_31 ?_
        refine Wp.icmp_ne (pc := 34) 46 dX12_wrong_34 (by decide) (fun hc6 => ?_) (fun hc6 => ?_)
        · rw [if_neg hc6] at hf
          exact w_X12_wrong_46 hX hG hf hk
        · rw [if_pos hc6] at hf
          refine Wp.iload_n (pc := 37) 1 rfl rfl dX12_wrong_37 ?_
          refine Wp.aload_n (pc := 38) 0 rfl rfl dX12_wrong_38 ?_
          refine Wp.getI2 (pc := 39) (hG.t 56 rfl) fk_RX12_263 rfl dX12_wrong_39 ?_
          refine Wp.icmp_lt (pc := 42) 46 dX12_wrong_42 (by decide) (fun hc7 => ?_) (fun hc7 => ?_)
          · rw [if_pos hc7] at hf
            exact w_X12_wrong_46 hX hG hf hk
          · rw [if_neg hc7] at hf
            refine Wp.lo' (lo' := []) [] rfl ?_
            exact w_X12_wrong_45 hX hG hf hk
theorem c_X12_wrong {T : List Dsc} {R : RM} {c e : Nat} {x1 : Int32} {x2 : Int32} {m : M2} {r : M2} (hG : Geo T R c e) (hf : F_X12_wrong x1 x2 m = some r) : Ct 1 yX12_wrong cX12_wrong 4 none T (mk m R) [.ref 56, .int x1, .int x2] none (mk r R) := Ct.ofV (r := mk r R) (by decide +kernel) (Nat.le_of_ble_eq_true rfl) (fun X hX hk => w_X12_wrong hX hG hf hk)
theorem dX12_goesOn_0 : decode cX12_goesOn 0 = .ok (.aload_n 0, 1) := by decide +kernel
theorem dX12_goesOn_1 : decode cX12_goesOn 1 = .ok (.getfield 257, 3) := by decide +kernel
theorem dX12_goesOn_4 : decode cX12_goesOn 4 = .ok (.sipush 400, 3) := by decide +kernel
theorem dX12_goesOn_7 : decode cX12_goesOn 7 = .ok (.if_icmp .ne 11, 3) := by decide +kernel
theorem dX12_goesOn_10 : decode cX12_goesOn 10 = .ok (.aload_n 0, 1) := by decide +kernel
theorem dX12_goesOn_11 : decode cX12_goesOn 11 = .ok (.iconst 2, 1) := by decide +kernel
theorem dX12_goesOn_12 : decode cX12_goesOn 12 = .ok (.invokevirtual 269, 3) := by decide +kernel
theorem dX12_goesOn_15 : decode cX12_goesOn 15 = .ok (.goto 13, 3) := by decide +kernel
theorem dX12_goesOn_18 : decode cX12_goesOn 18 = .ok (.aload_n 0, 1) := by decide +kernel
theorem dX12_goesOn_19 : decode cX12_goesOn 19 = .ok (.dup, 1) := by decide +kernel
theorem dX12_goesOn_20 : decode cX12_goesOn 20 = .ok (.getfield 257, 3) := by decide +kernel
theorem dX12_goesOn_23 : decode cX12_goesOn 23 = .ok (.iconst 1, 1) := by decide +kernel
theorem dX12_goesOn_24 : decode cX12_goesOn 24 = .ok (.iadd, 1) := by decide +kernel
theorem dX12_goesOn_25 : decode cX12_goesOn 25 = .ok (.putfield 257, 3) := by decide +kernel
theorem dX12_goesOn_28 : decode cX12_goesOn 28 = .ok (.return_, 1) := by decide +kernel
set_option maxHeartbeats 4000000 in
set_option maxRecDepth 100000 in
theorem w_X12_goesOn_28 {X : CX} {T : List Dsc} {R : RM} {c e : Nat} {n1 n2 : Nat} {m : M2} {r : M2} (hX : XR X 2 n1 n2) (hG : Geo T R c e) (hf : f_X12_goesOn_28 m = some r) (hk : FnV X cX12_goesOn RX12 1 T n1 n2 (mk r R)) : Wp X cX12_goesOn RX12 1 T (mk m R) n1 n2 28 [] [] := by
  unfold f_X12_goesOn_28 at hf
  cases hf
  exact hk _ _ dX12_goesOn_28
set_option maxHeartbeats 4000000 in
set_option maxRecDepth 100000 in
theorem w_X12_goesOn {X : CX} {T : List Dsc} {R : RM} {c e : Nat} {n1 n2 : Nat} {m : M2} {r : M2} (hX : XR X 2 n1 n2) (hG : Geo T R c e) (hf : F_X12_goesOn m = some r) (hk : FnV X cX12_goesOn RX12 1 T n1 n2 (mk r R)) : Wp X cX12_goesOn RX12 1 T (mk m R) n1 n2 0 [(0, .ref 56)] [] := by
  unfold F_X12_goesOn at hf
  refine Wp.aload_n (pc := 0) 0 rfl rfl dX12_goesOn_0 ?_
  refine Wp.getI2 (pc := 1) (hG.t 56 rfl) fk_RX12_257 rfl dX12_goesOn_1 ?_
  refine Wp.sipush (pc := 4) (400 : Int32) (by decide) dX12_goesOn_4 ?_
  refine Wp.icmp_ne (pc := 7) 18 dX12_goesOn_7 (by decide) (fun hc1 => ?_) (fun hc1 => ?_)
  · rw [if_neg hc1] at hf
    refine Wp.aload_n (pc := 18) 0 rfl rfl dX12_goesOn_18 ?_
    refine Wp.dup (pc := 19) rfl dX12_goesOn_19 ?_
    refine Wp.getI2 (pc := 20) (hG.t 56 rfl) fk_RX12_257 rfl dX12_goesOn_20 ?_
    refine Wp.iconst (pc := 23) (1 : Int32) (by decide) dX12_goesOn_23 ?_
    refine Wp.iadd (pc := 24) dX12_goesOn_24 ?_
    obtain ⟨m2, h3, hf⟩ := bnd hf
    refine Wp.ptI2 (pc := 25) h3 (hG.t 56 rfl) fk_RX12_257 ff_RX12_11_11 rfl dX12_goesOn_25 ?_
    refine Wp.lo' (lo' := []) [] rfl ?_
    exact w_X12_goesOn_28 hX hG hf hk
  · rw [if_pos hc1] at hf
    refine Wp.aload_n (pc := 10) 0 rfl rfl dX12_goesOn_10 ?_
    refine Wp.iconst (pc := 11) (2 : Int32) (by decide) dX12_goesOn_11 ?_
    obtain ⟨c4, h5, hf⟩ := bnd hf
    refine Wp.callVv (pc := 12) (st := []) (as := [.int (2 : Int32)]) (c_X12_fail hG h5) ml_RX12_269 mv_X12_fail mb_X12_fail hX (Nat.le_of_ble_eq_true rfl) (by decide) rfl (hG.t 56 rfl) rfl (by simp) dX12_goesOn_12 rfl ?_
    refine Wp.goto (pc := 15) 28 dX12_goesOn_15 (by decide) ?_
    refine Wp.lo' (lo' := []) [] rfl ?_
    exact w_X12_goesOn_28 hX hG hf hk
theorem c_X12_goesOn {T : List Dsc} {R : RM} {c e : Nat} {m : M2} {r : M2} (hG : Geo T R c e) (hf : F_X12_goesOn m = some r) : Ct 2 yX12_goesOn cX12_goesOn 1 none T (mk m R) [.ref 56] none (mk r R) := Ct.ofV (r := mk r R) (by decide +kernel) (Nat.le_of_ble_eq_true rfl) (fun X hX hk => w_X12_goesOn hX hG hf hk)
theorem dX12_must_0 : decode cX12_must 0 = .ok (.aload_n 0, 1) := by decide +kernel
theorem dX12_must_1 : decode cX12_must 1 = .ok (.iload_n 1, 1) := by decide +kernel
theorem dX12_must_2 : decode cX12_must 2 = .ok (.invokevirtual 272, 3) := by decide +kernel
theorem dX12_must_5 : decode cX12_must 5 = .ok (.ifCond .eq 10, 3) := by decide +kernel
theorem dX12_must_8 : decode cX12_must 8 = .ok (.aload_n 0, 1) := by decide +kernel
theorem dX12_must_9 : decode cX12_must 9 = .ok (.invokevirtual 275, 3) := by decide +kernel
theorem dX12_must_12 : decode cX12_must 12 = .ok (.goto 8, 3) := by decide +kernel
theorem dX12_must_15 : decode cX12_must 15 = .ok (.aload_n 0, 1) := by decide +kernel
theorem dX12_must_16 : decode cX12_must 16 = .ok (.iconst 1, 1) := by decide +kernel
theorem dX12_must_17 : decode cX12_must 17 = .ok (.invokevirtual 269, 3) := by decide +kernel
theorem dX12_must_20 : decode cX12_must 20 = .ok (.return_, 1) := by decide +kernel
set_option maxHeartbeats 4000000 in
set_option maxRecDepth 100000 in
theorem w_X12_must_20 {X : CX} {T : List Dsc} {R : RM} {c e : Nat} {n1 n2 : Nat} {m : M2} {r : M2} (hX : XR X 3 n1 n2) (hG : Geo T R c e) (hf : f_X12_must_20 m = some r) (hk : FnV X cX12_must RX12 2 T n1 n2 (mk r R)) : Wp X cX12_must RX12 2 T (mk m R) n1 n2 20 [] [] := by
  unfold f_X12_must_20 at hf
  cases hf
  exact hk _ _ dX12_must_20
set_option maxHeartbeats 4000000 in
set_option maxRecDepth 100000 in
theorem w_X12_must {X : CX} {T : List Dsc} {R : RM} {c e : Nat} {n1 n2 : Nat} {x1 : Int32} {m : M2} {r : M2} (hX : XR X 3 n1 n2) (hG : Geo T R c e) (hf : F_X12_must x1 m = some r) (hk : FnV X cX12_must RX12 2 T n1 n2 (mk r R)) : Wp X cX12_must RX12 2 T (mk m R) n1 n2 0 [(0, .ref 56), (1, .int x1)] [] := by
  unfold F_X12_must at hf
  refine Wp.aload_n (pc := 0) 0 rfl rfl dX12_must_0 ?_
  refine Wp.iload_n (pc := 1) 1 rfl rfl dX12_must_1 ?_
  obtain ⟨c1, h2, hf⟩ := bnd hf
  refine Wp.callVi (pc := 2) (st := []) (as := [.int x1]) (c_X12_is hG h2) ml_RX12_272 mv_X12_is mb_X12_is hX (Nat.le_of_ble_eq_true rfl) (by decide) rfl (hG.t 56 rfl) rfl (by simp) dX12_must_2 rfl ?_
  refine Wp.if_eq (pc := 5) 15 dX12_must_5 (by decide) (fun hc3 => ?_) (fun hc3 => ?_)
  · rw [if_pos hc3] at hf
    refine Wp.aload_n (pc := 15) 0 rfl rfl dX12_must_15 ?_
    refine Wp.iconst (pc := 16) (1 : Int32) (by decide) dX12_must_16 ?_
    obtain ⟨c4, h5, hf⟩ := bnd hf
    refine Wp.callVv (pc := 17) (st := []) (as := [.int (1 : Int32)]) (c_X12_fail hG h5) ml_RX12_269 mv_X12_fail mb_X12_fail hX (Nat.le_of_ble_eq_true rfl) (by decide) rfl (hG.t 56 rfl) rfl (by simp) dX12_must_17 rfl ?_
    refine Wp.lo' (lo' := []) [] rfl ?_
    exact w_X12_must_20 hX hG hf hk
  · rw [if_neg hc3] at hf
    refine Wp.aload_n (pc := 8) 0 rfl rfl dX12_must_8 ?_
    obtain ⟨c6, h7, hf⟩ := bnd hf
    refine Wp.callVv (pc := 9) (st := []) (as := []) (c_X12_goesOn hG h7) ml_RX12_275 mv_X12_goesOn mb_X12_goesOn hX (Nat.le_of_ble_eq_true rfl) (by decide) rfl (hG.t 56 rfl) rfl (by simp) dX12_must_9 rfl ?_
    refine Wp.goto (pc := 12) 20 dX12_must_12 (by decide) ?_
    refine Wp.lo' (lo' := []) [] rfl ?_
    exact w_X12_must_20 hX hG hf hk
theorem c_X12_must {T : List Dsc} {R : RM} {c e : Nat} {x1 : Int32} {m : M2} {r : M2} (hG : Geo T R c e) (hf : F_X12_must x1 m = some r) : Ct 3 yX12_must cX12_must 2 none T (mk m R) [.ref 56, .int x1] none (mk r R) := Ct.ofV (r := mk r R) (by decide +kernel) (Nat.le_of_ble_eq_true rfl) (fun X hX hk => w_X12_must hX hG hf hk)
theorem dX12_bounded_0 : decode cX12_bounded 0 = .ok (.aload_n 0, 1) := by decide +kernel
theorem dX12_bounded_1 : decode cX12_bounded 1 = .ok (.getfield 254, 3) := by decide +kernel
theorem dX12_bounded_4 : decode cX12_bounded 4 = .ok (.ifCond .gt 11, 3) := by decide +kernel
theorem dX12_bounded_7 : decode cX12_bounded 7 = .ok (.aload_n 0, 1) := by decide +kernel
theorem dX12_bounded_8 : decode cX12_bounded 8 = .ok (.iconst 2, 1) := by decide +kernel
theorem dX12_bounded_9 : decode cX12_bounded 9 = .ok (.invokevirtual 272, 3) := by decide +kernel
theorem dX12_bounded_12 : decode cX12_bounded 12 = .ok (.ifCond .ne 10, 3) := by decide +kernel
theorem dX12_bounded_15 : decode cX12_bounded 15 = .ok (.aload_n 0, 1) := by decide +kernel
theorem dX12_bounded_16 : decode cX12_bounded 16 = .ok (.iconst 1, 1) := by decide +kernel
theorem dX12_bounded_17 : decode cX12_bounded 17 = .ok (.invokevirtual 269, 3) := by decide +kernel
theorem dX12_bounded_20 : decode cX12_bounded 20 = .ok (.iload_n 1, 1) := by decide +kernel
theorem dX12_bounded_21 : decode cX12_bounded 21 = .ok (.ireturn, 1) := by decide +kernel
theorem dX12_bounded_22 : decode cX12_bounded 22 = .ok (.aload_n 0, 1) := by decide +kernel
theorem dX12_bounded_23 : decode cX12_bounded 23 = .ok (.getfield 27, 3) := by decide +kernel
theorem dX12_bounded_26 : decode cX12_bounded 26 = .ok (.aload_n 0, 1) := by decide +kernel
theorem dX12_bounded_27 : decode cX12_bounded 27 = .ok (.getfield 257, 3) := by decide +kernel
theorem dX12_bounded_30 : decode cX12_bounded 30 = .ok (.iaload, 1) := by decide +kernel
theorem dX12_bounded_31 : decode cX12_bounded 31 = .ok (.istore_n 3, 1) := by decide +kernel
theorem dX12_bounded_32 : decode cX12_bounded 32 = .ok (.iload_n 3, 1) := by decide +kernel
theorem dX12_bounded_33 : decode cX12_bounded 33 = .ok (.iload_n 1, 1) := by decide +kernel
theorem dX12_bounded_34 : decode cX12_bounded 34 = .ok (.if_icmp .lt 8, 3) := by decide +kernel
theorem dX12_bounded_37 : decode cX12_bounded 37 = .ok (.iload_n 3, 1) := by decide +kernel
theorem dX12_bounded_38 : decode cX12_bounded 38 = .ok (.iload_n 2, 1) := by decide +kernel
theorem dX12_bounded_39 : decode cX12_bounded 39 = .ok (.if_icmp .le 12, 3) := by decide +kernel
theorem dX12_bounded_42 : decode cX12_bounded 42 = .ok (.aload_n 0, 1) := by decide +kernel
theorem dX12_bounded_43 : decode cX12_bounded 43 = .ok (.iconst 5, 1) := by decide +kernel
theorem dX12_bounded_44 : decode cX12_bounded 44 = .ok (.aload_n 0, 1) := by decide +kernel
theorem dX12_bounded_45 : decode cX12_bounded 45 = .ok (.getfield 257, 3) := by decide +kernel
theorem dX12_bounded_48 : decode cX12_bounded 48 = .ok (.invokevirtual 341, 3) := by decide +kernel
theorem dX12_bounded_51 : decode cX12_bounded 51 = .ok (.aload_n 0, 1) := by decide +kernel
theorem dX12_bounded_52 : decode cX12_bounded 52 = .ok (.invokevirtual 275, 3) := by decide +kernel
theorem dX12_bounded_55 : decode cX12_bounded 55 = .ok (.iload_n 3, 1) := by decide +kernel
theorem dX12_bounded_56 : decode cX12_bounded 56 = .ok (.ireturn, 1) := by decide +kernel
set_option maxHeartbeats 4000000 in
set_option maxRecDepth 100000 in
theorem w_X12_bounded_15 {X : CX} {T : List Dsc} {R : RM} {c e : Nat} {n1 n2 : Nat} {x1 : Int32} {m : M2} {r : (Int32 × M2)} (hX : XR X 3 n1 n2) (hG : Geo T R c e) (hf : f_X12_bounded_15 x1 m = some r) (hk : FnI X cX12_bounded RX12 4 T n1 n2 (r.1, mk r.2 R)) : Wp X cX12_bounded RX12 4 T (mk m R) n1 n2 15 [(0, .ref 56), (1, .int x1)] [] := by
  unfold f_X12_bounded_15 at hf
  refine Wp.aload_n (pc := 15) 0 rfl rfl dX12_bounded_15 ?_
  refine Wp.iconst (pc := 16) (1 : Int32) (by decide) dX12_bounded_16 ?_
  obtain ⟨c1, h2, hf⟩ := bnd hf
  refine Wp.callVv (pc := 17) (st := []) (as := [.int (1 : Int32)]) (c_X12_fail hG h2) ml_RX12_269 mv_X12_fail mb_X12_fail hX (Nat.le_of_ble_eq_true rfl) (by decide) rfl (hG.t 56 rfl) rfl (by simp) dX12_bounded_17 rfl ?_
  refine Wp.iload_n (pc := 20) 1 rfl rfl dX12_bounded_20 ?_
  cases hf
  exact hk _ _ dX12_bounded_21
set_option maxHeartbeats 4000000 in
set_option maxRecDepth 100000 in
theorem w_X12_bounded_51 {X : CX} {T : List Dsc} {R : RM} {c e : Nat} {n1 n2 : Nat} {x3 : Int32} {m : M2} {r : (Int32 × M2)} (hX : XR X 3 n1 n2) (hG : Geo T R c e) (hf : f_X12_bounded_51 x3 m = some r) (hk : FnI X cX12_bounded RX12 4 T n1 n2 (r.1, mk r.2 R)) : Wp X cX12_bounded RX12 4 T (mk m R) n1 n2 51 [(0, .ref 56), (3, .int x3)] [] := by
  unfold f_X12_bounded_51 at hf
  refine Wp.aload_n (pc := 51) 0 rfl rfl dX12_bounded_51 ?_
  obtain ⟨c1, h2, hf⟩ := bnd hf
  refine Wp.callVv (pc := 52) (st := []) (as := []) (c_X12_goesOn hG h2) ml_RX12_275 mv_X12_goesOn mb_X12_goesOn hX (Nat.le_of_ble_eq_true rfl) (by decide) rfl (hG.t 56 rfl) rfl (by simp) dX12_bounded_52 rfl ?_
  refine Wp.iload_n (pc := 55) 1 rfl rfl dX12_bounded_55 ?_
  cases hf
  exact hk _ _ dX12_bounded_56
set_option maxHeartbeats 4000000 in
set_option maxRecDepth 100000 in
theorem w_X12_bounded_42 {X : CX} {T : List Dsc} {R : RM} {c e : Nat} {n1 n2 : Nat} {x3 : Int32} {m : M2} {r : (Int32 × M2)} (hX : XR X 3 n1 n2) (hG : Geo T R c e) (hf : f_X12_bounded_42 x3 m = some r) (hk : FnI X cX12_bounded RX12 4 T n1 n2 (r.1, mk r.2 R)) : Wp X cX12_bounded RX12 4 T (mk m R) n1 n2 42 [(0, .ref 56), (3, .int x3)] [] := by
  unfold f_X12_bounded_42 at hf
  refine Wp.aload_n (pc := 42) 0 rfl rfl dX12_bounded_42 ?_
  refine Wp.iconst (pc := 43) (5 : Int32) (by decide) dX12_bounded_43 ?_
  refine Wp.aload_n (pc := 44) 0 rfl rfl dX12_bounded_44 ?_
  refine Wp.getI2 (pc := 45) (hG.t 56 rfl) fk_RX12_257 rfl dX12_bounded_45 ?_
  obtain ⟨c1, h2, hf⟩ := bnd hf
  refine Wp.callVv (pc := 48) (st := []) (as := [.int (5 : Int32), .int (hI m 56 11)]) (c_X12_wrong hG h2) ml_RX12_341 mv_X12_wrong mb_X12_wrong hX (Nat.le_of_ble_eq_true rfl) (by decide) rfl (hG.t 56 rfl) rfl (by simp) dX12_bounded_48 rfl ?_
  exact w_X12_bounded_51 hX hG hf hk
set_option maxHeartbeats 4000000 in
set_option maxRecDepth 100000 in
theorem w_X12_bounded {X : CX} {T : List Dsc} {R : RM} {c e : Nat} {n1 n2 : Nat} {x1 : Int32} {x2 : Int32} {m : M2} {r : (Int32 × M2)} (hX : XR X 3 n1 n2) (hG : Geo T R c e) (hf : F_X12_bounded x1 x2 m = some r) (hk : FnI X cX12_bounded RX12 4 T n1 n2 (r.1, mk r.2 R)) : Wp X cX12_bounded RX12 4 T (mk m R) n1 n2 0 [(0, .ref 56), (1, .int x1), (2, .int x2)] [] := by
  unfold F_X12_bounded at hf
  refine Wp.aload_n (pc := 0) 0 rfl rfl dX12_bounded_0 ?_
  refine Wp.getI2 (pc := 1) (hG.t 56 rfl) fk_RX12_254 rfl dX12_bounded_1 ?_
  refine Wp.if_gt (pc := 4) 15 dX12_bounded_4 (by decide) (fun hc1 => ?_) (fun hc1 => ?_)
  · rw [if_pos hc1] at hf
    refine Wp.lo' (lo' := [(0, .ref 56), (1, .int x1)]) [0, 1] rfl ?_
    exact w_X12_bounded_15 hX hG hf hk
  · rw [if_neg hc1] at hf
    refine Wp.aload_n (pc := 7) 0 rfl rfl dX12_bounded_7 ?_
    refine Wp.iconst (pc := 8) (2 : Int32) (by decide) dX12_bounded_8 ?_
    obtain ⟨c2, h3, hf⟩ := bnd hf
    refine Wp.callVi (pc := 9) (st := []) (as := [.int (2 : Int32)]) (c_X12_is hG h3) ml_RX12_272 mv_X12_is mb_X12_is hX (Nat.le_of_ble_eq_true rfl) (by decide) rfl (hG.t 56 rfl) rfl (by simp) dX12_bounded_9 rfl ?_
    refine Wp.if_ne (pc := 12) 22 dX12_bounded_12 (by decide) (fun hc4 => ?_) (fun hc4 => ?_)
    · rw [if_neg hc4] at hf
      refine Wp.aload_n (pc := 22) 0 rfl rfl dX12_bounded_22 ?_
      refine Wp.getR2 (pc := 23) (hG.r 56 7 rfl) (hG.t 56 rfl) fk_RX12_27 rfl dX12_bounded_23 ?_
      refine Wp.aload_n (pc := 26) 0 rfl rfl dX12_bounded_26 ?_
      refine Wp.getI2 (pc := 27) (hG.t 56 rfl) fk_RX12_257 rfl dX12_bounded_27 ?_
      obtain ⟨v5, h6, hf⟩ := bnd hf
      refine Wp.iald2 (pc := 30) h6 (hG.a 61 0 rfl) dX12_bounded_30 ?_
      refine Wp.istore_n (pc := 31) (lo' := [(0, .ref 56), (1, .int x1), (2, .int x2), (3, .int v5)]) [1, 2, 3, 0] rfl (by decide) rfl dX12_bounded_31 ?_
      refine Wp.iload_n (pc := 32) 3 rfl rfl dX12_bounded_32 ?_
      refine Wp.iload_n (pc := 33) 1 rfl rfl dX12_bounded_33 ?_
      refine Wp.icmp_lt (pc := 34) 42 dX12_bounded_34 (by decide) (fun hc7 => ?_) (fun hc7 => ?_)
      · rw [if_pos hc7] at hf
        refine Wp.lo' (lo' := [(0, .ref 56), (3, .int v5)]) [0, 3] rfl ?_
        exact w_X12_bounded_42 hX hG hf hk
      · rw [if_neg hc7] at hf
        refine Wp.iload_n (pc := 37) 3 rfl rfl dX12_bounded_37 ?_
        refine Wp.iload_n (pc := 38) 2 rfl rfl dX12_bounded_38 ?_
        refine Wp.icmp_le (pc := 39) 51 dX12_bounded_39 (by decide) (fun hc8 => ?_) (fun hc8 => ?_)
        · rw [if_pos hc8] at hf
          refine Wp.lo' (lo' := [(0, .ref 56), (3, .int v5)]) [0, 3] rfl ?_
          exact w_X12_bounded_51 hX hG hf hk
        · rw [if_neg hc8] at hf
          refine Wp.lo' (lo' := [(0, .ref 56), (3, .int v5)]) [0, 3] rfl ?_
          exact w_X12_bounded_42 hX hG hf hk
    · rw [if_pos hc4] at hf
      refine Wp.lo' (lo' := [(0, .ref 56), (1, .int x1)]) [0, 1] rfl ?_
      exact w_X12_bounded_15 hX hG hf hk
theorem c_X12_bounded {T : List Dsc} {R : RM} {c e : Nat} {x1 : Int32} {x2 : Int32} {m : M2} {r : (Int32 × M2)} (hG : Geo T R c e) (hf : F_X12_bounded x1 x2 m = some r) : Ct 3 yX12_bounded cX12_bounded 4 (some .int) T (mk m R) [.ref 56, .int x1, .int x2] (some (.int r.1)) (mk r.2 R) := Ct.ofI (r := (r.1, mk r.2 R)) (by decide +kernel) (Nat.le_of_ble_eq_true rfl) (fun X hX hk => w_X12_bounded hX hG hf hk)
theorem dX12_roomFor_0 : decode cX12_roomFor 0 = .ok (.iload_n 1, 1) := by decide +kernel
theorem dX12_roomFor_1 : decode cX12_roomFor 1 = .ok (.iload_n 2, 1) := by decide +kernel
theorem dX12_roomFor_2 : decode cX12_roomFor 2 = .ok (.if_icmp .ne 8, 3) := by decide +kernel
theorem dX12_roomFor_5 : decode cX12_roomFor 5 = .ok (.aload_n 0, 1) := by decide +kernel
theorem dX12_roomFor_6 : decode cX12_roomFor 6 = .ok (.iconst 2, 1) := by decide +kernel
theorem dX12_roomFor_7 : decode cX12_roomFor 7 = .ok (.invokevirtual 269, 3) := by decide +kernel
theorem dX12_roomFor_10 : decode cX12_roomFor 10 = .ok (.aload_n 0, 1) := by decide +kernel
theorem dX12_roomFor_11 : decode cX12_roomFor 11 = .ok (.getfield 254, 3) := by decide +kernel
theorem dX12_roomFor_14 : decode cX12_roomFor 14 = .ok (.ifCond .ne 7, 3) := by decide +kernel
theorem dX12_roomFor_17 : decode cX12_roomFor 17 = .ok (.aload_n 0, 1) := by decide +kernel
theorem dX12_roomFor_18 : decode cX12_roomFor 18 = .ok (.invokevirtual 275, 3) := by decide +kernel
theorem dX12_roomFor_21 : decode cX12_roomFor 21 = .ok (.return_, 1) := by decide +kernel
set_option maxHeartbeats 4000000 in
set_option maxRecDepth 100000 in
theorem w_X12_roomFor_21 {X : CX} {T : List Dsc} {R : RM} {c e : Nat} {n1 n2 : Nat} {m : M2} {r : M2} (hX : XR X 3 n1 n2) (hG : Geo T R c e) (hf : f_X12_roomFor_21 m = some r) (hk : FnV X cX12_roomFor RX12 3 T n1 n2 (mk r R)) : Wp X cX12_roomFor RX12 3 T (mk m R) n1 n2 21 [] [] := by
  unfold f_X12_roomFor_21 at hf
  cases hf
  exact hk _ _ dX12_roomFor_21
set_option maxHeartbeats 4000000 in
set_option maxRecDepth 100000 in
theorem w_X12_roomFor_10 {X : CX} {T : List Dsc} {R : RM} {c e : Nat} {n1 n2 : Nat} {m : M2} {r : M2} (hX : XR X 3 n1 n2) (hG : Geo T R c e) (hf : f_X12_roomFor_10 m = some r) (hk : FnV X cX12_roomFor RX12 3 T n1 n2 (mk r R)) : Wp X cX12_roomFor RX12 3 T (mk m R) n1 n2 10 [(0, .ref 56)] [] := by
  unfold f_X12_roomFor_10 at hf
  refine Wp.aload_n (pc := 10) 0 rfl rfl dX12_roomFor_10 ?_
  refine Wp.getI2 (pc := 11) (hG.t 56 rfl) fk_RX12_254 rfl dX12_roomFor_11 ?_
  refine Wp.if_ne (pc := 14) 21 dX12_roomFor_14 (by decide) (fun hc1 => ?_) (fun hc1 => ?_)
  · rw [if_neg hc1] at hf
    refine Wp.lo' (lo' := []) [] rfl ?_
    exact w_X12_roomFor_21 hX hG hf hk
  · rw [if_pos hc1] at hf
    refine Wp.aload_n (pc := 17) 0 rfl rfl dX12_roomFor_17 ?_
    obtain ⟨c2, h3, hf⟩ := bnd hf
    refine Wp.callVv (pc := 18) (st := []) (as := []) (c_X12_goesOn hG h3) ml_RX12_275 mv_X12_goesOn mb_X12_goesOn hX (Nat.le_of_ble_eq_true rfl) (by decide) rfl (hG.t 56 rfl) rfl (by simp) dX12_roomFor_18 rfl ?_
    refine Wp.lo' (lo' := []) [] rfl ?_
    exact w_X12_roomFor_21 hX hG hf hk
set_option maxHeartbeats 4000000 in
set_option maxRecDepth 100000 in
theorem w_X12_roomFor {X : CX} {T : List Dsc} {R : RM} {c e : Nat} {n1 n2 : Nat} {x1 : Int32} {x2 : Int32} {m : M2} {r : M2} (hX : XR X 3 n1 n2) (hG : Geo T R c e) (hf : F_X12_roomFor x1 x2 m = some r) (hk : FnV X cX12_roomFor RX12 3 T n1 n2 (mk r R)) : Wp X cX12_roomFor RX12 3 T (mk m R) n1 n2 0 [(0, .ref 56), (1, .int x1), (2, .int x2)] [] := by
  unfold F_X12_roomFor at hf
  refine Wp.iload_n (pc := 0) 1 rfl rfl dX12_roomFor_0 ?_
  refine Wp.iload_n (pc := 1) 2 rfl rfl dX12_roomFor_1 ?_
  refine Wp.icmp_ne (pc := 2) 10 dX12_roomFor_2 (by decide) (fun hc1 => ?_) (fun hc1 => ?_)
  · rw [if_neg hc1] at hf
    refine Wp.lo' (lo' := [(0, .ref 56)]) [0] rfl ?_
    exact w_X12_roomFor_10 hX hG hf hk
  · rw [if_pos hc1] at hf
    refine Wp.aload_n (pc := 5) 0 rfl rfl dX12_roomFor_5 ?_
    refine Wp.iconst (pc := 6) (2 : Int32) (by decide) dX12_roomFor_6 ?_
    obtain ⟨c2, h3, hf⟩ := bnd hf
    refine Wp.callVv (pc := 7) (st := []) (as := [.int (2 : Int32)]) (c_X12_fail hG h3) ml_RX12_269 mv_X12_fail mb_X12_fail hX (Nat.le_of_ble_eq_true rfl) (by decide) rfl (hG.t 56 rfl) rfl (by simp) dX12_roomFor_7 rfl ?_
    refine Wp.lo' (lo' := [(0, .ref 56)]) [0] rfl ?_
    exact w_X12_roomFor_10 hX hG hf hk
theorem c_X12_roomFor {T : List Dsc} {R : RM} {c e : Nat} {x1 : Int32} {x2 : Int32} {m : M2} {r : M2} (hG : Geo T R c e) (hf : F_X12_roomFor x1 x2 m = some r) : Ct 3 yX12_roomFor cX12_roomFor 3 none T (mk m R) [.ref 56, .int x1, .int x2] none (mk r R) := Ct.ofV (r := mk r R) (by decide +kernel) (Nat.le_of_ble_eq_true rfl) (fun X hX hk => w_X12_roomFor hX hG hf hk)
theorem dX12_named_0 : decode cX12_named 0 = .ok (.aload_n 0, 1) := by decide +kernel
theorem dX12_named_1 : decode cX12_named 1 = .ok (.getfield 257, 3) := by decide +kernel
theorem dX12_named_4 : decode cX12_named 4 = .ok (.istore_n 1, 1) := by decide +kernel
theorem dX12_named_5 : decode cX12_named 5 = .ok (.aload_n 0, 1) := by decide +kernel
theorem dX12_named_6 : decode cX12_named 6 = .ok (.iconst 1, 1) := by decide +kernel
theorem dX12_named_7 : decode cX12_named 7 = .ok (.invokevirtual 321, 3) := by decide +kernel
theorem dX12_named_10 : decode cX12_named 10 = .ok (.iconst 0, 1) := by decide +kernel
theorem dX12_named_11 : decode cX12_named 11 = .ok (.istore_n 2, 1) := by decide +kernel
theorem dX12_named_12 : decode cX12_named 12 = .ok (.iload_n 2, 1) := by decide +kernel
theorem dX12_named_13 : decode cX12_named 13 = .ok (.aload_n 0, 1) := by decide +kernel
theorem dX12_named_14 : decode cX12_named 14 = .ok (.getfield 290, 3) := by decide +kernel
theorem dX12_named_17 : decode cX12_named 17 = .ok (.if_icmp .ge 38, 3) := by decide +kernel
theorem dX12_named_20 : decode cX12_named 20 = .ok (.aload_n 0, 1) := by decide +kernel
theorem dX12_named_21 : decode cX12_named 21 = .ok (.getfield 254, 3) := by decide +kernel
theorem dX12_named_24 : decode cX12_named 24 = .ok (.ifCond .ne 31, 3) := by decide +kernel
theorem dX12_named_27 : decode cX12_named 27 = .ok (.aload_n 0, 1) := by decide +kernel
theorem dX12_named_28 : decode cX12_named 28 = .ok (.getfield 40, 3) := by decide +kernel
theorem dX12_named_31 : decode cX12_named 31 = .ok (.iload_n 2, 1) := by decide +kernel
theorem dX12_named_32 : decode cX12_named 32 = .ok (.laload, 1) := by decide +kernel
theorem dX12_named_33 : decode cX12_named 33 = .ok (.aload_n 0, 1) := by decide +kernel
theorem dX12_named_34 : decode cX12_named 34 = .ok (.getfield 30, 3) := by decide +kernel
theorem dX12_named_37 : decode cX12_named 37 = .ok (.iload_n 1, 1) := by decide +kernel
theorem dX12_named_38 : decode cX12_named 38 = .ok (.laload, 1) := by decide +kernel
theorem dX12_named_39 : decode cX12_named 39 = .ok (.lcmp, 1) := by decide +kernel
theorem dX12_named_40 : decode cX12_named 40 = .ok (.ifCond .ne 9, 3) := by decide +kernel
theorem dX12_named_43 : decode cX12_named 43 = .ok (.aload_n 0, 1) := by decide +kernel
theorem dX12_named_44 : decode cX12_named 44 = .ok (.iconst 3, 1) := by decide +kernel
theorem dX12_named_45 : decode cX12_named 45 = .ok (.iload_n 1, 1) := by decide +kernel
theorem dX12_named_46 : decode cX12_named 46 = .ok (.invokevirtual 341, 3) := by decide +kernel
theorem dX12_named_49 : decode cX12_named 49 = .ok (.iinc 2 1, 3) := by decide +kernel
theorem dX12_named_52 : decode cX12_named 52 = .ok (.goto (-40), 3) := by decide +kernel
theorem dX12_named_55 : decode cX12_named 55 = .ok (.iload_n 1, 1) := by decide +kernel
theorem dX12_named_56 : decode cX12_named 56 = .ok (.ireturn, 1) := by decide +kernel
def k_X12_named_12 (X : CX) (T : List Dsc) (R : RM) (n1 n2 : Nat) (x1 : Int32) (r : ((Int32 × M2) ⊕ ((M2)))) : Prop := match r with
  | .inl s => Wp X cX12_named RX12 3 T (mk s.2 R) n1 n2 12 [(0, .ref 56), (1, .int x1), (2, .int s.1)] []
  | .inr e => Wp X cX12_named RX12 3 T (mk e R) n1 n2 55 [(1, .int x1)] []
set_option maxHeartbeats 4000000 in
set_option maxRecDepth 100000 in
theorem w_X12_named_49 {X : CX} {T : List Dsc} {R : RM} {c e : Nat} {n1 n2 : Nat} {x1 : Int32} {x2 : Int32} {m : M2} {r : ((Int32 × M2) ⊕ ((M2)))} (hX : XR X 4 n1 n2) (hG : Geo T R c e) (hf : f_X12_named_49 x1 x2 m = some r) (hk : k_X12_named_12 X T R n1 n2 x1 r) : Wp X cX12_named RX12 3 T (mk m R) n1 n2 49 [(0, .ref 56), (1, .int x1), (2, .int x2)] [] := by
  unfold f_X12_named_49 at hf
  obtain ⟨v1, h2, hf⟩ := bnd hf
  refine Wp.iincN (pc := 49) (lo' := [(0, .ref 56), (1, .int x1), (2, .int v1)]) (1 : Int32) (by decide) h2 2 rfl [1, 2, 0] rfl (by decide) dX12_named_49 ?_
  refine Wp.goto (pc := 52) 12 dX12_named_52 (by decide) ?_
  cases hf
  exact hk
set_option maxHeartbeats 4000000 in
set_option maxRecDepth 100000 in
theorem w_X12_named_12 {X : CX} {T : List Dsc} {R : RM} {c e : Nat} {n1 n2 : Nat} {x1 : Int32} {x2 : Int32} {m : M2} {r : ((Int32 × M2) ⊕ ((M2)))} (hX : XR X 4 n1 n2) (hG : Geo T R c e) (hf : f_X12_named_12 x1 x2 m = some r) (hk : k_X12_named_12 X T R n1 n2 x1 r) : Wp X cX12_named RX12 3 T (mk m R) n1 n2 12 [(0, .ref 56), (1, .int x1), (2, .int x2)] [] := by
  unfold f_X12_named_12 at hf
  refine Wp.iload_n (pc := 12) 2 rfl rfl dX12_named_12 ?_
  refine Wp.aload_n (pc := 13) 0 rfl rfl dX12_named_13 ?_
  refine Wp.getI2 (pc := 14) (hG.t 56 rfl) fk_RX12_290 rfl dX12_named_14 ?_
  refine Wp.icmp_ge (pc := 17) 55 dX12_named_17 (by decide) (fun hc1 => ?_) (fun hc1 => ?_)
  · rw [if_pos hc1] at hf
    refine Wp.lo' (lo' := [(1, .int x1)]) [1] rfl ?_
    cases hf
    exact hk
  · rw [if_neg hc1] at hf
    refine Wp.aload_n (pc := 20) 0 rfl rfl dX12_named_20 ?_
    refine Wp.getI2 (pc := 21) (hG.t 56 rfl) fk_RX12_254 rfl dX12_named_21 ?_
    refine Wp.if_ne (pc := 24) 55 dX12_named_24 (by decide) (fun hc2 => ?_) (fun hc2 => ?_)
    · rw [if_neg hc2] at hf
      refine Wp.lo' (lo' := [(1, .int x1)]) [1] rfl ?_
      cases hf
      exact hk
    · rw [if_pos hc2] at hf
      refine Wp.aload_n (pc := 27) 0 rfl rfl dX12_named_27 ?_
      refine Wp.getR2 (pc := 28) (hG.r 56 21 rfl) (hG.t 56 rfl) fk_RX12_40 rfl dX12_named_28 ?_
      refine Wp.iload_n (pc := 31) 2 rfl rfl dX12_named_31 ?_
      obtain ⟨v3, h4, hf⟩ := bnd hf
      refine Wp.lald2 (pc := 32) h4 (hG.a 64 1 rfl) dX12_named_32 ?_
      refine Wp.aload_n (pc := 33) 0 rfl rfl dX12_named_33 ?_
      refine Wp.getR2 (pc := 34) (hG.r 56 8 rfl) (hG.t 56 rfl) fk_RX12_30 rfl dX12_named_34 ?_
      refine Wp.iload_n (pc := 37) 1 rfl rfl dX12_named_37 ?_
      obtain ⟨v5, h6, hf⟩ := bnd hf
      refine Wp.lald2 (pc := 38) h6 (hG.a 62 1 rfl) dX12_named_38 ?_
      refine Wp.lcmp (pc := 39) dX12_named_39 ?_
      refine Wp.if_ne (pc := 40) 49 dX12_named_40 (by decide) (fun hc7 => ?_) (fun hc7 => ?_)
      · rw [if_neg hc7] at hf
        exact w_X12_named_49 hX hG hf hk
      · rw [if_pos hc7] at hf
        refine Wp.aload_n (pc := 43) 0 rfl rfl dX12_named_43 ?_
        refine Wp.iconst (pc := 44) (3 : Int32) (by decide) dX12_named_44 ?_
        refine Wp.iload_n (pc := 45) 1 rfl rfl dX12_named_45 ?_
        obtain ⟨c8, h9, hf⟩ := bnd hf
        refine Wp.callVv (pc := 46) (st := []) (as := [.int (3 : Int32), .int x1]) (c_X12_wrong hG h9) ml_RX12_341 mv_X12_wrong mb_X12_wrong hX (Nat.le_of_ble_eq_true rfl) (by decide) rfl (hG.t 56 rfl) rfl (by simp) dX12_named_46 rfl ?_
        exact w_X12_named_49 hX hG hf hk
theorem wl_X12_named_12 {X : CX} {T : List Dsc} {R : RM} {c e : Nat} {n1 n2 : Nat} {x1 : Int32} {x2 : Int32} {m : M2} {e1 : ((M2))} (hX : XR X 4 n1 n2) (hG : Geo T R c e) (h : loop (g_X12_named_12 x1) (x2, m) = some e1) (he : Wp X cX12_named RX12 3 T (mk e1 R) n1 n2 55 [(1, .int x1)] []) : Wp X cX12_named RX12 3 T (mk m R) n1 n2 12 [(0, .ref 56), (1, .int x1), (2, .int x2)] [] :=
  loop_ok (K := k_X12_named_12 X T R n1 n2 x1) (fun s r hf hk => w_X12_named_12 hX hG hf hk) h he
set_option maxHeartbeats 4000000 in
set_option maxRecDepth 100000 in
theorem w_X12_named_55 {X : CX} {T : List Dsc} {R : RM} {c e : Nat} {n1 n2 : Nat} {x1 : Int32} {m : M2} {r : (Int32 × M2)} (hX : XR X 4 n1 n2) (hG : Geo T R c e) (hf : f_X12_named_55 x1 m = some r) (hk : FnI X cX12_named RX12 3 T n1 n2 (r.1, mk r.2 R)) : Wp X cX12_named RX12 3 T (mk m R) n1 n2 55 [(1, .int x1)] [] := by
  unfold f_X12_named_55 at hf
  refine Wp.iload_n (pc := 55) 0 rfl rfl dX12_named_55 ?_
  cases hf
  exact hk _ _ dX12_named_56
set_option maxHeartbeats 4000000 in
set_option maxRecDepth 100000 in
theorem w_X12_named {X : CX} {T : List Dsc} {R : RM} {c e : Nat} {n1 n2 : Nat} {m : M2} {r : (Int32 × M2)} (hX : XR X 4 n1 n2) (hG : Geo T R c e) (hf : F_X12_named m = some r) (hk : FnI X cX12_named RX12 3 T n1 n2 (r.1, mk r.2 R)) : Wp X cX12_named RX12 3 T (mk m R) n1 n2 0 [(0, .ref 56)] [] := by
  unfold F_X12_named at hf
  refine Wp.aload_n (pc := 0) 0 rfl rfl dX12_named_0 ?_
  refine Wp.getI2 (pc := 1) (hG.t 56 rfl) fk_RX12_257 rfl dX12_named_1 ?_
  obtain ⟨v1, h2, hf⟩ := bnd hf
  refine Wp.nI' h2 ?_
  refine Wp.istore_n (pc := 4) (lo' := [(0, .ref 56), (1, .int v1)]) [1, 0] rfl (by decide) rfl dX12_named_4 ?_
  refine Wp.aload_n (pc := 5) 0 rfl rfl dX12_named_5 ?_
  refine Wp.iconst (pc := 6) (1 : Int32) (by decide) dX12_named_6 ?_
  obtain ⟨c3, h4, hf⟩ := bnd hf
  refine Wp.callVv (pc := 7) (st := []) (as := [.int (1 : Int32)]) (c_X12_must hG h4) ml_RX12_321 mv_X12_must mb_X12_must hX (Nat.le_of_ble_eq_true rfl) (by decide) rfl (hG.t 56 rfl) rfl (by simp) dX12_named_7 rfl ?_
  refine Wp.iconst (pc := 10) (0 : Int32) (by decide) dX12_named_10 ?_
  refine Wp.istore_n (pc := 11) (lo' := [(0, .ref 56), (1, .int v1), (2, .int (0 : Int32))]) [1, 2, 0] rfl (by decide) rfl dX12_named_11 ?_
  obtain ⟨e5, h6, hf⟩ := bnd hf
  refine wl_X12_named_12 hX hG h6 ?_
  exact w_X12_named_55 hX hG hf hk
theorem c_X12_named {T : List Dsc} {R : RM} {c e : Nat} {m : M2} {r : (Int32 × M2)} (hG : Geo T R c e) (hf : F_X12_named m = some r) : Ct 4 yX12_named cX12_named 3 (some .int) T (mk m R) [.ref 56] (some (.int r.1)) (mk r.2 R) := Ct.ofI (r := (r.1, mk r.2 R)) (by decide +kernel) (Nat.le_of_ble_eq_true rfl) (fun X hX hk => w_X12_named hX hG hf hk)
theorem dX12_pushes_0 : decode cX12_pushes 0 = .ok (.aload_n 0, 1) := by decide +kernel
theorem dX12_pushes_1 : decode cX12_pushes 1 = .ok (.getfield 125, 3) := by decide +kernel
theorem dX12_pushes_4 : decode cX12_pushes 4 = .ok (.aload_n 0, 1) := by decide +kernel
theorem dX12_pushes_5 : decode cX12_pushes 5 = .ok (.getfield 363, 3) := by decide +kernel
theorem dX12_pushes_8 : decode cX12_pushes 8 = .ok (.iload_n 1, 1) := by decide +kernel
theorem dX12_pushes_9 : decode cX12_pushes 9 = .ok (.iastore, 1) := by decide +kernel
theorem dX12_pushes_10 : decode cX12_pushes 10 = .ok (.aload_n 0, 1) := by decide +kernel
theorem dX12_pushes_11 : decode cX12_pushes 11 = .ok (.dup, 1) := by decide +kernel
theorem dX12_pushes_12 : decode cX12_pushes 12 = .ok (.getfield 363, 3) := by decide +kernel
theorem dX12_pushes_15 : decode cX12_pushes 15 = .ok (.iconst 1, 1) := by decide +kernel
theorem dX12_pushes_16 : decode cX12_pushes 16 = .ok (.iadd, 1) := by decide +kernel
theorem dX12_pushes_17 : decode cX12_pushes 17 = .ok (.putfield 363, 3) := by decide +kernel
theorem dX12_pushes_20 : decode cX12_pushes 20 = .ok (.return_, 1) := by decide +kernel
set_option maxHeartbeats 4000000 in
set_option maxRecDepth 100000 in
theorem w_X12_pushes {X : CX} {T : List Dsc} {R : RM} {c e : Nat} {n1 n2 : Nat} {x1 : Int32} {m : M2} {r : M2} (hX : XR X 1 n1 n2) (hG : Geo T R c e) (hf : F_X12_pushes x1 m = some r) (hk : FnV X cX12_pushes RX12 2 T n1 n2 (mk r R)) : Wp X cX12_pushes RX12 2 T (mk m R) n1 n2 0 [(0, .ref 56), (1, .int x1)] [] := by
  unfold F_X12_pushes at hf
  refine Wp.aload_n (pc := 0) 0 rfl rfl dX12_pushes_0 ?_
  refine Wp.getR2 (pc := 1) (hG.r 56 53 rfl) (hG.t 56 rfl) fk_RX12_125 rfl dX12_pushes_1 ?_
  refine Wp.aload_n (pc := 4) 0 rfl rfl dX12_pushes_4 ?_
  refine Wp.getI2 (pc := 5) (hG.t 56 rfl) fk_RX12_363 rfl dX12_pushes_5 ?_
  refine Wp.iload_n (pc := 8) 1 rfl rfl dX12_pushes_8 ?_
  obtain ⟨m1, h2, hf⟩ := bnd hf
  refine Wp.iast2 (pc := 9) h2 (hG.a 92 0 rfl) dX12_pushes_9 ?_
  refine Wp.aload_n (pc := 10) 0 rfl rfl dX12_pushes_10 ?_
  refine Wp.dup (pc := 11) rfl dX12_pushes_11 ?_
  refine Wp.getI2 (pc := 12) (hG.t 56 rfl) fk_RX12_363 rfl dX12_pushes_12 ?_
  refine Wp.iconst (pc := 15) (1 : Int32) (by decide) dX12_pushes_15 ?_
  refine Wp.iadd (pc := 16) dX12_pushes_16 ?_
  obtain ⟨m3, h4, hf⟩ := bnd hf
  refine Wp.ptI2 (pc := 17) h4 (hG.t 56 rfl) fk_RX12_363 ff_RX12_11_54 rfl dX12_pushes_17 ?_
  cases hf
  exact hk _ _ dX12_pushes_20
theorem c_X12_pushes {T : List Dsc} {R : RM} {c e : Nat} {x1 : Int32} {m : M2} {r : M2} (hG : Geo T R c e) (hf : F_X12_pushes x1 m = some r) : Ct 1 yX12_pushes cX12_pushes 2 none T (mk m R) [.ref 56, .int x1] none (mk r R) := Ct.ofV (r := mk r R) (by decide +kernel) (Nat.le_of_ble_eq_true rfl) (fun X hX hk => w_X12_pushes hX hG hf hk)
theorem dX12_opensMany_0 : decode cX12_opensMany 0 = .ok (.aload_n 0, 1) := by decide +kernel
theorem dX12_opensMany_1 : decode cX12_opensMany 1 = .ok (.bipush 6, 2) := by decide +kernel
theorem dX12_opensMany_3 : decode cX12_opensMany 3 = .ok (.invokevirtual 272, 3) := by decide +kernel
theorem dX12_opensMany_6 : decode cX12_opensMany 6 = .ok (.ifCond .ne 12, 3) := by decide +kernel
theorem dX12_opensMany_9 : decode cX12_opensMany 9 = .ok (.aload_n 0, 1) := by decide +kernel
theorem dX12_opensMany_10 : decode cX12_opensMany 10 = .ok (.bipush 36, 2) := by decide +kernel
theorem dX12_opensMany_12 : decode cX12_opensMany 12 = .ok (.invokevirtual 272, 3) := by decide +kernel
theorem dX12_opensMany_15 : decode cX12_opensMany 15 = .ok (.ifCond .eq 81, 3) := by decide +kernel
theorem dX12_opensMany_18 : decode cX12_opensMany 18 = .ok (.aload_n 0, 1) := by decide +kernel
theorem dX12_opensMany_19 : decode cX12_opensMany 19 = .ok (.getfield 20, 3) := by decide +kernel
theorem dX12_opensMany_22 : decode cX12_opensMany 22 = .ok (.aload_n 0, 1) := by decide +kernel
theorem dX12_opensMany_23 : decode cX12_opensMany 23 = .ok (.getfield 257, 3) := by decide +kernel
theorem dX12_opensMany_26 : decode cX12_opensMany 26 = .ok (.iaload, 1) := by decide +kernel
theorem dX12_opensMany_27 : decode cX12_opensMany 27 = .ok (.istore_n 1, 1) := by decide +kernel
theorem dX12_opensMany_28 : decode cX12_opensMany 28 = .ok (.iload_n 1, 1) := by decide +kernel
theorem dX12_opensMany_29 : decode cX12_opensMany 29 = .ok (.bipush 36, 2) := by decide +kernel
theorem dX12_opensMany_31 : decode cX12_opensMany 31 = .ok (.if_icmp .ne 21, 3) := by decide +kernel
theorem dX12_opensMany_34 : decode cX12_opensMany 34 = .ok (.aload_n 0, 1) := by decide +kernel
theorem dX12_opensMany_35 : decode cX12_opensMany 35 = .ok (.invokevirtual 275, 3) := by decide +kernel
theorem dX12_opensMany_38 : decode cX12_opensMany 38 = .ok (.aload_n 0, 1) := by decide +kernel
theorem dX12_opensMany_39 : decode cX12_opensMany 39 = .ok (.bipush 6, 2) := by decide +kernel
theorem dX12_opensMany_41 : decode cX12_opensMany 41 = .ok (.invokevirtual 272, 3) := by decide +kernel
theorem dX12_opensMany_44 : decode cX12_opensMany 44 = .ok (.ifCond .ne 8, 3) := by decide +kernel
theorem dX12_opensMany_47 : decode cX12_opensMany 47 = .ok (.aload_n 0, 1) := by decide +kernel
theorem dX12_opensMany_48 : decode cX12_opensMany 48 = .ok (.iconst 1, 1) := by decide +kernel
theorem dX12_opensMany_49 : decode cX12_opensMany 49 = .ok (.invokevirtual 269, 3) := by decide +kernel
theorem dX12_opensMany_52 : decode cX12_opensMany 52 = .ok (.aload_n 0, 1) := by decide +kernel
theorem dX12_opensMany_53 : decode cX12_opensMany 53 = .ok (.getfield 281, 3) := by decide +kernel
theorem dX12_opensMany_56 : decode cX12_opensMany 56 = .ok (.bipush 6, 2) := by decide +kernel
theorem dX12_opensMany_58 : decode cX12_opensMany 58 = .ok (.if_icmp .ne 8, 3) := by decide +kernel
theorem dX12_opensMany_61 : decode cX12_opensMany 61 = .ok (.aload_n 0, 1) := by decide +kernel
theorem dX12_opensMany_62 : decode cX12_opensMany 62 = .ok (.iconst 2, 1) := by decide +kernel
theorem dX12_opensMany_63 : decode cX12_opensMany 63 = .ok (.invokevirtual 269, 3) := by decide +kernel
theorem dX12_opensMany_66 : decode cX12_opensMany 66 = .ok (.aload_n 0, 1) := by decide +kernel
theorem dX12_opensMany_67 : decode cX12_opensMany 67 = .ok (.getfield 254, 3) := by decide +kernel
theorem dX12_opensMany_70 : decode cX12_opensMany 70 = .ok (.ifCond .le 4, 3) := by decide +kernel
theorem dX12_opensMany_73 : decode cX12_opensMany 73 = .ok (.return_, 1) := by decide +kernel
theorem dX12_opensMany_74 : decode cX12_opensMany 74 = .ok (.aload_n 0, 1) := by decide +kernel
theorem dX12_opensMany_75 : decode cX12_opensMany 75 = .ok (.dup, 1) := by decide +kernel
theorem dX12_opensMany_76 : decode cX12_opensMany 76 = .ok (.getfield 281, 3) := by decide +kernel
theorem dX12_opensMany_79 : decode cX12_opensMany 79 = .ok (.iconst 1, 1) := by decide +kernel
theorem dX12_opensMany_80 : decode cX12_opensMany 80 = .ok (.iadd, 1) := by decide +kernel
theorem dX12_opensMany_81 : decode cX12_opensMany 81 = .ok (.putfield 281, 3) := by decide +kernel
theorem dX12_opensMany_84 : decode cX12_opensMany 84 = .ok (.aload_n 0, 1) := by decide +kernel
theorem dX12_opensMany_85 : decode cX12_opensMany 85 = .ok (.invokevirtual 275, 3) := by decide +kernel
theorem dX12_opensMany_88 : decode cX12_opensMany 88 = .ok (.aload_n 0, 1) := by decide +kernel
theorem dX12_opensMany_89 : decode cX12_opensMany 89 = .ok (.iload_n 1, 1) := by decide +kernel
theorem dX12_opensMany_90 : decode cX12_opensMany 90 = .ok (.invokevirtual 372, 3) := by decide +kernel
theorem dX12_opensMany_93 : decode cX12_opensMany 93 = .ok (.goto (-93), 3) := by decide +kernel
theorem dX12_opensMany_96 : decode cX12_opensMany 96 = .ok (.return_, 1) := by decide +kernel
def k_X12_opensMany_0 (X : CX) (T : List Dsc) (R : RM) (n1 n2 : Nat) (r : ((M2) ⊕ ((M2) ⊕ (M2)))) : Prop := match r with
  | .inl s => Wp X cX12_opensMany RX12 2 T (mk s R) n1 n2 0 [(0, .ref 56)] []
  | .inr (.inl e) => Wp X cX12_opensMany RX12 2 T (mk e R) n1 n2 73 [] []
  | .inr (.inr e) => Wp X cX12_opensMany RX12 2 T (mk e R) n1 n2 96 [] []
set_option maxHeartbeats 4000000 in
set_option maxRecDepth 100000 in
theorem w_X12_opensMany_66 {X : CX} {T : List Dsc} {R : RM} {c e : Nat} {n1 n2 : Nat} {x1 : Int32} {m : M2} {r : ((M2) ⊕ ((M2) ⊕ (M2)))} (hX : XR X 3 n1 n2) (hG : Geo T R c e) (hf : f_X12_opensMany_66 x1 m = some r) (hk : k_X12_opensMany_0 X T R n1 n2 r) : Wp X cX12_opensMany RX12 2 T (mk m R) n1 n2 66 [(0, .ref 56), (1, .int x1)] [] := by
  unfold f_X12_opensMany_66 at hf
  refine Wp.aload_n (pc := 66) 0 rfl rfl dX12_opensMany_66 ?_
  refine Wp.getI2 (pc := 67) (hG.t 56 rfl) fk_RX12_254 rfl dX12_opensMany_67 ?_
  refine Wp.if_le (pc := 70) 74 dX12_opensMany_70 (by decide) (fun hc1 => ?_) (fun hc1 => ?_)
  · rw [if_pos hc1] at hf
    refine Wp.aload_n (pc := 74) 0 rfl rfl dX12_opensMany_74 ?_
    refine Wp.dup (pc := 75) rfl dX12_opensMany_75 ?_
    refine Wp.getI2 (pc := 76) (hG.t 56 rfl) fk_RX12_281 rfl dX12_opensMany_76 ?_
    refine Wp.iconst (pc := 79) (1 : Int32) (by decide) dX12_opensMany_79 ?_
    refine Wp.iadd (pc := 80) dX12_opensMany_80 ?_
    obtain ⟨m2, h3, hf⟩ := bnd hf
    refine Wp.ptI2 (pc := 81) h3 (hG.t 56 rfl) fk_RX12_281 ff_RX12_11_12 rfl dX12_opensMany_81 ?_
    refine Wp.aload_n (pc := 84) 0 rfl rfl dX12_opensMany_84 ?_
    obtain ⟨c4, h5, hf⟩ := bnd hf
    refine Wp.callVv (pc := 85) (st := []) (as := []) (c_X12_goesOn hG h5) ml_RX12_275 mv_X12_goesOn mb_X12_goesOn hX (Nat.le_of_ble_eq_true rfl) (by decide) rfl (hG.t 56 rfl) rfl (by simp) dX12_opensMany_85 rfl ?_
    refine Wp.aload_n (pc := 88) 0 rfl rfl dX12_opensMany_88 ?_
    refine Wp.iload_n (pc := 89) 1 rfl rfl dX12_opensMany_89 ?_
    obtain ⟨c6, h7, hf⟩ := bnd hf
    refine Wp.callVv (pc := 90) (st := []) (as := [.int x1]) (c_X12_pushes hG h7) ml_RX12_372 mv_X12_pushes mb_X12_pushes hX (Nat.le_of_ble_eq_true rfl) (by decide) rfl (hG.t 56 rfl) rfl (by simp) dX12_opensMany_90 rfl ?_
    refine Wp.goto (pc := 93) 0 dX12_opensMany_93 (by decide) ?_
    refine Wp.lo' (lo' := [(0, .ref 56)]) [0] rfl ?_
    cases hf
    exact hk
  · rw [if_neg hc1] at hf
    refine Wp.lo' (lo' := []) [] rfl ?_
    cases hf
    exact hk
set_option maxHeartbeats 4000000 in
set_option maxRecDepth 100000 in
theorem w_X12_opensMany_52 {X : CX} {T : List Dsc} {R : RM} {c e : Nat} {n1 n2 : Nat} {x1 : Int32} {m : M2} {r : ((M2) ⊕ ((M2) ⊕ (M2)))} (hX : XR X 3 n1 n2) (hG : Geo T R c e) (hf : f_X12_opensMany_52 x1 m = some r) (hk : k_X12_opensMany_0 X T R n1 n2 r) : Wp X cX12_opensMany RX12 2 T (mk m R) n1 n2 52 [(0, .ref 56), (1, .int x1)] [] := by
  unfold f_X12_opensMany_52 at hf
  refine Wp.aload_n (pc := 52) 0 rfl rfl dX12_opensMany_52 ?_
  refine Wp.getI2 (pc := 53) (hG.t 56 rfl) fk_RX12_281 rfl dX12_opensMany_53 ?_
  refine Wp.bipush (pc := 56) (6 : Int32) (by decide) dX12_opensMany_56 ?_
  refine Wp.icmp_ne (pc := 58) 66 dX12_opensMany_58 (by decide) (fun hc1 => ?_) (fun hc1 => ?_)
  · rw [if_neg hc1] at hf
    exact w_X12_opensMany_66 hX hG hf hk
  · rw [if_pos hc1] at hf
    refine Wp.aload_n (pc := 61) 0 rfl rfl dX12_opensMany_61 ?_
    refine Wp.iconst (pc := 62) (2 : Int32) (by decide) dX12_opensMany_62 ?_
    obtain ⟨c2, h3, hf⟩ := bnd hf
    refine Wp.callVv (pc := 63) (st := []) (as := [.int (2 : Int32)]) (c_X12_fail hG h3) ml_RX12_269 mv_X12_fail mb_X12_fail hX (Nat.le_of_ble_eq_true rfl) (by decide) rfl (hG.t 56 rfl) rfl (by simp) dX12_opensMany_63 rfl ?_
    exact w_X12_opensMany_66 hX hG hf hk
set_option maxHeartbeats 4000000 in
set_option maxRecDepth 100000 in
theorem w_X12_opensMany_18 {X : CX} {T : List Dsc} {R : RM} {c e : Nat} {n1 n2 : Nat} {m : M2} {r : ((M2) ⊕ ((M2) ⊕ (M2)))} (hX : XR X 3 n1 n2) (hG : Geo T R c e) (hf : f_X12_opensMany_18 m = some r) (hk : k_X12_opensMany_0 X T R n1 n2 r) : Wp X cX12_opensMany RX12 2 T (mk m R) n1 n2 18 [(0, .ref 56)] [] := by
  unfold f_X12_opensMany_18 at hf
  refine Wp.aload_n (pc := 18) 0 rfl rfl dX12_opensMany_18 ?_
  refine Wp.getR2 (pc := 19) (hG.r 56 5 rfl) (hG.t 56 rfl) fk_RX12_20 rfl dX12_opensMany_19 ?_
  refine Wp.aload_n (pc := 22) 0 rfl rfl dX12_opensMany_22 ?_
  refine Wp.getI2 (pc := 23) (hG.t 56 rfl) fk_RX12_257 rfl dX12_opensMany_23 ?_
  obtain ⟨v1, h2, hf⟩ := bnd hf
  refine Wp.iald2 (pc := 26) h2 (hG.a 59 0 rfl) dX12_opensMany_26 ?_
  refine Wp.istore_n (pc := 27) (lo' := [(0, .ref 56), (1, .int v1)]) [1, 0] rfl (by decide) rfl dX12_opensMany_27 ?_
  refine Wp.iload_n (pc := 28) 1 rfl rfl dX12_opensMany_28 ?_
  refine Wp.bipush (pc := 29) (36 : Int32) (by decide) dX12_opensMany_29 ?_
  refine Wp.icmp_ne (pc := 31) 52 dX12_opensMany_31 (by decide) (fun hc3 => ?_) (fun hc3 => ?_)
  · rw [if_neg hc3] at hf
    exact w_X12_opensMany_52 hX hG hf hk
  · rw [if_pos hc3] at hf
    refine Wp.aload_n (pc := 34) 0 rfl rfl dX12_opensMany_34 ?_
    obtain ⟨c4, h5, hf⟩ := bnd hf
    refine Wp.callVv (pc := 35) (st := []) (as := []) (c_X12_goesOn hG h5) ml_RX12_275 mv_X12_goesOn mb_X12_goesOn hX (Nat.le_of_ble_eq_true rfl) (by decide) rfl (hG.t 56 rfl) rfl (by simp) dX12_opensMany_35 rfl ?_
    refine Wp.aload_n (pc := 38) 0 rfl rfl dX12_opensMany_38 ?_
    refine Wp.bipush (pc := 39) (6 : Int32) (by decide) dX12_opensMany_39 ?_
    obtain ⟨c6, h7, hf⟩ := bnd hf
    refine Wp.callVi (pc := 41) (st := []) (as := [.int (6 : Int32)]) (c_X12_is hG h7) ml_RX12_272 mv_X12_is mb_X12_is hX (Nat.le_of_ble_eq_true rfl) (by decide) rfl (hG.t 56 rfl) rfl (by simp) dX12_opensMany_41 rfl ?_
    refine Wp.if_ne (pc := 44) 52 dX12_opensMany_44 (by decide) (fun hc8 => ?_) (fun hc8 => ?_)
    · rw [if_neg hc8] at hf
      exact w_X12_opensMany_52 hX hG hf hk
    · rw [if_pos hc8] at hf
      refine Wp.aload_n (pc := 47) 0 rfl rfl dX12_opensMany_47 ?_
      refine Wp.iconst (pc := 48) (1 : Int32) (by decide) dX12_opensMany_48 ?_
      obtain ⟨c9, h10, hf⟩ := bnd hf
      refine Wp.callVv (pc := 49) (st := []) (as := [.int (1 : Int32)]) (c_X12_fail hG h10) ml_RX12_269 mv_X12_fail mb_X12_fail hX (Nat.le_of_ble_eq_true rfl) (by decide) rfl (hG.t 56 rfl) rfl (by simp) dX12_opensMany_49 rfl ?_
      exact w_X12_opensMany_52 hX hG hf hk
set_option maxHeartbeats 4000000 in
set_option maxRecDepth 100000 in
theorem w_X12_opensMany_0 {X : CX} {T : List Dsc} {R : RM} {c e : Nat} {n1 n2 : Nat} {m : M2} {r : ((M2) ⊕ ((M2) ⊕ (M2)))} (hX : XR X 3 n1 n2) (hG : Geo T R c e) (hf : f_X12_opensMany_0 m = some r) (hk : k_X12_opensMany_0 X T R n1 n2 r) : Wp X cX12_opensMany RX12 2 T (mk m R) n1 n2 0 [(0, .ref 56)] [] := by
  unfold f_X12_opensMany_0 at hf
  refine Wp.aload_n (pc := 0) 0 rfl rfl dX12_opensMany_0 ?_
  refine Wp.bipush (pc := 1) (6 : Int32) (by decide) dX12_opensMany_1 ?_
  obtain ⟨c1, h2, hf⟩ := bnd hf
  refine Wp.callVi (pc := 3) (st := []) (as := [.int (6 : Int32)]) (c_X12_is hG h2) ml_RX12_272 mv_X12_is mb_X12_is hX (Nat.le_of_ble_eq_true rfl) (by decide) rfl (hG.t 56 rfl) rfl (by simp) dX12_opensMany_3 rfl ?_
  refine Wp.if_ne (pc := 6) 18 dX12_opensMany_6 (by decide) (fun hc3 => ?_) (fun hc3 => ?_)
  · rw [if_neg hc3] at hf
    exact w_X12_opensMany_18 hX hG hf hk
  · rw [if_pos hc3] at hf
    refine Wp.aload_n (pc := 9) 0 rfl rfl dX12_opensMany_9 ?_
    refine Wp.bipush (pc := 10) (36 : Int32) (by decide) dX12_opensMany_10 ?_
    obtain ⟨c4, h5, hf⟩ := bnd hf
    refine Wp.callVi (pc := 12) (st := []) (as := [.int (36 : Int32)]) (c_X12_is hG h5) ml_RX12_272 mv_X12_is mb_X12_is hX (Nat.le_of_ble_eq_true rfl) (by decide) rfl (hG.t 56 rfl) rfl (by simp) dX12_opensMany_12 rfl ?_
    refine Wp.if_eq (pc := 15) 96 dX12_opensMany_15 (by decide) (fun hc6 => ?_) (fun hc6 => ?_)
    · rw [if_pos hc6] at hf
      refine Wp.lo' (lo' := []) [] rfl ?_
      cases hf
      exact hk
    · rw [if_neg hc6] at hf
      exact w_X12_opensMany_18 hX hG hf hk
theorem wl_X12_opensMany_0 {X : CX} {T : List Dsc} {R : RM} {c e : Nat} {n1 n2 : Nat} {m : M2} {e1 : ((M2) ⊕ (M2))} (hX : XR X 3 n1 n2) (hG : Geo T R c e) (h : loop (g_X12_opensMany_0) m = some e1) (he0 : ∀ e_, e1 = (Sum.inl e_) → Wp X cX12_opensMany RX12 2 T (mk e_ R) n1 n2 73 [] []) (he1 : ∀ e_, e1 = (Sum.inr e_) → Wp X cX12_opensMany RX12 2 T (mk e_ R) n1 n2 96 [] []) : Wp X cX12_opensMany RX12 2 T (mk m R) n1 n2 0 [(0, .ref 56)] [] :=
  loop_ok (K := k_X12_opensMany_0 X T R n1 n2) (fun s r hf hk => w_X12_opensMany_0 hX hG hf hk) h (by rcases e1 with e_ | e_ <;> first | exact he0 _ rfl | exact he1 _ rfl)
set_option maxHeartbeats 4000000 in
set_option maxRecDepth 100000 in
theorem w_X12_opensMany {X : CX} {T : List Dsc} {R : RM} {c e : Nat} {n1 n2 : Nat} {m : M2} {r : M2} (hX : XR X 3 n1 n2) (hG : Geo T R c e) (hf : F_X12_opensMany m = some r) (hk : FnV X cX12_opensMany RX12 2 T n1 n2 (mk r R)) : Wp X cX12_opensMany RX12 2 T (mk m R) n1 n2 0 [(0, .ref 56)] [] := by
  unfold F_X12_opensMany at hf
  obtain ⟨e1, h2, hf⟩ := bnd hf
  refine wl_X12_opensMany_0 hX hG h2 (fun e1_0 hq => ?_) (fun e1_1 hq => ?_)
  · rw [hq, Sum.elim_inl] at hf
    cases hf
    exact hk _ _ dX12_opensMany_73
  · rw [hq, Sum.elim_inr] at hf
    cases hf
    exact hk _ _ dX12_opensMany_96
theorem c_X12_opensMany {T : List Dsc} {R : RM} {c e : Nat} {m : M2} {r : M2} (hG : Geo T R c e) (hf : F_X12_opensMany m = some r) : Ct 3 yX12_opensMany cX12_opensMany 2 none T (mk m R) [.ref 56] none (mk r R) := Ct.ofV (r := mk r R) (by decide +kernel) (Nat.le_of_ble_eq_true rfl) (fun X hX hk => w_X12_opensMany hX hG hf hk)
theorem dX12_emit_0 : decode cX12_emit 0 = .ok (.aload_n 0, 1) := by decide +kernel
theorem dX12_emit_1 : decode cX12_emit 1 = .ok (.getfield 116, 3) := by decide +kernel
theorem dX12_emit_4 : decode cX12_emit 4 = .ok (.aload_n 0, 1) := by decide +kernel
theorem dX12_emit_5 : decode cX12_emit 5 = .ok (.getfield 299, 3) := by decide +kernel
theorem dX12_emit_8 : decode cX12_emit 8 = .ok (.iload_n 1, 1) := by decide +kernel
theorem dX12_emit_9 : decode cX12_emit 9 = .ok (.iastore, 1) := by decide +kernel
theorem dX12_emit_10 : decode cX12_emit 10 = .ok (.aload_n 0, 1) := by decide +kernel
theorem dX12_emit_11 : decode cX12_emit 11 = .ok (.getfield 119, 3) := by decide +kernel
theorem dX12_emit_14 : decode cX12_emit 14 = .ok (.aload_n 0, 1) := by decide +kernel
theorem dX12_emit_15 : decode cX12_emit 15 = .ok (.getfield 299, 3) := by decide +kernel
theorem dX12_emit_18 : decode cX12_emit 18 = .ok (.iload_n 2, 1) := by decide +kernel
theorem dX12_emit_19 : decode cX12_emit 19 = .ok (.iastore, 1) := by decide +kernel
theorem dX12_emit_20 : decode cX12_emit 20 = .ok (.aload_n 0, 1) := by decide +kernel
theorem dX12_emit_21 : decode cX12_emit 21 = .ok (.dup, 1) := by decide +kernel
theorem dX12_emit_22 : decode cX12_emit 22 = .ok (.getfield 299, 3) := by decide +kernel
theorem dX12_emit_25 : decode cX12_emit 25 = .ok (.iconst 1, 1) := by decide +kernel
theorem dX12_emit_26 : decode cX12_emit 26 = .ok (.iadd, 1) := by decide +kernel
theorem dX12_emit_27 : decode cX12_emit 27 = .ok (.putfield 299, 3) := by decide +kernel
theorem dX12_emit_30 : decode cX12_emit 30 = .ok (.return_, 1) := by decide +kernel
set_option maxHeartbeats 4000000 in
set_option maxRecDepth 100000 in
theorem w_X12_emit {X : CX} {T : List Dsc} {R : RM} {c e : Nat} {n1 n2 : Nat} {x1 : Int32} {x2 : Int32} {m : M2} {r : M2} (hX : XR X 1 n1 n2) (hG : Geo T R c e) (hf : F_X12_emit x1 x2 m = some r) (hk : FnV X cX12_emit RX12 3 T n1 n2 (mk r R)) : Wp X cX12_emit RX12 3 T (mk m R) n1 n2 0 [(0, .ref 56), (1, .int x1), (2, .int x2)] [] := by
  unfold F_X12_emit at hf
  refine Wp.aload_n (pc := 0) 0 rfl rfl dX12_emit_0 ?_
  refine Wp.getR2 (pc := 1) (hG.r 56 49 rfl) (hG.t 56 rfl) fk_RX12_116 rfl dX12_emit_1 ?_
  refine Wp.aload_n (pc := 4) 0 rfl rfl dX12_emit_4 ?_
  refine Wp.getI2 (pc := 5) (hG.t 56 rfl) fk_RX12_299 rfl dX12_emit_5 ?_
  refine Wp.iload_n (pc := 8) 1 rfl rfl dX12_emit_8 ?_
  obtain ⟨m1, h2, hf⟩ := bnd hf
  refine Wp.iast2 (pc := 9) h2 (hG.a 89 0 rfl) dX12_emit_9 ?_
  refine Wp.aload_n (pc := 10) 0 rfl rfl dX12_emit_10 ?_
  refine Wp.getR2 (pc := 11) (hG.r 56 50 rfl) (hG.t 56 rfl) fk_RX12_119 rfl dX12_emit_11 ?_
  refine Wp.aload_n (pc := 14) 0 rfl rfl dX12_emit_14 ?_
  refine Wp.getI2 (pc := 15) (hG.t 56 rfl) fk_RX12_299 rfl dX12_emit_15 ?_
  refine Wp.iload_n (pc := 18) 2 rfl rfl dX12_emit_18 ?_
  obtain ⟨m3, h4, hf⟩ := bnd hf
  refine Wp.iast2 (pc := 19) h4 (hG.a 90 0 rfl) dX12_emit_19 ?_
  refine Wp.aload_n (pc := 20) 0 rfl rfl dX12_emit_20 ?_
  refine Wp.dup (pc := 21) rfl dX12_emit_21 ?_
  refine Wp.getI2 (pc := 22) (hG.t 56 rfl) fk_RX12_299 rfl dX12_emit_22 ?_
  refine Wp.iconst (pc := 25) (1 : Int32) (by decide) dX12_emit_25 ?_
  refine Wp.iadd (pc := 26) dX12_emit_26 ?_
  obtain ⟨m5, h6, hf⟩ := bnd hf
  refine Wp.ptI2 (pc := 27) h6 (hG.t 56 rfl) fk_RX12_299 ff_RX12_11_48 rfl dX12_emit_27 ?_
  cases hf
  exact hk _ _ dX12_emit_30
theorem c_X12_emit {T : List Dsc} {R : RM} {c e : Nat} {x1 : Int32} {x2 : Int32} {m : M2} {r : M2} (hG : Geo T R c e) (hf : F_X12_emit x1 x2 m = some r) : Ct 1 yX12_emit cX12_emit 3 none T (mk m R) [.ref 56, .int x1, .int x2] none (mk r R) := Ct.ofV (r := mk r R) (by decide +kernel) (Nat.le_of_ble_eq_true rfl) (fun X hX hk => w_X12_emit hX hG hf hk)
theorem dX12_variableOf_0 : decode cX12_variableOf 0 = .ok (.iload_n 0, 1) := by decide +kernel
theorem dX12_variableOf_1 : decode cX12_variableOf 1 = .ok (.tableswitch 67 26 35 #[61, 65, 67, 67, 67, 67, 55, 57, 59, 63], 55) := by decide +kernel
theorem dX12_variableOf_56 : decode cX12_variableOf 56 = .ok (.iconst 0, 1) := by decide +kernel
theorem dX12_variableOf_57 : decode cX12_variableOf 57 = .ok (.ireturn, 1) := by decide +kernel
theorem dX12_variableOf_58 : decode cX12_variableOf 58 = .ok (.iconst 1, 1) := by decide +kernel
theorem dX12_variableOf_59 : decode cX12_variableOf 59 = .ok (.ireturn, 1) := by decide +kernel
theorem dX12_variableOf_60 : decode cX12_variableOf 60 = .ok (.iconst 2, 1) := by decide +kernel
theorem dX12_variableOf_61 : decode cX12_variableOf 61 = .ok (.ireturn, 1) := by decide +kernel
theorem dX12_variableOf_62 : decode cX12_variableOf 62 = .ok (.iconst 3, 1) := by decide +kernel
theorem dX12_variableOf_63 : decode cX12_variableOf 63 = .ok (.ireturn, 1) := by decide +kernel
theorem dX12_variableOf_64 : decode cX12_variableOf 64 = .ok (.iconst 4, 1) := by decide +kernel
theorem dX12_variableOf_65 : decode cX12_variableOf 65 = .ok (.ireturn, 1) := by decide +kernel
theorem dX12_variableOf_66 : decode cX12_variableOf 66 = .ok (.iconst 5, 1) := by decide +kernel
theorem dX12_variableOf_67 : decode cX12_variableOf 67 = .ok (.ireturn, 1) := by decide +kernel
theorem dX12_variableOf_68 : decode cX12_variableOf 68 = .ok (.iconst (-1), 1) := by decide +kernel
theorem dX12_variableOf_69 : decode cX12_variableOf 69 = .ok (.ireturn, 1) := by decide +kernel
set_option maxHeartbeats 4000000 in
set_option maxRecDepth 100000 in
theorem w_X12_variableOf {X : CX} {T : List Dsc} {R : RM} {c e : Nat} {n1 n2 : Nat} {x0 : Int32} {m : M2} {r : (Int32 × M2)} (hX : XR X 1 n1 n2) (hG : Geo T R c e) (hf : F_X12_variableOf x0 m = some r) (hk : FnI X cX12_variableOf RX12 1 T n1 n2 (r.1, mk r.2 R)) : Wp X cX12_variableOf RX12 1 T (mk m R) n1 n2 0 [(0, .int x0)] [] := by
  unfold F_X12_variableOf at hf
  refine Wp.iload_n (pc := 0) 0 rfl rfl dX12_variableOf_0 ?_
  by_cases hc1 : x0 = (26 : Int32)
  · rw [if_pos hc1] at hf
    refine Wp.swIn (pc := 1) 62 dX12_variableOf_1 hc1 (by decide) (by decide) rfl (by decide) ?_
    refine Wp.iconst (pc := 62) (3 : Int32) (by decide) dX12_variableOf_62 ?_
    cases hf
    exact hk _ _ dX12_variableOf_63
  · rw [if_neg hc1] at hf
    by_cases hc2 : x0 = (27 : Int32)
    · rw [if_pos hc2] at hf
      refine Wp.swIn (pc := 1) 66 dX12_variableOf_1 hc2 (by decide) (by decide) rfl (by decide) ?_
      refine Wp.iconst (pc := 66) (5 : Int32) (by decide) dX12_variableOf_66 ?_
      cases hf
      exact hk _ _ dX12_variableOf_67
    · rw [if_neg hc2] at hf
      by_cases hc3 : x0 = (28 : Int32)
      · rw [if_pos hc3] at hf
        refine Wp.swIn (pc := 1) 68 dX12_variableOf_1 hc3 (by decide) (by decide) rfl (by decide) ?_
        refine Wp.iconst (pc := 68) (-1 : Int32) (by decide) dX12_variableOf_68 ?_
        cases hf
        exact hk _ _ dX12_variableOf_69
      · rw [if_neg hc3] at hf
        by_cases hc4 : x0 = (29 : Int32)
        · rw [if_pos hc4] at hf
          refine Wp.swIn (pc := 1) 68 dX12_variableOf_1 hc4 (by decide) (by decide) rfl (by decide) ?_
          refine Wp.iconst (pc := 68) (-1 : Int32) (by decide) dX12_variableOf_68 ?_
          cases hf
          exact hk _ _ dX12_variableOf_69
        · rw [if_neg hc4] at hf
          by_cases hc5 : x0 = (30 : Int32)
          · rw [if_pos hc5] at hf
            refine Wp.swIn (pc := 1) 68 dX12_variableOf_1 hc5 (by decide) (by decide) rfl (by decide) ?_
            refine Wp.iconst (pc := 68) (-1 : Int32) (by decide) dX12_variableOf_68 ?_
            cases hf
            exact hk _ _ dX12_variableOf_69
          · rw [if_neg hc5] at hf
            by_cases hc6 : x0 = (31 : Int32)
            · rw [if_pos hc6] at hf
              refine Wp.swIn (pc := 1) 68 dX12_variableOf_1 hc6 (by decide) (by decide) rfl (by decide) ?_
              refine Wp.iconst (pc := 68) (-1 : Int32) (by decide) dX12_variableOf_68 ?_
              cases hf
              exact hk _ _ dX12_variableOf_69
            · rw [if_neg hc6] at hf
              by_cases hc7 : x0 = (32 : Int32)
              · rw [if_pos hc7] at hf
                refine Wp.swIn (pc := 1) 56 dX12_variableOf_1 hc7 (by decide) (by decide) rfl (by decide) ?_
                refine Wp.iconst (pc := 56) (0 : Int32) (by decide) dX12_variableOf_56 ?_
                cases hf
                exact hk _ _ dX12_variableOf_57
              · rw [if_neg hc7] at hf
                by_cases hc8 : x0 = (33 : Int32)
                · rw [if_pos hc8] at hf
                  refine Wp.swIn (pc := 1) 58 dX12_variableOf_1 hc8 (by decide) (by decide) rfl (by decide) ?_
                  refine Wp.iconst (pc := 58) (1 : Int32) (by decide) dX12_variableOf_58 ?_
                  cases hf
                  exact hk _ _ dX12_variableOf_59
                · rw [if_neg hc8] at hf
                  by_cases hc9 : x0 = (34 : Int32)
                  · rw [if_pos hc9] at hf
                    refine Wp.swIn (pc := 1) 60 dX12_variableOf_1 hc9 (by decide) (by decide) rfl (by decide) ?_
                    refine Wp.iconst (pc := 60) (2 : Int32) (by decide) dX12_variableOf_60 ?_
                    cases hf
                    exact hk _ _ dX12_variableOf_61
                  · rw [if_neg hc9] at hf
                    by_cases hc10 : x0 = (35 : Int32)
                    · rw [if_pos hc10] at hf
                      refine Wp.swIn (pc := 1) 64 dX12_variableOf_1 hc10 (by decide) (by decide) rfl (by decide) ?_
                      refine Wp.iconst (pc := 64) (4 : Int32) (by decide) dX12_variableOf_64 ?_
                      cases hf
                      exact hk _ _ dX12_variableOf_65
                    · rw [if_neg hc10] at hf
                      refine Wp.swOut (pc := 1) 68 dX12_variableOf_1 (swx (fun k h1 h2 => ?_)) (by decide) ?_
                      · have z0 := lv_neT hc1 (a := 26) (by decide); have z1 := lv_neT hc2 (a := 27) (by decide); have z2 := lv_neT hc3 (a := 28) (by decide); have z3 := lv_neT hc4 (a := 29) (by decide); have z4 := lv_neT hc5 (a := 30) (by decide); have z5 := lv_neT hc6 (a := 31) (by decide); have z6 := lv_neT hc7 (a := 32) (by decide); have z7 := lv_neT hc8 (a := 33) (by decide); have z8 := lv_neT hc9 (a := 34) (by decide); have z9 := lv_neT hc10 (a := 35) (by decide); omega
                      · skip
                        refine Wp.iconst (pc := 68) (-1 : Int32) (by decide) dX12_variableOf_68 ?_
                        cases hf
                        exact hk _ _ dX12_variableOf_69
theorem c_X12_variableOf {T : List Dsc} {R : RM} {c e : Nat} {x0 : Int32} {m : M2} {r : (Int32 × M2)} (hG : Geo T R c e) (hf : F_X12_variableOf x0 m = some r) : Ct 1 yX12_variableOf cX12_variableOf 1 (some .int) T (mk m R) [.int x0] (some (.int r.1)) (mk r.2 R) := Ct.ofI (r := (r.1, mk r.2 R)) (by decide +kernel) (Nat.le_of_ble_eq_true rfl) (fun X hX hk => w_X12_variableOf hX hG hf hk)
theorem dX12_unit_0 : decode cX12_unit 0 = .ok (.aload_n 0, 1) := by decide +kernel
theorem dX12_unit_1 : decode cX12_unit 1 = .ok (.getfield 254, 3) := by decide +kernel
theorem dX12_unit_4 : decode cX12_unit 4 = .ok (.ifCond .le 4, 3) := by decide +kernel
theorem dX12_unit_7 : decode cX12_unit 7 = .ok (.return_, 1) := by decide +kernel
theorem dX12_unit_8 : decode cX12_unit 8 = .ok (.aload_n 0, 1) := by decide +kernel
theorem dX12_unit_9 : decode cX12_unit 9 = .ok (.iconst 2, 1) := by decide +kernel
theorem dX12_unit_10 : decode cX12_unit 10 = .ok (.invokevirtual 272, 3) := by decide +kernel
theorem dX12_unit_13 : decode cX12_unit 13 = .ok (.ifCond .eq 22, 3) := by decide +kernel
theorem dX12_unit_16 : decode cX12_unit 16 = .ok (.aload_n 0, 1) := by decide +kernel
theorem dX12_unit_17 : decode cX12_unit 17 = .ok (.iconst 0, 1) := by decide +kernel
theorem dX12_unit_18 : decode cX12_unit 18 = .ok (.aload_n 0, 1) := by decide +kernel
theorem dX12_unit_19 : decode cX12_unit 19 = .ok (.getfield 27, 3) := by decide +kernel
theorem dX12_unit_22 : decode cX12_unit 22 = .ok (.aload_n 0, 1) := by decide +kernel
theorem dX12_unit_23 : decode cX12_unit 23 = .ok (.getfield 257, 3) := by decide +kernel
theorem dX12_unit_26 : decode cX12_unit 26 = .ok (.iaload, 1) := by decide +kernel
theorem dX12_unit_27 : decode cX12_unit 27 = .ok (.invokevirtual 369, 3) := by decide +kernel
theorem dX12_unit_30 : decode cX12_unit 30 = .ok (.aload_n 0, 1) := by decide +kernel
theorem dX12_unit_31 : decode cX12_unit 31 = .ok (.invokevirtual 275, 3) := by decide +kernel
theorem dX12_unit_34 : decode cX12_unit 34 = .ok (.return_, 1) := by decide +kernel
theorem dX12_unit_35 : decode cX12_unit 35 = .ok (.aload_n 0, 1) := by decide +kernel
theorem dX12_unit_36 : decode cX12_unit 36 = .ok (.getfield 20, 3) := by decide +kernel
theorem dX12_unit_39 : decode cX12_unit 39 = .ok (.aload_n 0, 1) := by decide +kernel
theorem dX12_unit_40 : decode cX12_unit 40 = .ok (.getfield 257, 3) := by decide +kernel
theorem dX12_unit_43 : decode cX12_unit 43 = .ok (.iaload, 1) := by decide +kernel
theorem dX12_unit_44 : decode cX12_unit 44 = .ok (.invokestatic 387, 3) := by decide +kernel
theorem dX12_unit_47 : decode cX12_unit 47 = .ok (.istore_n 1, 1) := by decide +kernel
theorem dX12_unit_48 : decode cX12_unit 48 = .ok (.iload_n 1, 1) := by decide +kernel
theorem dX12_unit_49 : decode cX12_unit 49 = .ok (.ifCond .ge 8, 3) := by decide +kernel
theorem dX12_unit_52 : decode cX12_unit 52 = .ok (.aload_n 0, 1) := by decide +kernel
theorem dX12_unit_53 : decode cX12_unit 53 = .ok (.iconst 1, 1) := by decide +kernel
theorem dX12_unit_54 : decode cX12_unit 54 = .ok (.invokevirtual 269, 3) := by decide +kernel
theorem dX12_unit_57 : decode cX12_unit 57 = .ok (.aload_n 0, 1) := by decide +kernel
theorem dX12_unit_58 : decode cX12_unit 58 = .ok (.getfield 254, 3) := by decide +kernel
theorem dX12_unit_61 : decode cX12_unit 61 = .ok (.ifCond .le 4, 3) := by decide +kernel
theorem dX12_unit_64 : decode cX12_unit 64 = .ok (.return_, 1) := by decide +kernel
theorem dX12_unit_65 : decode cX12_unit 65 = .ok (.aload_n 0, 1) := by decide +kernel
theorem dX12_unit_66 : decode cX12_unit 66 = .ok (.iconst 1, 1) := by decide +kernel
theorem dX12_unit_67 : decode cX12_unit 67 = .ok (.iload_n 1, 1) := by decide +kernel
theorem dX12_unit_68 : decode cX12_unit 68 = .ok (.invokevirtual 369, 3) := by decide +kernel
theorem dX12_unit_71 : decode cX12_unit 71 = .ok (.aload_n 0, 1) := by decide +kernel
theorem dX12_unit_72 : decode cX12_unit 72 = .ok (.invokevirtual 275, 3) := by decide +kernel
theorem dX12_unit_75 : decode cX12_unit 75 = .ok (.return_, 1) := by decide +kernel
set_option maxHeartbeats 4000000 in
set_option maxRecDepth 100000 in
theorem w_X12_unit_57 {X : CX} {T : List Dsc} {R : RM} {c e : Nat} {n1 n2 : Nat} {x1 : Int32} {m : M2} {r : M2} (hX : XR X 3 n1 n2) (hG : Geo T R c e) (hf : f_X12_unit_57 x1 m = some r) (hk : FnV X cX12_unit RX12 2 T n1 n2 (mk r R)) : Wp X cX12_unit RX12 2 T (mk m R) n1 n2 57 [(0, .ref 56), (1, .int x1)] [] := by
  unfold f_X12_unit_57 at hf
  refine Wp.aload_n (pc := 57) 0 rfl rfl dX12_unit_57 ?_
  refine Wp.getI2 (pc := 58) (hG.t 56 rfl) fk_RX12_254 rfl dX12_unit_58 ?_
  refine Wp.if_le (pc := 61) 65 dX12_unit_61 (by decide) (fun hc1 => ?_) (fun hc1 => ?_)
  · rw [if_pos hc1] at hf
    refine Wp.aload_n (pc := 65) 0 rfl rfl dX12_unit_65 ?_
    refine Wp.iconst (pc := 66) (1 : Int32) (by decide) dX12_unit_66 ?_
    refine Wp.iload_n (pc := 67) 1 rfl rfl dX12_unit_67 ?_
    obtain ⟨c2, h3, hf⟩ := bnd hf
    refine Wp.callVv (pc := 68) (st := []) (as := [.int (1 : Int32), .int x1]) (c_X12_emit hG h3) ml_RX12_369 mv_X12_emit mb_X12_emit hX (Nat.le_of_ble_eq_true rfl) (by decide) rfl (hG.t 56 rfl) rfl (by simp) dX12_unit_68 rfl ?_
    refine Wp.aload_n (pc := 71) 0 rfl rfl dX12_unit_71 ?_
    obtain ⟨c4, h5, hf⟩ := bnd hf
    refine Wp.callVv (pc := 72) (st := []) (as := []) (c_X12_goesOn hG h5) ml_RX12_275 mv_X12_goesOn mb_X12_goesOn hX (Nat.le_of_ble_eq_true rfl) (by decide) rfl (hG.t 56 rfl) rfl (by simp) dX12_unit_72 rfl ?_
    cases hf
    exact hk _ _ dX12_unit_75
  · rw [if_neg hc1] at hf
    cases hf
    exact hk _ _ dX12_unit_64
set_option maxHeartbeats 4000000 in
set_option maxRecDepth 100000 in
theorem w_X12_unit {X : CX} {T : List Dsc} {R : RM} {c e : Nat} {n1 n2 : Nat} {m : M2} {r : M2} (hX : XR X 3 n1 n2) (hG : Geo T R c e) (hf : F_X12_unit m = some r) (hk : FnV X cX12_unit RX12 2 T n1 n2 (mk r R)) : Wp X cX12_unit RX12 2 T (mk m R) n1 n2 0 [(0, .ref 56)] [] := by
  unfold F_X12_unit at hf
  refine Wp.aload_n (pc := 0) 0 rfl rfl dX12_unit_0 ?_
  refine Wp.getI2 (pc := 1) (hG.t 56 rfl) fk_RX12_254 rfl dX12_unit_1 ?_
  refine Wp.if_le (pc := 4) 8 dX12_unit_4 (by decide) (fun hc1 => ?_) (fun hc1 => ?_)
  · rw [if_pos hc1] at hf
    refine Wp.aload_n (pc := 8) 0 rfl rfl dX12_unit_8 ?_
    refine Wp.iconst (pc := 9) (2 : Int32) (by decide) dX12_unit_9 ?_
    obtain ⟨c2, h3, hf⟩ := bnd hf
    refine Wp.callVi (pc := 10) (st := []) (as := [.int (2 : Int32)]) (c_X12_is hG h3) ml_RX12_272 mv_X12_is mb_X12_is hX (Nat.le_of_ble_eq_true rfl) (by decide) rfl (hG.t 56 rfl) rfl (by simp) dX12_unit_10 rfl ?_
    refine Wp.if_eq (pc := 13) 35 dX12_unit_13 (by decide) (fun hc4 => ?_) (fun hc4 => ?_)
    · rw [if_pos hc4] at hf
      refine Wp.aload_n (pc := 35) 0 rfl rfl dX12_unit_35 ?_
      refine Wp.getR2 (pc := 36) (hG.r 56 5 rfl) (hG.t 56 rfl) fk_RX12_20 rfl dX12_unit_36 ?_
      refine Wp.aload_n (pc := 39) 0 rfl rfl dX12_unit_39 ?_
      refine Wp.getI2 (pc := 40) (hG.t 56 rfl) fk_RX12_257 rfl dX12_unit_40 ?_
      obtain ⟨v5, h6, hf⟩ := bnd hf
      refine Wp.iald2 (pc := 43) h6 (hG.a 59 0 rfl) dX12_unit_43 ?_
      obtain ⟨c7, h8, hf⟩ := bnd hf
      refine Wp.callSi (pc := 44) (st := []) (as := [.int v5]) (c_X12_variableOf hG h8) ml_RX12_387 ms_X12_variableOf mb_X12_variableOf hX (Nat.le_of_ble_eq_true rfl) (by decide) rfl (by simp) dX12_unit_44 rfl ?_
      refine Wp.istore_n (pc := 47) (lo' := [(0, .ref 56), (1, .int c7.1)]) [1, 0] rfl (by decide) rfl dX12_unit_47 ?_
      refine Wp.iload_n (pc := 48) 1 rfl rfl dX12_unit_48 ?_
      refine Wp.if_ge (pc := 49) 57 dX12_unit_49 (by decide) (fun hc9 => ?_) (fun hc9 => ?_)
      · rw [if_pos hc9] at hf
        exact w_X12_unit_57 hX hG hf hk
      · rw [if_neg hc9] at hf
        refine Wp.aload_n (pc := 52) 0 rfl rfl dX12_unit_52 ?_
        refine Wp.iconst (pc := 53) (1 : Int32) (by decide) dX12_unit_53 ?_
        obtain ⟨c10, h11, hf⟩ := bnd hf
        refine Wp.callVv (pc := 54) (st := []) (as := [.int (1 : Int32)]) (c_X12_fail hG h11) ml_RX12_269 mv_X12_fail mb_X12_fail hX (Nat.le_of_ble_eq_true rfl) (by decide) rfl (hG.t 56 rfl) rfl (by simp) dX12_unit_54 rfl ?_
        exact w_X12_unit_57 hX hG hf hk
    · rw [if_neg hc4] at hf
      refine Wp.aload_n (pc := 16) 0 rfl rfl dX12_unit_16 ?_
      refine Wp.iconst (pc := 17) (0 : Int32) (by decide) dX12_unit_17 ?_
      refine Wp.aload_n (pc := 18) 0 rfl rfl dX12_unit_18 ?_
      refine Wp.getR2 (pc := 19) (hG.r 56 7 rfl) (hG.t 56 rfl) fk_RX12_27 rfl dX12_unit_19 ?_
      refine Wp.aload_n (pc := 22) 0 rfl rfl dX12_unit_22 ?_
      refine Wp.getI2 (pc := 23) (hG.t 56 rfl) fk_RX12_257 rfl dX12_unit_23 ?_
      obtain ⟨v12, h13, hf⟩ := bnd hf
      refine Wp.iald2 (pc := 26) h13 (hG.a 61 0 rfl) dX12_unit_26 ?_
      obtain ⟨c14, h15, hf⟩ := bnd hf
      refine Wp.callVv (pc := 27) (st := []) (as := [.int (0 : Int32), .int v12]) (c_X12_emit hG h15) ml_RX12_369 mv_X12_emit mb_X12_emit hX (Nat.le_of_ble_eq_true rfl) (by decide) rfl (hG.t 56 rfl) rfl (by simp) dX12_unit_27 rfl ?_
      refine Wp.aload_n (pc := 30) 0 rfl rfl dX12_unit_30 ?_
      obtain ⟨c16, h17, hf⟩ := bnd hf
      refine Wp.callVv (pc := 31) (st := []) (as := []) (c_X12_goesOn hG h17) ml_RX12_275 mv_X12_goesOn mb_X12_goesOn hX (Nat.le_of_ble_eq_true rfl) (by decide) rfl (hG.t 56 rfl) rfl (by simp) dX12_unit_31 rfl ?_
      cases hf
      exact hk _ _ dX12_unit_34
  · rw [if_neg hc1] at hf
    cases hf
    exact hk _ _ dX12_unit_7
theorem c_X12_unit {T : List Dsc} {R : RM} {c e : Nat} {m : M2} {r : M2} (hG : Geo T R c e) (hf : F_X12_unit m = some r) : Ct 3 yX12_unit cX12_unit 2 none T (mk m R) [.ref 56] none (mk r R) := Ct.ofV (r := mk r R) (by decide +kernel) (Nat.le_of_ble_eq_true rfl) (fun X hX hk => w_X12_unit hX hG hf hk)
theorem dX12_isWall_0 : decode cX12_isWall 0 = .ok (.iload_n 0, 1) := by decide +kernel
theorem dX12_isWall_1 : decode cX12_isWall 1 = .ok (.bipush 6, 2) := by decide +kernel
theorem dX12_isWall_3 : decode cX12_isWall 3 = .ok (.if_icmp .eq 15, 3) := by decide +kernel
theorem dX12_isWall_6 : decode cX12_isWall 6 = .ok (.iload_n 0, 1) := by decide +kernel
theorem dX12_isWall_7 : decode cX12_isWall 7 = .ok (.bipush 36, 2) := by decide +kernel
theorem dX12_isWall_9 : decode cX12_isWall 9 = .ok (.if_icmp .eq 9, 3) := by decide +kernel
theorem dX12_isWall_12 : decode cX12_isWall 12 = .ok (.iload_n 0, 1) := by decide +kernel
theorem dX12_isWall_13 : decode cX12_isWall 13 = .ok (.bipush 16, 2) := by decide +kernel
theorem dX12_isWall_15 : decode cX12_isWall 15 = .ok (.if_icmp .ne 7, 3) := by decide +kernel
theorem dX12_isWall_18 : decode cX12_isWall 18 = .ok (.iconst 1, 1) := by decide +kernel
theorem dX12_isWall_19 : decode cX12_isWall 19 = .ok (.goto 4, 3) := by decide +kernel
theorem dX12_isWall_22 : decode cX12_isWall 22 = .ok (.iconst 0, 1) := by decide +kernel
theorem dX12_isWall_23 : decode cX12_isWall 23 = .ok (.ireturn, 1) := by decide +kernel
set_option maxHeartbeats 4000000 in
set_option maxRecDepth 100000 in
theorem w_X12_isWall_23 {X : CX} {T : List Dsc} {R : RM} {c e : Nat} {n1 n2 : Nat} {s0 : Int32} {m : M2} {r : (Int32 × M2)} (hX : XR X 1 n1 n2) (hG : Geo T R c e) (hf : f_X12_isWall_23 s0 m = some r) (hk : FnZ X cX12_isWall RX12 1 T n1 n2 (r.1, mk r.2 R)) : Wp X cX12_isWall RX12 1 T (mk m R) n1 n2 23 [] [.int s0] := by
  unfold f_X12_isWall_23 at hf
  obtain ⟨v1, h2, hf⟩ := bnd hf
  refine Wp.zb' h2 (fun h2 => ?_)
  cases hf
  exact hk _ _ h2 dX12_isWall_23
set_option maxHeartbeats 4000000 in
set_option maxRecDepth 100000 in
theorem w_X12_isWall_18 {X : CX} {T : List Dsc} {R : RM} {c e : Nat} {n1 n2 : Nat} {m : M2} {r : (Int32 × M2)} (hX : XR X 1 n1 n2) (hG : Geo T R c e) (hf : f_X12_isWall_18 m = some r) (hk : FnZ X cX12_isWall RX12 1 T n1 n2 (r.1, mk r.2 R)) : Wp X cX12_isWall RX12 1 T (mk m R) n1 n2 18 [] [] := by
  unfold f_X12_isWall_18 at hf
  refine Wp.iconst (pc := 18) (1 : Int32) (by decide) dX12_isWall_18 ?_
  refine Wp.goto (pc := 19) 23 dX12_isWall_19 (by decide) ?_
  exact w_X12_isWall_23 hX hG hf hk
set_option maxHeartbeats 4000000 in
set_option maxRecDepth 100000 in
theorem w_X12_isWall {X : CX} {T : List Dsc} {R : RM} {c e : Nat} {n1 n2 : Nat} {x0 : Int32} {m : M2} {r : (Int32 × M2)} (hX : XR X 1 n1 n2) (hG : Geo T R c e) (hf : F_X12_isWall x0 m = some r) (hk : FnZ X cX12_isWall RX12 1 T n1 n2 (r.1, mk r.2 R)) : Wp X cX12_isWall RX12 1 T (mk m R) n1 n2 0 [(0, .int x0)] [] := by
  unfold F_X12_isWall at hf
  refine Wp.iload_n (pc := 0) 0 rfl rfl dX12_isWall_0 ?_
  refine Wp.bipush (pc := 1) (6 : Int32) (by decide) dX12_isWall_1 ?_
  refine Wp.icmp_eq (pc := 3) 18 dX12_isWall_3 (by decide) (fun hc1 => ?_) (fun hc1 => ?_)
  · rw [if_pos hc1] at hf
    refine Wp.lo' (lo' := []) [] rfl ?_
    exact w_X12_isWall_18 hX hG hf hk
  · rw [if_neg hc1] at hf
    refine Wp.iload_n (pc := 6) 0 rfl rfl dX12_isWall_6 ?_
    refine Wp.bipush (pc := 7) (36 : Int32) (by decide) dX12_isWall_7 ?_
    refine Wp.icmp_eq (pc := 9) 18 dX12_isWall_9 (by decide) (fun hc2 => ?_) (fun hc2 => ?_)
    · rw [if_pos hc2] at hf
      refine Wp.lo' (lo' := []) [] rfl ?_
      exact w_X12_isWall_18 hX hG hf hk
    · rw [if_neg hc2] at hf
      refine Wp.iload_n (pc := 12) 0 rfl rfl dX12_isWall_12 ?_
      refine Wp.bipush (pc := 13) (16 : Int32) (by decide) dX12_isWall_13 ?_
      refine Wp.icmp_ne (pc := 15) 22 dX12_isWall_15 (by decide) (fun hc3 => ?_) (fun hc3 => ?_)
      · rw [if_neg hc3] at hf
        refine Wp.iconst (pc := 22) (0 : Int32) (by decide) dX12_isWall_22 ?_
        refine Wp.lo' (lo' := []) [] rfl ?_
        exact w_X12_isWall_23 hX hG hf hk
      · rw [if_pos hc3] at hf
        refine Wp.lo' (lo' := []) [] rfl ?_
        exact w_X12_isWall_18 hX hG hf hk
theorem c_X12_isWall {T : List Dsc} {R : RM} {c e : Nat} {x0 : Int32} {m : M2} {r : (Int32 × M2)} (hG : Geo T R c e) (hf : F_X12_isWall x0 m = some r) : Ct 1 yX12_isWall cX12_isWall 1 (some .boolean) T (mk m R) [.int x0] (some (.int r.1)) (mk r.2 R) := Ct.ofZ (r := (r.1, mk r.2 R)) (by decide +kernel) (Nat.le_of_ble_eq_true rfl) (fun X hX hk => w_X12_isWall hX hG hf hk)
theorem dX12_comesOut_0 : decode cX12_comesOut 0 = .ok (.aload_n 0, 1) := by decide +kernel
theorem dX12_comesOut_1 : decode cX12_comesOut 1 = .ok (.getfield 363, 3) := by decide +kernel
theorem dX12_comesOut_4 : decode cX12_comesOut 4 = .ok (.ifCond .le 88, 3) := by decide +kernel
theorem dX12_comesOut_7 : decode cX12_comesOut 7 = .ok (.aload_n 0, 1) := by decide +kernel
theorem dX12_comesOut_8 : decode cX12_comesOut 8 = .ok (.getfield 125, 3) := by decide +kernel
theorem dX12_comesOut_11 : decode cX12_comesOut 11 = .ok (.aload_n 0, 1) := by decide +kernel
theorem dX12_comesOut_12 : decode cX12_comesOut 12 = .ok (.getfield 363, 3) := by decide +kernel
theorem dX12_comesOut_15 : decode cX12_comesOut 15 = .ok (.iconst 1, 1) := by decide +kernel
theorem dX12_comesOut_16 : decode cX12_comesOut 16 = .ok (.isub, 1) := by decide +kernel
theorem dX12_comesOut_17 : decode cX12_comesOut 17 = .ok (.iaload, 1) := by decide +kernel
theorem dX12_comesOut_18 : decode cX12_comesOut 18 = .ok (.istore_n 2, 1) := by decide +kernel
theorem dX12_comesOut_19 : decode cX12_comesOut 19 = .ok (.iload_n 2, 1) := by decide +kernel
theorem dX12_comesOut_20 : decode cX12_comesOut 20 = .ok (.invokestatic 366, 3) := by decide +kernel
theorem dX12_comesOut_23 : decode cX12_comesOut 23 = .ok (.ifCond .ne 19, 3) := by decide +kernel
theorem dX12_comesOut_26 : decode cX12_comesOut 26 = .ok (.iload_n 1, 1) := by decide +kernel
theorem dX12_comesOut_27 : decode cX12_comesOut 27 = .ok (.ifCond .eq 16, 3) := by decide +kernel
theorem dX12_comesOut_30 : decode cX12_comesOut 30 = .ok (.iload_n 2, 1) := by decide +kernel
theorem dX12_comesOut_31 : decode cX12_comesOut 31 = .ok (.bipush 8, 2) := by decide +kernel
theorem dX12_comesOut_33 : decode cX12_comesOut 33 = .ok (.if_icmp .eq 9, 3) := by decide +kernel
theorem dX12_comesOut_36 : decode cX12_comesOut 36 = .ok (.iload_n 2, 1) := by decide +kernel
theorem dX12_comesOut_37 : decode cX12_comesOut 37 = .ok (.bipush 9, 2) := by decide +kernel
theorem dX12_comesOut_39 : decode cX12_comesOut 39 = .ok (.if_icmp .ne 4, 3) := by decide +kernel
theorem dX12_comesOut_42 : decode cX12_comesOut 42 = .ok (.return_, 1) := by decide +kernel
theorem dX12_comesOut_43 : decode cX12_comesOut 43 = .ok (.aload_n 0, 1) := by decide +kernel
theorem dX12_comesOut_44 : decode cX12_comesOut 44 = .ok (.dup, 1) := by decide +kernel
theorem dX12_comesOut_45 : decode cX12_comesOut 45 = .ok (.getfield 363, 3) := by decide +kernel
theorem dX12_comesOut_48 : decode cX12_comesOut 48 = .ok (.iconst 1, 1) := by decide +kernel
theorem dX12_comesOut_49 : decode cX12_comesOut 49 = .ok (.isub, 1) := by decide +kernel
theorem dX12_comesOut_50 : decode cX12_comesOut 50 = .ok (.putfield 363, 3) := by decide +kernel
theorem dX12_comesOut_53 : decode cX12_comesOut 53 = .ok (.aload_n 0, 1) := by decide +kernel
theorem dX12_comesOut_54 : decode cX12_comesOut 54 = .ok (.iload_n 2, 1) := by decide +kernel
theorem dX12_comesOut_55 : decode cX12_comesOut 55 = .ok (.bipush 8, 2) := by decide +kernel
theorem dX12_comesOut_57 : decode cX12_comesOut 57 = .ok (.if_icmp .ne 7, 3) := by decide +kernel
theorem dX12_comesOut_60 : decode cX12_comesOut 60 = .ok (.iconst 2, 1) := by decide +kernel
theorem dX12_comesOut_61 : decode cX12_comesOut 61 = .ok (.goto 24, 3) := by decide +kernel
theorem dX12_comesOut_64 : decode cX12_comesOut 64 = .ok (.iload_n 2, 1) := by decide +kernel
theorem dX12_comesOut_65 : decode cX12_comesOut 65 = .ok (.bipush 9, 2) := by decide +kernel
theorem dX12_comesOut_67 : decode cX12_comesOut 67 = .ok (.if_icmp .ne 7, 3) := by decide +kernel
theorem dX12_comesOut_70 : decode cX12_comesOut 70 = .ok (.iconst 3, 1) := by decide +kernel
theorem dX12_comesOut_71 : decode cX12_comesOut 71 = .ok (.goto 14, 3) := by decide +kernel
theorem dX12_comesOut_74 : decode cX12_comesOut 74 = .ok (.iload_n 2, 1) := by decide +kernel
theorem dX12_comesOut_75 : decode cX12_comesOut 75 = .ok (.bipush 10, 2) := by decide +kernel
theorem dX12_comesOut_77 : decode cX12_comesOut 77 = .ok (.if_icmp .ne 7, 3) := by decide +kernel
theorem dX12_comesOut_80 : decode cX12_comesOut 80 = .ok (.iconst 4, 1) := by decide +kernel
theorem dX12_comesOut_81 : decode cX12_comesOut 81 = .ok (.goto 4, 3) := by decide +kernel
theorem dX12_comesOut_84 : decode cX12_comesOut 84 = .ok (.iconst 5, 1) := by decide +kernel
theorem dX12_comesOut_85 : decode cX12_comesOut 85 = .ok (.iconst 0, 1) := by decide +kernel
theorem dX12_comesOut_86 : decode cX12_comesOut 86 = .ok (.invokevirtual 369, 3) := by decide +kernel
theorem dX12_comesOut_89 : decode cX12_comesOut 89 = .ok (.goto (-89), 3) := by decide +kernel
theorem dX12_comesOut_92 : decode cX12_comesOut 92 = .ok (.return_, 1) := by decide +kernel
def k_X12_comesOut_0 (X : CX) (T : List Dsc) (R : RM) (n1 n2 : Nat) (x1 : Int32) (r : ((M2) ⊕ ((M2) ⊕ (M2)))) : Prop := match r with
  | .inl s => Wp X cX12_comesOut RX12 3 T (mk s R) n1 n2 0 [(0, .ref 56), (1, .int x1)] []
  | .inr (.inl e) => Wp X cX12_comesOut RX12 3 T (mk e R) n1 n2 42 [] []
  | .inr (.inr e) => Wp X cX12_comesOut RX12 3 T (mk e R) n1 n2 92 [] []
set_option maxHeartbeats 4000000 in
set_option maxRecDepth 100000 in
theorem w_X12_comesOut_85 {X : CX} {T : List Dsc} {R : RM} {c e : Nat} {n1 n2 : Nat} {x1 : Int32} {s1 : Int32} {m : M2} {r : ((M2) ⊕ ((M2) ⊕ (M2)))} (hX : XR X 2 n1 n2) (hG : Geo T R c e) (hf : f_X12_comesOut_85 x1 s1 m = some r) (hk : k_X12_comesOut_0 X T R n1 n2 x1 r) : Wp X cX12_comesOut RX12 3 T (mk m R) n1 n2 85 [(0, .ref 56), (1, .int x1)] [.int s1, .ref 56] := by
  unfold f_X12_comesOut_85 at hf
  refine Wp.iconst (pc := 85) (0 : Int32) (by decide) dX12_comesOut_85 ?_
  obtain ⟨c1, h2, hf⟩ := bnd hf
  refine Wp.callVv (pc := 86) (st := []) (as := [.int s1, .int (0 : Int32)]) (c_X12_emit hG h2) ml_RX12_369 mv_X12_emit mb_X12_emit hX (Nat.le_of_ble_eq_true rfl) (by decide) rfl (hG.t 56 rfl) rfl (by simp) dX12_comesOut_86 rfl ?_
  refine Wp.goto (pc := 89) 0 dX12_comesOut_89 (by decide) ?_
  cases hf
  exact hk
set_option maxHeartbeats 4000000 in
set_option maxRecDepth 100000 in
theorem w_X12_comesOut_43 {X : CX} {T : List Dsc} {R : RM} {c e : Nat} {n1 n2 : Nat} {x1 : Int32} {x2 : Int32} {m : M2} {r : ((M2) ⊕ ((M2) ⊕ (M2)))} (hX : XR X 2 n1 n2) (hG : Geo T R c e) (hf : f_X12_comesOut_43 x1 x2 m = some r) (hk : k_X12_comesOut_0 X T R n1 n2 x1 r) : Wp X cX12_comesOut RX12 3 T (mk m R) n1 n2 43 [(0, .ref 56), (1, .int x1), (2, .int x2)] [] := by
  unfold f_X12_comesOut_43 at hf
  refine Wp.aload_n (pc := 43) 0 rfl rfl dX12_comesOut_43 ?_
  refine Wp.dup (pc := 44) rfl dX12_comesOut_44 ?_
  refine Wp.getI2 (pc := 45) (hG.t 56 rfl) fk_RX12_363 rfl dX12_comesOut_45 ?_
  refine Wp.iconst (pc := 48) (1 : Int32) (by decide) dX12_comesOut_48 ?_
  refine Wp.isub (pc := 49) dX12_comesOut_49 ?_
  obtain ⟨m1, h2, hf⟩ := bnd hf
  refine Wp.ptI2 (pc := 50) h2 (hG.t 56 rfl) fk_RX12_363 ff_RX12_11_54 rfl dX12_comesOut_50 ?_
  refine Wp.aload_n (pc := 53) 0 rfl rfl dX12_comesOut_53 ?_
  refine Wp.iload_n (pc := 54) 2 rfl rfl dX12_comesOut_54 ?_
  refine Wp.bipush (pc := 55) (8 : Int32) (by decide) dX12_comesOut_55 ?_
  refine Wp.icmp_ne (pc := 57) 64 dX12_comesOut_57 (by decide) (fun hc3 => ?_) (fun hc3 => ?_)
  · rw [if_neg hc3] at hf
    refine Wp.iload_n (pc := 64) 2 rfl rfl dX12_comesOut_64 ?_
    refine Wp.bipush (pc := 65) (9 : Int32) (by decide) dX12_comesOut_65 ?_
    refine Wp.icmp_ne (pc := 67) 74 dX12_comesOut_67 (by decide) (fun hc4 => ?_) (fun hc4 => ?_)
    · rw [if_neg hc4] at hf
      refine Wp.iload_n (pc := 74) 2 rfl rfl dX12_comesOut_74 ?_
      refine Wp.bipush (pc := 75) (10 : Int32) (by decide) dX12_comesOut_75 ?_
      refine Wp.icmp_ne (pc := 77) 84 dX12_comesOut_77 (by decide) (fun hc5 => ?_) (fun hc5 => ?_)
      · rw [if_neg hc5] at hf
        refine Wp.iconst (pc := 84) (5 : Int32) (by decide) dX12_comesOut_84 ?_
        refine Wp.lo' (lo' := [(0, .ref 56), (1, .int x1)]) [0, 1] rfl ?_
        exact w_X12_comesOut_85 hX hG hf hk
      · rw [if_pos hc5] at hf
        refine Wp.iconst (pc := 80) (4 : Int32) (by decide) dX12_comesOut_80 ?_
        refine Wp.goto (pc := 81) 85 dX12_comesOut_81 (by decide) ?_
        refine Wp.lo' (lo' := [(0, .ref 56), (1, .int x1)]) [0, 1] rfl ?_
        exact w_X12_comesOut_85 hX hG hf hk
    · rw [if_pos hc4] at hf
      refine Wp.iconst (pc := 70) (3 : Int32) (by decide) dX12_comesOut_70 ?_
      refine Wp.goto (pc := 71) 85 dX12_comesOut_71 (by decide) ?_
      refine Wp.lo' (lo' := [(0, .ref 56), (1, .int x1)]) [0, 1] rfl ?_
      exact w_X12_comesOut_85 hX hG hf hk
  · rw [if_pos hc3] at hf
    refine Wp.iconst (pc := 60) (2 : Int32) (by decide) dX12_comesOut_60 ?_
    refine Wp.goto (pc := 61) 85 dX12_comesOut_61 (by decide) ?_
    refine Wp.lo' (lo' := [(0, .ref 56), (1, .int x1)]) [0, 1] rfl ?_
    exact w_X12_comesOut_85 hX hG hf hk
set_option maxHeartbeats 4000000 in
set_option maxRecDepth 100000 in
theorem w_X12_comesOut_0 {X : CX} {T : List Dsc} {R : RM} {c e : Nat} {n1 n2 : Nat} {x1 : Int32} {m : M2} {r : ((M2) ⊕ ((M2) ⊕ (M2)))} (hX : XR X 2 n1 n2) (hG : Geo T R c e) (hf : f_X12_comesOut_0 x1 m = some r) (hk : k_X12_comesOut_0 X T R n1 n2 x1 r) : Wp X cX12_comesOut RX12 3 T (mk m R) n1 n2 0 [(0, .ref 56), (1, .int x1)] [] := by
  unfold f_X12_comesOut_0 at hf
  refine Wp.aload_n (pc := 0) 0 rfl rfl dX12_comesOut_0 ?_
  refine Wp.getI2 (pc := 1) (hG.t 56 rfl) fk_RX12_363 rfl dX12_comesOut_1 ?_
  refine Wp.if_le (pc := 4) 92 dX12_comesOut_4 (by decide) (fun hc1 => ?_) (fun hc1 => ?_)
  · rw [if_pos hc1] at hf
    refine Wp.lo' (lo' := []) [] rfl ?_
    cases hf
    exact hk
  · rw [if_neg hc1] at hf
    refine Wp.aload_n (pc := 7) 0 rfl rfl dX12_comesOut_7 ?_
    refine Wp.getR2 (pc := 8) (hG.r 56 53 rfl) (hG.t 56 rfl) fk_RX12_125 rfl dX12_comesOut_8 ?_
    refine Wp.aload_n (pc := 11) 0 rfl rfl dX12_comesOut_11 ?_
    refine Wp.getI2 (pc := 12) (hG.t 56 rfl) fk_RX12_363 rfl dX12_comesOut_12 ?_
    refine Wp.iconst (pc := 15) (1 : Int32) (by decide) dX12_comesOut_15 ?_
    refine Wp.isub (pc := 16) dX12_comesOut_16 ?_
    obtain ⟨v2, h3, hf⟩ := bnd hf
    refine Wp.iald2 (pc := 17) h3 (hG.a 92 0 rfl) dX12_comesOut_17 ?_
    refine Wp.istore_n (pc := 18) (lo' := [(0, .ref 56), (1, .int x1), (2, .int v2)]) [1, 2, 0] rfl (by decide) rfl dX12_comesOut_18 ?_
    refine Wp.iload_n (pc := 19) 2 rfl rfl dX12_comesOut_19 ?_
    obtain ⟨c4, h5, hf⟩ := bnd hf
    refine Wp.callSi (pc := 20) (st := []) (as := [.int v2]) (c_X12_isWall hG h5) ml_RX12_366 ms_X12_isWall mb_X12_isWall hX (Nat.le_of_ble_eq_true rfl) (by decide) rfl (by simp) dX12_comesOut_20 rfl ?_
    refine Wp.if_ne (pc := 23) 42 dX12_comesOut_23 (by decide) (fun hc6 => ?_) (fun hc6 => ?_)
    · rw [if_neg hc6] at hf
      refine Wp.lo' (lo' := []) [] rfl ?_
      cases hf
      exact hk
    · rw [if_pos hc6] at hf
      refine Wp.iload_n (pc := 26) 1 rfl rfl dX12_comesOut_26 ?_
      refine Wp.if_eq (pc := 27) 43 dX12_comesOut_27 (by decide) (fun hc7 => ?_) (fun hc7 => ?_)
      · rw [if_pos hc7] at hf
        exact w_X12_comesOut_43 hX hG hf hk
      · rw [if_neg hc7] at hf
        refine Wp.iload_n (pc := 30) 2 rfl rfl dX12_comesOut_30 ?_
        refine Wp.bipush (pc := 31) (8 : Int32) (by decide) dX12_comesOut_31 ?_
        refine Wp.icmp_eq (pc := 33) 42 dX12_comesOut_33 (by decide) (fun hc8 => ?_) (fun hc8 => ?_)
        · rw [if_pos hc8] at hf
          refine Wp.lo' (lo' := []) [] rfl ?_
          cases hf
          exact hk
        · rw [if_neg hc8] at hf
          refine Wp.iload_n (pc := 36) 2 rfl rfl dX12_comesOut_36 ?_
          refine Wp.bipush (pc := 37) (9 : Int32) (by decide) dX12_comesOut_37 ?_
          refine Wp.icmp_ne (pc := 39) 43 dX12_comesOut_39 (by decide) (fun hc9 => ?_) (fun hc9 => ?_)
          · rw [if_neg hc9] at hf
            exact w_X12_comesOut_43 hX hG hf hk
          · rw [if_pos hc9] at hf
            refine Wp.lo' (lo' := []) [] rfl ?_
            cases hf
            exact hk
theorem wl_X12_comesOut_0 {X : CX} {T : List Dsc} {R : RM} {c e : Nat} {n1 n2 : Nat} {x1 : Int32} {m : M2} {e1 : ((M2) ⊕ (M2))} (hX : XR X 2 n1 n2) (hG : Geo T R c e) (h : loop (g_X12_comesOut_0 x1) m = some e1) (he0 : ∀ e_, e1 = (Sum.inl e_) → Wp X cX12_comesOut RX12 3 T (mk e_ R) n1 n2 42 [] []) (he1 : ∀ e_, e1 = (Sum.inr e_) → Wp X cX12_comesOut RX12 3 T (mk e_ R) n1 n2 92 [] []) : Wp X cX12_comesOut RX12 3 T (mk m R) n1 n2 0 [(0, .ref 56), (1, .int x1)] [] :=
  loop_ok (K := k_X12_comesOut_0 X T R n1 n2 x1) (fun s r hf hk => w_X12_comesOut_0 hX hG hf hk) h (by rcases e1 with e_ | e_ <;> first | exact he0 _ rfl | exact he1 _ rfl)
set_option maxHeartbeats 4000000 in
set_option maxRecDepth 100000 in
theorem w_X12_comesOut_42 {X : CX} {T : List Dsc} {R : RM} {c e : Nat} {n1 n2 : Nat} {m : M2} {r : M2} (hX : XR X 2 n1 n2) (hG : Geo T R c e) (hf : f_X12_comesOut_42 m = some r) (hk : FnV X cX12_comesOut RX12 3 T n1 n2 (mk r R)) : Wp X cX12_comesOut RX12 3 T (mk m R) n1 n2 42 [] [] := by
  unfold f_X12_comesOut_42 at hf
  cases hf
  exact hk _ _ dX12_comesOut_42
set_option maxHeartbeats 4000000 in
set_option maxRecDepth 100000 in
theorem w_X12_comesOut {X : CX} {T : List Dsc} {R : RM} {c e : Nat} {n1 n2 : Nat} {x1 : Int32} {m : M2} {r : M2} (hX : XR X 2 n1 n2) (hG : Geo T R c e) (hf : F_X12_comesOut x1 m = some r) (hk : FnV X cX12_comesOut RX12 3 T n1 n2 (mk r R)) : Wp X cX12_comesOut RX12 3 T (mk m R) n1 n2 0 [(0, .ref 56), (1, .int x1)] [] := by
  unfold F_X12_comesOut at hf
  obtain ⟨e1, h2, hf⟩ := bnd hf
  refine wl_X12_comesOut_0 hX hG h2 (fun e1_0 hq => ?_) (fun e1_1 hq => ?_)
  · rw [hq, Sum.elim_inl] at hf
    exact w_X12_comesOut_42 hX hG hf hk
  · rw [hq, Sum.elim_inr] at hf
    cases hf
    exact hk _ _ dX12_comesOut_92
theorem c_X12_comesOut {T : List Dsc} {R : RM} {c e : Nat} {x1 : Int32} {m : M2} {r : M2} (hG : Geo T R c e) (hf : F_X12_comesOut x1 m = some r) : Ct 2 yX12_comesOut cX12_comesOut 3 none T (mk m R) [.ref 56, .int x1] none (mk r R) := Ct.ofV (r := mk r R) (by decide +kernel) (Nat.le_of_ble_eq_true rfl) (fun X hX hk => w_X12_comesOut hX hG hf hk)
theorem dX12_closesMany_0 : decode cX12_closesMany 0 = .ok (.aload_n 0, 1) := by decide +kernel
theorem dX12_closesMany_1 : decode cX12_closesMany 1 = .ok (.getfield 254, 3) := by decide +kernel
theorem dX12_closesMany_4 : decode cX12_closesMany 4 = .ok (.ifCond .ne 154, 3) := by decide +kernel
theorem dX12_closesMany_7 : decode cX12_closesMany 7 = .ok (.aload_n 0, 1) := by decide +kernel
theorem dX12_closesMany_8 : decode cX12_closesMany 8 = .ok (.getfield 281, 3) := by decide +kernel
theorem dX12_closesMany_11 : decode cX12_closesMany 11 = .ok (.iload_n 1, 1) := by decide +kernel
theorem dX12_closesMany_12 : decode cX12_closesMany 12 = .ok (.if_icmp .le 146, 3) := by decide +kernel
theorem dX12_closesMany_15 : decode cX12_closesMany 15 = .ok (.aload_n 0, 1) := by decide +kernel
theorem dX12_closesMany_16 : decode cX12_closesMany 16 = .ok (.bipush 7, 2) := by decide +kernel
theorem dX12_closesMany_18 : decode cX12_closesMany 18 = .ok (.invokevirtual 272, 3) := by decide +kernel
theorem dX12_closesMany_21 : decode cX12_closesMany 21 = .ok (.ifCond .ne 12, 3) := by decide +kernel
theorem dX12_closesMany_24 : decode cX12_closesMany 24 = .ok (.aload_n 0, 1) := by decide +kernel
theorem dX12_closesMany_25 : decode cX12_closesMany 25 = .ok (.bipush 16, 2) := by decide +kernel
theorem dX12_closesMany_27 : decode cX12_closesMany 27 = .ok (.invokevirtual 272, 3) := by decide +kernel
theorem dX12_closesMany_30 : decode cX12_closesMany 30 = .ok (.ifCond .eq 128, 3) := by decide +kernel
theorem dX12_closesMany_33 : decode cX12_closesMany 33 = .ok (.aload_n 0, 1) := by decide +kernel
theorem dX12_closesMany_34 : decode cX12_closesMany 34 = .ok (.iconst 0, 1) := by decide +kernel
theorem dX12_closesMany_35 : decode cX12_closesMany 35 = .ok (.invokevirtual 384, 3) := by decide +kernel
theorem dX12_closesMany_38 : decode cX12_closesMany 38 = .ok (.aload_n 0, 1) := by decide +kernel
theorem dX12_closesMany_39 : decode cX12_closesMany 39 = .ok (.getfield 125, 3) := by decide +kernel
theorem dX12_closesMany_42 : decode cX12_closesMany 42 = .ok (.aload_n 0, 1) := by decide +kernel
theorem dX12_closesMany_43 : decode cX12_closesMany 43 = .ok (.getfield 363, 3) := by decide +kernel
theorem dX12_closesMany_46 : decode cX12_closesMany 46 = .ok (.iconst 1, 1) := by decide +kernel
theorem dX12_closesMany_47 : decode cX12_closesMany 47 = .ok (.isub, 1) := by decide +kernel
theorem dX12_closesMany_48 : decode cX12_closesMany 48 = .ok (.iaload, 1) := by decide +kernel
theorem dX12_closesMany_49 : decode cX12_closesMany 49 = .ok (.istore_n 2, 1) := by decide +kernel
theorem dX12_closesMany_50 : decode cX12_closesMany 50 = .ok (.aload_n 0, 1) := by decide +kernel
theorem dX12_closesMany_51 : decode cX12_closesMany 51 = .ok (.bipush 16, 2) := by decide +kernel
theorem dX12_closesMany_53 : decode cX12_closesMany 53 = .ok (.invokevirtual 272, 3) := by decide +kernel
theorem dX12_closesMany_56 : decode cX12_closesMany 56 = .ok (.ifCond .eq 42, 3) := by decide +kernel
theorem dX12_closesMany_59 : decode cX12_closesMany 59 = .ok (.iload_n 2, 1) := by decide +kernel
theorem dX12_closesMany_60 : decode cX12_closesMany 60 = .ok (.bipush 36, 2) := by decide +kernel
theorem dX12_closesMany_62 : decode cX12_closesMany 62 = .ok (.if_icmp .eq 8, 3) := by decide +kernel
theorem dX12_closesMany_65 : decode cX12_closesMany 65 = .ok (.aload_n 0, 1) := by decide +kernel
theorem dX12_closesMany_66 : decode cX12_closesMany 66 = .ok (.iconst 1, 1) := by decide +kernel
theorem dX12_closesMany_67 : decode cX12_closesMany 67 = .ok (.invokevirtual 269, 3) := by decide +kernel
theorem dX12_closesMany_70 : decode cX12_closesMany 70 = .ok (.aload_n 0, 1) := by decide +kernel
theorem dX12_closesMany_71 : decode cX12_closesMany 71 = .ok (.getfield 254, 3) := by decide +kernel
theorem dX12_closesMany_74 : decode cX12_closesMany 74 = .ok (.ifCond .le 5, 3) := by decide +kernel
theorem dX12_closesMany_77 : decode cX12_closesMany 77 = .ok (.iconst 0, 1) := by decide +kernel
theorem dX12_closesMany_78 : decode cX12_closesMany 78 = .ok (.ireturn, 1) := by decide +kernel
theorem dX12_closesMany_79 : decode cX12_closesMany 79 = .ok (.aload_n 0, 1) := by decide +kernel
theorem dX12_closesMany_80 : decode cX12_closesMany 80 = .ok (.getfield 125, 3) := by decide +kernel
theorem dX12_closesMany_83 : decode cX12_closesMany 83 = .ok (.aload_n 0, 1) := by decide +kernel
theorem dX12_closesMany_84 : decode cX12_closesMany 84 = .ok (.getfield 363, 3) := by decide +kernel
theorem dX12_closesMany_87 : decode cX12_closesMany 87 = .ok (.iconst 1, 1) := by decide +kernel
theorem dX12_closesMany_88 : decode cX12_closesMany 88 = .ok (.isub, 1) := by decide +kernel
theorem dX12_closesMany_89 : decode cX12_closesMany 89 = .ok (.bipush 16, 2) := by decide +kernel
theorem dX12_closesMany_91 : decode cX12_closesMany 91 = .ok (.iastore, 1) := by decide +kernel
theorem dX12_closesMany_92 : decode cX12_closesMany 92 = .ok (.aload_n 0, 1) := by decide +kernel
theorem dX12_closesMany_93 : decode cX12_closesMany 93 = .ok (.invokevirtual 275, 3) := by decide +kernel
theorem dX12_closesMany_96 : decode cX12_closesMany 96 = .ok (.iconst 1, 1) := by decide +kernel
theorem dX12_closesMany_97 : decode cX12_closesMany 97 = .ok (.ireturn, 1) := by decide +kernel
theorem dX12_closesMany_98 : decode cX12_closesMany 98 = .ok (.iload_n 2, 1) := by decide +kernel
theorem dX12_closesMany_99 : decode cX12_closesMany 99 = .ok (.bipush 36, 2) := by decide +kernel
theorem dX12_closesMany_101 : decode cX12_closesMany 101 = .ok (.if_icmp .ne 8, 3) := by decide +kernel
theorem dX12_closesMany_104 : decode cX12_closesMany 104 = .ok (.aload_n 0, 1) := by decide +kernel
theorem dX12_closesMany_105 : decode cX12_closesMany 105 = .ok (.iconst 1, 1) := by decide +kernel
theorem dX12_closesMany_106 : decode cX12_closesMany 106 = .ok (.invokevirtual 269, 3) := by decide +kernel
theorem dX12_closesMany_109 : decode cX12_closesMany 109 = .ok (.aload_n 0, 1) := by decide +kernel
theorem dX12_closesMany_110 : decode cX12_closesMany 110 = .ok (.getfield 254, 3) := by decide +kernel
theorem dX12_closesMany_113 : decode cX12_closesMany 113 = .ok (.ifCond .le 5, 3) := by decide +kernel
theorem dX12_closesMany_116 : decode cX12_closesMany 116 = .ok (.iconst 0, 1) := by decide +kernel
theorem dX12_closesMany_117 : decode cX12_closesMany 117 = .ok (.ireturn, 1) := by decide +kernel
theorem dX12_closesMany_118 : decode cX12_closesMany 118 = .ok (.iload_n 2, 1) := by decide +kernel
theorem dX12_closesMany_119 : decode cX12_closesMany 119 = .ok (.bipush 16, 2) := by decide +kernel
theorem dX12_closesMany_121 : decode cX12_closesMany 121 = .ok (.if_icmp .ne 10, 3) := by decide +kernel
theorem dX12_closesMany_124 : decode cX12_closesMany 124 = .ok (.aload_n 0, 1) := by decide +kernel
theorem dX12_closesMany_125 : decode cX12_closesMany 125 = .ok (.bipush 6, 2) := by decide +kernel
theorem dX12_closesMany_127 : decode cX12_closesMany 127 = .ok (.iconst 0, 1) := by decide +kernel
theorem dX12_closesMany_128 : decode cX12_closesMany 128 = .ok (.invokevirtual 369, 3) := by decide +kernel
theorem dX12_closesMany_131 : decode cX12_closesMany 131 = .ok (.aload_n 0, 1) := by decide +kernel
theorem dX12_closesMany_132 : decode cX12_closesMany 132 = .ok (.dup, 1) := by decide +kernel
theorem dX12_closesMany_133 : decode cX12_closesMany 133 = .ok (.getfield 363, 3) := by decide +kernel
theorem dX12_closesMany_136 : decode cX12_closesMany 136 = .ok (.iconst 1, 1) := by decide +kernel
theorem dX12_closesMany_137 : decode cX12_closesMany 137 = .ok (.isub, 1) := by decide +kernel
theorem dX12_closesMany_138 : decode cX12_closesMany 138 = .ok (.putfield 363, 3) := by decide +kernel
theorem dX12_closesMany_141 : decode cX12_closesMany 141 = .ok (.aload_n 0, 1) := by decide +kernel
theorem dX12_closesMany_142 : decode cX12_closesMany 142 = .ok (.dup, 1) := by decide +kernel
theorem dX12_closesMany_143 : decode cX12_closesMany 143 = .ok (.getfield 281, 3) := by decide +kernel
theorem dX12_closesMany_146 : decode cX12_closesMany 146 = .ok (.iconst 1, 1) := by decide +kernel
theorem dX12_closesMany_147 : decode cX12_closesMany 147 = .ok (.isub, 1) := by decide +kernel
theorem dX12_closesMany_148 : decode cX12_closesMany 148 = .ok (.putfield 281, 3) := by decide +kernel
theorem dX12_closesMany_151 : decode cX12_closesMany 151 = .ok (.aload_n 0, 1) := by decide +kernel
theorem dX12_closesMany_152 : decode cX12_closesMany 152 = .ok (.invokevirtual 275, 3) := by decide +kernel
theorem dX12_closesMany_155 : decode cX12_closesMany 155 = .ok (.goto (-155), 3) := by decide +kernel
theorem dX12_closesMany_158 : decode cX12_closesMany 158 = .ok (.iconst 0, 1) := by decide +kernel
theorem dX12_closesMany_159 : decode cX12_closesMany 159 = .ok (.ireturn, 1) := by decide +kernel
def k_X12_closesMany_0 (X : CX) (T : List Dsc) (R : RM) (n1 n2 : Nat) (x1 : Int32) (r : ((M2) ⊕ ((Int32 × M2) ⊕ (M2) ⊕ (M2)))) : Prop := match r with
  | .inl s => Wp X cX12_closesMany RX12 3 T (mk s R) n1 n2 0 [(0, .ref 56), (1, .int x1)] []
  | .inr (.inl e) => Wp X cX12_closesMany RX12 3 T (mk e.2 R) n1 n2 59 [(0, .ref 56), (2, .int e.1)] []
  | .inr (.inr (.inl e)) => Wp X cX12_closesMany RX12 3 T (mk e R) n1 n2 116 [] []
  | .inr (.inr (.inr e)) => Wp X cX12_closesMany RX12 3 T (mk e R) n1 n2 158 [] []
set_option maxHeartbeats 4000000 in
set_option maxRecDepth 100000 in
theorem w_X12_closesMany_131 {X : CX} {T : List Dsc} {R : RM} {c e : Nat} {n1 n2 : Nat} {x1 : Int32} {m : M2} {r : ((M2) ⊕ ((Int32 × M2) ⊕ (M2) ⊕ (M2)))} (hX : XR X 3 n1 n2) (hG : Geo T R c e) (hf : f_X12_closesMany_131 x1 m = some r) (hk : k_X12_closesMany_0 X T R n1 n2 x1 r) : Wp X cX12_closesMany RX12 3 T (mk m R) n1 n2 131 [(0, .ref 56), (1, .int x1)] [] := by
  unfold f_X12_closesMany_131 at hf
  refine Wp.aload_n (pc := 131) 0 rfl rfl dX12_closesMany_131 ?_
  refine Wp.dup (pc := 132) rfl dX12_closesMany_132 ?_
  refine Wp.getI2 (pc := 133) (hG.t 56 rfl) fk_RX12_363 rfl dX12_closesMany_133 ?_
  refine Wp.iconst (pc := 136) (1 : Int32) (by decide) dX12_closesMany_136 ?_
  refine Wp.isub (pc := 137) dX12_closesMany_137 ?_
  obtain ⟨m1, h2, hf⟩ := bnd hf
  refine Wp.ptI2 (pc := 138) h2 (hG.t 56 rfl) fk_RX12_363 ff_RX12_11_54 rfl dX12_closesMany_138 ?_
  refine Wp.aload_n (pc := 141) 0 rfl rfl dX12_closesMany_141 ?_
  refine Wp.dup (pc := 142) rfl dX12_closesMany_142 ?_
  refine Wp.getI2 (pc := 143) (hG.t 56 rfl) fk_RX12_281 rfl dX12_closesMany_143 ?_
  refine Wp.iconst (pc := 146) (1 : Int32) (by decide) dX12_closesMany_146 ?_
  refine Wp.isub (pc := 147) dX12_closesMany_147 ?_
  obtain ⟨m3, h4, hf⟩ := bnd hf
  refine Wp.ptI2 (pc := 148) h4 (hG.t 56 rfl) fk_RX12_281 ff_RX12_11_12 rfl dX12_closesMany_148 ?_
  refine Wp.aload_n (pc := 151) 0 rfl rfl dX12_closesMany_151 ?_
  obtain ⟨c5, h6, hf⟩ := bnd hf
  refine Wp.callVv (pc := 152) (st := []) (as := []) (c_X12_goesOn hG h6) ml_RX12_275 mv_X12_goesOn mb_X12_goesOn hX (Nat.le_of_ble_eq_true rfl) (by decide) rfl (hG.t 56 rfl) rfl (by simp) dX12_closesMany_152 rfl ?_
  refine Wp.goto (pc := 155) 0 dX12_closesMany_155 (by decide) ?_
  cases hf
  exact hk
set_option maxHeartbeats 4000000 in
set_option maxRecDepth 100000 in
theorem w_X12_closesMany_109 {X : CX} {T : List Dsc} {R : RM} {c e : Nat} {n1 n2 : Nat} {x1 : Int32} {x2 : Int32} {m : M2} {r : ((M2) ⊕ ((Int32 × M2) ⊕ (M2) ⊕ (M2)))} (hX : XR X 3 n1 n2) (hG : Geo T R c e) (hf : f_X12_closesMany_109 x1 x2 m = some r) (hk : k_X12_closesMany_0 X T R n1 n2 x1 r) : Wp X cX12_closesMany RX12 3 T (mk m R) n1 n2 109 [(0, .ref 56), (1, .int x1), (2, .int x2)] [] := by
  unfold f_X12_closesMany_109 at hf
  refine Wp.aload_n (pc := 109) 0 rfl rfl dX12_closesMany_109 ?_
  refine Wp.getI2 (pc := 110) (hG.t 56 rfl) fk_RX12_254 rfl dX12_closesMany_110 ?_
  refine Wp.if_le (pc := 113) 118 dX12_closesMany_113 (by decide) (fun hc1 => ?_) (fun hc1 => ?_)
  · rw [if_pos hc1] at hf
    refine Wp.iload_n (pc := 118) 2 rfl rfl dX12_closesMany_118 ?_
    refine Wp.bipush (pc := 119) (16 : Int32) (by decide) dX12_closesMany_119 ?_
    refine Wp.icmp_ne (pc := 121) 131 dX12_closesMany_121 (by decide) (fun hc2 => ?_) (fun hc2 => ?_)
    · rw [if_neg hc2] at hf
      refine Wp.lo' (lo' := [(0, .ref 56), (1, .int x1)]) [0, 1] rfl ?_
      exact w_X12_closesMany_131 hX hG hf hk
    · rw [if_pos hc2] at hf
      refine Wp.aload_n (pc := 124) 0 rfl rfl dX12_closesMany_124 ?_
      refine Wp.bipush (pc := 125) (6 : Int32) (by decide) dX12_closesMany_125 ?_
      refine Wp.iconst (pc := 127) (0 : Int32) (by decide) dX12_closesMany_127 ?_
      obtain ⟨c3, h4, hf⟩ := bnd hf
      refine Wp.callVv (pc := 128) (st := []) (as := [.int (6 : Int32), .int (0 : Int32)]) (c_X12_emit hG h4) ml_RX12_369 mv_X12_emit mb_X12_emit hX (Nat.le_of_ble_eq_true rfl) (by decide) rfl (hG.t 56 rfl) rfl (by simp) dX12_closesMany_128 rfl ?_
      refine Wp.lo' (lo' := [(0, .ref 56), (1, .int x1)]) [0, 1] rfl ?_
      exact w_X12_closesMany_131 hX hG hf hk
  · rw [if_neg hc1] at hf
    refine Wp.lo' (lo' := []) [] rfl ?_
    cases hf
    exact hk
set_option maxHeartbeats 4000000 in
set_option maxRecDepth 100000 in
theorem w_X12_closesMany_33 {X : CX} {T : List Dsc} {R : RM} {c e : Nat} {n1 n2 : Nat} {x1 : Int32} {m : M2} {r : ((M2) ⊕ ((Int32 × M2) ⊕ (M2) ⊕ (M2)))} (hX : XR X 3 n1 n2) (hG : Geo T R c e) (hf : f_X12_closesMany_33 x1 m = some r) (hk : k_X12_closesMany_0 X T R n1 n2 x1 r) : Wp X cX12_closesMany RX12 3 T (mk m R) n1 n2 33 [(0, .ref 56), (1, .int x1)] [] := by
  unfold f_X12_closesMany_33 at hf
  refine Wp.aload_n (pc := 33) 0 rfl rfl dX12_closesMany_33 ?_
  refine Wp.iconst (pc := 34) (0 : Int32) (by decide) dX12_closesMany_34 ?_
  obtain ⟨c1, h2, hf⟩ := bnd hf
  refine Wp.callVv (pc := 35) (st := []) (as := [.int (0 : Int32)]) (c_X12_comesOut hG h2) ml_RX12_384 mv_X12_comesOut mb_X12_comesOut hX (Nat.le_of_ble_eq_true rfl) (by decide) rfl (hG.t 56 rfl) rfl (by simp) dX12_closesMany_35 rfl ?_
  refine Wp.aload_n (pc := 38) 0 rfl rfl dX12_closesMany_38 ?_
  refine Wp.getR2 (pc := 39) (hG.r 56 53 rfl) (hG.t 56 rfl) fk_RX12_125 rfl dX12_closesMany_39 ?_
  refine Wp.aload_n (pc := 42) 0 rfl rfl dX12_closesMany_42 ?_
  refine Wp.getI2 (pc := 43) (hG.t 56 rfl) fk_RX12_363 rfl dX12_closesMany_43 ?_
  refine Wp.iconst (pc := 46) (1 : Int32) (by decide) dX12_closesMany_46 ?_
  refine Wp.isub (pc := 47) dX12_closesMany_47 ?_
  obtain ⟨v3, h4, hf⟩ := bnd hf
  refine Wp.iald2 (pc := 48) h4 (hG.a 92 0 rfl) dX12_closesMany_48 ?_
  refine Wp.istore_n (pc := 49) (lo' := [(0, .ref 56), (1, .int x1), (2, .int v3)]) [1, 2, 0] rfl (by decide) rfl dX12_closesMany_49 ?_
  refine Wp.aload_n (pc := 50) 0 rfl rfl dX12_closesMany_50 ?_
  refine Wp.bipush (pc := 51) (16 : Int32) (by decide) dX12_closesMany_51 ?_
  obtain ⟨c5, h6, hf⟩ := bnd hf
  refine Wp.callVi (pc := 53) (st := []) (as := [.int (16 : Int32)]) (c_X12_is hG h6) ml_RX12_272 mv_X12_is mb_X12_is hX (Nat.le_of_ble_eq_true rfl) (by decide) rfl (hG.t 56 rfl) rfl (by simp) dX12_closesMany_53 rfl ?_
  refine Wp.if_eq (pc := 56) 98 dX12_closesMany_56 (by decide) (fun hc7 => ?_) (fun hc7 => ?_)
  · rw [if_pos hc7] at hf
    refine Wp.iload_n (pc := 98) 2 rfl rfl dX12_closesMany_98 ?_
    refine Wp.bipush (pc := 99) (36 : Int32) (by decide) dX12_closesMany_99 ?_
    refine Wp.icmp_ne (pc := 101) 109 dX12_closesMany_101 (by decide) (fun hc8 => ?_) (fun hc8 => ?_)
    · rw [if_neg hc8] at hf
      exact w_X12_closesMany_109 hX hG hf hk
    · rw [if_pos hc8] at hf
      refine Wp.aload_n (pc := 104) 0 rfl rfl dX12_closesMany_104 ?_
      refine Wp.iconst (pc := 105) (1 : Int32) (by decide) dX12_closesMany_105 ?_
      obtain ⟨c9, h10, hf⟩ := bnd hf
      refine Wp.callVv (pc := 106) (st := []) (as := [.int (1 : Int32)]) (c_X12_fail hG h10) ml_RX12_269 mv_X12_fail mb_X12_fail hX (Nat.le_of_ble_eq_true rfl) (by decide) rfl (hG.t 56 rfl) rfl (by simp) dX12_closesMany_106 rfl ?_
      exact w_X12_closesMany_109 hX hG hf hk
  · rw [if_neg hc7] at hf
    refine Wp.lo' (lo' := [(0, .ref 56), (2, .int v3)]) [0, 2] rfl ?_
    cases hf
    exact hk
set_option maxHeartbeats 4000000 in
set_option maxRecDepth 100000 in
theorem w_X12_closesMany_0 {X : CX} {T : List Dsc} {R : RM} {c e : Nat} {n1 n2 : Nat} {x1 : Int32} {m : M2} {r : ((M2) ⊕ ((Int32 × M2) ⊕ (M2) ⊕ (M2)))} (hX : XR X 3 n1 n2) (hG : Geo T R c e) (hf : f_X12_closesMany_0 x1 m = some r) (hk : k_X12_closesMany_0 X T R n1 n2 x1 r) : Wp X cX12_closesMany RX12 3 T (mk m R) n1 n2 0 [(0, .ref 56), (1, .int x1)] [] := by
  unfold f_X12_closesMany_0 at hf
  refine Wp.aload_n (pc := 0) 0 rfl rfl dX12_closesMany_0 ?_
  refine Wp.getI2 (pc := 1) (hG.t 56 rfl) fk_RX12_254 rfl dX12_closesMany_1 ?_
  refine Wp.if_ne (pc := 4) 158 dX12_closesMany_4 (by decide) (fun hc1 => ?_) (fun hc1 => ?_)
  · rw [if_neg hc1] at hf
    refine Wp.lo' (lo' := []) [] rfl ?_
    cases hf
    exact hk
  · rw [if_pos hc1] at hf
    refine Wp.aload_n (pc := 7) 0 rfl rfl dX12_closesMany_7 ?_
    refine Wp.getI2 (pc := 8) (hG.t 56 rfl) fk_RX12_281 rfl dX12_closesMany_8 ?_
    refine Wp.iload_n (pc := 11) 1 rfl rfl dX12_closesMany_11 ?_
    refine Wp.icmp_le (pc := 12) 158 dX12_closesMany_12 (by decide) (fun hc2 => ?_) (fun hc2 => ?_)
    · rw [if_pos hc2] at hf
      refine Wp.lo' (lo' := []) [] rfl ?_
      cases hf
      exact hk
    · rw [if_neg hc2] at hf
      refine Wp.aload_n (pc := 15) 0 rfl rfl dX12_closesMany_15 ?_
      refine Wp.bipush (pc := 16) (7 : Int32) (by decide) dX12_closesMany_16 ?_
      obtain ⟨c3, h4, hf⟩ := bnd hf
      refine Wp.callVi (pc := 18) (st := []) (as := [.int (7 : Int32)]) (c_X12_is hG h4) ml_RX12_272 mv_X12_is mb_X12_is hX (Nat.le_of_ble_eq_true rfl) (by decide) rfl (hG.t 56 rfl) rfl (by simp) dX12_closesMany_18 rfl ?_
      refine Wp.if_ne (pc := 21) 33 dX12_closesMany_21 (by decide) (fun hc5 => ?_) (fun hc5 => ?_)
      · rw [if_neg hc5] at hf
        exact w_X12_closesMany_33 hX hG hf hk
      · rw [if_pos hc5] at hf
        refine Wp.aload_n (pc := 24) 0 rfl rfl dX12_closesMany_24 ?_
        refine Wp.bipush (pc := 25) (16 : Int32) (by decide) dX12_closesMany_25 ?_
        obtain ⟨c6, h7, hf⟩ := bnd hf
        refine Wp.callVi (pc := 27) (st := []) (as := [.int (16 : Int32)]) (c_X12_is hG h7) ml_RX12_272 mv_X12_is mb_X12_is hX (Nat.le_of_ble_eq_true rfl) (by decide) rfl (hG.t 56 rfl) rfl (by simp) dX12_closesMany_27 rfl ?_
        refine Wp.if_eq (pc := 30) 158 dX12_closesMany_30 (by decide) (fun hc8 => ?_) (fun hc8 => ?_)
        · rw [if_pos hc8] at hf
          refine Wp.lo' (lo' := []) [] rfl ?_
          cases hf
          exact hk
        · rw [if_neg hc8] at hf
          exact w_X12_closesMany_33 hX hG hf hk
theorem wl_X12_closesMany_0 {X : CX} {T : List Dsc} {R : RM} {c e : Nat} {n1 n2 : Nat} {x1 : Int32} {m : M2} {e1 : ((Int32 × M2) ⊕ (M2) ⊕ (M2))} (hX : XR X 3 n1 n2) (hG : Geo T R c e) (h : loop (g_X12_closesMany_0 x1) m = some e1) (he0 : ∀ e_, e1 = (Sum.inl e_) → Wp X cX12_closesMany RX12 3 T (mk e_.2 R) n1 n2 59 [(0, .ref 56), (2, .int e_.1)] []) (he1 : ∀ e_, e1 = (Sum.inr (Sum.inl e_)) → Wp X cX12_closesMany RX12 3 T (mk e_ R) n1 n2 116 [] []) (he2 : ∀ e_, e1 = (Sum.inr (Sum.inr e_)) → Wp X cX12_closesMany RX12 3 T (mk e_ R) n1 n2 158 [] []) : Wp X cX12_closesMany RX12 3 T (mk m R) n1 n2 0 [(0, .ref 56), (1, .int x1)] [] :=
  loop_ok (K := k_X12_closesMany_0 X T R n1 n2 x1) (fun s r hf hk => w_X12_closesMany_0 hX hG hf hk) h (by rcases e1 with e_ | e_ | e_ <;> first | exact he0 _ rfl | exact he1 _ rfl | exact he2 _ rfl)
set_option maxHeartbeats 4000000 in
set_option maxRecDepth 100000 in
theorem w_X12_closesMany_70 {X : CX} {T : List Dsc} {R : RM} {c e : Nat} {n1 n2 : Nat} {m : M2} {r : (Int32 × M2)} (hX : XR X 3 n1 n2) (hG : Geo T R c e) (hf : f_X12_closesMany_70 m = some r) (hk : FnZ X cX12_closesMany RX12 3 T n1 n2 (r.1, mk r.2 R)) : Wp X cX12_closesMany RX12 3 T (mk m R) n1 n2 70 [(0, .ref 56)] [] := by
  unfold f_X12_closesMany_70 at hf
  refine Wp.aload_n (pc := 70) 0 rfl rfl dX12_closesMany_70 ?_
  refine Wp.getI2 (pc := 71) (hG.t 56 rfl) fk_RX12_254 rfl dX12_closesMany_71 ?_
  refine Wp.if_le (pc := 74) 79 dX12_closesMany_74 (by decide) (fun hc1 => ?_) (fun hc1 => ?_)
  · rw [if_pos hc1] at hf
    refine Wp.aload_n (pc := 79) 0 rfl rfl dX12_closesMany_79 ?_
    refine Wp.getR2 (pc := 80) (hG.r 56 53 rfl) (hG.t 56 rfl) fk_RX12_125 rfl dX12_closesMany_80 ?_
    refine Wp.aload_n (pc := 83) 0 rfl rfl dX12_closesMany_83 ?_
    refine Wp.getI2 (pc := 84) (hG.t 56 rfl) fk_RX12_363 rfl dX12_closesMany_84 ?_
    refine Wp.iconst (pc := 87) (1 : Int32) (by decide) dX12_closesMany_87 ?_
    refine Wp.isub (pc := 88) dX12_closesMany_88 ?_
    refine Wp.bipush (pc := 89) (16 : Int32) (by decide) dX12_closesMany_89 ?_
    obtain ⟨m2, h3, hf⟩ := bnd hf
    refine Wp.iast2 (pc := 91) h3 (hG.a 92 0 rfl) dX12_closesMany_91 ?_
    refine Wp.aload_n (pc := 92) 0 rfl rfl dX12_closesMany_92 ?_
    obtain ⟨c4, h5, hf⟩ := bnd hf
    refine Wp.callVv (pc := 93) (st := []) (as := []) (c_X12_goesOn hG h5) ml_RX12_275 mv_X12_goesOn mb_X12_goesOn hX (Nat.le_of_ble_eq_true rfl) (by decide) rfl (hG.t 56 rfl) rfl (by simp) dX12_closesMany_93 rfl ?_
    refine Wp.iconst (pc := 96) (1 : Int32) (by decide) dX12_closesMany_96 ?_
    cases hf
    exact hk _ _ (Or.inr rfl) dX12_closesMany_97
  · rw [if_neg hc1] at hf
    refine Wp.iconst (pc := 77) (0 : Int32) (by decide) dX12_closesMany_77 ?_
    cases hf
    exact hk _ _ (Or.inl rfl) dX12_closesMany_78
set_option maxHeartbeats 4000000 in
set_option maxRecDepth 100000 in
theorem w_X12_closesMany_158 {X : CX} {T : List Dsc} {R : RM} {c e : Nat} {n1 n2 : Nat} {m : M2} {r : (Int32 × M2)} (hX : XR X 3 n1 n2) (hG : Geo T R c e) (hf : f_X12_closesMany_158 m = some r) (hk : FnZ X cX12_closesMany RX12 3 T n1 n2 (r.1, mk r.2 R)) : Wp X cX12_closesMany RX12 3 T (mk m R) n1 n2 158 [] [] := by
  unfold f_X12_closesMany_158 at hf
  refine Wp.iconst (pc := 158) (0 : Int32) (by decide) dX12_closesMany_158 ?_
  cases hf
  exact hk _ _ (Or.inl rfl) dX12_closesMany_159
set_option maxHeartbeats 4000000 in
set_option maxRecDepth 100000 in
theorem w_X12_closesMany {X : CX} {T : List Dsc} {R : RM} {c e : Nat} {n1 n2 : Nat} {x1 : Int32} {m : M2} {r : (Int32 × M2)} (hX : XR X 3 n1 n2) (hG : Geo T R c e) (hf : F_X12_closesMany x1 m = some r) (hk : FnZ X cX12_closesMany RX12 3 T n1 n2 (r.1, mk r.2 R)) : Wp X cX12_closesMany RX12 3 T (mk m R) n1 n2 0 [(0, .ref 56), (1, .int x1)] [] := by
  unfold F_X12_closesMany at hf
  obtain ⟨e1, h2, hf⟩ := bnd hf
  refine wl_X12_closesMany_0 hX hG h2 (fun e1_0 hq => ?_) (fun e1_1 hq => ?_) (fun e1_2 hq => ?_)
  · rw [hq, Sum.elim_inl] at hf
    refine Wp.iload_n (pc := 59) 1 rfl rfl dX12_closesMany_59 ?_
    refine Wp.bipush (pc := 60) (36 : Int32) (by decide) dX12_closesMany_60 ?_
    refine Wp.icmp_eq (pc := 62) 70 dX12_closesMany_62 (by decide) (fun hc3 => ?_) (fun hc3 => ?_)
    · rw [if_pos hc3] at hf
      refine Wp.lo' (lo' := [(0, .ref 56)]) [0] rfl ?_
      exact w_X12_closesMany_70 hX hG hf hk
    · rw [if_neg hc3] at hf
      refine Wp.aload_n (pc := 65) 0 rfl rfl dX12_closesMany_65 ?_
      refine Wp.iconst (pc := 66) (1 : Int32) (by decide) dX12_closesMany_66 ?_
      obtain ⟨c4, h5, hf⟩ := bnd hf
      refine Wp.callVv (pc := 67) (st := []) (as := [.int (1 : Int32)]) (c_X12_fail hG h5) ml_RX12_269 mv_X12_fail mb_X12_fail hX (Nat.le_of_ble_eq_true rfl) (by decide) rfl (hG.t 56 rfl) rfl (by simp) dX12_closesMany_67 rfl ?_
      refine Wp.lo' (lo' := [(0, .ref 56)]) [0] rfl ?_
      exact w_X12_closesMany_70 hX hG hf hk
  · rw [hq, Sum.elim_inr, Sum.elim_inl] at hf
    refine Wp.iconst (pc := 116) (0 : Int32) (by decide) dX12_closesMany_116 ?_
    cases hf
    exact hk _ _ (Or.inl rfl) dX12_closesMany_117
  · rw [hq, Sum.elim_inr, Sum.elim_inr] at hf
    exact w_X12_closesMany_158 hX hG hf hk
theorem c_X12_closesMany {T : List Dsc} {R : RM} {c e : Nat} {x1 : Int32} {m : M2} {r : (Int32 × M2)} (hG : Geo T R c e) (hf : F_X12_closesMany x1 m = some r) : Ct 3 yX12_closesMany cX12_closesMany 3 (some .boolean) T (mk m R) [.ref 56, .int x1] (some (.int r.1)) (mk r.2 R) := Ct.ofZ (r := (r.1, mk r.2 R)) (by decide +kernel) (Nat.le_of_ble_eq_true rfl) (fun X hX hk => w_X12_closesMany hX hG hf hk)
