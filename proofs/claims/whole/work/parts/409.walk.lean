theorem dX12_tell_0 : decode cX12_tell 0 = .ok (.aload_n 0, 1) := by decide +kernel
theorem dX12_tell_1 : decode cX12_tell 1 = .ok (.getfield 20, 3) := by decide +kernel
theorem dX12_tell_4 : decode cX12_tell 4 = .ok (.aload_n 0, 1) := by decide +kernel
theorem dX12_tell_5 : decode cX12_tell 5 = .ok (.getfield 257, 3) := by decide +kernel
theorem dX12_tell_8 : decode cX12_tell 8 = .ok (.iaload, 1) := by decide +kernel
theorem dX12_tell_9 : decode cX12_tell 9 = .ok (.tableswitch 231 20 28 #[51, 79, 231, 231, 231, 108, 137, 178, 203], 51) := by decide +kernel
theorem dX12_tell_60 : decode cX12_tell 60 = .ok (.aload_n 0, 1) := by decide +kernel
theorem dX12_tell_61 : decode cX12_tell 61 = .ok (.invokevirtual 275, 3) := by decide +kernel
theorem dX12_tell_64 : decode cX12_tell 64 = .ok (.aload_n 0, 1) := by decide +kernel
theorem dX12_tell_65 : decode cX12_tell 65 = .ok (.getfield 46, 3) := by decide +kernel
theorem dX12_tell_68 : decode cX12_tell 68 = .ok (.aload_n 0, 1) := by decide +kernel
theorem dX12_tell_69 : decode cX12_tell 69 = .ok (.getfield 287, 3) := by decide +kernel
theorem dX12_tell_72 : decode cX12_tell 72 = .ok (.aload_n 0, 1) := by decide +kernel
theorem dX12_tell_73 : decode cX12_tell 73 = .ok (.iconst 3, 1) := by decide +kernel
theorem dX12_tell_74 : decode cX12_tell 74 = .ok (.bipush 24, 2) := by decide +kernel
theorem dX12_tell_76 : decode cX12_tell 76 = .ok (.invokevirtual 317, 3) := by decide +kernel
theorem dX12_tell_79 : decode cX12_tell 79 = .ok (.iastore, 1) := by decide +kernel
theorem dX12_tell_80 : decode cX12_tell 80 = .ok (.aload_n 0, 1) := by decide +kernel
theorem dX12_tell_81 : decode cX12_tell 81 = .ok (.iconst 4, 1) := by decide +kernel
theorem dX12_tell_82 : decode cX12_tell 82 = .ok (.invokevirtual 321, 3) := by decide +kernel
theorem dX12_tell_85 : decode cX12_tell 85 = .ok (.goto 160, 3) := by decide +kernel
theorem dX12_tell_88 : decode cX12_tell 88 = .ok (.aload_n 0, 1) := by decide +kernel
theorem dX12_tell_89 : decode cX12_tell 89 = .ok (.aload_n 0, 1) := by decide +kernel
theorem dX12_tell_90 : decode cX12_tell 90 = .ok (.getfield 49, 3) := by decide +kernel
theorem dX12_tell_93 : decode cX12_tell 93 = .ok (.aload_n 0, 1) := by decide +kernel
theorem dX12_tell_94 : decode cX12_tell 94 = .ok (.getfield 287, 3) := by decide +kernel
theorem dX12_tell_97 : decode cX12_tell 97 = .ok (.iaload, 1) := by decide +kernel
theorem dX12_tell_98 : decode cX12_tell 98 = .ok (.bipush 6, 2) := by decide +kernel
theorem dX12_tell_100 : decode cX12_tell 100 = .ok (.invokevirtual 324, 3) := by decide +kernel
theorem dX12_tell_103 : decode cX12_tell 103 = .ok (.aload_n 0, 1) := by decide +kernel
theorem dX12_tell_104 : decode cX12_tell 104 = .ok (.getfield 254, 3) := by decide +kernel
theorem dX12_tell_107 : decode cX12_tell 107 = .ok (.ifCond .ne 138, 3) := by decide +kernel
theorem dX12_tell_110 : decode cX12_tell 110 = .ok (.aload_n 0, 1) := by decide +kernel
theorem dX12_tell_111 : decode cX12_tell 111 = .ok (.invokevirtual 328, 3) := by decide +kernel
theorem dX12_tell_114 : decode cX12_tell 114 = .ok (.goto 131, 3) := by decide +kernel
theorem dX12_tell_117 : decode cX12_tell 117 = .ok (.aload_n 0, 1) := by decide +kernel
theorem dX12_tell_118 : decode cX12_tell 118 = .ok (.aload_n 0, 1) := by decide +kernel
theorem dX12_tell_119 : decode cX12_tell 119 = .ok (.getfield 70, 3) := by decide +kernel
theorem dX12_tell_122 : decode cX12_tell 122 = .ok (.aload_n 0, 1) := by decide +kernel
theorem dX12_tell_123 : decode cX12_tell 123 = .ok (.getfield 287, 3) := by decide +kernel
theorem dX12_tell_126 : decode cX12_tell 126 = .ok (.iaload, 1) := by decide +kernel
theorem dX12_tell_127 : decode cX12_tell 127 = .ok (.bipush 12, 2) := by decide +kernel
theorem dX12_tell_129 : decode cX12_tell 129 = .ok (.invokevirtual 324, 3) := by decide +kernel
theorem dX12_tell_132 : decode cX12_tell 132 = .ok (.aload_n 0, 1) := by decide +kernel
theorem dX12_tell_133 : decode cX12_tell 133 = .ok (.getfield 254, 3) := by decide +kernel
theorem dX12_tell_136 : decode cX12_tell 136 = .ok (.ifCond .ne 109, 3) := by decide +kernel
theorem dX12_tell_139 : decode cX12_tell 139 = .ok (.aload_n 0, 1) := by decide +kernel
theorem dX12_tell_140 : decode cX12_tell 140 = .ok (.invokevirtual 331, 3) := by decide +kernel
theorem dX12_tell_143 : decode cX12_tell 143 = .ok (.goto 102, 3) := by decide +kernel
theorem dX12_tell_146 : decode cX12_tell 146 = .ok (.aload_n 0, 1) := by decide +kernel
theorem dX12_tell_147 : decode cX12_tell 147 = .ok (.invokevirtual 275, 3) := by decide +kernel
theorem dX12_tell_150 : decode cX12_tell 150 = .ok (.aload_n 0, 1) := by decide +kernel
theorem dX12_tell_151 : decode cX12_tell 151 = .ok (.getfield 79, 3) := by decide +kernel
theorem dX12_tell_154 : decode cX12_tell 154 = .ok (.aload_n 0, 1) := by decide +kernel
theorem dX12_tell_155 : decode cX12_tell 155 = .ok (.getfield 287, 3) := by decide +kernel
theorem dX12_tell_158 : decode cX12_tell 158 = .ok (.aload_n 0, 1) := by decide +kernel
theorem dX12_tell_159 : decode cX12_tell 159 = .ok (.invokevirtual 334, 3) := by decide +kernel
theorem dX12_tell_162 : decode cX12_tell 162 = .ok (.iastore, 1) := by decide +kernel
theorem dX12_tell_163 : decode cX12_tell 163 = .ok (.aload_n 0, 1) := by decide +kernel
theorem dX12_tell_164 : decode cX12_tell 164 = .ok (.getfield 82, 3) := by decide +kernel
theorem dX12_tell_167 : decode cX12_tell 167 = .ok (.aload_n 0, 1) := by decide +kernel
theorem dX12_tell_168 : decode cX12_tell 168 = .ok (.getfield 287, 3) := by decide +kernel
theorem dX12_tell_171 : decode cX12_tell 171 = .ok (.aload_n 0, 1) := by decide +kernel
theorem dX12_tell_172 : decode cX12_tell 172 = .ok (.iconst 0, 1) := by decide +kernel
theorem dX12_tell_173 : decode cX12_tell 173 = .ok (.bipush 23, 2) := by decide +kernel
theorem dX12_tell_175 : decode cX12_tell 175 = .ok (.invokevirtual 317, 3) := by decide +kernel
theorem dX12_tell_178 : decode cX12_tell 178 = .ok (.iastore, 1) := by decide +kernel
theorem dX12_tell_179 : decode cX12_tell 179 = .ok (.aload_n 0, 1) := by decide +kernel
theorem dX12_tell_180 : decode cX12_tell 180 = .ok (.iconst 4, 1) := by decide +kernel
theorem dX12_tell_181 : decode cX12_tell 181 = .ok (.invokevirtual 321, 3) := by decide +kernel
theorem dX12_tell_184 : decode cX12_tell 184 = .ok (.goto 61, 3) := by decide +kernel
theorem dX12_tell_187 : decode cX12_tell 187 = .ok (.aload_n 0, 1) := by decide +kernel
theorem dX12_tell_188 : decode cX12_tell 188 = .ok (.invokevirtual 275, 3) := by decide +kernel
theorem dX12_tell_191 : decode cX12_tell 191 = .ok (.aload_n 0, 1) := by decide +kernel
theorem dX12_tell_192 : decode cX12_tell 192 = .ok (.getfield 85, 3) := by decide +kernel
theorem dX12_tell_195 : decode cX12_tell 195 = .ok (.aload_n 0, 1) := by decide +kernel
theorem dX12_tell_196 : decode cX12_tell 196 = .ok (.getfield 287, 3) := by decide +kernel
theorem dX12_tell_199 : decode cX12_tell 199 = .ok (.aload_n 0, 1) := by decide +kernel
theorem dX12_tell_200 : decode cX12_tell 200 = .ok (.invokevirtual 334, 3) := by decide +kernel
theorem dX12_tell_203 : decode cX12_tell 203 = .ok (.iastore, 1) := by decide +kernel
theorem dX12_tell_204 : decode cX12_tell 204 = .ok (.aload_n 0, 1) := by decide +kernel
theorem dX12_tell_205 : decode cX12_tell 205 = .ok (.iconst 4, 1) := by decide +kernel
theorem dX12_tell_206 : decode cX12_tell 206 = .ok (.invokevirtual 321, 3) := by decide +kernel
theorem dX12_tell_209 : decode cX12_tell 209 = .ok (.goto 36, 3) := by decide +kernel
theorem dX12_tell_212 : decode cX12_tell 212 = .ok (.aload_n 0, 1) := by decide +kernel
theorem dX12_tell_213 : decode cX12_tell 213 = .ok (.aload_n 0, 1) := by decide +kernel
theorem dX12_tell_214 : decode cX12_tell 214 = .ok (.getfield 88, 3) := by decide +kernel
theorem dX12_tell_217 : decode cX12_tell 217 = .ok (.aload_n 0, 1) := by decide +kernel
theorem dX12_tell_218 : decode cX12_tell 218 = .ok (.getfield 287, 3) := by decide +kernel
theorem dX12_tell_221 : decode cX12_tell 221 = .ok (.iaload, 1) := by decide +kernel
theorem dX12_tell_222 : decode cX12_tell 222 = .ok (.iconst 4, 1) := by decide +kernel
theorem dX12_tell_223 : decode cX12_tell 223 = .ok (.invokevirtual 324, 3) := by decide +kernel
theorem dX12_tell_226 : decode cX12_tell 226 = .ok (.aload_n 0, 1) := by decide +kernel
theorem dX12_tell_227 : decode cX12_tell 227 = .ok (.getfield 254, 3) := by decide +kernel
theorem dX12_tell_230 : decode cX12_tell 230 = .ok (.ifCond .ne 15, 3) := by decide +kernel
theorem dX12_tell_233 : decode cX12_tell 233 = .ok (.aload_n 0, 1) := by decide +kernel
theorem dX12_tell_234 : decode cX12_tell 234 = .ok (.invokevirtual 338, 3) := by decide +kernel
theorem dX12_tell_237 : decode cX12_tell 237 = .ok (.goto 8, 3) := by decide +kernel
theorem dX12_tell_240 : decode cX12_tell 240 = .ok (.aload_n 0, 1) := by decide +kernel
theorem dX12_tell_241 : decode cX12_tell 241 = .ok (.iconst 1, 1) := by decide +kernel
theorem dX12_tell_242 : decode cX12_tell 242 = .ok (.invokevirtual 269, 3) := by decide +kernel
theorem dX12_tell_245 : decode cX12_tell 245 = .ok (.return_, 1) := by decide +kernel
set_option maxHeartbeats 4000000 in
set_option maxRecDepth 100000 in
theorem w_X12_tell_245 {X : CX} {T : List Dsc} {n1 n2 : Nat} {μ : Mem} {r : Mem} (hX : XR X 8 n1 n2) (hf : f_X12_tell_245 T μ = some r) (hk : FnV X cX12_tell RX12 1 T n1 n2 r) : Wp X cX12_tell RX12 1 T μ n1 n2 245 [] [] := by
  unfold f_X12_tell_245 at hf
  cases hf
  exact hk _ _ dX12_tell_245
set_option maxHeartbeats 4000000 in
set_option maxRecDepth 100000 in
theorem w_X12_tell {X : CX} {T : List Dsc} {n1 n2 : Nat} {x0 : Nat} {μ : Mem} {r : Mem} (hX : XR X 8 n1 n2) (hx0 : T[x0]? = some (.inl 11)) (hf : F_X12_tell T x0 μ = some r) (hk : FnV X cX12_tell RX12 1 T n1 n2 r) : Wp X cX12_tell RX12 1 T μ n1 n2 0 [(0, .ref x0)] [] := by
  unfold F_X12_tell at hf
  refine Wp.aload_n (pc := 0) 0 rfl rfl dX12_tell_0 ?_
  obtain ⟨a1, h2, hf⟩ := bnd hf
  refine Wp.getR (pc := 1) (gA_R h2) hx0 fk_RX12_20 rfl dX12_tell_1 ?_
  refine Wp.aload_n (pc := 4) 0 rfl rfl dX12_tell_4 ?_
  refine Wp.getI (pc := 5) hx0 fk_RX12_257 rfl dX12_tell_5 ?_
  obtain ⟨v3, h4, hf⟩ := bnd hf
  refine Wp.iald (pc := 8) h4 (gA_T h2) dX12_tell_8 ?_
  by_cases hc5 : v3 = (20 : Int32)
  · rw [if_pos hc5] at hf
    refine Wp.swIn (pc := 9) 60 dX12_tell_9 hc5 (by decide) (by decide) rfl (by decide) ?_
    refine Wp.aload_n (pc := 60) 0 rfl rfl dX12_tell_60 ?_
    obtain ⟨c6, h7, hf⟩ := bnd hf
    refine Wp.callVv (pc := 61) (st := []) (as := []) (c_X12_goesOn hx0 h7) ml_RX12_275 mv_X12_goesOn mb_X12_goesOn hX (Nat.le_of_ble_eq_true rfl) (by decide) rfl hx0 rfl (by simp) dX12_tell_61 rfl ?_
    refine Wp.aload_n (pc := 64) 0 rfl rfl dX12_tell_64 ?_
    obtain ⟨a8, h9, hf⟩ := bnd hf
    refine Wp.getR (pc := 65) (gA_R h9) hx0 fk_RX12_46 rfl dX12_tell_65 ?_
    refine Wp.aload_n (pc := 68) 0 rfl rfl dX12_tell_68 ?_
    refine Wp.getI (pc := 69) hx0 fk_RX12_287 rfl dX12_tell_69 ?_
    refine Wp.aload_n (pc := 72) 0 rfl rfl dX12_tell_72 ?_
    refine Wp.iconst (pc := 73) (3 : Int32) (by decide) dX12_tell_73 ?_
    refine Wp.bipush (pc := 74) (24 : Int32) (by decide) dX12_tell_74 ?_
    obtain ⟨c10, h11, hf⟩ := bnd hf
    refine Wp.callVi (pc := 76) (st := [.int (gI c6 x0 19), .ref a8.1]) (as := [.int (3 : Int32), .int (24 : Int32)]) (c_X12_bounded hx0 h11) ml_RX12_317 mv_X12_bounded mb_X12_bounded hX (Nat.le_of_ble_eq_true rfl) (by decide) rfl hx0 rfl (by simp [Value.category]) dX12_tell_76 rfl ?_
    obtain ⟨μ12, h13, hf⟩ := bnd hf
    refine Wp.iast (pc := 79) h13 (gA_T h9) dX12_tell_79 ?_
    refine Wp.aload_n (pc := 80) 0 rfl rfl dX12_tell_80 ?_
    refine Wp.iconst (pc := 81) (4 : Int32) (by decide) dX12_tell_81 ?_
    obtain ⟨c14, h15, hf⟩ := bnd hf
    refine Wp.callVv (pc := 82) (st := []) (as := [.int (4 : Int32)]) (c_X12_must hx0 h15) ml_RX12_321 mv_X12_must mb_X12_must hX (Nat.le_of_ble_eq_true rfl) (by decide) rfl hx0 rfl (by simp) dX12_tell_82 rfl ?_
    refine Wp.goto (pc := 85) 245 dX12_tell_85 (by decide) ?_
    refine Wp.lo' (lo' := []) [] rfl ?_
    exact w_X12_tell_245 hX hf hk
  · rw [if_neg hc5] at hf
    by_cases hc16 : v3 = (21 : Int32)
    · rw [if_pos hc16] at hf
      refine Wp.swIn (pc := 9) 88 dX12_tell_9 hc16 (by decide) (by decide) rfl (by decide) ?_
      refine Wp.aload_n (pc := 88) 0 rfl rfl dX12_tell_88 ?_
      refine Wp.aload_n (pc := 89) 0 rfl rfl dX12_tell_89 ?_
      obtain ⟨a17, h18, hf⟩ := bnd hf
      refine Wp.getR (pc := 90) (gA_R h18) hx0 fk_RX12_49 rfl dX12_tell_90 ?_
      refine Wp.aload_n (pc := 93) 0 rfl rfl dX12_tell_93 ?_
      refine Wp.getI (pc := 94) hx0 fk_RX12_287 rfl dX12_tell_94 ?_
      obtain ⟨v19, h20, hf⟩ := bnd hf
      refine Wp.iald (pc := 97) h20 (gA_T h18) dX12_tell_97 ?_
      refine Wp.bipush (pc := 98) (6 : Int32) (by decide) dX12_tell_98 ?_
      obtain ⟨c21, h22, hf⟩ := bnd hf
      refine Wp.callVv (pc := 100) (st := []) (as := [.int v19, .int (6 : Int32)]) (c_X12_roomFor hx0 h22) ml_RX12_324 mv_X12_roomFor mb_X12_roomFor hX (Nat.le_of_ble_eq_true rfl) (by decide) rfl hx0 rfl (by simp) dX12_tell_100 rfl ?_
      refine Wp.aload_n (pc := 103) 0 rfl rfl dX12_tell_103 ?_
      refine Wp.getI (pc := 104) hx0 fk_RX12_254 rfl dX12_tell_104 ?_
      refine Wp.if_ne (pc := 107) 245 dX12_tell_107 (by decide) (fun hc23 => ?_) (fun hc23 => ?_)
      · rw [if_neg hc23] at hf
        refine Wp.lo' (lo' := []) [] rfl ?_
        exact w_X12_tell_245 hX hf hk
      · rw [if_pos hc23] at hf
        refine Wp.aload_n (pc := 110) 0 rfl rfl dX12_tell_110 ?_
        obtain ⟨c24, h25, hf⟩ := bnd hf
        refine Wp.callVv (pc := 111) (st := []) (as := []) (c_X12_tellLaw hx0 h25) ml_RX12_328 mv_X12_tellLaw mb_X12_tellLaw hX (Nat.le_of_ble_eq_true rfl) (by decide) rfl hx0 rfl (by simp) dX12_tell_111 rfl ?_
        refine Wp.goto (pc := 114) 245 dX12_tell_114 (by decide) ?_
        refine Wp.lo' (lo' := []) [] rfl ?_
        exact w_X12_tell_245 hX hf hk
    · rw [if_neg hc16] at hf
      by_cases hc26 : v3 = (22 : Int32)
      · rw [if_pos hc26] at hf
        refine Wp.swIn (pc := 9) 240 dX12_tell_9 hc26 (by decide) (by decide) rfl (by decide) ?_
        refine Wp.aload_n (pc := 240) 0 rfl rfl dX12_tell_240 ?_
        refine Wp.iconst (pc := 241) (1 : Int32) (by decide) dX12_tell_241 ?_
        obtain ⟨c27, h28, hf⟩ := bnd hf
        refine Wp.callVv (pc := 242) (st := []) (as := [.int (1 : Int32)]) (c_X12_fail hx0 h28) ml_RX12_269 mv_X12_fail mb_X12_fail hX (Nat.le_of_ble_eq_true rfl) (by decide) rfl hx0 rfl (by simp) dX12_tell_242 rfl ?_
        refine Wp.lo' (lo' := []) [] rfl ?_
        exact w_X12_tell_245 hX hf hk
      · rw [if_neg hc26] at hf
        by_cases hc29 : v3 = (23 : Int32)
        · rw [if_pos hc29] at hf
          refine Wp.swIn (pc := 9) 240 dX12_tell_9 hc29 (by decide) (by decide) rfl (by decide) ?_
          refine Wp.aload_n (pc := 240) 0 rfl rfl dX12_tell_240 ?_
          refine Wp.iconst (pc := 241) (1 : Int32) (by decide) dX12_tell_241 ?_
          obtain ⟨c30, h31, hf⟩ := bnd hf
          refine Wp.callVv (pc := 242) (st := []) (as := [.int (1 : Int32)]) (c_X12_fail hx0 h31) ml_RX12_269 mv_X12_fail mb_X12_fail hX (Nat.le_of_ble_eq_true rfl) (by decide) rfl hx0 rfl (by simp) dX12_tell_242 rfl ?_
          refine Wp.lo' (lo' := []) [] rfl ?_
          exact w_X12_tell_245 hX hf hk
        · rw [if_neg hc29] at hf
          by_cases hc32 : v3 = (24 : Int32)
          · rw [if_pos hc32] at hf
            refine Wp.swIn (pc := 9) 240 dX12_tell_9 hc32 (by decide) (by decide) rfl (by decide) ?_
            refine Wp.aload_n (pc := 240) 0 rfl rfl dX12_tell_240 ?_
            refine Wp.iconst (pc := 241) (1 : Int32) (by decide) dX12_tell_241 ?_
            obtain ⟨c33, h34, hf⟩ := bnd hf
            refine Wp.callVv (pc := 242) (st := []) (as := [.int (1 : Int32)]) (c_X12_fail hx0 h34) ml_RX12_269 mv_X12_fail mb_X12_fail hX (Nat.le_of_ble_eq_true rfl) (by decide) rfl hx0 rfl (by simp) dX12_tell_242 rfl ?_
            refine Wp.lo' (lo' := []) [] rfl ?_
            exact w_X12_tell_245 hX hf hk
          · rw [if_neg hc32] at hf
            by_cases hc35 : v3 = (25 : Int32)
            · rw [if_pos hc35] at hf
              refine Wp.swIn (pc := 9) 117 dX12_tell_9 hc35 (by decide) (by decide) rfl (by decide) ?_
              refine Wp.aload_n (pc := 117) 0 rfl rfl dX12_tell_117 ?_
              refine Wp.aload_n (pc := 118) 0 rfl rfl dX12_tell_118 ?_
              obtain ⟨a36, h37, hf⟩ := bnd hf
              refine Wp.getR (pc := 119) (gA_R h37) hx0 fk_RX12_70 rfl dX12_tell_119 ?_
              refine Wp.aload_n (pc := 122) 0 rfl rfl dX12_tell_122 ?_
              refine Wp.getI (pc := 123) hx0 fk_RX12_287 rfl dX12_tell_123 ?_
              obtain ⟨v38, h39, hf⟩ := bnd hf
              refine Wp.iald (pc := 126) h39 (gA_T h37) dX12_tell_126 ?_
              refine Wp.bipush (pc := 127) (12 : Int32) (by decide) dX12_tell_127 ?_
              obtain ⟨c40, h41, hf⟩ := bnd hf
              refine Wp.callVv (pc := 129) (st := []) (as := [.int v38, .int (12 : Int32)]) (c_X12_roomFor hx0 h41) ml_RX12_324 mv_X12_roomFor mb_X12_roomFor hX (Nat.le_of_ble_eq_true rfl) (by decide) rfl hx0 rfl (by simp) dX12_tell_129 rfl ?_
              refine Wp.aload_n (pc := 132) 0 rfl rfl dX12_tell_132 ?_
              refine Wp.getI (pc := 133) hx0 fk_RX12_254 rfl dX12_tell_133 ?_
              refine Wp.if_ne (pc := 136) 245 dX12_tell_136 (by decide) (fun hc42 => ?_) (fun hc42 => ?_)
              · rw [if_neg hc42] at hf
                refine Wp.lo' (lo' := []) [] rfl ?_
                exact w_X12_tell_245 hX hf hk
              · rw [if_pos hc42] at hf
                refine Wp.aload_n (pc := 139) 0 rfl rfl dX12_tell_139 ?_
                obtain ⟨c43, h44, hf⟩ := bnd hf
                refine Wp.callVv (pc := 140) (st := []) (as := []) (c_X12_tellMan hx0 h44) ml_RX12_331 mv_X12_tellMan mb_X12_tellMan hX (Nat.le_of_ble_eq_true rfl) (by decide) rfl hx0 rfl (by simp) dX12_tell_140 rfl ?_
                refine Wp.goto (pc := 143) 245 dX12_tell_143 (by decide) ?_
                refine Wp.lo' (lo' := []) [] rfl ?_
                exact w_X12_tell_245 hX hf hk
            · rw [if_neg hc35] at hf
              by_cases hc45 : v3 = (26 : Int32)
              · rw [if_pos hc45] at hf
                refine Wp.swIn (pc := 9) 146 dX12_tell_9 hc45 (by decide) (by decide) rfl (by decide) ?_
                refine Wp.aload_n (pc := 146) 0 rfl rfl dX12_tell_146 ?_
                obtain ⟨c46, h47, hf⟩ := bnd hf
                refine Wp.callVv (pc := 147) (st := []) (as := []) (c_X12_goesOn hx0 h47) ml_RX12_275 mv_X12_goesOn mb_X12_goesOn hX (Nat.le_of_ble_eq_true rfl) (by decide) rfl hx0 rfl (by simp) dX12_tell_147 rfl ?_
                refine Wp.aload_n (pc := 150) 0 rfl rfl dX12_tell_150 ?_
                obtain ⟨a48, h49, hf⟩ := bnd hf
                refine Wp.getR (pc := 151) (gA_R h49) hx0 fk_RX12_79 rfl dX12_tell_151 ?_
                refine Wp.aload_n (pc := 154) 0 rfl rfl dX12_tell_154 ?_
                refine Wp.getI (pc := 155) hx0 fk_RX12_287 rfl dX12_tell_155 ?_
                refine Wp.aload_n (pc := 158) 0 rfl rfl dX12_tell_158 ?_
                obtain ⟨c50, h51, hf⟩ := bnd hf
                refine Wp.callVi (pc := 159) (st := [.int (gI c46 x0 19), .ref a48.1]) (as := []) (c_X12_part hx0 h51) ml_RX12_334 mv_X12_part mb_X12_part hX (Nat.le_of_ble_eq_true rfl) (by decide) rfl hx0 rfl (by simp [Value.category]) dX12_tell_159 rfl ?_
                obtain ⟨μ52, h53, hf⟩ := bnd hf
                refine Wp.iast (pc := 162) h53 (gA_T h49) dX12_tell_162 ?_
                refine Wp.aload_n (pc := 163) 0 rfl rfl dX12_tell_163 ?_
                obtain ⟨a54, h55, hf⟩ := bnd hf
                refine Wp.getR (pc := 164) (gA_R h55) hx0 fk_RX12_82 rfl dX12_tell_164 ?_
                refine Wp.aload_n (pc := 167) 0 rfl rfl dX12_tell_167 ?_
                refine Wp.getI (pc := 168) hx0 fk_RX12_287 rfl dX12_tell_168 ?_
                refine Wp.aload_n (pc := 171) 0 rfl rfl dX12_tell_171 ?_
                refine Wp.iconst (pc := 172) (0 : Int32) (by decide) dX12_tell_172 ?_
                refine Wp.bipush (pc := 173) (23 : Int32) (by decide) dX12_tell_173 ?_
                obtain ⟨c56, h57, hf⟩ := bnd hf
                refine Wp.callVi (pc := 175) (st := [.int (gI μ52 x0 19), .ref a54.1]) (as := [.int (0 : Int32), .int (23 : Int32)]) (c_X12_bounded hx0 h57) ml_RX12_317 mv_X12_bounded mb_X12_bounded hX (Nat.le_of_ble_eq_true rfl) (by decide) rfl hx0 rfl (by simp [Value.category]) dX12_tell_175 rfl ?_
                obtain ⟨μ58, h59, hf⟩ := bnd hf
                refine Wp.iast (pc := 178) h59 (gA_T h55) dX12_tell_178 ?_
                refine Wp.aload_n (pc := 179) 0 rfl rfl dX12_tell_179 ?_
                refine Wp.iconst (pc := 180) (4 : Int32) (by decide) dX12_tell_180 ?_
                obtain ⟨c60, h61, hf⟩ := bnd hf
                refine Wp.callVv (pc := 181) (st := []) (as := [.int (4 : Int32)]) (c_X12_must hx0 h61) ml_RX12_321 mv_X12_must mb_X12_must hX (Nat.le_of_ble_eq_true rfl) (by decide) rfl hx0 rfl (by simp) dX12_tell_181 rfl ?_
                refine Wp.goto (pc := 184) 245 dX12_tell_184 (by decide) ?_
                refine Wp.lo' (lo' := []) [] rfl ?_
                exact w_X12_tell_245 hX hf hk
              · rw [if_neg hc45] at hf
                by_cases hc62 : v3 = (27 : Int32)
                · rw [if_pos hc62] at hf
                  refine Wp.swIn (pc := 9) 187 dX12_tell_9 hc62 (by decide) (by decide) rfl (by decide) ?_
                  refine Wp.aload_n (pc := 187) 0 rfl rfl dX12_tell_187 ?_
                  obtain ⟨c63, h64, hf⟩ := bnd hf
                  refine Wp.callVv (pc := 188) (st := []) (as := []) (c_X12_goesOn hx0 h64) ml_RX12_275 mv_X12_goesOn mb_X12_goesOn hX (Nat.le_of_ble_eq_true rfl) (by decide) rfl hx0 rfl (by simp) dX12_tell_188 rfl ?_
                  refine Wp.aload_n (pc := 191) 0 rfl rfl dX12_tell_191 ?_
                  obtain ⟨a65, h66, hf⟩ := bnd hf
                  refine Wp.getR (pc := 192) (gA_R h66) hx0 fk_RX12_85 rfl dX12_tell_192 ?_
                  refine Wp.aload_n (pc := 195) 0 rfl rfl dX12_tell_195 ?_
                  refine Wp.getI (pc := 196) hx0 fk_RX12_287 rfl dX12_tell_196 ?_
                  refine Wp.aload_n (pc := 199) 0 rfl rfl dX12_tell_199 ?_
                  obtain ⟨c67, h68, hf⟩ := bnd hf
                  refine Wp.callVi (pc := 200) (st := [.int (gI c63 x0 19), .ref a65.1]) (as := []) (c_X12_part hx0 h68) ml_RX12_334 mv_X12_part mb_X12_part hX (Nat.le_of_ble_eq_true rfl) (by decide) rfl hx0 rfl (by simp [Value.category]) dX12_tell_200 rfl ?_
                  obtain ⟨μ69, h70, hf⟩ := bnd hf
                  refine Wp.iast (pc := 203) h70 (gA_T h66) dX12_tell_203 ?_
                  refine Wp.aload_n (pc := 204) 0 rfl rfl dX12_tell_204 ?_
                  refine Wp.iconst (pc := 205) (4 : Int32) (by decide) dX12_tell_205 ?_
                  obtain ⟨c71, h72, hf⟩ := bnd hf
                  refine Wp.callVv (pc := 206) (st := []) (as := [.int (4 : Int32)]) (c_X12_must hx0 h72) ml_RX12_321 mv_X12_must mb_X12_must hX (Nat.le_of_ble_eq_true rfl) (by decide) rfl hx0 rfl (by simp) dX12_tell_206 rfl ?_
                  refine Wp.goto (pc := 209) 245 dX12_tell_209 (by decide) ?_
                  refine Wp.lo' (lo' := []) [] rfl ?_
                  exact w_X12_tell_245 hX hf hk
                · rw [if_neg hc62] at hf
                  by_cases hc73 : v3 = (28 : Int32)
                  · rw [if_pos hc73] at hf
                    refine Wp.swIn (pc := 9) 212 dX12_tell_9 hc73 (by decide) (by decide) rfl (by decide) ?_
                    refine Wp.aload_n (pc := 212) 0 rfl rfl dX12_tell_212 ?_
                    refine Wp.aload_n (pc := 213) 0 rfl rfl dX12_tell_213 ?_
                    obtain ⟨a74, h75, hf⟩ := bnd hf
                    refine Wp.getR (pc := 214) (gA_R h75) hx0 fk_RX12_88 rfl dX12_tell_214 ?_
                    refine Wp.aload_n (pc := 217) 0 rfl rfl dX12_tell_217 ?_
                    refine Wp.getI (pc := 218) hx0 fk_RX12_287 rfl dX12_tell_218 ?_
                    obtain ⟨v76, h77, hf⟩ := bnd hf
                    refine Wp.iald (pc := 221) h77 (gA_T h75) dX12_tell_221 ?_
                    refine Wp.iconst (pc := 222) (4 : Int32) (by decide) dX12_tell_222 ?_
                    obtain ⟨c78, h79, hf⟩ := bnd hf
                    refine Wp.callVv (pc := 223) (st := []) (as := [.int v76, .int (4 : Int32)]) (c_X12_roomFor hx0 h79) ml_RX12_324 mv_X12_roomFor mb_X12_roomFor hX (Nat.le_of_ble_eq_true rfl) (by decide) rfl hx0 rfl (by simp) dX12_tell_223 rfl ?_
                    refine Wp.aload_n (pc := 226) 0 rfl rfl dX12_tell_226 ?_
                    refine Wp.getI (pc := 227) hx0 fk_RX12_254 rfl dX12_tell_227 ?_
                    refine Wp.if_ne (pc := 230) 245 dX12_tell_230 (by decide) (fun hc80 => ?_) (fun hc80 => ?_)
                    · rw [if_neg hc80] at hf
                      refine Wp.lo' (lo' := []) [] rfl ?_
                      exact w_X12_tell_245 hX hf hk
                    · rw [if_pos hc80] at hf
                      refine Wp.aload_n (pc := 233) 0 rfl rfl dX12_tell_233 ?_
                      obtain ⟨c81, h82, hf⟩ := bnd hf
                      refine Wp.callVv (pc := 234) (st := []) (as := []) (c_X12_tellFog hx0 h82) ml_RX12_338 mv_X12_tellFog mb_X12_tellFog hX (Nat.le_of_ble_eq_true rfl) (by decide) rfl hx0 rfl (by simp) dX12_tell_234 rfl ?_
                      refine Wp.goto (pc := 237) 245 dX12_tell_237 (by decide) ?_
                      refine Wp.lo' (lo' := []) [] rfl ?_
                      exact w_X12_tell_245 hX hf hk
                  · rw [if_neg hc73] at hf
                    refine Wp.swOut (pc := 9) 240 dX12_tell_9 (swx (fun k h1 h2 => ?_)) (by decide) ?_
                    · have z0 := lv_neT hc5 (a := 20) (by decide); have z1 := lv_neT hc16 (a := 21) (by decide); have z2 := lv_neT hc26 (a := 22) (by decide); have z3 := lv_neT hc29 (a := 23) (by decide); have z4 := lv_neT hc32 (a := 24) (by decide); have z5 := lv_neT hc35 (a := 25) (by decide); have z6 := lv_neT hc45 (a := 26) (by decide); have z7 := lv_neT hc62 (a := 27) (by decide); have z8 := lv_neT hc73 (a := 28) (by decide); omega
                    · skip
                      refine Wp.aload_n (pc := 240) 0 rfl rfl dX12_tell_240 ?_
                      refine Wp.iconst (pc := 241) (1 : Int32) (by decide) dX12_tell_241 ?_
                      obtain ⟨c83, h84, hf⟩ := bnd hf
                      refine Wp.callVv (pc := 242) (st := []) (as := [.int (1 : Int32)]) (c_X12_fail hx0 h84) ml_RX12_269 mv_X12_fail mb_X12_fail hX (Nat.le_of_ble_eq_true rfl) (by decide) rfl hx0 rfl (by simp) dX12_tell_242 rfl ?_
                      refine Wp.lo' (lo' := []) [] rfl ?_
                      exact w_X12_tell_245 hX hf hk
theorem c_X12_tell {T : List Dsc} {x0 : Nat} {μ : Mem} {r : Mem} (hx0 : T[x0]? = some (.inl 11)) (hf : F_X12_tell T x0 μ = some r) : Ct 8 yX12_tell cX12_tell 1 none T μ [.ref x0] none r := Ct.ofV (by decide +kernel) (Nat.le_of_ble_eq_true rfl) (fun X hX hk => w_X12_tell hX hx0 hf hk)
theorem dX12_menNow_0 : decode cX12_menNow 0 = .ok (.aload_n 0, 1) := by decide +kernel
theorem dX12_menNow_1 : decode cX12_menNow 1 = .ok (.getfield 70, 3) := by decide +kernel
theorem dX12_menNow_4 : decode cX12_menNow 4 = .ok (.aload_n 0, 1) := by decide +kernel
theorem dX12_menNow_5 : decode cX12_menNow 5 = .ok (.getfield 284, 3) := by decide +kernel
theorem dX12_menNow_8 : decode cX12_menNow 8 = .ok (.iaload, 1) := by decide +kernel
theorem dX12_menNow_9 : decode cX12_menNow 9 = .ok (.ireturn, 1) := by decide +kernel
set_option maxHeartbeats 4000000 in
set_option maxRecDepth 100000 in
theorem w_X12_menNow {X : CX} {T : List Dsc} {n1 n2 : Nat} {x0 : Nat} {μ : Mem} {r : (Int32 × Mem)} (hX : XR X 1 n1 n2) (hx0 : T[x0]? = some (.inl 11)) (hf : F_X12_menNow T x0 μ = some r) (hk : FnI X cX12_menNow RX12 1 T n1 n2 r) : Wp X cX12_menNow RX12 1 T μ n1 n2 0 [(0, .ref x0)] [] := by
  unfold F_X12_menNow at hf
  refine Wp.aload_n (pc := 0) 0 rfl rfl dX12_menNow_0 ?_
  obtain ⟨a1, h2, hf⟩ := bnd hf
  refine Wp.getR (pc := 1) (gA_R h2) hx0 fk_RX12_70 rfl dX12_menNow_1 ?_
  refine Wp.aload_n (pc := 4) 0 rfl rfl dX12_menNow_4 ?_
  refine Wp.getI (pc := 5) hx0 fk_RX12_284 rfl dX12_menNow_5 ?_
  obtain ⟨v3, h4, hf⟩ := bnd hf
  refine Wp.iald (pc := 8) h4 (gA_T h2) dX12_menNow_8 ?_
  cases hf
  exact hk _ _ dX12_menNow_9
theorem c_X12_menNow {T : List Dsc} {x0 : Nat} {μ : Mem} {r : (Int32 × Mem)} (hx0 : T[x0]? = some (.inl 11)) (hf : F_X12_menNow T x0 μ = some r) : Ct 1 yX12_menNow cX12_menNow 1 (some .int) T μ [.ref x0] (some (.int r.1)) r.2 := Ct.ofI (by decide +kernel) (Nat.le_of_ble_eq_true rfl) (fun X hX hk => w_X12_menNow hX hx0 hf hk)
theorem dX12_begins_0 : decode cX12_begins 0 = .ok (.iconst 0, 1) := by decide +kernel
theorem dX12_begins_1 : decode cX12_begins 1 = .ok (.istore_n 1, 1) := by decide +kernel
theorem dX12_begins_2 : decode cX12_begins 2 = .ok (.iload_n 1, 1) := by decide +kernel
theorem dX12_begins_3 : decode cX12_begins 3 = .ok (.aload_n 0, 1) := by decide +kernel
theorem dX12_begins_4 : decode cX12_begins 4 = .ok (.invokevirtual 390, 3) := by decide +kernel
theorem dX12_begins_7 : decode cX12_begins 7 = .ok (.if_icmp .ge 56, 3) := by decide +kernel
theorem dX12_begins_10 : decode cX12_begins 10 = .ok (.aload_n 0, 1) := by decide +kernel
theorem dX12_begins_11 : decode cX12_begins 11 = .ok (.getfield 128, 3) := by decide +kernel
theorem dX12_begins_14 : decode cX12_begins 14 = .ok (.iload_n 1, 1) := by decide +kernel
theorem dX12_begins_15 : decode cX12_begins 15 = .ok (.aload_n 0, 1) := by decide +kernel
theorem dX12_begins_16 : decode cX12_begins 16 = .ok (.getfield 76, 3) := by decide +kernel
theorem dX12_begins_19 : decode cX12_begins 19 = .ok (.bipush 12, 2) := by decide +kernel
theorem dX12_begins_21 : decode cX12_begins 21 = .ok (.aload_n 0, 1) := by decide +kernel
theorem dX12_begins_22 : decode cX12_begins 22 = .ok (.getfield 284, 3) := by decide +kernel
theorem dX12_begins_25 : decode cX12_begins 25 = .ok (.imul, 1) := by decide +kernel
theorem dX12_begins_26 : decode cX12_begins 26 = .ok (.iload_n 1, 1) := by decide +kernel
theorem dX12_begins_27 : decode cX12_begins 27 = .ok (.iadd, 1) := by decide +kernel
theorem dX12_begins_28 : decode cX12_begins 28 = .ok (.iaload, 1) := by decide +kernel
theorem dX12_begins_29 : decode cX12_begins 29 = .ok (.iastore, 1) := by decide +kernel
theorem dX12_begins_30 : decode cX12_begins 30 = .ok (.aload_n 0, 1) := by decide +kernel
theorem dX12_begins_31 : decode cX12_begins 31 = .ok (.getfield 131, 3) := by decide +kernel
theorem dX12_begins_34 : decode cX12_begins 34 = .ok (.iload_n 1, 1) := by decide +kernel
theorem dX12_begins_35 : decode cX12_begins 35 = .ok (.iload_n 1, 1) := by decide +kernel
theorem dX12_begins_36 : decode cX12_begins 36 = .ok (.iastore, 1) := by decide +kernel
theorem dX12_begins_37 : decode cX12_begins 37 = .ok (.aload_n 0, 1) := by decide +kernel
theorem dX12_begins_38 : decode cX12_begins 38 = .ok (.getfield 134, 3) := by decide +kernel
theorem dX12_begins_41 : decode cX12_begins 41 = .ok (.iload_n 1, 1) := by decide +kernel
theorem dX12_begins_42 : decode cX12_begins 42 = .ok (.aload_n 0, 1) := by decide +kernel
theorem dX12_begins_43 : decode cX12_begins 43 = .ok (.getfield 73, 3) := by decide +kernel
theorem dX12_begins_46 : decode cX12_begins 46 = .ok (.bipush 12, 2) := by decide +kernel
theorem dX12_begins_48 : decode cX12_begins 48 = .ok (.aload_n 0, 1) := by decide +kernel
theorem dX12_begins_49 : decode cX12_begins 49 = .ok (.getfield 284, 3) := by decide +kernel
theorem dX12_begins_52 : decode cX12_begins 52 = .ok (.imul, 1) := by decide +kernel
theorem dX12_begins_53 : decode cX12_begins 53 = .ok (.iload_n 1, 1) := by decide +kernel
theorem dX12_begins_54 : decode cX12_begins 54 = .ok (.iadd, 1) := by decide +kernel
theorem dX12_begins_55 : decode cX12_begins 55 = .ok (.iaload, 1) := by decide +kernel
theorem dX12_begins_56 : decode cX12_begins 56 = .ok (.iastore, 1) := by decide +kernel
theorem dX12_begins_57 : decode cX12_begins 57 = .ok (.iinc 1 1, 3) := by decide +kernel
theorem dX12_begins_60 : decode cX12_begins 60 = .ok (.goto (-58), 3) := by decide +kernel
theorem dX12_begins_63 : decode cX12_begins 63 = .ok (.aload_n 0, 1) := by decide +kernel
theorem dX12_begins_64 : decode cX12_begins 64 = .ok (.aload_n 0, 1) := by decide +kernel
theorem dX12_begins_65 : decode cX12_begins 65 = .ok (.getfield 79, 3) := by decide +kernel
theorem dX12_begins_68 : decode cX12_begins 68 = .ok (.aload_n 0, 1) := by decide +kernel
theorem dX12_begins_69 : decode cX12_begins 69 = .ok (.getfield 284, 3) := by decide +kernel
theorem dX12_begins_72 : decode cX12_begins 72 = .ok (.iaload, 1) := by decide +kernel
theorem dX12_begins_73 : decode cX12_begins 73 = .ok (.putfield 209, 3) := by decide +kernel
theorem dX12_begins_76 : decode cX12_begins 76 = .ok (.aload_n 0, 1) := by decide +kernel
theorem dX12_begins_77 : decode cX12_begins 77 = .ok (.aload_n 0, 1) := by decide +kernel
theorem dX12_begins_78 : decode cX12_begins 78 = .ok (.getfield 82, 3) := by decide +kernel
theorem dX12_begins_81 : decode cX12_begins 81 = .ok (.aload_n 0, 1) := by decide +kernel
theorem dX12_begins_82 : decode cX12_begins 82 = .ok (.getfield 284, 3) := by decide +kernel
theorem dX12_begins_85 : decode cX12_begins 85 = .ok (.iaload, 1) := by decide +kernel
theorem dX12_begins_86 : decode cX12_begins 86 = .ok (.putfield 393, 3) := by decide +kernel
theorem dX12_begins_89 : decode cX12_begins 89 = .ok (.aload_n 0, 1) := by decide +kernel
theorem dX12_begins_90 : decode cX12_begins 90 = .ok (.iconst 0, 1) := by decide +kernel
theorem dX12_begins_91 : decode cX12_begins 91 = .ok (.putfield 396, 3) := by decide +kernel
theorem dX12_begins_94 : decode cX12_begins 94 = .ok (.return_, 1) := by decide +kernel
def k_X12_begins_2 (X : CX) (T : List Dsc) (n1 n2 : Nat) (x0 : Nat) (r : ((Int32 × Mem) ⊕ ((Mem)))) : Prop := match r with
  | .inl s => Wp X cX12_begins RX12 2 T s.2 n1 n2 2 [(0, .ref x0), (1, .int s.1)] []
  | .inr e => Wp X cX12_begins RX12 2 T e n1 n2 63 [(0, .ref x0)] []
set_option maxHeartbeats 4000000 in
set_option maxRecDepth 100000 in
theorem w_X12_begins_2 {X : CX} {T : List Dsc} {n1 n2 : Nat} {x0 : Nat} {x1 : Int32} {μ : Mem} {r : ((Int32 × Mem) ⊕ ((Mem)))} (hX : XR X 2 n1 n2) (hx0 : T[x0]? = some (.inl 11)) (hf : f_X12_begins_2 T x0 x1 μ = some r) (hk : k_X12_begins_2 X T n1 n2 x0 r) : Wp X cX12_begins RX12 2 T μ n1 n2 2 [(0, .ref x0), (1, .int x1)] [] := by
  unfold f_X12_begins_2 at hf
  refine Wp.iload_n (pc := 2) 1 rfl rfl dX12_begins_2 ?_
  refine Wp.aload_n (pc := 3) 0 rfl rfl dX12_begins_3 ?_
  obtain ⟨c1, h2, hf⟩ := bnd hf
  refine Wp.callVi (pc := 4) (st := [.int x1]) (as := []) (c_X12_menNow hx0 h2) ml_RX12_390 mv_X12_menNow mb_X12_menNow hX (Nat.le_of_ble_eq_true rfl) (by decide) rfl hx0 rfl (by simp [Value.category]) dX12_begins_4 rfl ?_
  refine Wp.icmp_ge (pc := 7) 63 dX12_begins_7 (by decide) (fun hc3 => ?_) (fun hc3 => ?_)
  · rw [if_pos hc3] at hf
    refine Wp.lo' (lo' := [(0, .ref x0)]) [0] rfl ?_
    cases hf
    exact hk
  · rw [if_neg hc3] at hf
    refine Wp.aload_n (pc := 10) 0 rfl rfl dX12_begins_10 ?_
    obtain ⟨a4, h5, hf⟩ := bnd hf
    refine Wp.getR (pc := 11) (gA_R h5) hx0 fk_RX12_128 rfl dX12_begins_11 ?_
    refine Wp.iload_n (pc := 14) 1 rfl rfl dX12_begins_14 ?_
    refine Wp.aload_n (pc := 15) 0 rfl rfl dX12_begins_15 ?_
    obtain ⟨a6, h7, hf⟩ := bnd hf
    refine Wp.getR (pc := 16) (gA_R h7) hx0 fk_RX12_76 rfl dX12_begins_16 ?_
    refine Wp.bipush (pc := 19) (12 : Int32) (by decide) dX12_begins_19 ?_
    refine Wp.aload_n (pc := 21) 0 rfl rfl dX12_begins_21 ?_
    refine Wp.getI (pc := 22) hx0 fk_RX12_284 rfl dX12_begins_22 ?_
    refine Wp.imul (pc := 25) dX12_begins_25 ?_
    refine Wp.iload_n (pc := 26) 1 rfl rfl dX12_begins_26 ?_
    refine Wp.iadd (pc := 27) dX12_begins_27 ?_
    obtain ⟨v8, h9, hf⟩ := bnd hf
    refine Wp.iald (pc := 28) h9 (gA_T h7) dX12_begins_28 ?_
    obtain ⟨μ10, h11, hf⟩ := bnd hf
    refine Wp.iast (pc := 29) h11 (gA_T h5) dX12_begins_29 ?_
    refine Wp.aload_n (pc := 30) 0 rfl rfl dX12_begins_30 ?_
    obtain ⟨a12, h13, hf⟩ := bnd hf
    refine Wp.getR (pc := 31) (gA_R h13) hx0 fk_RX12_131 rfl dX12_begins_31 ?_
    refine Wp.iload_n (pc := 34) 1 rfl rfl dX12_begins_34 ?_
    refine Wp.iload_n (pc := 35) 1 rfl rfl dX12_begins_35 ?_
    obtain ⟨μ14, h15, hf⟩ := bnd hf
    refine Wp.iast (pc := 36) h15 (gA_T h13) dX12_begins_36 ?_
    refine Wp.aload_n (pc := 37) 0 rfl rfl dX12_begins_37 ?_
    obtain ⟨a16, h17, hf⟩ := bnd hf
    refine Wp.getR (pc := 38) (gA_R h17) hx0 fk_RX12_134 rfl dX12_begins_38 ?_
    refine Wp.iload_n (pc := 41) 1 rfl rfl dX12_begins_41 ?_
    refine Wp.aload_n (pc := 42) 0 rfl rfl dX12_begins_42 ?_
    obtain ⟨a18, h19, hf⟩ := bnd hf
    refine Wp.getR (pc := 43) (gA_R h19) hx0 fk_RX12_73 rfl dX12_begins_43 ?_
    refine Wp.bipush (pc := 46) (12 : Int32) (by decide) dX12_begins_46 ?_
    refine Wp.aload_n (pc := 48) 0 rfl rfl dX12_begins_48 ?_
    refine Wp.getI (pc := 49) hx0 fk_RX12_284 rfl dX12_begins_49 ?_
    refine Wp.imul (pc := 52) dX12_begins_52 ?_
    refine Wp.iload_n (pc := 53) 1 rfl rfl dX12_begins_53 ?_
    refine Wp.iadd (pc := 54) dX12_begins_54 ?_
    obtain ⟨v20, h21, hf⟩ := bnd hf
    refine Wp.iald (pc := 55) h21 (gA_T h19) dX12_begins_55 ?_
    obtain ⟨μ22, h23, hf⟩ := bnd hf
    refine Wp.iast (pc := 56) h23 (gA_T h17) dX12_begins_56 ?_
    obtain ⟨v24, h25, hf⟩ := bnd hf
    refine Wp.iincN (pc := 57) (lo' := [(0, .ref x0), (1, .int v24)]) (1 : Int32) (by decide) h25 1 rfl [1, 0] rfl (by decide) dX12_begins_57 ?_
    refine Wp.goto (pc := 60) 2 dX12_begins_60 (by decide) ?_
    cases hf
    exact hk
theorem wl_X12_begins_2 {X : CX} {T : List Dsc} {n1 n2 : Nat} {x0 : Nat} {x1 : Int32} {μ : Mem} {e : ((Mem))} (hX : XR X 2 n1 n2) (hx0 : T[x0]? = some (.inl 11)) (h : loop (g_X12_begins_2 T x0) (x1, μ) = some e) (he : Wp X cX12_begins RX12 2 T e n1 n2 63 [(0, .ref x0)] []) : Wp X cX12_begins RX12 2 T μ n1 n2 2 [(0, .ref x0), (1, .int x1)] [] :=
  loop_ok (K := k_X12_begins_2 X T n1 n2 x0) (fun s r hf hk => w_X12_begins_2 hX hx0 hf hk) h he
set_option maxHeartbeats 4000000 in
set_option maxRecDepth 100000 in
theorem w_X12_begins {X : CX} {T : List Dsc} {n1 n2 : Nat} {x0 : Nat} {μ : Mem} {r : Mem} (hX : XR X 2 n1 n2) (hx0 : T[x0]? = some (.inl 11)) (hf : F_X12_begins T x0 μ = some r) (hk : FnV X cX12_begins RX12 2 T n1 n2 r) : Wp X cX12_begins RX12 2 T μ n1 n2 0 [(0, .ref x0)] [] := by
  unfold F_X12_begins at hf
  refine Wp.iconst (pc := 0) (0 : Int32) (by decide) dX12_begins_0 ?_
  refine Wp.istore_n (pc := 1) (lo' := [(0, .ref x0), (1, .int (0 : Int32))]) [1, 0] rfl (by decide) rfl dX12_begins_1 ?_
  obtain ⟨e1, h2, hf⟩ := bnd hf
  refine wl_X12_begins_2 hX hx0 h2 ?_
  refine Wp.aload_n (pc := 63) 0 rfl rfl dX12_begins_63 ?_
  refine Wp.aload_n (pc := 64) 0 rfl rfl dX12_begins_64 ?_
  obtain ⟨a3, h4, hf⟩ := bnd hf
  refine Wp.getR (pc := 65) (gA_R h4) hx0 fk_RX12_79 rfl dX12_begins_65 ?_
  refine Wp.aload_n (pc := 68) 0 rfl rfl dX12_begins_68 ?_
  refine Wp.getI (pc := 69) hx0 fk_RX12_284 rfl dX12_begins_69 ?_
  obtain ⟨v5, h6, hf⟩ := bnd hf
  refine Wp.iald (pc := 72) h6 (gA_T h4) dX12_begins_72 ?_
  obtain ⟨μ7, h8, hf⟩ := bnd hf
  refine Wp.ptI (pc := 73) h8 hx0 fk_RX12_209 ff_RX12_11_58 rfl dX12_begins_73 ?_
  refine Wp.aload_n (pc := 76) 0 rfl rfl dX12_begins_76 ?_
  refine Wp.aload_n (pc := 77) 0 rfl rfl dX12_begins_77 ?_
  obtain ⟨a9, h10, hf⟩ := bnd hf
  refine Wp.getR (pc := 78) (gA_R h10) hx0 fk_RX12_82 rfl dX12_begins_78 ?_
  refine Wp.aload_n (pc := 81) 0 rfl rfl dX12_begins_81 ?_
  refine Wp.getI (pc := 82) hx0 fk_RX12_284 rfl dX12_begins_82 ?_
  obtain ⟨v11, h12, hf⟩ := bnd hf
  refine Wp.iald (pc := 85) h12 (gA_T h10) dX12_begins_85 ?_
  obtain ⟨μ13, h14, hf⟩ := bnd hf
  refine Wp.ptI (pc := 86) h14 hx0 fk_RX12_393 ff_RX12_11_59 rfl dX12_begins_86 ?_
  refine Wp.aload_n (pc := 89) 0 rfl rfl dX12_begins_89 ?_
  refine Wp.iconst (pc := 90) (0 : Int32) (by decide) dX12_begins_90 ?_
  obtain ⟨μ15, h16, hf⟩ := bnd hf
  refine Wp.ptI (pc := 91) h16 hx0 fk_RX12_396 ff_RX12_11_60 rfl dX12_begins_91 ?_
  cases hf
  exact hk _ _ dX12_begins_94
theorem c_X12_begins {T : List Dsc} {x0 : Nat} {μ : Mem} {r : Mem} (hx0 : T[x0]? = some (.inl 11)) (hf : F_X12_begins T x0 μ = some r) : Ct 2 yX12_begins cX12_begins 2 none T μ [.ref x0] none r := Ct.ofV (by decide +kernel) (Nat.le_of_ble_eq_true rfl) (fun X hX hk => w_X12_begins hX hx0 hf hk)
theorem dX12_read_0 : decode cX12_read 0 = .ok (.aload_n 0, 1) := by decide +kernel
theorem dX12_read_1 : decode cX12_read 1 = .ok (.aload_n 0, 1) := by decide +kernel
theorem dX12_read_2 : decode cX12_read 2 = .ok (.getfield 216, 3) := by decide +kernel
theorem dX12_read_5 : decode cX12_read 5 = .ok (.putfield 223, 3) := by decide +kernel
theorem dX12_read_8 : decode cX12_read 8 = .ok (.iconst 0, 1) := by decide +kernel
theorem dX12_read_9 : decode cX12_read 9 = .ok (.istore_n 1, 1) := by decide +kernel
theorem dX12_read_10 : decode cX12_read 10 = .ok (.iload_n 1, 1) := by decide +kernel
theorem dX12_read_11 : decode cX12_read 11 = .ok (.aload_n 0, 1) := by decide +kernel
theorem dX12_read_12 : decode cX12_read 12 = .ok (.getfield 223, 3) := by decide +kernel
theorem dX12_read_15 : decode cX12_read 15 = .ok (.if_icmp .ge 21, 3) := by decide +kernel
theorem dX12_read_18 : decode cX12_read 18 = .ok (.aload_n 0, 1) := by decide +kernel
theorem dX12_read_19 : decode cX12_read 19 = .ok (.getfield 17, 3) := by decide +kernel
theorem dX12_read_22 : decode cX12_read 22 = .ok (.iload_n 1, 1) := by decide +kernel
theorem dX12_read_23 : decode cX12_read 23 = .ok (.aload_n 0, 1) := by decide +kernel
theorem dX12_read_24 : decode cX12_read 24 = .ok (.getfield 13, 3) := by decide +kernel
theorem dX12_read_27 : decode cX12_read 27 = .ok (.iload_n 1, 1) := by decide +kernel
theorem dX12_read_28 : decode cX12_read 28 = .ok (.baload, 1) := by decide +kernel
theorem dX12_read_29 : decode cX12_read 29 = .ok (.bastore, 1) := by decide +kernel
theorem dX12_read_30 : decode cX12_read 30 = .ok (.iinc 1 1, 3) := by decide +kernel
theorem dX12_read_33 : decode cX12_read 33 = .ok (.goto (-23), 3) := by decide +kernel
theorem dX12_read_36 : decode cX12_read 36 = .ok (.aload_n 0, 1) := by decide +kernel
theorem dX12_read_37 : decode cX12_read 37 = .ok (.iconst 0, 1) := by decide +kernel
theorem dX12_read_38 : decode cX12_read 38 = .ok (.putfield 216, 3) := by decide +kernel
theorem dX12_read_41 : decode cX12_read 41 = .ok (.aload_n 0, 1) := by decide +kernel
theorem dX12_read_42 : decode cX12_read 42 = .ok (.invokevirtual 278, 3) := by decide +kernel
theorem dX12_read_45 : decode cX12_read 45 = .ok (.aload_n 0, 1) := by decide +kernel
theorem dX12_read_46 : decode cX12_read 46 = .ok (.iconst 0, 1) := by decide +kernel
theorem dX12_read_47 : decode cX12_read 47 = .ok (.putfield 257, 3) := by decide +kernel
theorem dX12_read_50 : decode cX12_read 50 = .ok (.aload_n 0, 1) := by decide +kernel
theorem dX12_read_51 : decode cX12_read 51 = .ok (.iconst 0, 1) := by decide +kernel
theorem dX12_read_52 : decode cX12_read 52 = .ok (.putfield 281, 3) := by decide +kernel
theorem dX12_read_55 : decode cX12_read 55 = .ok (.aload_n 0, 1) := by decide +kernel
theorem dX12_read_56 : decode cX12_read 56 = .ok (.iconst 0, 1) := by decide +kernel
theorem dX12_read_57 : decode cX12_read 57 = .ok (.putfield 254, 3) := by decide +kernel
theorem dX12_read_60 : decode cX12_read 60 = .ok (.aload_n 0, 1) := by decide +kernel
theorem dX12_read_61 : decode cX12_read 61 = .ok (.iconst 0, 1) := by decide +kernel
theorem dX12_read_62 : decode cX12_read 62 = .ok (.putfield 263, 3) := by decide +kernel
theorem dX12_read_65 : decode cX12_read 65 = .ok (.aload_n 0, 1) := by decide +kernel
theorem dX12_read_66 : decode cX12_read 66 = .ok (.iconst 1, 1) := by decide +kernel
theorem dX12_read_67 : decode cX12_read 67 = .ok (.aload_n 0, 1) := by decide +kernel
theorem dX12_read_68 : decode cX12_read 68 = .ok (.getfield 284, 3) := by decide +kernel
theorem dX12_read_71 : decode cX12_read 71 = .ok (.isub, 1) := by decide +kernel
theorem dX12_read_72 : decode cX12_read 72 = .ok (.putfield 287, 3) := by decide +kernel
theorem dX12_read_75 : decode cX12_read 75 = .ok (.aload_n 0, 1) := by decide +kernel
theorem dX12_read_76 : decode cX12_read 76 = .ok (.iconst 0, 1) := by decide +kernel
theorem dX12_read_77 : decode cX12_read 77 = .ok (.putfield 290, 3) := by decide +kernel
theorem dX12_read_80 : decode cX12_read 80 = .ok (.aload_n 0, 1) := by decide +kernel
theorem dX12_read_81 : decode cX12_read 81 = .ok (.getfield 46, 3) := by decide +kernel
theorem dX12_read_84 : decode cX12_read 84 = .ok (.aload_n 0, 1) := by decide +kernel
theorem dX12_read_85 : decode cX12_read 85 = .ok (.getfield 287, 3) := by decide +kernel
theorem dX12_read_88 : decode cX12_read 88 = .ok (.bipush 24, 2) := by decide +kernel
theorem dX12_read_90 : decode cX12_read 90 = .ok (.iastore, 1) := by decide +kernel
theorem dX12_read_91 : decode cX12_read 91 = .ok (.aload_n 0, 1) := by decide +kernel
theorem dX12_read_92 : decode cX12_read 92 = .ok (.getfield 49, 3) := by decide +kernel
theorem dX12_read_95 : decode cX12_read 95 = .ok (.aload_n 0, 1) := by decide +kernel
theorem dX12_read_96 : decode cX12_read 96 = .ok (.getfield 287, 3) := by decide +kernel
theorem dX12_read_99 : decode cX12_read 99 = .ok (.iconst 0, 1) := by decide +kernel
theorem dX12_read_100 : decode cX12_read 100 = .ok (.iastore, 1) := by decide +kernel
theorem dX12_read_101 : decode cX12_read 101 = .ok (.aload_n 0, 1) := by decide +kernel
theorem dX12_read_102 : decode cX12_read 102 = .ok (.bipush 54, 2) := by decide +kernel
theorem dX12_read_104 : decode cX12_read 104 = .ok (.aload_n 0, 1) := by decide +kernel
theorem dX12_read_105 : decode cX12_read 105 = .ok (.getfield 287, 3) := by decide +kernel
theorem dX12_read_108 : decode cX12_read 108 = .ok (.imul, 1) := by decide +kernel
theorem dX12_read_109 : decode cX12_read 109 = .ok (.putfield 293, 3) := by decide +kernel
theorem dX12_read_112 : decode cX12_read 112 = .ok (.aload_n 0, 1) := by decide +kernel
theorem dX12_read_113 : decode cX12_read 113 = .ok (.getfield 70, 3) := by decide +kernel
theorem dX12_read_116 : decode cX12_read 116 = .ok (.aload_n 0, 1) := by decide +kernel
theorem dX12_read_117 : decode cX12_read 117 = .ok (.getfield 287, 3) := by decide +kernel
theorem dX12_read_120 : decode cX12_read 120 = .ok (.iconst 0, 1) := by decide +kernel
theorem dX12_read_121 : decode cX12_read 121 = .ok (.iastore, 1) := by decide +kernel
theorem dX12_read_122 : decode cX12_read 122 = .ok (.aload_n 0, 1) := by decide +kernel
theorem dX12_read_123 : decode cX12_read 123 = .ok (.getfield 79, 3) := by decide +kernel
theorem dX12_read_126 : decode cX12_read 126 = .ok (.aload_n 0, 1) := by decide +kernel
theorem dX12_read_127 : decode cX12_read 127 = .ok (.getfield 287, 3) := by decide +kernel
theorem dX12_read_130 : decode cX12_read 130 = .ok (.iconst (-1), 1) := by decide +kernel
theorem dX12_read_131 : decode cX12_read 131 = .ok (.iastore, 1) := by decide +kernel
theorem dX12_read_132 : decode cX12_read 132 = .ok (.aload_n 0, 1) := by decide +kernel
theorem dX12_read_133 : decode cX12_read 133 = .ok (.getfield 82, 3) := by decide +kernel
theorem dX12_read_136 : decode cX12_read 136 = .ok (.aload_n 0, 1) := by decide +kernel
theorem dX12_read_137 : decode cX12_read 137 = .ok (.getfield 287, 3) := by decide +kernel
theorem dX12_read_140 : decode cX12_read 140 = .ok (.iconst 0, 1) := by decide +kernel
theorem dX12_read_141 : decode cX12_read 141 = .ok (.iastore, 1) := by decide +kernel
theorem dX12_read_142 : decode cX12_read 142 = .ok (.aload_n 0, 1) := by decide +kernel
theorem dX12_read_143 : decode cX12_read 143 = .ok (.getfield 85, 3) := by decide +kernel
theorem dX12_read_146 : decode cX12_read 146 = .ok (.aload_n 0, 1) := by decide +kernel
theorem dX12_read_147 : decode cX12_read 147 = .ok (.getfield 287, 3) := by decide +kernel
theorem dX12_read_150 : decode cX12_read 150 = .ok (.iconst (-1), 1) := by decide +kernel
theorem dX12_read_151 : decode cX12_read 151 = .ok (.iastore, 1) := by decide +kernel
theorem dX12_read_152 : decode cX12_read 152 = .ok (.aload_n 0, 1) := by decide +kernel
theorem dX12_read_153 : decode cX12_read 153 = .ok (.getfield 88, 3) := by decide +kernel
theorem dX12_read_156 : decode cX12_read 156 = .ok (.aload_n 0, 1) := by decide +kernel
theorem dX12_read_157 : decode cX12_read 157 = .ok (.getfield 287, 3) := by decide +kernel
theorem dX12_read_160 : decode cX12_read 160 = .ok (.iconst 0, 1) := by decide +kernel
theorem dX12_read_161 : decode cX12_read 161 = .ok (.iastore, 1) := by decide +kernel
theorem dX12_read_162 : decode cX12_read 162 = .ok (.aload_n 0, 1) := by decide +kernel
theorem dX12_read_163 : decode cX12_read 163 = .ok (.sipush 150, 3) := by decide +kernel
theorem dX12_read_166 : decode cX12_read 166 = .ok (.aload_n 0, 1) := by decide +kernel
theorem dX12_read_167 : decode cX12_read 167 = .ok (.getfield 287, 3) := by decide +kernel
theorem dX12_read_170 : decode cX12_read 170 = .ok (.imul, 1) := by decide +kernel
theorem dX12_read_171 : decode cX12_read 171 = .ok (.putfield 296, 3) := by decide +kernel
theorem dX12_read_174 : decode cX12_read 174 = .ok (.aload_n 0, 1) := by decide +kernel
theorem dX12_read_175 : decode cX12_read 175 = .ok (.sipush 420, 3) := by decide +kernel
theorem dX12_read_178 : decode cX12_read 178 = .ok (.aload_n 0, 1) := by decide +kernel
theorem dX12_read_179 : decode cX12_read 179 = .ok (.getfield 287, 3) := by decide +kernel
theorem dX12_read_182 : decode cX12_read 182 = .ok (.imul, 1) := by decide +kernel
theorem dX12_read_183 : decode cX12_read 183 = .ok (.putfield 299, 3) := by decide +kernel
theorem dX12_read_186 : decode cX12_read 186 = .ok (.aload_n 0, 1) := by decide +kernel
theorem dX12_read_187 : decode cX12_read 187 = .ok (.iconst 0, 1) := by decide +kernel
theorem dX12_read_188 : decode cX12_read 188 = .ok (.putfield 302, 3) := by decide +kernel
theorem dX12_read_191 : decode cX12_read 191 = .ok (.aload_n 0, 1) := by decide +kernel
theorem dX12_read_192 : decode cX12_read 192 = .ok (.getfield 254, 3) := by decide +kernel
theorem dX12_read_195 : decode cX12_read 195 = .ok (.ifCond .ne 18, 3) := by decide +kernel
theorem dX12_read_198 : decode cX12_read 198 = .ok (.aload_n 0, 1) := by decide +kernel
theorem dX12_read_199 : decode cX12_read 199 = .ok (.iconst 0, 1) := by decide +kernel
theorem dX12_read_200 : decode cX12_read 200 = .ok (.invokevirtual 272, 3) := by decide +kernel
theorem dX12_read_203 : decode cX12_read 203 = .ok (.ifCond .ne 10, 3) := by decide +kernel
theorem dX12_read_206 : decode cX12_read 206 = .ok (.aload_n 0, 1) := by decide +kernel
theorem dX12_read_207 : decode cX12_read 207 = .ok (.invokevirtual 305, 3) := by decide +kernel
theorem dX12_read_210 : decode cX12_read 210 = .ok (.goto (-19), 3) := by decide +kernel
theorem dX12_read_213 : decode cX12_read 213 = .ok (.aload_n 0, 1) := by decide +kernel
theorem dX12_read_214 : decode cX12_read 214 = .ok (.aload_n 0, 1) := by decide +kernel
theorem dX12_read_215 : decode cX12_read 215 = .ok (.getfield 254, 3) := by decide +kernel
theorem dX12_read_218 : decode cX12_read 218 = .ok (.ifCond .le 10, 3) := by decide +kernel
theorem dX12_read_221 : decode cX12_read 221 = .ok (.aload_n 0, 1) := by decide +kernel
theorem dX12_read_222 : decode cX12_read 222 = .ok (.getfield 260, 3) := by decide +kernel
theorem dX12_read_225 : decode cX12_read 225 = .ok (.goto 18, 3) := by decide +kernel
theorem dX12_read_228 : decode cX12_read 228 = .ok (.aload_n 0, 1) := by decide +kernel
theorem dX12_read_229 : decode cX12_read 229 = .ok (.getfield 263, 3) := by decide +kernel
theorem dX12_read_232 : decode cX12_read 232 = .ok (.ifCond .le 10, 3) := by decide +kernel
theorem dX12_read_235 : decode cX12_read 235 = .ok (.aload_n 0, 1) := by decide +kernel
theorem dX12_read_236 : decode cX12_read 236 = .ok (.getfield 266, 3) := by decide +kernel
theorem dX12_read_239 : decode cX12_read 239 = .ok (.goto 4, 3) := by decide +kernel
theorem dX12_read_242 : decode cX12_read 242 = .ok (.iconst (-1), 1) := by decide +kernel
theorem dX12_read_243 : decode cX12_read 243 = .ok (.putfield 37, 3) := by decide +kernel
theorem dX12_read_246 : decode cX12_read 246 = .ok (.aload_n 0, 1) := by decide +kernel
theorem dX12_read_247 : decode cX12_read 247 = .ok (.getfield 254, 3) := by decide +kernel
theorem dX12_read_250 : decode cX12_read 250 = .ok (.ifCond .le 8, 3) := by decide +kernel
theorem dX12_read_253 : decode cX12_read 253 = .ok (.aload_n 0, 1) := by decide +kernel
theorem dX12_read_254 : decode cX12_read 254 = .ok (.getfield 254, 3) := by decide +kernel
theorem dX12_read_257 : decode cX12_read 257 = .ok (.ireturn, 1) := by decide +kernel
theorem dX12_read_258 : decode cX12_read 258 = .ok (.aload_n 0, 1) := by decide +kernel
theorem dX12_read_259 : decode cX12_read 259 = .ok (.getfield 263, 3) := by decide +kernel
theorem dX12_read_262 : decode cX12_read 262 = .ok (.ifCond .le 8, 3) := by decide +kernel
theorem dX12_read_265 : decode cX12_read 265 = .ok (.aload_n 0, 1) := by decide +kernel
theorem dX12_read_266 : decode cX12_read 266 = .ok (.getfield 263, 3) := by decide +kernel
theorem dX12_read_269 : decode cX12_read 269 = .ok (.ireturn, 1) := by decide +kernel
theorem dX12_read_270 : decode cX12_read 270 = .ok (.iconst 0, 1) := by decide +kernel
theorem dX12_read_271 : decode cX12_read 271 = .ok (.istore_n 1, 1) := by decide +kernel
theorem dX12_read_272 : decode cX12_read 272 = .ok (.iload_n 1, 1) := by decide +kernel
theorem dX12_read_273 : decode cX12_read 273 = .ok (.aload_n 0, 1) := by decide +kernel
theorem dX12_read_274 : decode cX12_read 274 = .ok (.getfield 302, 3) := by decide +kernel
theorem dX12_read_277 : decode cX12_read 277 = .ok (.if_icmp .ge 53, 3) := by decide +kernel
theorem dX12_read_280 : decode cX12_read 280 = .ok (.aload_n 0, 1) := by decide +kernel
theorem dX12_read_281 : decode cX12_read 281 = .ok (.getfield 27, 3) := by decide +kernel
theorem dX12_read_284 : decode cX12_read 284 = .ok (.aload_n 0, 1) := by decide +kernel
theorem dX12_read_285 : decode cX12_read 285 = .ok (.getfield 122, 3) := by decide +kernel
theorem dX12_read_288 : decode cX12_read 288 = .ok (.iload_n 1, 1) := by decide +kernel
theorem dX12_read_289 : decode cX12_read 289 = .ok (.iaload, 1) := by decide +kernel
theorem dX12_read_290 : decode cX12_read 290 = .ok (.iaload, 1) := by decide +kernel
theorem dX12_read_291 : decode cX12_read 291 = .ok (.aload_n 0, 1) := by decide +kernel
theorem dX12_read_292 : decode cX12_read 292 = .ok (.getfield 46, 3) := by decide +kernel
theorem dX12_read_295 : decode cX12_read 295 = .ok (.aload_n 0, 1) := by decide +kernel
theorem dX12_read_296 : decode cX12_read 296 = .ok (.getfield 287, 3) := by decide +kernel
theorem dX12_read_299 : decode cX12_read 299 = .ok (.iaload, 1) := by decide +kernel
theorem dX12_read_300 : decode cX12_read 300 = .ok (.if_icmp .ge 6, 3) := by decide +kernel
theorem dX12_read_303 : decode cX12_read 303 = .ok (.goto 21, 3) := by decide +kernel
theorem dX12_read_306 : decode cX12_read 306 = .ok (.aload_n 0, 1) := by decide +kernel
theorem dX12_read_307 : decode cX12_read 307 = .ok (.aload_n 0, 1) := by decide +kernel
theorem dX12_read_308 : decode cX12_read 308 = .ok (.getfield 24, 3) := by decide +kernel
theorem dX12_read_311 : decode cX12_read 311 = .ok (.aload_n 0, 1) := by decide +kernel
theorem dX12_read_312 : decode cX12_read 312 = .ok (.getfield 122, 3) := by decide +kernel
theorem dX12_read_315 : decode cX12_read 315 = .ok (.iload_n 1, 1) := by decide +kernel
theorem dX12_read_316 : decode cX12_read 316 = .ok (.iaload, 1) := by decide +kernel
theorem dX12_read_317 : decode cX12_read 317 = .ok (.iaload, 1) := by decide +kernel
theorem dX12_read_318 : decode cX12_read 318 = .ok (.putfield 37, 3) := by decide +kernel
theorem dX12_read_321 : decode cX12_read 321 = .ok (.bipush 6, 2) := by decide +kernel
theorem dX12_read_323 : decode cX12_read 323 = .ok (.ireturn, 1) := by decide +kernel
theorem dX12_read_324 : decode cX12_read 324 = .ok (.iinc 1 1, 3) := by decide +kernel
theorem dX12_read_327 : decode cX12_read 327 = .ok (.goto (-55), 3) := by decide +kernel
theorem dX12_read_330 : decode cX12_read 330 = .ok (.aload_n 0, 1) := by decide +kernel
theorem dX12_read_331 : decode cX12_read 331 = .ok (.aload_n 0, 1) := by decide +kernel
theorem dX12_read_332 : decode cX12_read 332 = .ok (.getfield 287, 3) := by decide +kernel
theorem dX12_read_335 : decode cX12_read 335 = .ok (.putfield 284, 3) := by decide +kernel
theorem dX12_read_338 : decode cX12_read 338 = .ok (.aload_n 0, 1) := by decide +kernel
theorem dX12_read_339 : decode cX12_read 339 = .ok (.invokevirtual 308, 3) := by decide +kernel
theorem dX12_read_342 : decode cX12_read 342 = .ok (.aload_n 0, 1) := by decide +kernel
theorem dX12_read_343 : decode cX12_read 343 = .ok (.iconst 0, 1) := by decide +kernel
theorem dX12_read_344 : decode cX12_read 344 = .ok (.putfield 311, 3) := by decide +kernel
theorem dX12_read_347 : decode cX12_read 347 = .ok (.aload_n 0, 1) := by decide +kernel
theorem dX12_read_348 : decode cX12_read 348 = .ok (.iconst 0, 1) := by decide +kernel
theorem dX12_read_349 : decode cX12_read 349 = .ok (.putfield 314, 3) := by decide +kernel
theorem dX12_read_352 : decode cX12_read 352 = .ok (.iconst 0, 1) := by decide +kernel
theorem dX12_read_353 : decode cX12_read 353 = .ok (.istore_n 1, 1) := by decide +kernel
theorem dX12_read_354 : decode cX12_read 354 = .ok (.iload_n 1, 1) := by decide +kernel
theorem dX12_read_355 : decode cX12_read 355 = .ok (.iconst 3, 1) := by decide +kernel
theorem dX12_read_356 : decode cX12_read 356 = .ok (.if_icmp .ge 16, 3) := by decide +kernel
theorem dX12_read_359 : decode cX12_read 359 = .ok (.aload_n 0, 1) := by decide +kernel
theorem dX12_read_360 : decode cX12_read 360 = .ok (.getfield 188, 3) := by decide +kernel
theorem dX12_read_363 : decode cX12_read 363 = .ok (.iload_n 1, 1) := by decide +kernel
theorem dX12_read_364 : decode cX12_read 364 = .ok (.iconst 0, 1) := by decide +kernel
theorem dX12_read_365 : decode cX12_read 365 = .ok (.bastore, 1) := by decide +kernel
theorem dX12_read_366 : decode cX12_read 366 = .ok (.iinc 1 1, 3) := by decide +kernel
theorem dX12_read_369 : decode cX12_read 369 = .ok (.goto (-15), 3) := by decide +kernel
theorem dX12_read_372 : decode cX12_read 372 = .ok (.iconst 0, 1) := by decide +kernel
theorem dX12_read_373 : decode cX12_read 373 = .ok (.ireturn, 1) := by decide +kernel
def k_X12_read_10 (X : CX) (T : List Dsc) (n1 n2 : Nat) (x0 : Nat) (r : ((Int32 × Mem) ⊕ ((Mem)))) : Prop := match r with
  | .inl s => Wp X cX12_read RX12 2 T s.2 n1 n2 10 [(0, .ref x0), (1, .int s.1)] []
  | .inr e => Wp X cX12_read RX12 2 T e n1 n2 36 [(0, .ref x0)] []
def k_X12_read_191 (X : CX) (T : List Dsc) (n1 n2 : Nat) (x0 : Nat) (r : ((Mem) ⊕ ((Mem)))) : Prop := match r with
  | .inl s => Wp X cX12_read RX12 2 T s n1 n2 191 [(0, .ref x0)] []
  | .inr e => Wp X cX12_read RX12 2 T e n1 n2 213 [(0, .ref x0)] []
def k_X12_read_272 (X : CX) (T : List Dsc) (n1 n2 : Nat) (x0 : Nat) (r : ((Int32 × Mem) ⊕ ((Int32 × Mem) ⊕ (Mem)))) : Prop := match r with
  | .inl s => Wp X cX12_read RX12 2 T s.2 n1 n2 272 [(0, .ref x0), (1, .int s.1)] []
  | .inr (.inl e) => Wp X cX12_read RX12 2 T e.2 n1 n2 306 [(0, .ref x0), (1, .int e.1)] []
  | .inr (.inr e) => Wp X cX12_read RX12 2 T e n1 n2 330 [(0, .ref x0)] []
def k_X12_read_354 (X : CX) (T : List Dsc) (n1 n2 : Nat) (x0 : Nat) (r : ((Int32 × Mem) ⊕ ((Mem)))) : Prop := match r with
  | .inl s => Wp X cX12_read RX12 2 T s.2 n1 n2 354 [(0, .ref x0), (1, .int s.1)] []
  | .inr e => Wp X cX12_read RX12 2 T e n1 n2 372 [] []
set_option maxHeartbeats 4000000 in
set_option maxRecDepth 100000 in
theorem w_X12_read_10 {X : CX} {T : List Dsc} {n1 n2 : Nat} {x0 : Nat} {x1 : Int32} {μ : Mem} {r : ((Int32 × Mem) ⊕ ((Mem)))} (hX : XR X 9 n1 n2) (hx0 : T[x0]? = some (.inl 11)) (hf : f_X12_read_10 T x0 x1 μ = some r) (hk : k_X12_read_10 X T n1 n2 x0 r) : Wp X cX12_read RX12 2 T μ n1 n2 10 [(0, .ref x0), (1, .int x1)] [] := by
  unfold f_X12_read_10 at hf
  refine Wp.iload_n (pc := 10) 1 rfl rfl dX12_read_10 ?_
  refine Wp.aload_n (pc := 11) 0 rfl rfl dX12_read_11 ?_
  refine Wp.getI (pc := 12) hx0 fk_RX12_223 rfl dX12_read_12 ?_
  refine Wp.icmp_ge (pc := 15) 36 dX12_read_15 (by decide) (fun hc1 => ?_) (fun hc1 => ?_)
  · rw [if_pos hc1] at hf
    refine Wp.lo' (lo' := [(0, .ref x0)]) [0] rfl ?_
    cases hf
    exact hk
  · rw [if_neg hc1] at hf
    refine Wp.aload_n (pc := 18) 0 rfl rfl dX12_read_18 ?_
    obtain ⟨a2, h3, hf⟩ := bnd hf
    refine Wp.getR (pc := 19) (gA_R h3) hx0 fk_RX12_17 rfl dX12_read_19 ?_
    refine Wp.iload_n (pc := 22) 1 rfl rfl dX12_read_22 ?_
    refine Wp.aload_n (pc := 23) 0 rfl rfl dX12_read_23 ?_
    obtain ⟨a4, h5, hf⟩ := bnd hf
    refine Wp.getR (pc := 24) (gA_R h5) hx0 fk_RX12_13 rfl dX12_read_24 ?_
    refine Wp.iload_n (pc := 27) 1 rfl rfl dX12_read_27 ?_
    obtain ⟨v6, h7, hf⟩ := bnd hf
    refine Wp.bald (pc := 28) h7 (gA_T h5) dX12_read_28 ?_
    obtain ⟨μ8, h9, hf⟩ := bnd hf
    refine Wp.bast (pc := 29) h9 (gA_T h3) dX12_read_29 ?_
    obtain ⟨v10, h11, hf⟩ := bnd hf
    refine Wp.iincN (pc := 30) (lo' := [(0, .ref x0), (1, .int v10)]) (1 : Int32) (by decide) h11 1 rfl [1, 0] rfl (by decide) dX12_read_30 ?_
    refine Wp.goto (pc := 33) 10 dX12_read_33 (by decide) ?_
    cases hf
    exact hk
theorem wl_X12_read_10 {X : CX} {T : List Dsc} {n1 n2 : Nat} {x0 : Nat} {x1 : Int32} {μ : Mem} {e : ((Mem))} (hX : XR X 9 n1 n2) (hx0 : T[x0]? = some (.inl 11)) (h : loop (g_X12_read_10 T x0) (x1, μ) = some e) (he : Wp X cX12_read RX12 2 T e n1 n2 36 [(0, .ref x0)] []) : Wp X cX12_read RX12 2 T μ n1 n2 10 [(0, .ref x0), (1, .int x1)] [] :=
  loop_ok (K := k_X12_read_10 X T n1 n2 x0) (fun s r hf hk => w_X12_read_10 hX hx0 hf hk) h he
set_option maxHeartbeats 4000000 in
set_option maxRecDepth 100000 in
theorem w_X12_read_191 {X : CX} {T : List Dsc} {n1 n2 : Nat} {x0 : Nat} {μ : Mem} {r : ((Mem) ⊕ ((Mem)))} (hX : XR X 9 n1 n2) (hx0 : T[x0]? = some (.inl 11)) (hf : f_X12_read_191 T x0 μ = some r) (hk : k_X12_read_191 X T n1 n2 x0 r) : Wp X cX12_read RX12 2 T μ n1 n2 191 [(0, .ref x0)] [] := by
  unfold f_X12_read_191 at hf
  refine Wp.aload_n (pc := 191) 0 rfl rfl dX12_read_191 ?_
  refine Wp.getI (pc := 192) hx0 fk_RX12_254 rfl dX12_read_192 ?_
  refine Wp.if_ne (pc := 195) 213 dX12_read_195 (by decide) (fun hc1 => ?_) (fun hc1 => ?_)
  · rw [if_neg hc1] at hf
    cases hf
    exact hk
  · rw [if_pos hc1] at hf
    refine Wp.aload_n (pc := 198) 0 rfl rfl dX12_read_198 ?_
    refine Wp.iconst (pc := 199) (0 : Int32) (by decide) dX12_read_199 ?_
    obtain ⟨c2, h3, hf⟩ := bnd hf
    refine Wp.callVi (pc := 200) (st := []) (as := [.int (0 : Int32)]) (c_X12_is hx0 h3) ml_RX12_272 mv_X12_is mb_X12_is hX (Nat.le_of_ble_eq_true rfl) (by decide) rfl hx0 rfl (by simp) dX12_read_200 rfl ?_
    refine Wp.if_ne (pc := 203) 213 dX12_read_203 (by decide) (fun hc4 => ?_) (fun hc4 => ?_)
    · rw [if_neg hc4] at hf
      cases hf
      exact hk
    · rw [if_pos hc4] at hf
      refine Wp.aload_n (pc := 206) 0 rfl rfl dX12_read_206 ?_
      obtain ⟨c5, h6, hf⟩ := bnd hf
      refine Wp.callVv (pc := 207) (st := []) (as := []) (c_X12_tell hx0 h6) ml_RX12_305 mv_X12_tell mb_X12_tell hX (Nat.le_of_ble_eq_true rfl) (by decide) rfl hx0 rfl (by simp) dX12_read_207 rfl ?_
      refine Wp.goto (pc := 210) 191 dX12_read_210 (by decide) ?_
      cases hf
      exact hk
theorem wl_X12_read_191 {X : CX} {T : List Dsc} {n1 n2 : Nat} {x0 : Nat} {μ : Mem} {e : ((Mem))} (hX : XR X 9 n1 n2) (hx0 : T[x0]? = some (.inl 11)) (h : loop (g_X12_read_191 T x0) μ = some e) (he : Wp X cX12_read RX12 2 T e n1 n2 213 [(0, .ref x0)] []) : Wp X cX12_read RX12 2 T μ n1 n2 191 [(0, .ref x0)] [] :=
  loop_ok (K := k_X12_read_191 X T n1 n2 x0) (fun s r hf hk => w_X12_read_191 hX hx0 hf hk) h he
set_option maxHeartbeats 4000000 in
set_option maxRecDepth 100000 in
theorem w_X12_read_272 {X : CX} {T : List Dsc} {n1 n2 : Nat} {x0 : Nat} {x1 : Int32} {μ : Mem} {r : ((Int32 × Mem) ⊕ ((Int32 × Mem) ⊕ (Mem)))} (hX : XR X 9 n1 n2) (hx0 : T[x0]? = some (.inl 11)) (hf : f_X12_read_272 T x0 x1 μ = some r) (hk : k_X12_read_272 X T n1 n2 x0 r) : Wp X cX12_read RX12 2 T μ n1 n2 272 [(0, .ref x0), (1, .int x1)] [] := by
  unfold f_X12_read_272 at hf
  refine Wp.iload_n (pc := 272) 1 rfl rfl dX12_read_272 ?_
  refine Wp.aload_n (pc := 273) 0 rfl rfl dX12_read_273 ?_
  refine Wp.getI (pc := 274) hx0 fk_RX12_302 rfl dX12_read_274 ?_
  refine Wp.icmp_ge (pc := 277) 330 dX12_read_277 (by decide) (fun hc1 => ?_) (fun hc1 => ?_)
  · rw [if_pos hc1] at hf
    refine Wp.lo' (lo' := [(0, .ref x0)]) [0] rfl ?_
    cases hf
    exact hk
  · rw [if_neg hc1] at hf
    refine Wp.aload_n (pc := 280) 0 rfl rfl dX12_read_280 ?_
    obtain ⟨a2, h3, hf⟩ := bnd hf
    refine Wp.getR (pc := 281) (gA_R h3) hx0 fk_RX12_27 rfl dX12_read_281 ?_
    refine Wp.aload_n (pc := 284) 0 rfl rfl dX12_read_284 ?_
    obtain ⟨a4, h5, hf⟩ := bnd hf
    refine Wp.getR (pc := 285) (gA_R h5) hx0 fk_RX12_122 rfl dX12_read_285 ?_
    refine Wp.iload_n (pc := 288) 1 rfl rfl dX12_read_288 ?_
    obtain ⟨v6, h7, hf⟩ := bnd hf
    refine Wp.iald (pc := 289) h7 (gA_T h5) dX12_read_289 ?_
    obtain ⟨v8, h9, hf⟩ := bnd hf
    refine Wp.iald (pc := 290) h9 (gA_T h3) dX12_read_290 ?_
    refine Wp.aload_n (pc := 291) 0 rfl rfl dX12_read_291 ?_
    obtain ⟨a10, h11, hf⟩ := bnd hf
    refine Wp.getR (pc := 292) (gA_R h11) hx0 fk_RX12_46 rfl dX12_read_292 ?_
    refine Wp.aload_n (pc := 295) 0 rfl rfl dX12_read_295 ?_
    refine Wp.getI (pc := 296) hx0 fk_RX12_287 rfl dX12_read_296 ?_
    obtain ⟨v12, h13, hf⟩ := bnd hf
    refine Wp.iald (pc := 299) h13 (gA_T h11) dX12_read_299 ?_
    refine Wp.icmp_ge (pc := 300) 306 dX12_read_300 (by decide) (fun hc14 => ?_) (fun hc14 => ?_)
    · rw [if_pos hc14] at hf
      cases hf
      exact hk
    · rw [if_neg hc14] at hf
      refine Wp.goto (pc := 303) 324 dX12_read_303 (by decide) ?_
      obtain ⟨v15, h16, hf⟩ := bnd hf
      refine Wp.iincN (pc := 324) (lo' := [(0, .ref x0), (1, .int v15)]) (1 : Int32) (by decide) h16 1 rfl [1, 0] rfl (by decide) dX12_read_324 ?_
      refine Wp.goto (pc := 327) 272 dX12_read_327 (by decide) ?_
      cases hf
      exact hk
theorem wl_X12_read_272 {X : CX} {T : List Dsc} {n1 n2 : Nat} {x0 : Nat} {x1 : Int32} {μ : Mem} {e : ((Int32 × Mem) ⊕ (Mem))} (hX : XR X 9 n1 n2) (hx0 : T[x0]? = some (.inl 11)) (h : loop (g_X12_read_272 T x0) (x1, μ) = some e) (he0 : ∀ e_, e = (Sum.inl e_) → Wp X cX12_read RX12 2 T e_.2 n1 n2 306 [(0, .ref x0), (1, .int e_.1)] []) (he1 : ∀ e_, e = (Sum.inr e_) → Wp X cX12_read RX12 2 T e_ n1 n2 330 [(0, .ref x0)] []) : Wp X cX12_read RX12 2 T μ n1 n2 272 [(0, .ref x0), (1, .int x1)] [] :=
  loop_ok (K := k_X12_read_272 X T n1 n2 x0) (fun s r hf hk => w_X12_read_272 hX hx0 hf hk) h (by rcases e with e | e <;> first | exact he0 _ rfl | exact he1 _ rfl)
set_option maxHeartbeats 4000000 in
set_option maxRecDepth 100000 in
theorem w_X12_read_354 {X : CX} {T : List Dsc} {n1 n2 : Nat} {x0 : Nat} {x1 : Int32} {μ : Mem} {r : ((Int32 × Mem) ⊕ ((Mem)))} (hX : XR X 9 n1 n2) (hx0 : T[x0]? = some (.inl 11)) (hf : f_X12_read_354 T x0 x1 μ = some r) (hk : k_X12_read_354 X T n1 n2 x0 r) : Wp X cX12_read RX12 2 T μ n1 n2 354 [(0, .ref x0), (1, .int x1)] [] := by
  unfold f_X12_read_354 at hf
  refine Wp.iload_n (pc := 354) 1 rfl rfl dX12_read_354 ?_
  refine Wp.iconst (pc := 355) (3 : Int32) (by decide) dX12_read_355 ?_
  refine Wp.icmp_ge (pc := 356) 372 dX12_read_356 (by decide) (fun hc1 => ?_) (fun hc1 => ?_)
  · rw [if_pos hc1] at hf
    refine Wp.lo' (lo' := []) [] rfl ?_
    cases hf
    exact hk
  · rw [if_neg hc1] at hf
    refine Wp.aload_n (pc := 359) 0 rfl rfl dX12_read_359 ?_
    obtain ⟨a2, h3, hf⟩ := bnd hf
    refine Wp.getR (pc := 360) (gA_R h3) hx0 fk_RX12_188 rfl dX12_read_360 ?_
    refine Wp.iload_n (pc := 363) 1 rfl rfl dX12_read_363 ?_
    refine Wp.iconst (pc := 364) (0 : Int32) (by decide) dX12_read_364 ?_
    obtain ⟨μ4, h5, hf⟩ := bnd hf
    refine Wp.zast (pc := 365) (Or.inl rfl) h5 (gA_T h3) dX12_read_365 ?_
    obtain ⟨v6, h7, hf⟩ := bnd hf
    refine Wp.iincN (pc := 366) (lo' := [(0, .ref x0), (1, .int v6)]) (1 : Int32) (by decide) h7 1 rfl [1, 0] rfl (by decide) dX12_read_366 ?_
    refine Wp.goto (pc := 369) 354 dX12_read_369 (by decide) ?_
    cases hf
    exact hk
theorem wl_X12_read_354 {X : CX} {T : List Dsc} {n1 n2 : Nat} {x0 : Nat} {x1 : Int32} {μ : Mem} {e : ((Mem))} (hX : XR X 9 n1 n2) (hx0 : T[x0]? = some (.inl 11)) (h : loop (g_X12_read_354 T x0) (x1, μ) = some e) (he : Wp X cX12_read RX12 2 T e n1 n2 372 [] []) : Wp X cX12_read RX12 2 T μ n1 n2 354 [(0, .ref x0), (1, .int x1)] [] :=
  loop_ok (K := k_X12_read_354 X T n1 n2 x0) (fun s r hf hk => w_X12_read_354 hX hx0 hf hk) h he
set_option maxHeartbeats 4000000 in
set_option maxRecDepth 100000 in
theorem w_X12_read_243 {X : CX} {T : List Dsc} {n1 n2 : Nat} {x0 : Nat} {s0 : Nat} {s1 : Int32} {μ : Mem} {r : (Int32 × Mem)} (hX : XR X 9 n1 n2) (hx0 : T[x0]? = some (.inl 11)) (hs0 : T[s0]? = some (.inl 11)) (hf : f_X12_read_243 T x0 s0 s1 μ = some r) (hk : FnI X cX12_read RX12 2 T n1 n2 r) : Wp X cX12_read RX12 2 T μ n1 n2 243 [(0, .ref x0)] [.int s1, .ref s0] := by
  unfold f_X12_read_243 at hf
  obtain ⟨μ1, h2, hf⟩ := bnd hf
  refine Wp.ptI (pc := 243) h2 hs0 fk_RX12_37 ff_RX12_11_17 rfl dX12_read_243 ?_
  refine Wp.aload_n (pc := 246) 0 rfl rfl dX12_read_246 ?_
  refine Wp.getI (pc := 247) hx0 fk_RX12_254 rfl dX12_read_247 ?_
  refine Wp.if_le (pc := 250) 258 dX12_read_250 (by decide) (fun hc3 => ?_) (fun hc3 => ?_)
  · rw [if_pos hc3] at hf
    refine Wp.aload_n (pc := 258) 0 rfl rfl dX12_read_258 ?_
    refine Wp.getI (pc := 259) hx0 fk_RX12_263 rfl dX12_read_259 ?_
    refine Wp.if_le (pc := 262) 270 dX12_read_262 (by decide) (fun hc4 => ?_) (fun hc4 => ?_)
    · rw [if_pos hc4] at hf
      refine Wp.iconst (pc := 270) (0 : Int32) (by decide) dX12_read_270 ?_
      refine Wp.istore_n (pc := 271) (lo' := [(0, .ref x0), (1, .int (0 : Int32))]) [1, 0] rfl (by decide) rfl dX12_read_271 ?_
      obtain ⟨e5, h6, hf⟩ := bnd hf
      refine wl_X12_read_272 hX hx0 h6 (fun e5_0 hq => ?_) (fun e5_1 hq => ?_)
      · rw [hq, Sum.elim_inl] at hf
        refine Wp.aload_n (pc := 306) 0 rfl rfl dX12_read_306 ?_
        refine Wp.aload_n (pc := 307) 0 rfl rfl dX12_read_307 ?_
        obtain ⟨a7, h8, hf⟩ := bnd hf
        refine Wp.getR (pc := 308) (gA_R h8) hx0 fk_RX12_24 rfl dX12_read_308 ?_
        refine Wp.aload_n (pc := 311) 0 rfl rfl dX12_read_311 ?_
        obtain ⟨a9, h10, hf⟩ := bnd hf
        refine Wp.getR (pc := 312) (gA_R h10) hx0 fk_RX12_122 rfl dX12_read_312 ?_
        refine Wp.iload_n (pc := 315) 1 rfl rfl dX12_read_315 ?_
        obtain ⟨v11, h12, hf⟩ := bnd hf
        refine Wp.iald (pc := 316) h12 (gA_T h10) dX12_read_316 ?_
        obtain ⟨v13, h14, hf⟩ := bnd hf
        refine Wp.iald (pc := 317) h14 (gA_T h8) dX12_read_317 ?_
        obtain ⟨μ15, h16, hf⟩ := bnd hf
        refine Wp.ptI (pc := 318) h16 hx0 fk_RX12_37 ff_RX12_11_17 rfl dX12_read_318 ?_
        refine Wp.bipush (pc := 321) (6 : Int32) (by decide) dX12_read_321 ?_
        cases hf
        exact hk _ _ dX12_read_323
      · rw [hq, Sum.elim_inr] at hf
        refine Wp.aload_n (pc := 330) 0 rfl rfl dX12_read_330 ?_
        refine Wp.aload_n (pc := 331) 0 rfl rfl dX12_read_331 ?_
        refine Wp.getI (pc := 332) hx0 fk_RX12_287 rfl dX12_read_332 ?_
        obtain ⟨μ17, h18, hf⟩ := bnd hf
        refine Wp.ptI (pc := 335) h18 hx0 fk_RX12_284 ff_RX12_11_18 rfl dX12_read_335 ?_
        refine Wp.aload_n (pc := 338) 0 rfl rfl dX12_read_338 ?_
        obtain ⟨c19, h20, hf⟩ := bnd hf
        refine Wp.callVv (pc := 339) (st := []) (as := []) (c_X12_begins hx0 h20) ml_RX12_308 mv_X12_begins mb_X12_begins hX (Nat.le_of_ble_eq_true rfl) (by decide) rfl hx0 rfl (by simp) dX12_read_339 rfl ?_
        refine Wp.aload_n (pc := 342) 0 rfl rfl dX12_read_342 ?_
        refine Wp.iconst (pc := 343) (0 : Int32) (by decide) dX12_read_343 ?_
        obtain ⟨μ21, h22, hf⟩ := bnd hf
        refine Wp.ptI (pc := 344) h22 hx0 fk_RX12_311 ff_RX12_11_61 rfl dX12_read_344 ?_
        refine Wp.aload_n (pc := 347) 0 rfl rfl dX12_read_347 ?_
        refine Wp.iconst (pc := 348) (0 : Int32) (by decide) dX12_read_348 ?_
        obtain ⟨μ23, h24, hf⟩ := bnd hf
        refine Wp.ptI (pc := 349) h24 hx0 fk_RX12_314 ff_RX12_11_79 rfl dX12_read_349 ?_
        refine Wp.iconst (pc := 352) (0 : Int32) (by decide) dX12_read_352 ?_
        refine Wp.istore_n (pc := 353) (lo' := [(0, .ref x0), (1, .int (0 : Int32))]) [1, 0] rfl (by decide) rfl dX12_read_353 ?_
        obtain ⟨e25, h26, hf⟩ := bnd hf
        refine wl_X12_read_354 hX hx0 h26 ?_
        refine Wp.iconst (pc := 372) (0 : Int32) (by decide) dX12_read_372 ?_
        cases hf
        exact hk _ _ dX12_read_373
    · rw [if_neg hc4] at hf
      refine Wp.aload_n (pc := 265) 0 rfl rfl dX12_read_265 ?_
      refine Wp.getI (pc := 266) hx0 fk_RX12_263 rfl dX12_read_266 ?_
      cases hf
      exact hk _ _ dX12_read_269
  · rw [if_neg hc3] at hf
    refine Wp.aload_n (pc := 253) 0 rfl rfl dX12_read_253 ?_
    refine Wp.getI (pc := 254) hx0 fk_RX12_254 rfl dX12_read_254 ?_
    cases hf
    exact hk _ _ dX12_read_257
set_option maxHeartbeats 4000000 in
set_option maxRecDepth 100000 in
theorem w_X12_read_213 {X : CX} {T : List Dsc} {n1 n2 : Nat} {x0 : Nat} {μ : Mem} {r : (Int32 × Mem)} (hX : XR X 9 n1 n2) (hx0 : T[x0]? = some (.inl 11)) (hf : f_X12_read_213 T x0 μ = some r) (hk : FnI X cX12_read RX12 2 T n1 n2 r) : Wp X cX12_read RX12 2 T μ n1 n2 213 [(0, .ref x0)] [] := by
  unfold f_X12_read_213 at hf
  refine Wp.aload_n (pc := 213) 0 rfl rfl dX12_read_213 ?_
  refine Wp.aload_n (pc := 214) 0 rfl rfl dX12_read_214 ?_
  refine Wp.getI (pc := 215) hx0 fk_RX12_254 rfl dX12_read_215 ?_
  refine Wp.if_le (pc := 218) 228 dX12_read_218 (by decide) (fun hc1 => ?_) (fun hc1 => ?_)
  · rw [if_pos hc1] at hf
    refine Wp.aload_n (pc := 228) 0 rfl rfl dX12_read_228 ?_
    refine Wp.getI (pc := 229) hx0 fk_RX12_263 rfl dX12_read_229 ?_
    refine Wp.if_le (pc := 232) 242 dX12_read_232 (by decide) (fun hc2 => ?_) (fun hc2 => ?_)
    · rw [if_pos hc2] at hf
      refine Wp.iconst (pc := 242) (-1 : Int32) (by decide) dX12_read_242 ?_
      exact w_X12_read_243 hX hx0 hx0 hf hk
    · rw [if_neg hc2] at hf
      refine Wp.aload_n (pc := 235) 0 rfl rfl dX12_read_235 ?_
      refine Wp.getI (pc := 236) hx0 fk_RX12_266 rfl dX12_read_236 ?_
      refine Wp.goto (pc := 239) 243 dX12_read_239 (by decide) ?_
      exact w_X12_read_243 hX hx0 hx0 hf hk
  · rw [if_neg hc1] at hf
    refine Wp.aload_n (pc := 221) 0 rfl rfl dX12_read_221 ?_
    refine Wp.getI (pc := 222) hx0 fk_RX12_260 rfl dX12_read_222 ?_
    refine Wp.goto (pc := 225) 243 dX12_read_225 (by decide) ?_
    exact w_X12_read_243 hX hx0 hx0 hf hk
set_option maxHeartbeats 4000000 in
set_option maxRecDepth 100000 in
theorem w_X12_read {X : CX} {T : List Dsc} {n1 n2 : Nat} {x0 : Nat} {μ : Mem} {r : (Int32 × Mem)} (hX : XR X 9 n1 n2) (hx0 : T[x0]? = some (.inl 11)) (hf : F_X12_read T x0 μ = some r) (hk : FnI X cX12_read RX12 2 T n1 n2 r) : Wp X cX12_read RX12 2 T μ n1 n2 0 [(0, .ref x0)] [] := by
  unfold F_X12_read at hf
  refine Wp.aload_n (pc := 0) 0 rfl rfl dX12_read_0 ?_
  refine Wp.aload_n (pc := 1) 0 rfl rfl dX12_read_1 ?_
  refine Wp.getI (pc := 2) hx0 fk_RX12_216 rfl dX12_read_2 ?_
  obtain ⟨μ1, h2, hf⟩ := bnd hf
  refine Wp.ptI (pc := 5) h2 hx0 fk_RX12_223 ff_RX12_11_4 rfl dX12_read_5 ?_
  refine Wp.iconst (pc := 8) (0 : Int32) (by decide) dX12_read_8 ?_
  refine Wp.istore_n (pc := 9) (lo' := [(0, .ref x0), (1, .int (0 : Int32))]) [1, 0] rfl (by decide) rfl dX12_read_9 ?_
  obtain ⟨e3, h4, hf⟩ := bnd hf
  refine wl_X12_read_10 hX hx0 h4 ?_
  refine Wp.aload_n (pc := 36) 0 rfl rfl dX12_read_36 ?_
  refine Wp.iconst (pc := 37) (0 : Int32) (by decide) dX12_read_37 ?_
  obtain ⟨μ5, h6, hf⟩ := bnd hf
  refine Wp.ptI (pc := 38) h6 hx0 fk_RX12_216 ff_RX12_11_2 rfl dX12_read_38 ?_
  refine Wp.aload_n (pc := 41) 0 rfl rfl dX12_read_41 ?_
  obtain ⟨c7, h8, hf⟩ := bnd hf
  refine Wp.callVv (pc := 42) (st := []) (as := []) (c_X12_cut hx0 h8) ml_RX12_278 mv_X12_cut mb_X12_cut hX (Nat.le_of_ble_eq_true rfl) (by decide) rfl hx0 rfl (by simp) dX12_read_42 rfl ?_
  refine Wp.aload_n (pc := 45) 0 rfl rfl dX12_read_45 ?_
  refine Wp.iconst (pc := 46) (0 : Int32) (by decide) dX12_read_46 ?_
  obtain ⟨μ9, h10, hf⟩ := bnd hf
  refine Wp.ptI (pc := 47) h10 hx0 fk_RX12_257 ff_RX12_11_11 rfl dX12_read_47 ?_
  refine Wp.aload_n (pc := 50) 0 rfl rfl dX12_read_50 ?_
  refine Wp.iconst (pc := 51) (0 : Int32) (by decide) dX12_read_51 ?_
  obtain ⟨μ11, h12, hf⟩ := bnd hf
  refine Wp.ptI (pc := 52) h12 hx0 fk_RX12_281 ff_RX12_11_12 rfl dX12_read_52 ?_
  refine Wp.aload_n (pc := 55) 0 rfl rfl dX12_read_55 ?_
  refine Wp.iconst (pc := 56) (0 : Int32) (by decide) dX12_read_56 ?_
  obtain ⟨μ13, h14, hf⟩ := bnd hf
  refine Wp.ptI (pc := 57) h14 hx0 fk_RX12_254 ff_RX12_11_13 rfl dX12_read_57 ?_
  refine Wp.aload_n (pc := 60) 0 rfl rfl dX12_read_60 ?_
  refine Wp.iconst (pc := 61) (0 : Int32) (by decide) dX12_read_61 ?_
  obtain ⟨μ15, h16, hf⟩ := bnd hf
  refine Wp.ptI (pc := 62) h16 hx0 fk_RX12_263 ff_RX12_11_15 rfl dX12_read_62 ?_
  refine Wp.aload_n (pc := 65) 0 rfl rfl dX12_read_65 ?_
  refine Wp.iconst (pc := 66) (1 : Int32) (by decide) dX12_read_66 ?_
  refine Wp.aload_n (pc := 67) 0 rfl rfl dX12_read_67 ?_
  refine Wp.getI (pc := 68) hx0 fk_RX12_284 rfl dX12_read_68 ?_
  refine Wp.isub (pc := 71) dX12_read_71 ?_
  obtain ⟨μ17, h18, hf⟩ := bnd hf
  refine Wp.ptI (pc := 72) h18 hx0 fk_RX12_287 ff_RX12_11_19 rfl dX12_read_72 ?_
  refine Wp.aload_n (pc := 75) 0 rfl rfl dX12_read_75 ?_
  refine Wp.iconst (pc := 76) (0 : Int32) (by decide) dX12_read_76 ?_
  obtain ⟨μ19, h20, hf⟩ := bnd hf
  refine Wp.ptI (pc := 77) h20 hx0 fk_RX12_290 ff_RX12_11_20 rfl dX12_read_77 ?_
  refine Wp.aload_n (pc := 80) 0 rfl rfl dX12_read_80 ?_
  obtain ⟨a21, h22, hf⟩ := bnd hf
  refine Wp.getR (pc := 81) (gA_R h22) hx0 fk_RX12_46 rfl dX12_read_81 ?_
  refine Wp.aload_n (pc := 84) 0 rfl rfl dX12_read_84 ?_
  refine Wp.getI (pc := 85) hx0 fk_RX12_287 rfl dX12_read_85 ?_
  refine Wp.bipush (pc := 88) (24 : Int32) (by decide) dX12_read_88 ?_
  obtain ⟨μ23, h24, hf⟩ := bnd hf
  refine Wp.iast (pc := 90) h24 (gA_T h22) dX12_read_90 ?_
  refine Wp.aload_n (pc := 91) 0 rfl rfl dX12_read_91 ?_
  obtain ⟨a25, h26, hf⟩ := bnd hf
  refine Wp.getR (pc := 92) (gA_R h26) hx0 fk_RX12_49 rfl dX12_read_92 ?_
  refine Wp.aload_n (pc := 95) 0 rfl rfl dX12_read_95 ?_
  refine Wp.getI (pc := 96) hx0 fk_RX12_287 rfl dX12_read_96 ?_
  refine Wp.iconst (pc := 99) (0 : Int32) (by decide) dX12_read_99 ?_
  obtain ⟨μ27, h28, hf⟩ := bnd hf
  refine Wp.iast (pc := 100) h28 (gA_T h26) dX12_read_100 ?_
  refine Wp.aload_n (pc := 101) 0 rfl rfl dX12_read_101 ?_
  refine Wp.bipush (pc := 102) (54 : Int32) (by decide) dX12_read_102 ?_
  refine Wp.aload_n (pc := 104) 0 rfl rfl dX12_read_104 ?_
  refine Wp.getI (pc := 105) hx0 fk_RX12_287 rfl dX12_read_105 ?_
  refine Wp.imul (pc := 108) dX12_read_108 ?_
  obtain ⟨μ29, h30, hf⟩ := bnd hf
  refine Wp.ptI (pc := 109) h30 hx0 fk_RX12_293 ff_RX12_11_27 rfl dX12_read_109 ?_
  refine Wp.aload_n (pc := 112) 0 rfl rfl dX12_read_112 ?_
  obtain ⟨a31, h32, hf⟩ := bnd hf
  refine Wp.getR (pc := 113) (gA_R h32) hx0 fk_RX12_70 rfl dX12_read_113 ?_
  refine Wp.aload_n (pc := 116) 0 rfl rfl dX12_read_116 ?_
  refine Wp.getI (pc := 117) hx0 fk_RX12_287 rfl dX12_read_117 ?_
  refine Wp.iconst (pc := 120) (0 : Int32) (by decide) dX12_read_120 ?_
  obtain ⟨μ33, h34, hf⟩ := bnd hf
  refine Wp.iast (pc := 121) h34 (gA_T h32) dX12_read_121 ?_
  refine Wp.aload_n (pc := 122) 0 rfl rfl dX12_read_122 ?_
  obtain ⟨a35, h36, hf⟩ := bnd hf
  refine Wp.getR (pc := 123) (gA_R h36) hx0 fk_RX12_79 rfl dX12_read_123 ?_
  refine Wp.aload_n (pc := 126) 0 rfl rfl dX12_read_126 ?_
  refine Wp.getI (pc := 127) hx0 fk_RX12_287 rfl dX12_read_127 ?_
  refine Wp.iconst (pc := 130) (-1 : Int32) (by decide) dX12_read_130 ?_
  obtain ⟨μ37, h38, hf⟩ := bnd hf
  refine Wp.iast (pc := 131) h38 (gA_T h36) dX12_read_131 ?_
  refine Wp.aload_n (pc := 132) 0 rfl rfl dX12_read_132 ?_
  obtain ⟨a39, h40, hf⟩ := bnd hf
  refine Wp.getR (pc := 133) (gA_R h40) hx0 fk_RX12_82 rfl dX12_read_133 ?_
  refine Wp.aload_n (pc := 136) 0 rfl rfl dX12_read_136 ?_
  refine Wp.getI (pc := 137) hx0 fk_RX12_287 rfl dX12_read_137 ?_
  refine Wp.iconst (pc := 140) (0 : Int32) (by decide) dX12_read_140 ?_
  obtain ⟨μ41, h42, hf⟩ := bnd hf
  refine Wp.iast (pc := 141) h42 (gA_T h40) dX12_read_141 ?_
  refine Wp.aload_n (pc := 142) 0 rfl rfl dX12_read_142 ?_
  obtain ⟨a43, h44, hf⟩ := bnd hf
  refine Wp.getR (pc := 143) (gA_R h44) hx0 fk_RX12_85 rfl dX12_read_143 ?_
  refine Wp.aload_n (pc := 146) 0 rfl rfl dX12_read_146 ?_
  refine Wp.getI (pc := 147) hx0 fk_RX12_287 rfl dX12_read_147 ?_
  refine Wp.iconst (pc := 150) (-1 : Int32) (by decide) dX12_read_150 ?_
  obtain ⟨μ45, h46, hf⟩ := bnd hf
  refine Wp.iast (pc := 151) h46 (gA_T h44) dX12_read_151 ?_
  refine Wp.aload_n (pc := 152) 0 rfl rfl dX12_read_152 ?_
  obtain ⟨a47, h48, hf⟩ := bnd hf
  refine Wp.getR (pc := 153) (gA_R h48) hx0 fk_RX12_88 rfl dX12_read_153 ?_
  refine Wp.aload_n (pc := 156) 0 rfl rfl dX12_read_156 ?_
  refine Wp.getI (pc := 157) hx0 fk_RX12_287 rfl dX12_read_157 ?_
  refine Wp.iconst (pc := 160) (0 : Int32) (by decide) dX12_read_160 ?_
  obtain ⟨μ49, h50, hf⟩ := bnd hf
  refine Wp.iast (pc := 161) h50 (gA_T h48) dX12_read_161 ?_
  refine Wp.aload_n (pc := 162) 0 rfl rfl dX12_read_162 ?_
  refine Wp.sipush (pc := 163) (150 : Int32) (by decide) dX12_read_163 ?_
  refine Wp.aload_n (pc := 166) 0 rfl rfl dX12_read_166 ?_
  refine Wp.getI (pc := 167) hx0 fk_RX12_287 rfl dX12_read_167 ?_
  refine Wp.imul (pc := 170) dX12_read_170 ?_
  obtain ⟨μ51, h52, hf⟩ := bnd hf
  refine Wp.ptI (pc := 171) h52 hx0 fk_RX12_296 ff_RX12_11_41 rfl dX12_read_171 ?_
  refine Wp.aload_n (pc := 174) 0 rfl rfl dX12_read_174 ?_
  refine Wp.sipush (pc := 175) (420 : Int32) (by decide) dX12_read_175 ?_
  refine Wp.aload_n (pc := 178) 0 rfl rfl dX12_read_178 ?_
  refine Wp.getI (pc := 179) hx0 fk_RX12_287 rfl dX12_read_179 ?_
  refine Wp.imul (pc := 182) dX12_read_182 ?_
  obtain ⟨μ53, h54, hf⟩ := bnd hf
  refine Wp.ptI (pc := 183) h54 hx0 fk_RX12_299 ff_RX12_11_48 rfl dX12_read_183 ?_
  refine Wp.aload_n (pc := 186) 0 rfl rfl dX12_read_186 ?_
  refine Wp.iconst (pc := 187) (0 : Int32) (by decide) dX12_read_187 ?_
  obtain ⟨μ55, h56, hf⟩ := bnd hf
  refine Wp.ptI (pc := 188) h56 hx0 fk_RX12_302 ff_RX12_11_51 rfl dX12_read_188 ?_
  obtain ⟨e57, h58, hf⟩ := bnd hf
  refine wl_X12_read_191 hX hx0 h58 ?_
  exact w_X12_read_213 hX hx0 hf hk
theorem c_X12_read {T : List Dsc} {x0 : Nat} {μ : Mem} {r : (Int32 × Mem)} (hx0 : T[x0]? = some (.inl 11)) (hf : F_X12_read T x0 μ = some r) : Ct 9 yX12_read cX12_read 2 (some .int) T μ [.ref x0] (some (.int r.1)) r.2 := Ct.ofI (by decide +kernel) (Nat.le_of_ble_eq_true rfl) (fun X hX hk => w_X12_read hX hx0 hf hk)
theorem dX12_place_0 : decode cX12_place 0 = .ok (.aload_n 0, 1) := by decide +kernel
theorem dX12_place_1 : decode cX12_place 1 = .ok (.getfield 37, 3) := by decide +kernel
theorem dX12_place_4 : decode cX12_place 4 = .ok (.ireturn, 1) := by decide +kernel
set_option maxHeartbeats 4000000 in
set_option maxRecDepth 100000 in
theorem w_X12_place {X : CX} {T : List Dsc} {n1 n2 : Nat} {x0 : Nat} {μ : Mem} {r : (Int32 × Mem)} (hX : XR X 1 n1 n2) (hx0 : T[x0]? = some (.inl 11)) (hf : F_X12_place T x0 μ = some r) (hk : FnI X cX12_place RX12 1 T n1 n2 r) : Wp X cX12_place RX12 1 T μ n1 n2 0 [(0, .ref x0)] [] := by
  unfold F_X12_place at hf
  refine Wp.aload_n (pc := 0) 0 rfl rfl dX12_place_0 ?_
  refine Wp.getI (pc := 1) hx0 fk_RX12_37 rfl dX12_place_1 ?_
  cases hf
  exact hk _ _ dX12_place_4
theorem c_X12_place {T : List Dsc} {x0 : Nat} {μ : Mem} {r : (Int32 × Mem)} (hx0 : T[x0]? = some (.inl 11)) (hf : F_X12_place T x0 μ = some r) : Ct 1 yX12_place cX12_place 1 (some .int) T μ [.ref x0] (some (.int r.1)) r.2 := Ct.ofI (by decide +kernel) (Nat.le_of_ble_eq_true rfl) (fun X hX hk => w_X12_place hX hx0 hf hk)
theorem dX12_in_0 : decode cX12_in 0 = .ok (.iload_n 0, 1) := by decide +kernel
theorem dX12_in_1 : decode cX12_in 1 = .ok (.iload_n 1, 1) := by decide +kernel
theorem dX12_in_2 : decode cX12_in 2 = .ok (.if_icmp .lt 12, 3) := by decide +kernel
theorem dX12_in_5 : decode cX12_in 5 = .ok (.iload_n 0, 1) := by decide +kernel
theorem dX12_in_6 : decode cX12_in 6 = .ok (.iload_n 2, 1) := by decide +kernel
theorem dX12_in_7 : decode cX12_in 7 = .ok (.if_icmp .gt 7, 3) := by decide +kernel
theorem dX12_in_10 : decode cX12_in 10 = .ok (.iconst 1, 1) := by decide +kernel
theorem dX12_in_11 : decode cX12_in 11 = .ok (.goto 4, 3) := by decide +kernel
theorem dX12_in_14 : decode cX12_in 14 = .ok (.iconst 0, 1) := by decide +kernel
theorem dX12_in_15 : decode cX12_in 15 = .ok (.ireturn, 1) := by decide +kernel
set_option maxHeartbeats 4000000 in
set_option maxRecDepth 100000 in
theorem w_X12_in_15 {X : CX} {T : List Dsc} {n1 n2 : Nat} {s0 : Int32} {μ : Mem} {r : (Int32 × Mem)} (hX : XR X 1 n1 n2) (hf : f_X12_in_15 T s0 μ = some r) (hk : FnZ X cX12_in RX12 3 T n1 n2 r) : Wp X cX12_in RX12 3 T μ n1 n2 15 [] [.int s0] := by
  unfold f_X12_in_15 at hf
  obtain ⟨v1, h2, hf⟩ := bnd hf
  refine Wp.zb' h2 (fun h2 => ?_)
  cases hf
  exact hk _ _ h2 dX12_in_15
set_option maxHeartbeats 4000000 in
set_option maxRecDepth 100000 in
theorem w_X12_in_14 {X : CX} {T : List Dsc} {n1 n2 : Nat} {μ : Mem} {r : (Int32 × Mem)} (hX : XR X 1 n1 n2) (hf : f_X12_in_14 T μ = some r) (hk : FnZ X cX12_in RX12 3 T n1 n2 r) : Wp X cX12_in RX12 3 T μ n1 n2 14 [] [] := by
  unfold f_X12_in_14 at hf
  refine Wp.iconst (pc := 14) (0 : Int32) (by decide) dX12_in_14 ?_
  exact w_X12_in_15 hX hf hk
set_option maxHeartbeats 4000000 in
set_option maxRecDepth 100000 in
theorem w_X12_in {X : CX} {T : List Dsc} {n1 n2 : Nat} {x0 : Int32} {x1 : Int32} {x2 : Int32} {μ : Mem} {r : (Int32 × Mem)} (hX : XR X 1 n1 n2) (hf : F_X12_in T x0 x1 x2 μ = some r) (hk : FnZ X cX12_in RX12 3 T n1 n2 r) : Wp X cX12_in RX12 3 T μ n1 n2 0 [(0, .int x0), (1, .int x1), (2, .int x2)] [] := by
  unfold F_X12_in at hf
  refine Wp.iload_n (pc := 0) 0 rfl rfl dX12_in_0 ?_
  refine Wp.iload_n (pc := 1) 1 rfl rfl dX12_in_1 ?_
  refine Wp.icmp_lt (pc := 2) 14 dX12_in_2 (by decide) (fun hc1 => ?_) (fun hc1 => ?_)
  · rw [if_pos hc1] at hf
    refine Wp.lo' (lo' := []) [] rfl ?_
    exact w_X12_in_14 hX hf hk
  · rw [if_neg hc1] at hf
    refine Wp.iload_n (pc := 5) 0 rfl rfl dX12_in_5 ?_
    refine Wp.iload_n (pc := 6) 2 rfl rfl dX12_in_6 ?_
    refine Wp.icmp_gt (pc := 7) 14 dX12_in_7 (by decide) (fun hc2 => ?_) (fun hc2 => ?_)
    · rw [if_pos hc2] at hf
      refine Wp.lo' (lo' := []) [] rfl ?_
      exact w_X12_in_14 hX hf hk
    · rw [if_neg hc2] at hf
      refine Wp.iconst (pc := 10) (1 : Int32) (by decide) dX12_in_10 ?_
      refine Wp.goto (pc := 11) 15 dX12_in_11 (by decide) ?_
      refine Wp.lo' (lo' := []) [] rfl ?_
      exact w_X12_in_15 hX hf hk
theorem c_X12_in {T : List Dsc} {x0 : Int32} {x1 : Int32} {x2 : Int32} {μ : Mem} {r : (Int32 × Mem)} (hf : F_X12_in T x0 x1 x2 μ = some r) : Ct 1 yX12_in cX12_in 3 (some .boolean) T μ [.int x0, .int x1, .int x2] (some (.int r.1)) r.2 := Ct.ofZ (by decide +kernel) (Nat.le_of_ble_eq_true rfl) (fun X hX hk => w_X12_in hX hf hk)
theorem dX12_all_0 : decode cX12_all 0 = .ok (.aload_n 0, 1) := by decide +kernel
theorem dX12_all_1 : decode cX12_all 1 = .ok (.getfield 46, 3) := by decide +kernel
theorem dX12_all_4 : decode cX12_all 4 = .ok (.aload_n 0, 1) := by decide +kernel
theorem dX12_all_5 : decode cX12_all 5 = .ok (.getfield 284, 3) := by decide +kernel
theorem dX12_all_8 : decode cX12_all 8 = .ok (.iaload, 1) := by decide +kernel
theorem dX12_all_9 : decode cX12_all 9 = .ok (.ireturn, 1) := by decide +kernel
set_option maxHeartbeats 4000000 in
set_option maxRecDepth 100000 in
theorem w_X12_all {X : CX} {T : List Dsc} {n1 n2 : Nat} {x0 : Nat} {μ : Mem} {r : (Int32 × Mem)} (hX : XR X 1 n1 n2) (hx0 : T[x0]? = some (.inl 11)) (hf : F_X12_all T x0 μ = some r) (hk : FnI X cX12_all RX12 1 T n1 n2 r) : Wp X cX12_all RX12 1 T μ n1 n2 0 [(0, .ref x0)] [] := by
  unfold F_X12_all at hf
  refine Wp.aload_n (pc := 0) 0 rfl rfl dX12_all_0 ?_
  obtain ⟨a1, h2, hf⟩ := bnd hf
  refine Wp.getR (pc := 1) (gA_R h2) hx0 fk_RX12_46 rfl dX12_all_1 ?_
  refine Wp.aload_n (pc := 4) 0 rfl rfl dX12_all_4 ?_
  refine Wp.getI (pc := 5) hx0 fk_RX12_284 rfl dX12_all_5 ?_
  obtain ⟨v3, h4, hf⟩ := bnd hf
  refine Wp.iald (pc := 8) h4 (gA_T h2) dX12_all_8 ?_
  cases hf
  exact hk _ _ dX12_all_9
theorem c_X12_all {T : List Dsc} {x0 : Nat} {μ : Mem} {r : (Int32 × Mem)} (hx0 : T[x0]? = some (.inl 11)) (hf : F_X12_all T x0 μ = some r) : Ct 1 yX12_all cX12_all 1 (some .int) T μ [.ref x0] (some (.int r.1)) r.2 := Ct.ofI (by decide +kernel) (Nat.le_of_ble_eq_true rfl) (fun X hX hk => w_X12_all hX hx0 hf hk)
theorem dX12_takes_0 : decode cX12_takes 0 = .ok (.aload_n 0, 1) := by decide +kernel
theorem dX12_takes_1 : decode cX12_takes 1 = .ok (.aload_n 0, 1) := by decide +kernel
theorem dX12_takes_2 : decode cX12_takes 2 = .ok (.invokevirtual 390, 3) := by decide +kernel
theorem dX12_takes_5 : decode cX12_takes 5 = .ok (.putfield 399, 3) := by decide +kernel
theorem dX12_takes_8 : decode cX12_takes 8 = .ok (.aload_n 0, 1) := by decide +kernel
theorem dX12_takes_9 : decode cX12_takes 9 = .ok (.aload_n 0, 1) := by decide +kernel
theorem dX12_takes_10 : decode cX12_takes 10 = .ok (.getfield 209, 3) := by decide +kernel
theorem dX12_takes_13 : decode cX12_takes 13 = .ok (.putfield 402, 3) := by decide +kernel
theorem dX12_takes_16 : decode cX12_takes 16 = .ok (.aload_n 0, 1) := by decide +kernel
theorem dX12_takes_17 : decode cX12_takes 17 = .ok (.aload_n 0, 1) := by decide +kernel
theorem dX12_takes_18 : decode cX12_takes 18 = .ok (.getfield 393, 3) := by decide +kernel
theorem dX12_takes_21 : decode cX12_takes 21 = .ok (.putfield 405, 3) := by decide +kernel
theorem dX12_takes_24 : decode cX12_takes 24 = .ok (.iconst 0, 1) := by decide +kernel
theorem dX12_takes_25 : decode cX12_takes 25 = .ok (.istore_n 1, 1) := by decide +kernel
theorem dX12_takes_26 : decode cX12_takes 26 = .ok (.iload_n 1, 1) := by decide +kernel
theorem dX12_takes_27 : decode cX12_takes 27 = .ok (.aload_n 0, 1) := by decide +kernel
theorem dX12_takes_28 : decode cX12_takes 28 = .ok (.getfield 399, 3) := by decide +kernel
theorem dX12_takes_31 : decode cX12_takes 31 = .ok (.if_icmp .ge 33, 3) := by decide +kernel
theorem dX12_takes_34 : decode cX12_takes 34 = .ok (.aload_n 0, 1) := by decide +kernel
theorem dX12_takes_35 : decode cX12_takes 35 = .ok (.getfield 140, 3) := by decide +kernel
theorem dX12_takes_38 : decode cX12_takes 38 = .ok (.iload_n 1, 1) := by decide +kernel
theorem dX12_takes_39 : decode cX12_takes 39 = .ok (.aload_n 0, 1) := by decide +kernel
theorem dX12_takes_40 : decode cX12_takes 40 = .ok (.getfield 128, 3) := by decide +kernel
theorem dX12_takes_43 : decode cX12_takes 43 = .ok (.iload_n 1, 1) := by decide +kernel
theorem dX12_takes_44 : decode cX12_takes 44 = .ok (.iaload, 1) := by decide +kernel
theorem dX12_takes_45 : decode cX12_takes 45 = .ok (.iastore, 1) := by decide +kernel
theorem dX12_takes_46 : decode cX12_takes 46 = .ok (.aload_n 0, 1) := by decide +kernel
theorem dX12_takes_47 : decode cX12_takes 47 = .ok (.getfield 143, 3) := by decide +kernel
theorem dX12_takes_50 : decode cX12_takes 50 = .ok (.iload_n 1, 1) := by decide +kernel
theorem dX12_takes_51 : decode cX12_takes 51 = .ok (.aload_n 0, 1) := by decide +kernel
theorem dX12_takes_52 : decode cX12_takes 52 = .ok (.getfield 134, 3) := by decide +kernel
theorem dX12_takes_55 : decode cX12_takes 55 = .ok (.iload_n 1, 1) := by decide +kernel
theorem dX12_takes_56 : decode cX12_takes 56 = .ok (.iaload, 1) := by decide +kernel
theorem dX12_takes_57 : decode cX12_takes 57 = .ok (.iastore, 1) := by decide +kernel
theorem dX12_takes_58 : decode cX12_takes 58 = .ok (.iinc 1 1, 3) := by decide +kernel
theorem dX12_takes_61 : decode cX12_takes 61 = .ok (.goto (-35), 3) := by decide +kernel
theorem dX12_takes_64 : decode cX12_takes 64 = .ok (.return_, 1) := by decide +kernel
def k_X12_takes_26 (X : CX) (T : List Dsc) (n1 n2 : Nat) (x0 : Nat) (r : ((Int32 × Mem) ⊕ ((Mem)))) : Prop := match r with
  | .inl s => Wp X cX12_takes RX12 2 T s.2 n1 n2 26 [(0, .ref x0), (1, .int s.1)] []
  | .inr e => Wp X cX12_takes RX12 2 T e n1 n2 64 [] []
set_option maxHeartbeats 4000000 in
set_option maxRecDepth 100000 in
theorem w_X12_takes_26 {X : CX} {T : List Dsc} {n1 n2 : Nat} {x0 : Nat} {x1 : Int32} {μ : Mem} {r : ((Int32 × Mem) ⊕ ((Mem)))} (hX : XR X 2 n1 n2) (hx0 : T[x0]? = some (.inl 11)) (hf : f_X12_takes_26 T x0 x1 μ = some r) (hk : k_X12_takes_26 X T n1 n2 x0 r) : Wp X cX12_takes RX12 2 T μ n1 n2 26 [(0, .ref x0), (1, .int x1)] [] := by
  unfold f_X12_takes_26 at hf
  refine Wp.iload_n (pc := 26) 1 rfl rfl dX12_takes_26 ?_
  refine Wp.aload_n (pc := 27) 0 rfl rfl dX12_takes_27 ?_
  refine Wp.getI (pc := 28) hx0 fk_RX12_399 rfl dX12_takes_28 ?_
  refine Wp.icmp_ge (pc := 31) 64 dX12_takes_31 (by decide) (fun hc1 => ?_) (fun hc1 => ?_)
  · rw [if_pos hc1] at hf
    refine Wp.lo' (lo' := []) [] rfl ?_
    cases hf
    exact hk
  · rw [if_neg hc1] at hf
    refine Wp.aload_n (pc := 34) 0 rfl rfl dX12_takes_34 ?_
    obtain ⟨a2, h3, hf⟩ := bnd hf
    refine Wp.getR (pc := 35) (gA_R h3) hx0 fk_RX12_140 rfl dX12_takes_35 ?_
    refine Wp.iload_n (pc := 38) 1 rfl rfl dX12_takes_38 ?_
    refine Wp.aload_n (pc := 39) 0 rfl rfl dX12_takes_39 ?_
    obtain ⟨a4, h5, hf⟩ := bnd hf
    refine Wp.getR (pc := 40) (gA_R h5) hx0 fk_RX12_128 rfl dX12_takes_40 ?_
    refine Wp.iload_n (pc := 43) 1 rfl rfl dX12_takes_43 ?_
    obtain ⟨v6, h7, hf⟩ := bnd hf
    refine Wp.iald (pc := 44) h7 (gA_T h5) dX12_takes_44 ?_
    obtain ⟨μ8, h9, hf⟩ := bnd hf
    refine Wp.iast (pc := 45) h9 (gA_T h3) dX12_takes_45 ?_
    refine Wp.aload_n (pc := 46) 0 rfl rfl dX12_takes_46 ?_
    obtain ⟨a10, h11, hf⟩ := bnd hf
    refine Wp.getR (pc := 47) (gA_R h11) hx0 fk_RX12_143 rfl dX12_takes_47 ?_
    refine Wp.iload_n (pc := 50) 1 rfl rfl dX12_takes_50 ?_
    refine Wp.aload_n (pc := 51) 0 rfl rfl dX12_takes_51 ?_
    obtain ⟨a12, h13, hf⟩ := bnd hf
    refine Wp.getR (pc := 52) (gA_R h13) hx0 fk_RX12_134 rfl dX12_takes_52 ?_
    refine Wp.iload_n (pc := 55) 1 rfl rfl dX12_takes_55 ?_
    obtain ⟨v14, h15, hf⟩ := bnd hf
    refine Wp.iald (pc := 56) h15 (gA_T h13) dX12_takes_56 ?_
    obtain ⟨μ16, h17, hf⟩ := bnd hf
    refine Wp.iast (pc := 57) h17 (gA_T h11) dX12_takes_57 ?_
    obtain ⟨v18, h19, hf⟩ := bnd hf
    refine Wp.iincN (pc := 58) (lo' := [(0, .ref x0), (1, .int v18)]) (1 : Int32) (by decide) h19 1 rfl [1, 0] rfl (by decide) dX12_takes_58 ?_
    refine Wp.goto (pc := 61) 26 dX12_takes_61 (by decide) ?_
    cases hf
    exact hk
theorem wl_X12_takes_26 {X : CX} {T : List Dsc} {n1 n2 : Nat} {x0 : Nat} {x1 : Int32} {μ : Mem} {e : ((Mem))} (hX : XR X 2 n1 n2) (hx0 : T[x0]? = some (.inl 11)) (h : loop (g_X12_takes_26 T x0) (x1, μ) = some e) (he : Wp X cX12_takes RX12 2 T e n1 n2 64 [] []) : Wp X cX12_takes RX12 2 T μ n1 n2 26 [(0, .ref x0), (1, .int x1)] [] :=
  loop_ok (K := k_X12_takes_26 X T n1 n2 x0) (fun s r hf hk => w_X12_takes_26 hX hx0 hf hk) h he
set_option maxHeartbeats 4000000 in
set_option maxRecDepth 100000 in
theorem w_X12_takes {X : CX} {T : List Dsc} {n1 n2 : Nat} {x0 : Nat} {μ : Mem} {r : Mem} (hX : XR X 2 n1 n2) (hx0 : T[x0]? = some (.inl 11)) (hf : F_X12_takes T x0 μ = some r) (hk : FnV X cX12_takes RX12 2 T n1 n2 r) : Wp X cX12_takes RX12 2 T μ n1 n2 0 [(0, .ref x0)] [] := by
  unfold F_X12_takes at hf
  refine Wp.aload_n (pc := 0) 0 rfl rfl dX12_takes_0 ?_
  refine Wp.aload_n (pc := 1) 0 rfl rfl dX12_takes_1 ?_
  obtain ⟨c1, h2, hf⟩ := bnd hf
  refine Wp.callVi (pc := 2) (st := [.ref x0]) (as := []) (c_X12_menNow hx0 h2) ml_RX12_390 mv_X12_menNow mb_X12_menNow hX (Nat.le_of_ble_eq_true rfl) (by decide) rfl hx0 rfl (by simp [Value.category]) dX12_takes_2 rfl ?_
  obtain ⟨μ3, h4, hf⟩ := bnd hf
  refine Wp.ptI (pc := 5) h4 hx0 fk_RX12_399 ff_RX12_11_65 rfl dX12_takes_5 ?_
  refine Wp.aload_n (pc := 8) 0 rfl rfl dX12_takes_8 ?_
  refine Wp.aload_n (pc := 9) 0 rfl rfl dX12_takes_9 ?_
  refine Wp.getI (pc := 10) hx0 fk_RX12_209 rfl dX12_takes_10 ?_
  obtain ⟨μ5, h6, hf⟩ := bnd hf
  refine Wp.ptI (pc := 13) h6 hx0 fk_RX12_402 ff_RX12_11_66 rfl dX12_takes_13 ?_
  refine Wp.aload_n (pc := 16) 0 rfl rfl dX12_takes_16 ?_
  refine Wp.aload_n (pc := 17) 0 rfl rfl dX12_takes_17 ?_
  refine Wp.getI (pc := 18) hx0 fk_RX12_393 rfl dX12_takes_18 ?_
  obtain ⟨μ7, h8, hf⟩ := bnd hf
  refine Wp.ptI (pc := 21) h8 hx0 fk_RX12_405 ff_RX12_11_67 rfl dX12_takes_21 ?_
  refine Wp.iconst (pc := 24) (0 : Int32) (by decide) dX12_takes_24 ?_
  refine Wp.istore_n (pc := 25) (lo' := [(0, .ref x0), (1, .int (0 : Int32))]) [1, 0] rfl (by decide) rfl dX12_takes_25 ?_
  obtain ⟨e9, h10, hf⟩ := bnd hf
  refine wl_X12_takes_26 hX hx0 h10 ?_
  cases hf
  exact hk _ _ dX12_takes_64
theorem c_X12_takes {T : List Dsc} {x0 : Nat} {μ : Mem} {r : Mem} (hx0 : T[x0]? = some (.inl 11)) (hf : F_X12_takes T x0 μ = some r) : Ct 2 yX12_takes cX12_takes 2 none T μ [.ref x0] none r := Ct.ofV (by decide +kernel) (Nat.le_of_ble_eq_true rfl) (fun X hX hk => w_X12_takes hX hx0 hf hk)
theorem dX12_rest_0 : decode cX12_rest 0 = .ok (.iload_n 1, 1) := by decide +kernel
theorem dX12_rest_1 : decode cX12_rest 1 = .ok (.aload_n 0, 1) := by decide +kernel
theorem dX12_rest_2 : decode cX12_rest 2 = .ok (.invokevirtual 408, 3) := by decide +kernel
theorem dX12_rest_5 : decode cX12_rest 5 = .ok (.irem, 1) := by decide +kernel
theorem dX12_rest_6 : decode cX12_rest 6 = .ok (.istore_n 2, 1) := by decide +kernel
theorem dX12_rest_7 : decode cX12_rest 7 = .ok (.iload_n 2, 1) := by decide +kernel
theorem dX12_rest_8 : decode cX12_rest 8 = .ok (.ifCond .ge 12, 3) := by decide +kernel
theorem dX12_rest_11 : decode cX12_rest 11 = .ok (.iload_n 2, 1) := by decide +kernel
theorem dX12_rest_12 : decode cX12_rest 12 = .ok (.aload_n 0, 1) := by decide +kernel
theorem dX12_rest_13 : decode cX12_rest 13 = .ok (.invokevirtual 408, 3) := by decide +kernel
theorem dX12_rest_16 : decode cX12_rest 16 = .ok (.iadd, 1) := by decide +kernel
theorem dX12_rest_17 : decode cX12_rest 17 = .ok (.goto 4, 3) := by decide +kernel
theorem dX12_rest_20 : decode cX12_rest 20 = .ok (.iload_n 2, 1) := by decide +kernel
theorem dX12_rest_21 : decode cX12_rest 21 = .ok (.ireturn, 1) := by decide +kernel
set_option maxHeartbeats 4000000 in
set_option maxRecDepth 100000 in
theorem w_X12_rest_21 {X : CX} {T : List Dsc} {n1 n2 : Nat} {s0 : Int32} {μ : Mem} {r : (Int32 × Mem)} (hX : XR X 2 n1 n2) (hf : f_X12_rest_21 T s0 μ = some r) (hk : FnI X cX12_rest RX12 3 T n1 n2 r) : Wp X cX12_rest RX12 3 T μ n1 n2 21 [] [.int s0] := by
  unfold f_X12_rest_21 at hf
  cases hf
  exact hk _ _ dX12_rest_21
set_option maxHeartbeats 4000000 in
set_option maxRecDepth 100000 in
theorem w_X12_rest {X : CX} {T : List Dsc} {n1 n2 : Nat} {x0 : Nat} {x1 : Int32} {μ : Mem} {r : (Int32 × Mem)} (hX : XR X 2 n1 n2) (hx0 : T[x0]? = some (.inl 11)) (hf : F_X12_rest T x0 x1 μ = some r) (hk : FnI X cX12_rest RX12 3 T n1 n2 r) : Wp X cX12_rest RX12 3 T μ n1 n2 0 [(0, .ref x0), (1, .int x1)] [] := by
  unfold F_X12_rest at hf
  refine Wp.iload_n (pc := 0) 1 rfl rfl dX12_rest_0 ?_
  refine Wp.aload_n (pc := 1) 0 rfl rfl dX12_rest_1 ?_
  obtain ⟨c1, h2, hf⟩ := bnd hf
  refine Wp.callVi (pc := 2) (st := [.int x1]) (as := []) (c_X12_all hx0 h2) ml_RX12_408 mv_X12_all mb_X12_all hX (Nat.le_of_ble_eq_true rfl) (by decide) rfl hx0 rfl (by simp [Value.category]) dX12_rest_2 rfl ?_
  obtain ⟨v3, h4, hf⟩ := bnd hf
  refine Wp.rm (pc := 5) h4 dX12_rest_5 ?_
  refine Wp.istore_n (pc := 6) (lo' := [(0, .ref x0), (2, .int v3)]) [1, 0] rfl (by decide) rfl dX12_rest_6 ?_
  refine Wp.iload_n (pc := 7) 1 rfl rfl dX12_rest_7 ?_
  refine Wp.if_ge (pc := 8) 20 dX12_rest_8 (by decide) (fun hc5 => ?_) (fun hc5 => ?_)
  · rw [if_pos hc5] at hf
    refine Wp.iload_n (pc := 20) 1 rfl rfl dX12_rest_20 ?_
    refine Wp.lo' (lo' := []) [] rfl ?_
    exact w_X12_rest_21 hX hf hk
  · rw [if_neg hc5] at hf
    refine Wp.iload_n (pc := 11) 1 rfl rfl dX12_rest_11 ?_
    refine Wp.aload_n (pc := 12) 0 rfl rfl dX12_rest_12 ?_
    obtain ⟨c6, h7, hf⟩ := bnd hf
    refine Wp.callVi (pc := 13) (st := [.int v3]) (as := []) (c_X12_all hx0 h7) ml_RX12_408 mv_X12_all mb_X12_all hX (Nat.le_of_ble_eq_true rfl) (by decide) rfl hx0 rfl (by simp [Value.category]) dX12_rest_13 rfl ?_
    refine Wp.iadd (pc := 16) dX12_rest_16 ?_
    refine Wp.goto (pc := 17) 21 dX12_rest_17 (by decide) ?_
    refine Wp.lo' (lo' := []) [] rfl ?_
    exact w_X12_rest_21 hX hf hk
theorem c_X12_rest {T : List Dsc} {x0 : Nat} {x1 : Int32} {μ : Mem} {r : (Int32 × Mem)} (hx0 : T[x0]? = some (.inl 11)) (hf : F_X12_rest T x0 x1 μ = some r) : Ct 2 yX12_rest cX12_rest 3 (some .int) T μ [.ref x0, .int x1] (some (.int r.1)) r.2 := Ct.ofI (by decide +kernel) (Nat.le_of_ble_eq_true rfl) (fun X hX hk => w_X12_rest hX hx0 hf hk)
theorem dX12_gap_0 : decode cX12_gap 0 = .ok (.aload_n 0, 1) := by decide +kernel
theorem dX12_gap_1 : decode cX12_gap 1 = .ok (.iload_n 1, 1) := by decide +kernel
theorem dX12_gap_2 : decode cX12_gap 2 = .ok (.iload_n 2, 1) := by decide +kernel
theorem dX12_gap_3 : decode cX12_gap 3 = .ok (.isub, 1) := by decide +kernel
theorem dX12_gap_4 : decode cX12_gap 4 = .ok (.invokevirtual 411, 3) := by decide +kernel
theorem dX12_gap_7 : decode cX12_gap 7 = .ok (.istore_n 3, 1) := by decide +kernel
theorem dX12_gap_8 : decode cX12_gap 8 = .ok (.iconst 2, 1) := by decide +kernel
theorem dX12_gap_9 : decode cX12_gap 9 = .ok (.iload_n 3, 1) := by decide +kernel
theorem dX12_gap_10 : decode cX12_gap 10 = .ok (.imul, 1) := by decide +kernel
theorem dX12_gap_11 : decode cX12_gap 11 = .ok (.aload_n 0, 1) := by decide +kernel
theorem dX12_gap_12 : decode cX12_gap 12 = .ok (.invokevirtual 408, 3) := by decide +kernel
theorem dX12_gap_15 : decode cX12_gap 15 = .ok (.if_icmp .le 12, 3) := by decide +kernel
theorem dX12_gap_18 : decode cX12_gap 18 = .ok (.iload_n 3, 1) := by decide +kernel
theorem dX12_gap_19 : decode cX12_gap 19 = .ok (.aload_n 0, 1) := by decide +kernel
theorem dX12_gap_20 : decode cX12_gap 20 = .ok (.invokevirtual 408, 3) := by decide +kernel
theorem dX12_gap_23 : decode cX12_gap 23 = .ok (.isub, 1) := by decide +kernel
theorem dX12_gap_24 : decode cX12_gap 24 = .ok (.goto 4, 3) := by decide +kernel
theorem dX12_gap_27 : decode cX12_gap 27 = .ok (.iload_n 3, 1) := by decide +kernel
theorem dX12_gap_28 : decode cX12_gap 28 = .ok (.ireturn, 1) := by decide +kernel
set_option maxHeartbeats 4000000 in
set_option maxRecDepth 100000 in
theorem w_X12_gap_28 {X : CX} {T : List Dsc} {n1 n2 : Nat} {s0 : Int32} {μ : Mem} {r : (Int32 × Mem)} (hX : XR X 3 n1 n2) (hf : f_X12_gap_28 T s0 μ = some r) (hk : FnI X cX12_gap RX12 4 T n1 n2 r) : Wp X cX12_gap RX12 4 T μ n1 n2 28 [] [.int s0] := by
  unfold f_X12_gap_28 at hf
  cases hf
  exact hk _ _ dX12_gap_28
set_option maxHeartbeats 4000000 in
set_option maxRecDepth 100000 in
theorem w_X12_gap {X : CX} {T : List Dsc} {n1 n2 : Nat} {x0 : Nat} {x1 : Int32} {x2 : Int32} {μ : Mem} {r : (Int32 × Mem)} (hX : XR X 3 n1 n2) (hx0 : T[x0]? = some (.inl 11)) (hf : F_X12_gap T x0 x1 x2 μ = some r) (hk : FnI X cX12_gap RX12 4 T n1 n2 r) : Wp X cX12_gap RX12 4 T μ n1 n2 0 [(0, .ref x0), (1, .int x1), (2, .int x2)] [] := by
  unfold F_X12_gap at hf
  refine Wp.aload_n (pc := 0) 0 rfl rfl dX12_gap_0 ?_
  refine Wp.iload_n (pc := 1) 1 rfl rfl dX12_gap_1 ?_
  refine Wp.iload_n (pc := 2) 2 rfl rfl dX12_gap_2 ?_
  refine Wp.isub (pc := 3) dX12_gap_3 ?_
  obtain ⟨c1, h2, hf⟩ := bnd hf
  refine Wp.callVi (pc := 4) (st := []) (as := [.int (x1 - x2)]) (c_X12_rest hx0 h2) ml_RX12_411 mv_X12_rest mb_X12_rest hX (Nat.le_of_ble_eq_true rfl) (by decide) rfl hx0 rfl (by simp) dX12_gap_4 rfl ?_
  refine Wp.istore_n (pc := 7) (lo' := [(0, .ref x0), (3, .int c1.1)]) [1, 0] rfl (by decide) rfl dX12_gap_7 ?_
  refine Wp.iconst (pc := 8) (2 : Int32) (by decide) dX12_gap_8 ?_
  refine Wp.iload_n (pc := 9) 1 rfl rfl dX12_gap_9 ?_
  refine Wp.imul (pc := 10) dX12_gap_10 ?_
  refine Wp.aload_n (pc := 11) 0 rfl rfl dX12_gap_11 ?_
  obtain ⟨c3, h4, hf⟩ := bnd hf
  refine Wp.callVi (pc := 12) (st := [.int ((2 : Int32) * c1.1)]) (as := []) (c_X12_all hx0 h4) ml_RX12_408 mv_X12_all mb_X12_all hX (Nat.le_of_ble_eq_true rfl) (by decide) rfl hx0 rfl (by simp [Value.category]) dX12_gap_12 rfl ?_
  refine Wp.icmp_le (pc := 15) 27 dX12_gap_15 (by decide) (fun hc5 => ?_) (fun hc5 => ?_)
  · rw [if_pos hc5] at hf
    refine Wp.iload_n (pc := 27) 1 rfl rfl dX12_gap_27 ?_
    refine Wp.lo' (lo' := []) [] rfl ?_
    exact w_X12_gap_28 hX hf hk
  · rw [if_neg hc5] at hf
    refine Wp.iload_n (pc := 18) 1 rfl rfl dX12_gap_18 ?_
    refine Wp.aload_n (pc := 19) 0 rfl rfl dX12_gap_19 ?_
    obtain ⟨c6, h7, hf⟩ := bnd hf
    refine Wp.callVi (pc := 20) (st := [.int c1.1]) (as := []) (c_X12_all hx0 h7) ml_RX12_408 mv_X12_all mb_X12_all hX (Nat.le_of_ble_eq_true rfl) (by decide) rfl hx0 rfl (by simp [Value.category]) dX12_gap_20 rfl ?_
    refine Wp.isub (pc := 23) dX12_gap_23 ?_
    refine Wp.goto (pc := 24) 28 dX12_gap_24 (by decide) ?_
    refine Wp.lo' (lo' := []) [] rfl ?_
    exact w_X12_gap_28 hX hf hk
theorem c_X12_gap {T : List Dsc} {x0 : Nat} {x1 : Int32} {x2 : Int32} {μ : Mem} {r : (Int32 × Mem)} (hx0 : T[x0]? = some (.inl 11)) (hf : F_X12_gap T x0 x1 x2 μ = some r) : Ct 3 yX12_gap cX12_gap 4 (some .int) T μ [.ref x0, .int x1, .int x2] (some (.int r.1)) r.2 := Ct.ofI (by decide +kernel) (Nat.le_of_ble_eq_true rfl) (fun X hX hk => w_X12_gap hX hx0 hf hk)
theorem dX12_isFog_0 : decode cX12_isFog 0 = .ok (.iconst 0, 1) := by decide +kernel
theorem dX12_isFog_1 : decode cX12_isFog 1 = .ok (.istore_n 2, 1) := by decide +kernel
theorem dX12_isFog_2 : decode cX12_isFog 2 = .ok (.iload_n 2, 1) := by decide +kernel
theorem dX12_isFog_3 : decode cX12_isFog 3 = .ok (.aload_n 0, 1) := by decide +kernel
theorem dX12_isFog_4 : decode cX12_isFog 4 = .ok (.getfield 88, 3) := by decide +kernel
theorem dX12_isFog_7 : decode cX12_isFog 7 = .ok (.aload_n 0, 1) := by decide +kernel
theorem dX12_isFog_8 : decode cX12_isFog 8 = .ok (.getfield 284, 3) := by decide +kernel
theorem dX12_isFog_11 : decode cX12_isFog 11 = .ok (.iaload, 1) := by decide +kernel
theorem dX12_isFog_12 : decode cX12_isFog 12 = .ok (.if_icmp .ge 44, 3) := by decide +kernel
theorem dX12_isFog_15 : decode cX12_isFog 15 = .ok (.iload_n 1, 1) := by decide +kernel
theorem dX12_isFog_16 : decode cX12_isFog 16 = .ok (.aload_n 0, 1) := by decide +kernel
theorem dX12_isFog_17 : decode cX12_isFog 17 = .ok (.getfield 91, 3) := by decide +kernel
theorem dX12_isFog_20 : decode cX12_isFog 20 = .ok (.iconst 4, 1) := by decide +kernel
theorem dX12_isFog_21 : decode cX12_isFog 21 = .ok (.aload_n 0, 1) := by decide +kernel
theorem dX12_isFog_22 : decode cX12_isFog 22 = .ok (.getfield 284, 3) := by decide +kernel
theorem dX12_isFog_25 : decode cX12_isFog 25 = .ok (.imul, 1) := by decide +kernel
theorem dX12_isFog_26 : decode cX12_isFog 26 = .ok (.iload_n 2, 1) := by decide +kernel
theorem dX12_isFog_27 : decode cX12_isFog 27 = .ok (.iadd, 1) := by decide +kernel
theorem dX12_isFog_28 : decode cX12_isFog 28 = .ok (.iaload, 1) := by decide +kernel
theorem dX12_isFog_29 : decode cX12_isFog 29 = .ok (.aload_n 0, 1) := by decide +kernel
theorem dX12_isFog_30 : decode cX12_isFog 30 = .ok (.getfield 94, 3) := by decide +kernel
theorem dX12_isFog_33 : decode cX12_isFog 33 = .ok (.iconst 4, 1) := by decide +kernel
theorem dX12_isFog_34 : decode cX12_isFog 34 = .ok (.aload_n 0, 1) := by decide +kernel
theorem dX12_isFog_35 : decode cX12_isFog 35 = .ok (.getfield 284, 3) := by decide +kernel
theorem dX12_isFog_38 : decode cX12_isFog 38 = .ok (.imul, 1) := by decide +kernel
theorem dX12_isFog_39 : decode cX12_isFog 39 = .ok (.iload_n 2, 1) := by decide +kernel
theorem dX12_isFog_40 : decode cX12_isFog 40 = .ok (.iadd, 1) := by decide +kernel
theorem dX12_isFog_41 : decode cX12_isFog 41 = .ok (.iaload, 1) := by decide +kernel
theorem dX12_isFog_42 : decode cX12_isFog 42 = .ok (.invokestatic 414, 3) := by decide +kernel
theorem dX12_isFog_45 : decode cX12_isFog 45 = .ok (.ifCond .eq 5, 3) := by decide +kernel
theorem dX12_isFog_48 : decode cX12_isFog 48 = .ok (.iconst 1, 1) := by decide +kernel
theorem dX12_isFog_49 : decode cX12_isFog 49 = .ok (.ireturn, 1) := by decide +kernel
theorem dX12_isFog_50 : decode cX12_isFog 50 = .ok (.iinc 2 1, 3) := by decide +kernel
theorem dX12_isFog_53 : decode cX12_isFog 53 = .ok (.goto (-51), 3) := by decide +kernel
theorem dX12_isFog_56 : decode cX12_isFog 56 = .ok (.iconst 0, 1) := by decide +kernel
theorem dX12_isFog_57 : decode cX12_isFog 57 = .ok (.ireturn, 1) := by decide +kernel
def k_X12_isFog_2 (X : CX) (T : List Dsc) (n1 n2 : Nat) (x0 : Nat) (x1 : Int32) (r : ((Int32 × Mem) ⊕ ((Mem) ⊕ (Mem)))) : Prop := match r with
  | .inl s => Wp X cX12_isFog RX12 3 T s.2 n1 n2 2 [(0, .ref x0), (1, .int x1), (2, .int s.1)] []
  | .inr (.inl e) => Wp X cX12_isFog RX12 3 T e n1 n2 48 [] []
  | .inr (.inr e) => Wp X cX12_isFog RX12 3 T e n1 n2 56 [] []
set_option maxHeartbeats 4000000 in
set_option maxRecDepth 100000 in
theorem w_X12_isFog_2 {X : CX} {T : List Dsc} {n1 n2 : Nat} {x0 : Nat} {x1 : Int32} {x2 : Int32} {μ : Mem} {r : ((Int32 × Mem) ⊕ ((Mem) ⊕ (Mem)))} (hX : XR X 2 n1 n2) (hx0 : T[x0]? = some (.inl 11)) (hf : f_X12_isFog_2 T x0 x1 x2 μ = some r) (hk : k_X12_isFog_2 X T n1 n2 x0 x1 r) : Wp X cX12_isFog RX12 3 T μ n1 n2 2 [(0, .ref x0), (1, .int x1), (2, .int x2)] [] := by
  unfold f_X12_isFog_2 at hf
  refine Wp.iload_n (pc := 2) 2 rfl rfl dX12_isFog_2 ?_
  refine Wp.aload_n (pc := 3) 0 rfl rfl dX12_isFog_3 ?_
  obtain ⟨a1, h2, hf⟩ := bnd hf
  refine Wp.getR (pc := 4) (gA_R h2) hx0 fk_RX12_88 rfl dX12_isFog_4 ?_
  refine Wp.aload_n (pc := 7) 0 rfl rfl dX12_isFog_7 ?_
  refine Wp.getI (pc := 8) hx0 fk_RX12_284 rfl dX12_isFog_8 ?_
  obtain ⟨v3, h4, hf⟩ := bnd hf
  refine Wp.iald (pc := 11) h4 (gA_T h2) dX12_isFog_11 ?_
  refine Wp.icmp_ge (pc := 12) 56 dX12_isFog_12 (by decide) (fun hc5 => ?_) (fun hc5 => ?_)
  · rw [if_pos hc5] at hf
    refine Wp.lo' (lo' := []) [] rfl ?_
    cases hf
    exact hk
  · rw [if_neg hc5] at hf
    refine Wp.iload_n (pc := 15) 1 rfl rfl dX12_isFog_15 ?_
    refine Wp.aload_n (pc := 16) 0 rfl rfl dX12_isFog_16 ?_
    obtain ⟨a6, h7, hf⟩ := bnd hf
    refine Wp.getR (pc := 17) (gA_R h7) hx0 fk_RX12_91 rfl dX12_isFog_17 ?_
    refine Wp.iconst (pc := 20) (4 : Int32) (by decide) dX12_isFog_20 ?_
    refine Wp.aload_n (pc := 21) 0 rfl rfl dX12_isFog_21 ?_
    refine Wp.getI (pc := 22) hx0 fk_RX12_284 rfl dX12_isFog_22 ?_
    refine Wp.imul (pc := 25) dX12_isFog_25 ?_
    refine Wp.iload_n (pc := 26) 2 rfl rfl dX12_isFog_26 ?_
    refine Wp.iadd (pc := 27) dX12_isFog_27 ?_
    obtain ⟨v8, h9, hf⟩ := bnd hf
    refine Wp.iald (pc := 28) h9 (gA_T h7) dX12_isFog_28 ?_
    refine Wp.aload_n (pc := 29) 0 rfl rfl dX12_isFog_29 ?_
    obtain ⟨a10, h11, hf⟩ := bnd hf
    refine Wp.getR (pc := 30) (gA_R h11) hx0 fk_RX12_94 rfl dX12_isFog_30 ?_
    refine Wp.iconst (pc := 33) (4 : Int32) (by decide) dX12_isFog_33 ?_
    refine Wp.aload_n (pc := 34) 0 rfl rfl dX12_isFog_34 ?_
    refine Wp.getI (pc := 35) hx0 fk_RX12_284 rfl dX12_isFog_35 ?_
    refine Wp.imul (pc := 38) dX12_isFog_38 ?_
    refine Wp.iload_n (pc := 39) 2 rfl rfl dX12_isFog_39 ?_
    refine Wp.iadd (pc := 40) dX12_isFog_40 ?_
    obtain ⟨v12, h13, hf⟩ := bnd hf
    refine Wp.iald (pc := 41) h13 (gA_T h11) dX12_isFog_41 ?_
    obtain ⟨c14, h15, hf⟩ := bnd hf
    refine Wp.callSi (pc := 42) (st := []) (as := [.int x1, .int v8, .int v12]) (c_X12_in h15) ml_RX12_414 ms_X12_in mb_X12_in hX (Nat.le_of_ble_eq_true rfl) (by decide) rfl (by simp) dX12_isFog_42 rfl ?_
    refine Wp.if_eq (pc := 45) 50 dX12_isFog_45 (by decide) (fun hc16 => ?_) (fun hc16 => ?_)
    · rw [if_pos hc16] at hf
      obtain ⟨v17, h18, hf⟩ := bnd hf
      refine Wp.iincN (pc := 50) (lo' := [(0, .ref x0), (1, .int x1), (2, .int v17)]) (1 : Int32) (by decide) h18 2 rfl [1, 2, 0] rfl (by decide) dX12_isFog_50 ?_
      refine Wp.goto (pc := 53) 2 dX12_isFog_53 (by decide) ?_
      cases hf
      exact hk
    · rw [if_neg hc16] at hf
      refine Wp.lo' (lo' := []) [] rfl ?_
      cases hf
      exact hk
theorem wl_X12_isFog_2 {X : CX} {T : List Dsc} {n1 n2 : Nat} {x0 : Nat} {x1 : Int32} {x2 : Int32} {μ : Mem} {e : ((Mem) ⊕ (Mem))} (hX : XR X 2 n1 n2) (hx0 : T[x0]? = some (.inl 11)) (h : loop (g_X12_isFog_2 T x0 x1) (x2, μ) = some e) (he0 : ∀ e_, e = (Sum.inl e_) → Wp X cX12_isFog RX12 3 T e_ n1 n2 48 [] []) (he1 : ∀ e_, e = (Sum.inr e_) → Wp X cX12_isFog RX12 3 T e_ n1 n2 56 [] []) : Wp X cX12_isFog RX12 3 T μ n1 n2 2 [(0, .ref x0), (1, .int x1), (2, .int x2)] [] :=
  loop_ok (K := k_X12_isFog_2 X T n1 n2 x0 x1) (fun s r hf hk => w_X12_isFog_2 hX hx0 hf hk) h (by rcases e with e | e <;> first | exact he0 _ rfl | exact he1 _ rfl)
set_option maxHeartbeats 4000000 in
set_option maxRecDepth 100000 in
theorem w_X12_isFog {X : CX} {T : List Dsc} {n1 n2 : Nat} {x0 : Nat} {x1 : Int32} {μ : Mem} {r : (Int32 × Mem)} (hX : XR X 2 n1 n2) (hx0 : T[x0]? = some (.inl 11)) (hf : F_X12_isFog T x0 x1 μ = some r) (hk : FnZ X cX12_isFog RX12 3 T n1 n2 r) : Wp X cX12_isFog RX12 3 T μ n1 n2 0 [(0, .ref x0), (1, .int x1)] [] := by
  unfold F_X12_isFog at hf
  refine Wp.iconst (pc := 0) (0 : Int32) (by decide) dX12_isFog_0 ?_
  refine Wp.istore_n (pc := 1) (lo' := [(0, .ref x0), (1, .int x1), (2, .int (0 : Int32))]) [1, 2, 0] rfl (by decide) rfl dX12_isFog_1 ?_
  obtain ⟨e1, h2, hf⟩ := bnd hf
  refine wl_X12_isFog_2 hX hx0 h2 (fun e1_0 hq => ?_) (fun e1_1 hq => ?_)
  · rw [hq, Sum.elim_inl] at hf
    refine Wp.iconst (pc := 48) (1 : Int32) (by decide) dX12_isFog_48 ?_
    cases hf
    exact hk _ _ (Or.inr rfl) dX12_isFog_49
  · rw [hq, Sum.elim_inr] at hf
    refine Wp.iconst (pc := 56) (0 : Int32) (by decide) dX12_isFog_56 ?_
    cases hf
    exact hk _ _ (Or.inl rfl) dX12_isFog_57
theorem c_X12_isFog {T : List Dsc} {x0 : Nat} {x1 : Int32} {μ : Mem} {r : (Int32 × Mem)} (hx0 : T[x0]? = some (.inl 11)) (hf : F_X12_isFog T x0 x1 μ = some r) : Ct 2 yX12_isFog cX12_isFog 3 (some .boolean) T μ [.ref x0, .int x1] (some (.int r.1)) r.2 := Ct.ofZ (by decide +kernel) (Nat.le_of_ble_eq_true rfl) (fun X hX hk => w_X12_isFog hX hx0 hf hk)
theorem dX12_heard_0 : decode cX12_heard 0 = .ok (.iload_n 2, 1) := by decide +kernel
theorem dX12_heard_1 : decode cX12_heard 1 = .ok (.ifCond .ne 11, 3) := by decide +kernel
theorem dX12_heard_4 : decode cX12_heard 4 = .ok (.aload_n 0, 1) := by decide +kernel
theorem dX12_heard_5 : decode cX12_heard 5 = .ok (.getfield 402, 3) := by decide +kernel
theorem dX12_heard_8 : decode cX12_heard 8 = .ok (.iconst (-1), 1) := by decide +kernel
theorem dX12_heard_9 : decode cX12_heard 9 = .ok (.if_icmp .ne 12, 3) := by decide +kernel
theorem dX12_heard_12 : decode cX12_heard 12 = .ok (.aload_n 0, 1) := by decide +kernel
theorem dX12_heard_13 : decode cX12_heard 13 = .ok (.getfield 140, 3) := by decide +kernel
theorem dX12_heard_16 : decode cX12_heard 16 = .ok (.iload_n 1, 1) := by decide +kernel
theorem dX12_heard_17 : decode cX12_heard 17 = .ok (.iaload, 1) := by decide +kernel
theorem dX12_heard_18 : decode cX12_heard 18 = .ok (.goto 18, 3) := by decide +kernel
theorem dX12_heard_21 : decode cX12_heard 21 = .ok (.aload_n 0, 1) := by decide +kernel
theorem dX12_heard_22 : decode cX12_heard 22 = .ok (.aload_n 0, 1) := by decide +kernel
theorem dX12_heard_23 : decode cX12_heard 23 = .ok (.getfield 402, 3) := by decide +kernel
theorem dX12_heard_26 : decode cX12_heard 26 = .ok (.aload_n 0, 1) := by decide +kernel
theorem dX12_heard_27 : decode cX12_heard 27 = .ok (.getfield 405, 3) := by decide +kernel
theorem dX12_heard_30 : decode cX12_heard 30 = .ok (.iload_n 1, 1) := by decide +kernel
theorem dX12_heard_31 : decode cX12_heard 31 = .ok (.imul, 1) := by decide +kernel
theorem dX12_heard_32 : decode cX12_heard 32 = .ok (.iadd, 1) := by decide +kernel
theorem dX12_heard_33 : decode cX12_heard 33 = .ok (.invokevirtual 411, 3) := by decide +kernel
theorem dX12_heard_36 : decode cX12_heard 36 = .ok (.ireturn, 1) := by decide +kernel
set_option maxHeartbeats 4000000 in
set_option maxRecDepth 100000 in
theorem w_X12_heard_36 {X : CX} {T : List Dsc} {n1 n2 : Nat} {s0 : Int32} {μ : Mem} {r : (Int32 × Mem)} (hX : XR X 3 n1 n2) (hf : f_X12_heard_36 T s0 μ = some r) (hk : FnI X cX12_heard RX12 3 T n1 n2 r) : Wp X cX12_heard RX12 3 T μ n1 n2 36 [] [.int s0] := by
  unfold f_X12_heard_36 at hf
  cases hf
  exact hk _ _ dX12_heard_36
set_option maxHeartbeats 4000000 in
set_option maxRecDepth 100000 in
theorem w_X12_heard_12 {X : CX} {T : List Dsc} {n1 n2 : Nat} {x0 : Nat} {x1 : Int32} {μ : Mem} {r : (Int32 × Mem)} (hX : XR X 3 n1 n2) (hx0 : T[x0]? = some (.inl 11)) (hf : f_X12_heard_12 T x0 x1 μ = some r) (hk : FnI X cX12_heard RX12 3 T n1 n2 r) : Wp X cX12_heard RX12 3 T μ n1 n2 12 [(0, .ref x0), (1, .int x1)] [] := by
  unfold f_X12_heard_12 at hf
  refine Wp.aload_n (pc := 12) 0 rfl rfl dX12_heard_12 ?_
  obtain ⟨a1, h2, hf⟩ := bnd hf
  refine Wp.getR (pc := 13) (gA_R h2) hx0 fk_RX12_140 rfl dX12_heard_13 ?_
  refine Wp.iload_n (pc := 16) 1 rfl rfl dX12_heard_16 ?_
  obtain ⟨v3, h4, hf⟩ := bnd hf
  refine Wp.iald (pc := 17) h4 (gA_T h2) dX12_heard_17 ?_
  refine Wp.goto (pc := 18) 36 dX12_heard_18 (by decide) ?_
  refine Wp.lo' (lo' := []) [] rfl ?_
  exact w_X12_heard_36 hX hf hk
set_option maxHeartbeats 4000000 in
set_option maxRecDepth 100000 in
theorem w_X12_heard {X : CX} {T : List Dsc} {n1 n2 : Nat} {x0 : Nat} {x1 : Int32} {x2 : Int32} {μ : Mem} {r : (Int32 × Mem)} (hX : XR X 3 n1 n2) (hx0 : T[x0]? = some (.inl 11)) (hf : F_X12_heard T x0 x1 x2 μ = some r) (hk : FnI X cX12_heard RX12 3 T n1 n2 r) : Wp X cX12_heard RX12 3 T μ n1 n2 0 [(0, .ref x0), (1, .int x1), (2, .int x2)] [] := by
  unfold F_X12_heard at hf
  refine Wp.iload_n (pc := 0) 2 rfl rfl dX12_heard_0 ?_
  refine Wp.if_ne (pc := 1) 12 dX12_heard_1 (by decide) (fun hc1 => ?_) (fun hc1 => ?_)
  · rw [if_neg hc1] at hf
    refine Wp.lo' (lo' := [(0, .ref x0), (1, .int x1)]) [0, 1] rfl ?_
    exact w_X12_heard_12 hX hx0 hf hk
  · rw [if_pos hc1] at hf
    refine Wp.aload_n (pc := 4) 0 rfl rfl dX12_heard_4 ?_
    refine Wp.getI (pc := 5) hx0 fk_RX12_402 rfl dX12_heard_5 ?_
    refine Wp.iconst (pc := 8) (-1 : Int32) (by decide) dX12_heard_8 ?_
    refine Wp.icmp_ne (pc := 9) 21 dX12_heard_9 (by decide) (fun hc2 => ?_) (fun hc2 => ?_)
    · rw [if_neg hc2] at hf
      refine Wp.aload_n (pc := 21) 0 rfl rfl dX12_heard_21 ?_
      refine Wp.aload_n (pc := 22) 0 rfl rfl dX12_heard_22 ?_
      refine Wp.getI (pc := 23) hx0 fk_RX12_402 rfl dX12_heard_23 ?_
      refine Wp.aload_n (pc := 26) 0 rfl rfl dX12_heard_26 ?_
      refine Wp.getI (pc := 27) hx0 fk_RX12_405 rfl dX12_heard_27 ?_
      refine Wp.iload_n (pc := 30) 1 rfl rfl dX12_heard_30 ?_
      refine Wp.imul (pc := 31) dX12_heard_31 ?_
      refine Wp.iadd (pc := 32) dX12_heard_32 ?_
      obtain ⟨c3, h4, hf⟩ := bnd hf
      refine Wp.callVi (pc := 33) (st := []) (as := [.int ((gI μ x0 66) + ((gI μ x0 67) * x1))]) (c_X12_rest hx0 h4) ml_RX12_411 mv_X12_rest mb_X12_rest hX (Nat.le_of_ble_eq_true rfl) (by decide) rfl hx0 rfl (by simp) dX12_heard_33 rfl ?_
      refine Wp.lo' (lo' := []) [] rfl ?_
      exact w_X12_heard_36 hX hf hk
    · rw [if_pos hc2] at hf
      refine Wp.lo' (lo' := [(0, .ref x0), (1, .int x1)]) [0, 1] rfl ?_
      exact w_X12_heard_12 hX hx0 hf hk
theorem c_X12_heard {T : List Dsc} {x0 : Nat} {x1 : Int32} {x2 : Int32} {μ : Mem} {r : (Int32 × Mem)} (hx0 : T[x0]? = some (.inl 11)) (hf : F_X12_heard T x0 x1 x2 μ = some r) : Ct 3 yX12_heard cX12_heard 3 (some .int) T μ [.ref x0, .int x1, .int x2] (some (.int r.1)) r.2 := Ct.ofI (by decide +kernel) (Nat.le_of_ble_eq_true rfl) (fun X hX hk => w_X12_heard hX hx0 hf hk)
theorem dX12_termOf_0 : decode cX12_termOf 0 = .ok (.iconst 0, 1) := by decide +kernel
theorem dX12_termOf_1 : decode cX12_termOf 1 = .ok (.istore_n 3, 1) := by decide +kernel
theorem dX12_termOf_2 : decode cX12_termOf 2 = .ok (.iload_n 1, 1) := by decide +kernel
theorem dX12_termOf_3 : decode cX12_termOf 3 = .ok (.istore 4, 2) := by decide +kernel
theorem dX12_termOf_5 : decode cX12_termOf 5 = .ok (.iload 4, 2) := by decide +kernel
theorem dX12_termOf_7 : decode cX12_termOf 7 = .ok (.iload_n 2, 1) := by decide +kernel
theorem dX12_termOf_8 : decode cX12_termOf 8 = .ok (.if_icmp .ge 187, 3) := by decide +kernel
theorem dX12_termOf_11 : decode cX12_termOf 11 = .ok (.aload_n 0, 1) := by decide +kernel
theorem dX12_termOf_12 : decode cX12_termOf 12 = .ok (.getfield 116, 3) := by decide +kernel
theorem dX12_termOf_15 : decode cX12_termOf 15 = .ok (.iload 4, 2) := by decide +kernel
theorem dX12_termOf_17 : decode cX12_termOf 17 = .ok (.iaload, 1) := by decide +kernel
theorem dX12_termOf_18 : decode cX12_termOf 18 = .ok (.istore 5, 2) := by decide +kernel
theorem dX12_termOf_20 : decode cX12_termOf 20 = .ok (.iload 5, 2) := by decide +kernel
theorem dX12_termOf_22 : decode cX12_termOf 22 = .ok (.iconst 2, 1) := by decide +kernel
theorem dX12_termOf_23 : decode cX12_termOf 23 = .ok (.if_icmp .ge 42, 3) := by decide +kernel
theorem dX12_termOf_26 : decode cX12_termOf 26 = .ok (.aload_n 0, 1) := by decide +kernel
theorem dX12_termOf_27 : decode cX12_termOf 27 = .ok (.getfield 152, 3) := by decide +kernel
theorem dX12_termOf_30 : decode cX12_termOf 30 = .ok (.iload_n 3, 1) := by decide +kernel
theorem dX12_termOf_31 : decode cX12_termOf 31 = .ok (.iload 5, 2) := by decide +kernel
theorem dX12_termOf_33 : decode cX12_termOf 33 = .ok (.ifCond .ne 13, 3) := by decide +kernel
theorem dX12_termOf_36 : decode cX12_termOf 36 = .ok (.aload_n 0, 1) := by decide +kernel
theorem dX12_termOf_37 : decode cX12_termOf 37 = .ok (.getfield 119, 3) := by decide +kernel
theorem dX12_termOf_40 : decode cX12_termOf 40 = .ok (.iload 4, 2) := by decide +kernel
theorem dX12_termOf_42 : decode cX12_termOf 42 = .ok (.iaload, 1) := by decide +kernel
theorem dX12_termOf_43 : decode cX12_termOf 43 = .ok (.goto 15, 3) := by decide +kernel
theorem dX12_termOf_46 : decode cX12_termOf 46 = .ok (.aload_n 0, 1) := by decide +kernel
theorem dX12_termOf_47 : decode cX12_termOf 47 = .ok (.getfield 149, 3) := by decide +kernel
theorem dX12_termOf_50 : decode cX12_termOf 50 = .ok (.aload_n 0, 1) := by decide +kernel
theorem dX12_termOf_51 : decode cX12_termOf 51 = .ok (.getfield 119, 3) := by decide +kernel
theorem dX12_termOf_54 : decode cX12_termOf 54 = .ok (.iload 4, 2) := by decide +kernel
theorem dX12_termOf_56 : decode cX12_termOf 56 = .ok (.iaload, 1) := by decide +kernel
theorem dX12_termOf_57 : decode cX12_termOf 57 = .ok (.iaload, 1) := by decide +kernel
theorem dX12_termOf_58 : decode cX12_termOf 58 = .ok (.iastore, 1) := by decide +kernel
theorem dX12_termOf_59 : decode cX12_termOf 59 = .ok (.iinc 3 1, 3) := by decide +kernel
theorem dX12_termOf_62 : decode cX12_termOf 62 = .ok (.goto 127, 3) := by decide +kernel
theorem dX12_termOf_65 : decode cX12_termOf 65 = .ok (.iinc 3 (-1), 3) := by decide +kernel
theorem dX12_termOf_68 : decode cX12_termOf 68 = .ok (.aload_n 0, 1) := by decide +kernel
theorem dX12_termOf_69 : decode cX12_termOf 69 = .ok (.getfield 152, 3) := by decide +kernel
theorem dX12_termOf_72 : decode cX12_termOf 72 = .ok (.iload_n 3, 1) := by decide +kernel
theorem dX12_termOf_73 : decode cX12_termOf 73 = .ok (.iconst 1, 1) := by decide +kernel
theorem dX12_termOf_74 : decode cX12_termOf 74 = .ok (.isub, 1) := by decide +kernel
theorem dX12_termOf_75 : decode cX12_termOf 75 = .ok (.iaload, 1) := by decide +kernel
theorem dX12_termOf_76 : decode cX12_termOf 76 = .ok (.istore 6, 2) := by decide +kernel
theorem dX12_termOf_78 : decode cX12_termOf 78 = .ok (.aload_n 0, 1) := by decide +kernel
theorem dX12_termOf_79 : decode cX12_termOf 79 = .ok (.getfield 152, 3) := by decide +kernel
theorem dX12_termOf_82 : decode cX12_termOf 82 = .ok (.iload_n 3, 1) := by decide +kernel
theorem dX12_termOf_83 : decode cX12_termOf 83 = .ok (.iaload, 1) := by decide +kernel
theorem dX12_termOf_84 : decode cX12_termOf 84 = .ok (.istore 7, 2) := by decide +kernel
theorem dX12_termOf_86 : decode cX12_termOf 86 = .ok (.iload 5, 2) := by decide +kernel
theorem dX12_termOf_88 : decode cX12_termOf 88 = .ok (.iconst 5, 1) := by decide +kernel
theorem dX12_termOf_89 : decode cX12_termOf 89 = .ok (.if_icmp .ne 15, 3) := by decide +kernel
theorem dX12_termOf_92 : decode cX12_termOf 92 = .ok (.iload 7, 2) := by decide +kernel
theorem dX12_termOf_94 : decode cX12_termOf 94 = .ok (.ifCond .ne 10, 3) := by decide +kernel
theorem dX12_termOf_97 : decode cX12_termOf 97 = .ok (.aload_n 0, 1) := by decide +kernel
theorem dX12_termOf_98 : decode cX12_termOf 98 = .ok (.iconst 1, 1) := by decide +kernel
theorem dX12_termOf_99 : decode cX12_termOf 99 = .ok (.putfield 418, 3) := by decide +kernel
theorem dX12_termOf_102 : decode cX12_termOf 102 = .ok (.iconst 0, 1) := by decide +kernel
theorem dX12_termOf_103 : decode cX12_termOf 103 = .ok (.ireturn, 1) := by decide +kernel
theorem dX12_termOf_104 : decode cX12_termOf 104 = .ok (.aload_n 0, 1) := by decide +kernel
theorem dX12_termOf_105 : decode cX12_termOf 105 = .ok (.getfield 152, 3) := by decide +kernel
theorem dX12_termOf_108 : decode cX12_termOf 108 = .ok (.iload_n 3, 1) := by decide +kernel
theorem dX12_termOf_109 : decode cX12_termOf 109 = .ok (.iconst 1, 1) := by decide +kernel
theorem dX12_termOf_110 : decode cX12_termOf 110 = .ok (.isub, 1) := by decide +kernel
theorem dX12_termOf_111 : decode cX12_termOf 111 = .ok (.iload 5, 2) := by decide +kernel
theorem dX12_termOf_113 : decode cX12_termOf 113 = .ok (.iconst 2, 1) := by decide +kernel
theorem dX12_termOf_114 : decode cX12_termOf 114 = .ok (.if_icmp .ne 11, 3) := by decide +kernel
theorem dX12_termOf_117 : decode cX12_termOf 117 = .ok (.iload 6, 2) := by decide +kernel
theorem dX12_termOf_119 : decode cX12_termOf 119 = .ok (.iload 7, 2) := by decide +kernel
theorem dX12_termOf_121 : decode cX12_termOf 121 = .ok (.iadd, 1) := by decide +kernel
theorem dX12_termOf_122 : decode cX12_termOf 122 = .ok (.goto 66, 3) := by decide +kernel
theorem dX12_termOf_125 : decode cX12_termOf 125 = .ok (.iload 5, 2) := by decide +kernel
theorem dX12_termOf_127 : decode cX12_termOf 127 = .ok (.iconst 3, 1) := by decide +kernel
theorem dX12_termOf_128 : decode cX12_termOf 128 = .ok (.if_icmp .ne 11, 3) := by decide +kernel
theorem dX12_termOf_131 : decode cX12_termOf 131 = .ok (.iload 6, 2) := by decide +kernel
theorem dX12_termOf_133 : decode cX12_termOf 133 = .ok (.iload 7, 2) := by decide +kernel
theorem dX12_termOf_135 : decode cX12_termOf 135 = .ok (.isub, 1) := by decide +kernel
theorem dX12_termOf_136 : decode cX12_termOf 136 = .ok (.goto 52, 3) := by decide +kernel
theorem dX12_termOf_139 : decode cX12_termOf 139 = .ok (.iload 5, 2) := by decide +kernel
theorem dX12_termOf_141 : decode cX12_termOf 141 = .ok (.iconst 4, 1) := by decide +kernel
theorem dX12_termOf_142 : decode cX12_termOf 142 = .ok (.if_icmp .ne 11, 3) := by decide +kernel
theorem dX12_termOf_145 : decode cX12_termOf 145 = .ok (.iload 6, 2) := by decide +kernel
theorem dX12_termOf_147 : decode cX12_termOf 147 = .ok (.iload 7, 2) := by decide +kernel
theorem dX12_termOf_149 : decode cX12_termOf 149 = .ok (.imul, 1) := by decide +kernel
theorem dX12_termOf_150 : decode cX12_termOf 150 = .ok (.goto 38, 3) := by decide +kernel
theorem dX12_termOf_153 : decode cX12_termOf 153 = .ok (.iload 5, 2) := by decide +kernel
theorem dX12_termOf_155 : decode cX12_termOf 155 = .ok (.bipush 6, 2) := by decide +kernel
theorem dX12_termOf_157 : decode cX12_termOf 157 = .ok (.if_icmp .ne 14, 3) := by decide +kernel
theorem dX12_termOf_160 : decode cX12_termOf 160 = .ok (.aload_n 0, 1) := by decide +kernel
theorem dX12_termOf_161 : decode cX12_termOf 161 = .ok (.iload 6, 2) := by decide +kernel
theorem dX12_termOf_163 : decode cX12_termOf 163 = .ok (.iload 7, 2) := by decide +kernel
theorem dX12_termOf_165 : decode cX12_termOf 165 = .ok (.invokevirtual 422, 3) := by decide +kernel
theorem dX12_termOf_168 : decode cX12_termOf 168 = .ok (.goto 20, 3) := by decide +kernel
theorem dX12_termOf_171 : decode cX12_termOf 171 = .ok (.iload 7, 2) := by decide +kernel
theorem dX12_termOf_173 : decode cX12_termOf 173 = .ok (.iconst (-1), 1) := by decide +kernel
theorem dX12_termOf_174 : decode cX12_termOf 174 = .ok (.if_icmp .ne 9, 3) := by decide +kernel
theorem dX12_termOf_177 : decode cX12_termOf 177 = .ok (.iload 6, 2) := by decide +kernel
theorem dX12_termOf_179 : decode cX12_termOf 179 = .ok (.ineg, 1) := by decide +kernel
theorem dX12_termOf_180 : decode cX12_termOf 180 = .ok (.goto 8, 3) := by decide +kernel
theorem dX12_termOf_183 : decode cX12_termOf 183 = .ok (.iload 6, 2) := by decide +kernel
theorem dX12_termOf_185 : decode cX12_termOf 185 = .ok (.iload 7, 2) := by decide +kernel
theorem dX12_termOf_187 : decode cX12_termOf 187 = .ok (.idiv, 1) := by decide +kernel
theorem dX12_termOf_188 : decode cX12_termOf 188 = .ok (.iastore, 1) := by decide +kernel
theorem dX12_termOf_189 : decode cX12_termOf 189 = .ok (.iinc 4 1, 3) := by decide +kernel
theorem dX12_termOf_192 : decode cX12_termOf 192 = .ok (.goto (-187), 3) := by decide +kernel
theorem dX12_termOf_195 : decode cX12_termOf 195 = .ok (.aload_n 0, 1) := by decide +kernel
theorem dX12_termOf_196 : decode cX12_termOf 196 = .ok (.getfield 152, 3) := by decide +kernel
theorem dX12_termOf_199 : decode cX12_termOf 199 = .ok (.iconst 0, 1) := by decide +kernel
theorem dX12_termOf_200 : decode cX12_termOf 200 = .ok (.iaload, 1) := by decide +kernel
theorem dX12_termOf_201 : decode cX12_termOf 201 = .ok (.ireturn, 1) := by decide +kernel
def k_X12_termOf_5 (X : CX) (T : List Dsc) (n1 n2 : Nat) (x0 : Nat) (x2 : Int32) (r : ((Int32 × Int32 × Mem) ⊕ ((Mem) ⊕ (Mem)))) : Prop := match r with
  | .inl s => Wp X cX12_termOf RX12 8 T s.2.2 n1 n2 5 [(0, .ref x0), (2, .int x2), (3, .int s.1), (4, .int s.2.1)] []
  | .inr (.inl e) => Wp X cX12_termOf RX12 8 T e n1 n2 97 [(0, .ref x0)] []
  | .inr (.inr e) => Wp X cX12_termOf RX12 8 T e n1 n2 195 [(0, .ref x0)] []
set_option maxHeartbeats 4000000 in
set_option maxRecDepth 100000 in
theorem w_X12_termOf_189 {X : CX} {T : List Dsc} {n1 n2 : Nat} {x0 : Nat} {x2 : Int32} {x3 : Int32} {x4 : Int32} {μ : Mem} {r : ((Int32 × Int32 × Mem) ⊕ ((Mem) ⊕ (Mem)))} (hX : XR X 4 n1 n2) (hx0 : T[x0]? = some (.inl 11)) (hf : f_X12_termOf_189 T x0 x2 x3 x4 μ = some r) (hk : k_X12_termOf_5 X T n1 n2 x0 x2 r) : Wp X cX12_termOf RX12 8 T μ n1 n2 189 [(0, .ref x0), (2, .int x2), (3, .int x3), (4, .int x4)] [] := by
  unfold f_X12_termOf_189 at hf
  obtain ⟨v1, h2, hf⟩ := bnd hf
  refine Wp.iincN (pc := 189) (lo' := [(0, .ref x0), (2, .int x2), (3, .int x3), (4, .int v1)]) (1 : Int32) (by decide) h2 3 rfl [1, 2, 3, 0] rfl (by decide) dX12_termOf_189 ?_
  refine Wp.goto (pc := 192) 5 dX12_termOf_192 (by decide) ?_
  cases hf
  exact hk
set_option maxHeartbeats 4000000 in
set_option maxRecDepth 100000 in
theorem w_X12_termOf_58 {X : CX} {T : List Dsc} {n1 n2 : Nat} {x0 : Nat} {x2 : Int32} {x3 : Int32} {x4 : Int32} {s0 : Nat} {ms0 : Nat} {s1 : Int32} {s2 : Int32} {μ : Mem} {r : ((Int32 × Int32 × Mem) ⊕ ((Mem) ⊕ (Mem)))} (hX : XR X 4 n1 n2) (hx0 : T[x0]? = some (.inl 11)) (hs0 : aLen T s0 0 = some ms0) (hf : f_X12_termOf_58 T x0 x2 x3 x4 s0 ms0 s1 s2 μ = some r) (hk : k_X12_termOf_5 X T n1 n2 x0 x2 r) : Wp X cX12_termOf RX12 8 T μ n1 n2 58 [(0, .ref x0), (2, .int x2), (3, .int x3), (4, .int x4)] [.int s2, .int s1, .ref s0] := by
  unfold f_X12_termOf_58 at hf
  obtain ⟨μ1, h2, hf⟩ := bnd hf
  refine Wp.iast (pc := 58) h2 hs0 dX12_termOf_58 ?_
  obtain ⟨v3, h4, hf⟩ := bnd hf
  refine Wp.iincN (pc := 59) (lo' := [(0, .ref x0), (2, .int x2), (3, .int v3), (4, .int x4)]) (1 : Int32) (by decide) h4 2 rfl [1, 2, 0, 3] rfl (by decide) dX12_termOf_59 ?_
  refine Wp.goto (pc := 62) 189 dX12_termOf_62 (by decide) ?_
  exact w_X12_termOf_189 hX hx0 hf hk
set_option maxHeartbeats 4000000 in
set_option maxRecDepth 100000 in
theorem w_X12_termOf_188 {X : CX} {T : List Dsc} {n1 n2 : Nat} {x0 : Nat} {x2 : Int32} {x3 : Int32} {x4 : Int32} {s0 : Nat} {ms0 : Nat} {s1 : Int32} {s2 : Int32} {μ : Mem} {r : ((Int32 × Int32 × Mem) ⊕ ((Mem) ⊕ (Mem)))} (hX : XR X 4 n1 n2) (hx0 : T[x0]? = some (.inl 11)) (hs0 : aLen T s0 0 = some ms0) (hf : f_X12_termOf_188 T x0 x2 x3 x4 s0 ms0 s1 s2 μ = some r) (hk : k_X12_termOf_5 X T n1 n2 x0 x2 r) : Wp X cX12_termOf RX12 8 T μ n1 n2 188 [(0, .ref x0), (2, .int x2), (3, .int x3), (4, .int x4)] [.int s2, .int s1, .ref s0] := by
  unfold f_X12_termOf_188 at hf
  obtain ⟨μ1, h2, hf⟩ := bnd hf
  refine Wp.iast (pc := 188) h2 hs0 dX12_termOf_188 ?_
  exact w_X12_termOf_189 hX hx0 hf hk
set_option maxHeartbeats 4000000 in
set_option maxRecDepth 100000 in
theorem w_X12_termOf_104 {X : CX} {T : List Dsc} {n1 n2 : Nat} {x0 : Nat} {x2 : Int32} {x3 : Int32} {x4 : Int32} {x5 : Int32} {x6 : Int32} {x7 : Int32} {μ : Mem} {r : ((Int32 × Int32 × Mem) ⊕ ((Mem) ⊕ (Mem)))} (hX : XR X 4 n1 n2) (hx0 : T[x0]? = some (.inl 11)) (hf : f_X12_termOf_104 T x0 x2 x3 x4 x5 x6 x7 μ = some r) (hk : k_X12_termOf_5 X T n1 n2 x0 x2 r) : Wp X cX12_termOf RX12 8 T μ n1 n2 104 [(0, .ref x0), (2, .int x2), (3, .int x3), (4, .int x4), (5, .int x5), (6, .int x6), (7, .int x7)] [] := by
  unfold f_X12_termOf_104 at hf
  refine Wp.aload_n (pc := 104) 0 rfl rfl dX12_termOf_104 ?_
  obtain ⟨a1, h2, hf⟩ := bnd hf
  refine Wp.getR (pc := 105) (gA_R h2) hx0 fk_RX12_152 rfl dX12_termOf_105 ?_
  refine Wp.iload_n (pc := 108) 2 rfl rfl dX12_termOf_108 ?_
  refine Wp.iconst (pc := 109) (1 : Int32) (by decide) dX12_termOf_109 ?_
  refine Wp.isub (pc := 110) dX12_termOf_110 ?_
  refine Wp.iload (pc := 111) 4 rfl dX12_termOf_111 ?_
  refine Wp.iconst (pc := 113) (2 : Int32) (by decide) dX12_termOf_113 ?_
  refine Wp.icmp_ne (pc := 114) 125 dX12_termOf_114 (by decide) (fun hc3 => ?_) (fun hc3 => ?_)
  · rw [if_neg hc3] at hf
    refine Wp.iload (pc := 125) 4 rfl dX12_termOf_125 ?_
    refine Wp.iconst (pc := 127) (3 : Int32) (by decide) dX12_termOf_127 ?_
    refine Wp.icmp_ne (pc := 128) 139 dX12_termOf_128 (by decide) (fun hc4 => ?_) (fun hc4 => ?_)
    · rw [if_neg hc4] at hf
      refine Wp.iload (pc := 139) 4 rfl dX12_termOf_139 ?_
      refine Wp.iconst (pc := 141) (4 : Int32) (by decide) dX12_termOf_141 ?_
      refine Wp.icmp_ne (pc := 142) 153 dX12_termOf_142 (by decide) (fun hc5 => ?_) (fun hc5 => ?_)
      · rw [if_neg hc5] at hf
        refine Wp.iload (pc := 153) 4 rfl dX12_termOf_153 ?_
        refine Wp.bipush (pc := 155) (6 : Int32) (by decide) dX12_termOf_155 ?_
        refine Wp.icmp_ne (pc := 157) 171 dX12_termOf_157 (by decide) (fun hc6 => ?_) (fun hc6 => ?_)
        · rw [if_neg hc6] at hf
          refine Wp.iload (pc := 171) 6 rfl dX12_termOf_171 ?_
          refine Wp.iconst (pc := 173) (-1 : Int32) (by decide) dX12_termOf_173 ?_
          refine Wp.icmp_ne (pc := 174) 183 dX12_termOf_174 (by decide) (fun hc7 => ?_) (fun hc7 => ?_)
          · rw [if_neg hc7] at hf
            refine Wp.iload (pc := 183) 5 rfl dX12_termOf_183 ?_
            refine Wp.iload (pc := 185) 6 rfl dX12_termOf_185 ?_
            obtain ⟨v8, h9, hf⟩ := bnd hf
            refine Wp.dv (pc := 187) h9 dX12_termOf_187 ?_
            refine Wp.lo' (lo' := [(0, .ref x0), (2, .int x2), (3, .int x3), (4, .int x4)]) [0, 1, 2, 3] rfl ?_
            exact w_X12_termOf_188 hX hx0 (gA_T h2) hf hk
          · rw [if_pos hc7] at hf
            refine Wp.iload (pc := 177) 5 rfl dX12_termOf_177 ?_
            refine Wp.ineg (pc := 179) dX12_termOf_179 ?_
            refine Wp.goto (pc := 180) 188 dX12_termOf_180 (by decide) ?_
            refine Wp.lo' (lo' := [(0, .ref x0), (2, .int x2), (3, .int x3), (4, .int x4)]) [0, 1, 2, 3] rfl ?_
            exact w_X12_termOf_188 hX hx0 (gA_T h2) hf hk
        · rw [if_pos hc6] at hf
          refine Wp.aload_n (pc := 160) 0 rfl rfl dX12_termOf_160 ?_
          refine Wp.iload (pc := 161) 5 rfl dX12_termOf_161 ?_
          refine Wp.iload (pc := 163) 6 rfl dX12_termOf_163 ?_
          obtain ⟨c10, h11, hf⟩ := bnd hf
          refine Wp.callVi (pc := 165) (st := [.int (x3 - (1 : Int32)), .ref a1.1]) (as := [.int x6, .int x7]) (c_X12_gap hx0 h11) ml_RX12_422 mv_X12_gap mb_X12_gap hX (Nat.le_of_ble_eq_true rfl) (by decide) rfl hx0 rfl (by simp [Value.category]) dX12_termOf_165 rfl ?_
          refine Wp.goto (pc := 168) 188 dX12_termOf_168 (by decide) ?_
          refine Wp.lo' (lo' := [(0, .ref x0), (2, .int x2), (3, .int x3), (4, .int x4)]) [0, 1, 2, 3] rfl ?_
          exact w_X12_termOf_188 hX hx0 (gA_T h2) hf hk
      · rw [if_pos hc5] at hf
        refine Wp.iload (pc := 145) 5 rfl dX12_termOf_145 ?_
        refine Wp.iload (pc := 147) 6 rfl dX12_termOf_147 ?_
        refine Wp.imul (pc := 149) dX12_termOf_149 ?_
        refine Wp.goto (pc := 150) 188 dX12_termOf_150 (by decide) ?_
        refine Wp.lo' (lo' := [(0, .ref x0), (2, .int x2), (3, .int x3), (4, .int x4)]) [0, 1, 2, 3] rfl ?_
        exact w_X12_termOf_188 hX hx0 (gA_T h2) hf hk
    · rw [if_pos hc4] at hf
      refine Wp.iload (pc := 131) 5 rfl dX12_termOf_131 ?_
      refine Wp.iload (pc := 133) 6 rfl dX12_termOf_133 ?_
      refine Wp.isub (pc := 135) dX12_termOf_135 ?_
      refine Wp.goto (pc := 136) 188 dX12_termOf_136 (by decide) ?_
      refine Wp.lo' (lo' := [(0, .ref x0), (2, .int x2), (3, .int x3), (4, .int x4)]) [0, 1, 2, 3] rfl ?_
      exact w_X12_termOf_188 hX hx0 (gA_T h2) hf hk
  · rw [if_pos hc3] at hf
    refine Wp.iload (pc := 117) 5 rfl dX12_termOf_117 ?_
    refine Wp.iload (pc := 119) 6 rfl dX12_termOf_119 ?_
    refine Wp.iadd (pc := 121) dX12_termOf_121 ?_
    refine Wp.goto (pc := 122) 188 dX12_termOf_122 (by decide) ?_
    refine Wp.lo' (lo' := [(0, .ref x0), (2, .int x2), (3, .int x3), (4, .int x4)]) [0, 1, 2, 3] rfl ?_
    exact w_X12_termOf_188 hX hx0 (gA_T h2) hf hk
set_option maxHeartbeats 4000000 in
set_option maxRecDepth 100000 in
theorem w_X12_termOf_5 {X : CX} {T : List Dsc} {n1 n2 : Nat} {x0 : Nat} {x2 : Int32} {x3 : Int32} {x4 : Int32} {μ : Mem} {r : ((Int32 × Int32 × Mem) ⊕ ((Mem) ⊕ (Mem)))} (hX : XR X 4 n1 n2) (hx0 : T[x0]? = some (.inl 11)) (hf : f_X12_termOf_5 T x0 x2 x3 x4 μ = some r) (hk : k_X12_termOf_5 X T n1 n2 x0 x2 r) : Wp X cX12_termOf RX12 8 T μ n1 n2 5 [(0, .ref x0), (2, .int x2), (3, .int x3), (4, .int x4)] [] := by
  unfold f_X12_termOf_5 at hf
  refine Wp.iload (pc := 5) 3 rfl dX12_termOf_5 ?_
  refine Wp.iload_n (pc := 7) 1 rfl rfl dX12_termOf_7 ?_
  refine Wp.icmp_ge (pc := 8) 195 dX12_termOf_8 (by decide) (fun hc1 => ?_) (fun hc1 => ?_)
  · rw [if_pos hc1] at hf
    refine Wp.lo' (lo' := [(0, .ref x0)]) [0] rfl ?_
    cases hf
    exact hk
  · rw [if_neg hc1] at hf
    refine Wp.aload_n (pc := 11) 0 rfl rfl dX12_termOf_11 ?_
    obtain ⟨a2, h3, hf⟩ := bnd hf
    refine Wp.getR (pc := 12) (gA_R h3) hx0 fk_RX12_116 rfl dX12_termOf_12 ?_
    refine Wp.iload (pc := 15) 3 rfl dX12_termOf_15 ?_
    obtain ⟨v4, h5, hf⟩ := bnd hf
    refine Wp.iald (pc := 17) h5 (gA_T h3) dX12_termOf_17 ?_
    refine Wp.istore (pc := 18) (lo' := [(0, .ref x0), (2, .int x2), (3, .int x3), (4, .int x4), (5, .int v4)]) [1, 2, 3, 4, 0] rfl (by decide) dX12_termOf_18 ?_
    refine Wp.iload (pc := 20) 4 rfl dX12_termOf_20 ?_
    refine Wp.iconst (pc := 22) (2 : Int32) (by decide) dX12_termOf_22 ?_
    refine Wp.icmp_ge (pc := 23) 65 dX12_termOf_23 (by decide) (fun hc6 => ?_) (fun hc6 => ?_)
    · rw [if_pos hc6] at hf
      obtain ⟨v7, h8, hf⟩ := bnd hf
      refine Wp.iincN (pc := 65) (lo' := [(0, .ref x0), (2, .int x2), (3, .int v7), (4, .int x4), (5, .int v4)]) (-1 : Int32) (by decide) h8 2 rfl [1, 2, 0, 3, 4] rfl (by decide) dX12_termOf_65 ?_
      refine Wp.aload_n (pc := 68) 0 rfl rfl dX12_termOf_68 ?_
      obtain ⟨a9, h10, hf⟩ := bnd hf
      refine Wp.getR (pc := 69) (gA_R h10) hx0 fk_RX12_152 rfl dX12_termOf_69 ?_
      refine Wp.iload_n (pc := 72) 2 rfl rfl dX12_termOf_72 ?_
      refine Wp.iconst (pc := 73) (1 : Int32) (by decide) dX12_termOf_73 ?_
      refine Wp.isub (pc := 74) dX12_termOf_74 ?_
      obtain ⟨v11, h12, hf⟩ := bnd hf
      refine Wp.iald (pc := 75) h12 (gA_T h10) dX12_termOf_75 ?_
      refine Wp.istore (pc := 76) (lo' := [(0, .ref x0), (2, .int x2), (3, .int v7), (4, .int x4), (5, .int v4), (6, .int v11)]) [1, 2, 3, 4, 5, 0] rfl (by decide) dX12_termOf_76 ?_
      refine Wp.aload_n (pc := 78) 0 rfl rfl dX12_termOf_78 ?_
      obtain ⟨a13, h14, hf⟩ := bnd hf
      refine Wp.getR (pc := 79) (gA_R h14) hx0 fk_RX12_152 rfl dX12_termOf_79 ?_
      refine Wp.iload_n (pc := 82) 2 rfl rfl dX12_termOf_82 ?_
      obtain ⟨v15, h16, hf⟩ := bnd hf
      refine Wp.iald (pc := 83) h16 (gA_T h14) dX12_termOf_83 ?_
      refine Wp.istore (pc := 84) (lo' := [(0, .ref x0), (2, .int x2), (3, .int v7), (4, .int x4), (5, .int v4), (6, .int v11), (7, .int v15)]) [1, 2, 3, 4, 5, 6, 0] rfl (by decide) dX12_termOf_84 ?_
      refine Wp.iload (pc := 86) 4 rfl dX12_termOf_86 ?_
      refine Wp.iconst (pc := 88) (5 : Int32) (by decide) dX12_termOf_88 ?_
      refine Wp.icmp_ne (pc := 89) 104 dX12_termOf_89 (by decide) (fun hc17 => ?_) (fun hc17 => ?_)
      · rw [if_neg hc17] at hf
        exact w_X12_termOf_104 hX hx0 hf hk
      · rw [if_pos hc17] at hf
        refine Wp.iload (pc := 92) 6 rfl dX12_termOf_92 ?_
        refine Wp.if_ne (pc := 94) 104 dX12_termOf_94 (by decide) (fun hc18 => ?_) (fun hc18 => ?_)
        · rw [if_neg hc18] at hf
          exact w_X12_termOf_104 hX hx0 hf hk
        · rw [if_pos hc18] at hf
          refine Wp.lo' (lo' := [(0, .ref x0)]) [0] rfl ?_
          cases hf
          exact hk
    · rw [if_neg hc6] at hf
      refine Wp.aload_n (pc := 26) 0 rfl rfl dX12_termOf_26 ?_
      obtain ⟨a19, h20, hf⟩ := bnd hf
      refine Wp.getR (pc := 27) (gA_R h20) hx0 fk_RX12_152 rfl dX12_termOf_27 ?_
      refine Wp.iload_n (pc := 30) 2 rfl rfl dX12_termOf_30 ?_
      refine Wp.iload (pc := 31) 4 rfl dX12_termOf_31 ?_
      refine Wp.if_ne (pc := 33) 46 dX12_termOf_33 (by decide) (fun hc21 => ?_) (fun hc21 => ?_)
      · rw [if_neg hc21] at hf
        refine Wp.aload_n (pc := 46) 0 rfl rfl dX12_termOf_46 ?_
        obtain ⟨a22, h23, hf⟩ := bnd hf
        refine Wp.getR (pc := 47) (gA_R h23) hx0 fk_RX12_149 rfl dX12_termOf_47 ?_
        refine Wp.aload_n (pc := 50) 0 rfl rfl dX12_termOf_50 ?_
        obtain ⟨a24, h25, hf⟩ := bnd hf
        refine Wp.getR (pc := 51) (gA_R h25) hx0 fk_RX12_119 rfl dX12_termOf_51 ?_
        refine Wp.iload (pc := 54) 3 rfl dX12_termOf_54 ?_
        obtain ⟨v26, h27, hf⟩ := bnd hf
        refine Wp.iald (pc := 56) h27 (gA_T h25) dX12_termOf_56 ?_
        obtain ⟨v28, h29, hf⟩ := bnd hf
        refine Wp.iald (pc := 57) h29 (gA_T h23) dX12_termOf_57 ?_
        refine Wp.lo' (lo' := [(0, .ref x0), (2, .int x2), (3, .int x3), (4, .int x4)]) [0, 1, 2, 3] rfl ?_
        exact w_X12_termOf_58 hX hx0 (gA_T h20) hf hk
      · rw [if_pos hc21] at hf
        refine Wp.aload_n (pc := 36) 0 rfl rfl dX12_termOf_36 ?_
        obtain ⟨a30, h31, hf⟩ := bnd hf
        refine Wp.getR (pc := 37) (gA_R h31) hx0 fk_RX12_119 rfl dX12_termOf_37 ?_
        refine Wp.iload (pc := 40) 3 rfl dX12_termOf_40 ?_
        obtain ⟨v32, h33, hf⟩ := bnd hf
        refine Wp.iald (pc := 42) h33 (gA_T h31) dX12_termOf_42 ?_
        refine Wp.goto (pc := 43) 58 dX12_termOf_43 (by decide) ?_
        refine Wp.lo' (lo' := [(0, .ref x0), (2, .int x2), (3, .int x3), (4, .int x4)]) [0, 1, 2, 3] rfl ?_
        exact w_X12_termOf_58 hX hx0 (gA_T h20) hf hk
theorem wl_X12_termOf_5 {X : CX} {T : List Dsc} {n1 n2 : Nat} {x0 : Nat} {x2 : Int32} {x3 : Int32} {x4 : Int32} {μ : Mem} {e : ((Mem) ⊕ (Mem))} (hX : XR X 4 n1 n2) (hx0 : T[x0]? = some (.inl 11)) (h : loop (g_X12_termOf_5 T x0 x2) (x3, x4, μ) = some e) (he0 : ∀ e_, e = (Sum.inl e_) → Wp X cX12_termOf RX12 8 T e_ n1 n2 97 [(0, .ref x0)] []) (he1 : ∀ e_, e = (Sum.inr e_) → Wp X cX12_termOf RX12 8 T e_ n1 n2 195 [(0, .ref x0)] []) : Wp X cX12_termOf RX12 8 T μ n1 n2 5 [(0, .ref x0), (2, .int x2), (3, .int x3), (4, .int x4)] [] :=
  loop_ok (K := k_X12_termOf_5 X T n1 n2 x0 x2) (fun s r hf hk => w_X12_termOf_5 hX hx0 hf hk) h (by rcases e with e | e <;> first | exact he0 _ rfl | exact he1 _ rfl)
set_option maxHeartbeats 4000000 in
set_option maxRecDepth 100000 in
theorem w_X12_termOf {X : CX} {T : List Dsc} {n1 n2 : Nat} {x0 : Nat} {x1 : Int32} {x2 : Int32} {μ : Mem} {r : (Int32 × Mem)} (hX : XR X 4 n1 n2) (hx0 : T[x0]? = some (.inl 11)) (hf : F_X12_termOf T x0 x1 x2 μ = some r) (hk : FnI X cX12_termOf RX12 8 T n1 n2 r) : Wp X cX12_termOf RX12 8 T μ n1 n2 0 [(0, .ref x0), (1, .int x1), (2, .int x2)] [] := by
  unfold F_X12_termOf at hf
  refine Wp.iconst (pc := 0) (0 : Int32) (by decide) dX12_termOf_0 ?_
  refine Wp.istore_n (pc := 1) (lo' := [(0, .ref x0), (1, .int x1), (2, .int x2), (3, .int (0 : Int32))]) [1, 2, 3, 0] rfl (by decide) rfl dX12_termOf_1 ?_
  refine Wp.iload_n (pc := 2) 1 rfl rfl dX12_termOf_2 ?_
  refine Wp.istore (pc := 3) (lo' := [(0, .ref x0), (2, .int x2), (3, .int (0 : Int32)), (4, .int x1)]) [1, 3, 4, 0] rfl (by decide) dX12_termOf_3 ?_
  obtain ⟨e1, h2, hf⟩ := bnd hf
  refine wl_X12_termOf_5 hX hx0 h2 (fun e1_0 hq => ?_) (fun e1_1 hq => ?_)
  · rw [hq, Sum.elim_inl] at hf
    refine Wp.aload_n (pc := 97) 0 rfl rfl dX12_termOf_97 ?_
    refine Wp.iconst (pc := 98) (1 : Int32) (by decide) dX12_termOf_98 ?_
    obtain ⟨μ3, h4, hf⟩ := bnd hf
    refine Wp.ptZ (pc := 99) (Or.inr rfl) h4 hx0 fk_RX12_418 ff_RX12_11_71 rfl dX12_termOf_99 ?_
    refine Wp.iconst (pc := 102) (0 : Int32) (by decide) dX12_termOf_102 ?_
    cases hf
    exact hk _ _ dX12_termOf_103
  · rw [hq, Sum.elim_inr] at hf
    refine Wp.aload_n (pc := 195) 0 rfl rfl dX12_termOf_195 ?_
    obtain ⟨a5, h6, hf⟩ := bnd hf
    refine Wp.getR (pc := 196) (gA_R h6) hx0 fk_RX12_152 rfl dX12_termOf_196 ?_
    refine Wp.iconst (pc := 199) (0 : Int32) (by decide) dX12_termOf_199 ?_
    obtain ⟨v7, h8, hf⟩ := bnd hf
    refine Wp.iald (pc := 200) h8 (gA_T h6) dX12_termOf_200 ?_
    cases hf
    exact hk _ _ dX12_termOf_201
theorem c_X12_termOf {T : List Dsc} {x0 : Nat} {x1 : Int32} {x2 : Int32} {μ : Mem} {r : (Int32 × Mem)} (hx0 : T[x0]? = some (.inl 11)) (hf : F_X12_termOf T x0 x1 x2 μ = some r) : Ct 4 yX12_termOf cX12_termOf 8 (some .int) T μ [.ref x0, .int x1, .int x2] (some (.int r.1)) r.2 := Ct.ofI (by decide +kernel) (Nat.le_of_ble_eq_true rfl) (fun X hX hk => w_X12_termOf hX hx0 hf hk)
theorem dX12_isTrue_0 : decode cX12_isTrue 0 = .ok (.aload_n 0, 1) := by decide +kernel
theorem dX12_isTrue_1 : decode cX12_isTrue 1 = .ok (.aload_n 0, 1) := by decide +kernel
theorem dX12_isTrue_2 : decode cX12_isTrue 2 = .ok (.getfield 107, 3) := by decide +kernel
theorem dX12_isTrue_5 : decode cX12_isTrue 5 = .ok (.iload_n 1, 1) := by decide +kernel
theorem dX12_isTrue_6 : decode cX12_isTrue 6 = .ok (.iaload, 1) := by decide +kernel
theorem dX12_isTrue_7 : decode cX12_isTrue 7 = .ok (.aload_n 0, 1) := by decide +kernel
theorem dX12_isTrue_8 : decode cX12_isTrue 8 = .ok (.getfield 110, 3) := by decide +kernel
theorem dX12_isTrue_11 : decode cX12_isTrue 11 = .ok (.iload_n 1, 1) := by decide +kernel
theorem dX12_isTrue_12 : decode cX12_isTrue 12 = .ok (.iaload, 1) := by decide +kernel
theorem dX12_isTrue_13 : decode cX12_isTrue 13 = .ok (.invokevirtual 425, 3) := by decide +kernel
theorem dX12_isTrue_16 : decode cX12_isTrue 16 = .ok (.istore_n 2, 1) := by decide +kernel
theorem dX12_isTrue_17 : decode cX12_isTrue 17 = .ok (.aload_n 0, 1) := by decide +kernel
theorem dX12_isTrue_18 : decode cX12_isTrue 18 = .ok (.aload_n 0, 1) := by decide +kernel
theorem dX12_isTrue_19 : decode cX12_isTrue 19 = .ok (.getfield 110, 3) := by decide +kernel
theorem dX12_isTrue_22 : decode cX12_isTrue 22 = .ok (.iload_n 1, 1) := by decide +kernel
theorem dX12_isTrue_23 : decode cX12_isTrue 23 = .ok (.iaload, 1) := by decide +kernel
theorem dX12_isTrue_24 : decode cX12_isTrue 24 = .ok (.aload_n 0, 1) := by decide +kernel
theorem dX12_isTrue_25 : decode cX12_isTrue 25 = .ok (.getfield 113, 3) := by decide +kernel
theorem dX12_isTrue_28 : decode cX12_isTrue 28 = .ok (.iload_n 1, 1) := by decide +kernel
theorem dX12_isTrue_29 : decode cX12_isTrue 29 = .ok (.iaload, 1) := by decide +kernel
theorem dX12_isTrue_30 : decode cX12_isTrue 30 = .ok (.invokevirtual 425, 3) := by decide +kernel
theorem dX12_isTrue_33 : decode cX12_isTrue 33 = .ok (.istore_n 3, 1) := by decide +kernel
theorem dX12_isTrue_34 : decode cX12_isTrue 34 = .ok (.aload_n 0, 1) := by decide +kernel
theorem dX12_isTrue_35 : decode cX12_isTrue 35 = .ok (.getfield 97, 3) := by decide +kernel
theorem dX12_isTrue_38 : decode cX12_isTrue 38 = .ok (.iload_n 1, 1) := by decide +kernel
theorem dX12_isTrue_39 : decode cX12_isTrue 39 = .ok (.iaload, 1) := by decide +kernel
theorem dX12_isTrue_40 : decode cX12_isTrue 40 = .ok (.ifCond .ne 16, 3) := by decide +kernel
theorem dX12_isTrue_43 : decode cX12_isTrue 43 = .ok (.iload_n 2, 1) := by decide +kernel
theorem dX12_isTrue_44 : decode cX12_isTrue 44 = .ok (.iload_n 3, 1) := by decide +kernel
theorem dX12_isTrue_45 : decode cX12_isTrue 45 = .ok (.if_icmp .ne 7, 3) := by decide +kernel
theorem dX12_isTrue_48 : decode cX12_isTrue 48 = .ok (.iconst 1, 1) := by decide +kernel
theorem dX12_isTrue_49 : decode cX12_isTrue 49 = .ok (.goto 63, 3) := by decide +kernel
theorem dX12_isTrue_52 : decode cX12_isTrue 52 = .ok (.iconst 0, 1) := by decide +kernel
theorem dX12_isTrue_53 : decode cX12_isTrue 53 = .ok (.goto 59, 3) := by decide +kernel
theorem dX12_isTrue_56 : decode cX12_isTrue 56 = .ok (.aload_n 0, 1) := by decide +kernel
theorem dX12_isTrue_57 : decode cX12_isTrue 57 = .ok (.getfield 97, 3) := by decide +kernel
theorem dX12_isTrue_60 : decode cX12_isTrue 60 = .ok (.iload_n 1, 1) := by decide +kernel
theorem dX12_isTrue_61 : decode cX12_isTrue 61 = .ok (.iaload, 1) := by decide +kernel
theorem dX12_isTrue_62 : decode cX12_isTrue 62 = .ok (.iconst 1, 1) := by decide +kernel
theorem dX12_isTrue_63 : decode cX12_isTrue 63 = .ok (.if_icmp .ne 16, 3) := by decide +kernel
theorem dX12_isTrue_66 : decode cX12_isTrue 66 = .ok (.iload_n 2, 1) := by decide +kernel
theorem dX12_isTrue_67 : decode cX12_isTrue 67 = .ok (.iload_n 3, 1) := by decide +kernel
theorem dX12_isTrue_68 : decode cX12_isTrue 68 = .ok (.if_icmp .eq 7, 3) := by decide +kernel
theorem dX12_isTrue_71 : decode cX12_isTrue 71 = .ok (.iconst 1, 1) := by decide +kernel
theorem dX12_isTrue_72 : decode cX12_isTrue 72 = .ok (.goto 40, 3) := by decide +kernel
theorem dX12_isTrue_75 : decode cX12_isTrue 75 = .ok (.iconst 0, 1) := by decide +kernel
theorem dX12_isTrue_76 : decode cX12_isTrue 76 = .ok (.goto 36, 3) := by decide +kernel
theorem dX12_isTrue_79 : decode cX12_isTrue 79 = .ok (.aload_n 0, 1) := by decide +kernel
theorem dX12_isTrue_80 : decode cX12_isTrue 80 = .ok (.getfield 97, 3) := by decide +kernel
theorem dX12_isTrue_83 : decode cX12_isTrue 83 = .ok (.iload_n 1, 1) := by decide +kernel
theorem dX12_isTrue_84 : decode cX12_isTrue 84 = .ok (.iaload, 1) := by decide +kernel
theorem dX12_isTrue_85 : decode cX12_isTrue 85 = .ok (.iconst 2, 1) := by decide +kernel
theorem dX12_isTrue_86 : decode cX12_isTrue 86 = .ok (.if_icmp .ne 16, 3) := by decide +kernel
theorem dX12_isTrue_89 : decode cX12_isTrue 89 = .ok (.iload_n 2, 1) := by decide +kernel
theorem dX12_isTrue_90 : decode cX12_isTrue 90 = .ok (.iload_n 3, 1) := by decide +kernel
theorem dX12_isTrue_91 : decode cX12_isTrue 91 = .ok (.if_icmp .ge 7, 3) := by decide +kernel
theorem dX12_isTrue_94 : decode cX12_isTrue 94 = .ok (.iconst 1, 1) := by decide +kernel
theorem dX12_isTrue_95 : decode cX12_isTrue 95 = .ok (.goto 17, 3) := by decide +kernel
theorem dX12_isTrue_98 : decode cX12_isTrue 98 = .ok (.iconst 0, 1) := by decide +kernel
theorem dX12_isTrue_99 : decode cX12_isTrue 99 = .ok (.goto 13, 3) := by decide +kernel
theorem dX12_isTrue_102 : decode cX12_isTrue 102 = .ok (.iload_n 2, 1) := by decide +kernel
theorem dX12_isTrue_103 : decode cX12_isTrue 103 = .ok (.iload_n 3, 1) := by decide +kernel
theorem dX12_isTrue_104 : decode cX12_isTrue 104 = .ok (.if_icmp .gt 7, 3) := by decide +kernel
theorem dX12_isTrue_107 : decode cX12_isTrue 107 = .ok (.iconst 1, 1) := by decide +kernel
theorem dX12_isTrue_108 : decode cX12_isTrue 108 = .ok (.goto 4, 3) := by decide +kernel
theorem dX12_isTrue_111 : decode cX12_isTrue 111 = .ok (.iconst 0, 1) := by decide +kernel
theorem dX12_isTrue_112 : decode cX12_isTrue 112 = .ok (.istore 4, 2) := by decide +kernel
theorem dX12_isTrue_114 : decode cX12_isTrue 114 = .ok (.iload 4, 2) := by decide +kernel
theorem dX12_isTrue_116 : decode cX12_isTrue 116 = .ok (.aload_n 0, 1) := by decide +kernel
theorem dX12_isTrue_117 : decode cX12_isTrue 117 = .ok (.getfield 100, 3) := by decide +kernel
theorem dX12_isTrue_120 : decode cX12_isTrue 120 = .ok (.iload_n 1, 1) := by decide +kernel
theorem dX12_isTrue_121 : decode cX12_isTrue 121 = .ok (.baload, 1) := by decide +kernel
theorem dX12_isTrue_122 : decode cX12_isTrue 122 = .ok (.if_icmp .eq 7, 3) := by decide +kernel
theorem dX12_isTrue_125 : decode cX12_isTrue 125 = .ok (.iconst 1, 1) := by decide +kernel
theorem dX12_isTrue_126 : decode cX12_isTrue 126 = .ok (.goto 4, 3) := by decide +kernel
theorem dX12_isTrue_129 : decode cX12_isTrue 129 = .ok (.iconst 0, 1) := by decide +kernel
theorem dX12_isTrue_130 : decode cX12_isTrue 130 = .ok (.ireturn, 1) := by decide +kernel
set_option maxHeartbeats 4000000 in
set_option maxRecDepth 100000 in
theorem w_X12_isTrue_130 {X : CX} {T : List Dsc} {n1 n2 : Nat} {s0 : Int32} {μ : Mem} {r : (Int32 × Mem)} (hX : XR X 5 n1 n2) (hf : f_X12_isTrue_130 T s0 μ = some r) (hk : FnZ X cX12_isTrue RX12 5 T n1 n2 r) : Wp X cX12_isTrue RX12 5 T μ n1 n2 130 [] [.int s0] := by
  unfold f_X12_isTrue_130 at hf
  obtain ⟨v1, h2, hf⟩ := bnd hf
  refine Wp.zb' h2 (fun h2 => ?_)
  cases hf
  exact hk _ _ h2 dX12_isTrue_130
set_option maxHeartbeats 4000000 in
set_option maxRecDepth 100000 in
theorem w_X12_isTrue_112 {X : CX} {T : List Dsc} {n1 n2 : Nat} {x0 : Nat} {x1 : Int32} {s0 : Int32} {μ : Mem} {r : (Int32 × Mem)} (hX : XR X 5 n1 n2) (hx0 : T[x0]? = some (.inl 11)) (hf : f_X12_isTrue_112 T x0 x1 s0 μ = some r) (hk : FnZ X cX12_isTrue RX12 5 T n1 n2 r) : Wp X cX12_isTrue RX12 5 T μ n1 n2 112 [(0, .ref x0), (1, .int x1)] [.int s0] := by
  unfold f_X12_isTrue_112 at hf
  refine Wp.istore (pc := 112) (lo' := [(0, .ref x0), (1, .int x1), (4, .int s0)]) [1, 2, 0] rfl (by decide) dX12_isTrue_112 ?_
  refine Wp.iload (pc := 114) 2 rfl dX12_isTrue_114 ?_
  refine Wp.aload_n (pc := 116) 0 rfl rfl dX12_isTrue_116 ?_
  obtain ⟨a1, h2, hf⟩ := bnd hf
  refine Wp.getR (pc := 117) (gA_R h2) hx0 fk_RX12_100 rfl dX12_isTrue_117 ?_
  refine Wp.iload_n (pc := 120) 1 rfl rfl dX12_isTrue_120 ?_
  obtain ⟨v3, h4, hf⟩ := bnd hf
  refine Wp.zald (pc := 121) h4 (gA_T h2) dX12_isTrue_121 ?_
  refine Wp.icmp_eq (pc := 122) 129 dX12_isTrue_122 (by decide) (fun hc5 => ?_) (fun hc5 => ?_)
  · rw [if_pos hc5] at hf
    refine Wp.iconst (pc := 129) (0 : Int32) (by decide) dX12_isTrue_129 ?_
    refine Wp.lo' (lo' := []) [] rfl ?_
    exact w_X12_isTrue_130 hX hf hk
  · rw [if_neg hc5] at hf
    refine Wp.iconst (pc := 125) (1 : Int32) (by decide) dX12_isTrue_125 ?_
    refine Wp.goto (pc := 126) 130 dX12_isTrue_126 (by decide) ?_
    refine Wp.lo' (lo' := []) [] rfl ?_
    exact w_X12_isTrue_130 hX hf hk
set_option maxHeartbeats 4000000 in
set_option maxRecDepth 100000 in
theorem w_X12_isTrue {X : CX} {T : List Dsc} {n1 n2 : Nat} {x0 : Nat} {x1 : Int32} {μ : Mem} {r : (Int32 × Mem)} (hX : XR X 5 n1 n2) (hx0 : T[x0]? = some (.inl 11)) (hf : F_X12_isTrue T x0 x1 μ = some r) (hk : FnZ X cX12_isTrue RX12 5 T n1 n2 r) : Wp X cX12_isTrue RX12 5 T μ n1 n2 0 [(0, .ref x0), (1, .int x1)] [] := by
  unfold F_X12_isTrue at hf
  refine Wp.aload_n (pc := 0) 0 rfl rfl dX12_isTrue_0 ?_
  refine Wp.aload_n (pc := 1) 0 rfl rfl dX12_isTrue_1 ?_
  obtain ⟨a1, h2, hf⟩ := bnd hf
  refine Wp.getR (pc := 2) (gA_R h2) hx0 fk_RX12_107 rfl dX12_isTrue_2 ?_
  refine Wp.iload_n (pc := 5) 1 rfl rfl dX12_isTrue_5 ?_
  obtain ⟨v3, h4, hf⟩ := bnd hf
  refine Wp.iald (pc := 6) h4 (gA_T h2) dX12_isTrue_6 ?_
  refine Wp.aload_n (pc := 7) 0 rfl rfl dX12_isTrue_7 ?_
  obtain ⟨a5, h6, hf⟩ := bnd hf
  refine Wp.getR (pc := 8) (gA_R h6) hx0 fk_RX12_110 rfl dX12_isTrue_8 ?_
  refine Wp.iload_n (pc := 11) 1 rfl rfl dX12_isTrue_11 ?_
  obtain ⟨v7, h8, hf⟩ := bnd hf
  refine Wp.iald (pc := 12) h8 (gA_T h6) dX12_isTrue_12 ?_
  obtain ⟨c9, h10, hf⟩ := bnd hf
  refine Wp.callVi (pc := 13) (st := []) (as := [.int v3, .int v7]) (c_X12_termOf hx0 h10) ml_RX12_425 mv_X12_termOf mb_X12_termOf hX (Nat.le_of_ble_eq_true rfl) (by decide) rfl hx0 rfl (by simp) dX12_isTrue_13 rfl ?_
  refine Wp.istore_n (pc := 16) (lo' := [(0, .ref x0), (1, .int x1), (2, .int c9.1)]) [1, 2, 0] rfl (by decide) rfl dX12_isTrue_16 ?_
  refine Wp.aload_n (pc := 17) 0 rfl rfl dX12_isTrue_17 ?_
  refine Wp.aload_n (pc := 18) 0 rfl rfl dX12_isTrue_18 ?_
  obtain ⟨a11, h12, hf⟩ := bnd hf
  refine Wp.getR (pc := 19) (gA_R h12) hx0 fk_RX12_110 rfl dX12_isTrue_19 ?_
  refine Wp.iload_n (pc := 22) 1 rfl rfl dX12_isTrue_22 ?_
  obtain ⟨v13, h14, hf⟩ := bnd hf
  refine Wp.iald (pc := 23) h14 (gA_T h12) dX12_isTrue_23 ?_
  refine Wp.aload_n (pc := 24) 0 rfl rfl dX12_isTrue_24 ?_
  obtain ⟨a15, h16, hf⟩ := bnd hf
  refine Wp.getR (pc := 25) (gA_R h16) hx0 fk_RX12_113 rfl dX12_isTrue_25 ?_
  refine Wp.iload_n (pc := 28) 1 rfl rfl dX12_isTrue_28 ?_
  obtain ⟨v17, h18, hf⟩ := bnd hf
  refine Wp.iald (pc := 29) h18 (gA_T h16) dX12_isTrue_29 ?_
  obtain ⟨c19, h20, hf⟩ := bnd hf
  refine Wp.callVi (pc := 30) (st := []) (as := [.int v13, .int v17]) (c_X12_termOf hx0 h20) ml_RX12_425 mv_X12_termOf mb_X12_termOf hX (Nat.le_of_ble_eq_true rfl) (by decide) rfl hx0 rfl (by simp) dX12_isTrue_30 rfl ?_
  refine Wp.istore_n (pc := 33) (lo' := [(0, .ref x0), (1, .int x1), (2, .int c9.1), (3, .int c19.1)]) [1, 2, 3, 0] rfl (by decide) rfl dX12_isTrue_33 ?_
  refine Wp.aload_n (pc := 34) 0 rfl rfl dX12_isTrue_34 ?_
  obtain ⟨a21, h22, hf⟩ := bnd hf
  refine Wp.getR (pc := 35) (gA_R h22) hx0 fk_RX12_97 rfl dX12_isTrue_35 ?_
  refine Wp.iload_n (pc := 38) 1 rfl rfl dX12_isTrue_38 ?_
  obtain ⟨v23, h24, hf⟩ := bnd hf
  refine Wp.iald (pc := 39) h24 (gA_T h22) dX12_isTrue_39 ?_
  refine Wp.if_ne (pc := 40) 56 dX12_isTrue_40 (by decide) (fun hc25 => ?_) (fun hc25 => ?_)
  · rw [if_neg hc25] at hf
    refine Wp.aload_n (pc := 56) 0 rfl rfl dX12_isTrue_56 ?_
    obtain ⟨a26, h27, hf⟩ := bnd hf
    refine Wp.getR (pc := 57) (gA_R h27) hx0 fk_RX12_97 rfl dX12_isTrue_57 ?_
    refine Wp.iload_n (pc := 60) 1 rfl rfl dX12_isTrue_60 ?_
    obtain ⟨v28, h29, hf⟩ := bnd hf
    refine Wp.iald (pc := 61) h29 (gA_T h27) dX12_isTrue_61 ?_
    refine Wp.iconst (pc := 62) (1 : Int32) (by decide) dX12_isTrue_62 ?_
    refine Wp.icmp_ne (pc := 63) 79 dX12_isTrue_63 (by decide) (fun hc30 => ?_) (fun hc30 => ?_)
    · rw [if_neg hc30] at hf
      refine Wp.aload_n (pc := 79) 0 rfl rfl dX12_isTrue_79 ?_
      obtain ⟨a31, h32, hf⟩ := bnd hf
      refine Wp.getR (pc := 80) (gA_R h32) hx0 fk_RX12_97 rfl dX12_isTrue_80 ?_
      refine Wp.iload_n (pc := 83) 1 rfl rfl dX12_isTrue_83 ?_
      obtain ⟨v33, h34, hf⟩ := bnd hf
      refine Wp.iald (pc := 84) h34 (gA_T h32) dX12_isTrue_84 ?_
      refine Wp.iconst (pc := 85) (2 : Int32) (by decide) dX12_isTrue_85 ?_
      refine Wp.icmp_ne (pc := 86) 102 dX12_isTrue_86 (by decide) (fun hc35 => ?_) (fun hc35 => ?_)
      · rw [if_neg hc35] at hf
        refine Wp.iload_n (pc := 102) 2 rfl rfl dX12_isTrue_102 ?_
        refine Wp.iload_n (pc := 103) 3 rfl rfl dX12_isTrue_103 ?_
        refine Wp.icmp_gt (pc := 104) 111 dX12_isTrue_104 (by decide) (fun hc36 => ?_) (fun hc36 => ?_)
        · rw [if_pos hc36] at hf
          refine Wp.iconst (pc := 111) (0 : Int32) (by decide) dX12_isTrue_111 ?_
          refine Wp.lo' (lo' := [(0, .ref x0), (1, .int x1)]) [0, 1] rfl ?_
          exact w_X12_isTrue_112 hX hx0 hf hk
        · rw [if_neg hc36] at hf
          refine Wp.iconst (pc := 107) (1 : Int32) (by decide) dX12_isTrue_107 ?_
          refine Wp.goto (pc := 108) 112 dX12_isTrue_108 (by decide) ?_
          refine Wp.lo' (lo' := [(0, .ref x0), (1, .int x1)]) [0, 1] rfl ?_
          exact w_X12_isTrue_112 hX hx0 hf hk
      · rw [if_pos hc35] at hf
        refine Wp.iload_n (pc := 89) 2 rfl rfl dX12_isTrue_89 ?_
        refine Wp.iload_n (pc := 90) 3 rfl rfl dX12_isTrue_90 ?_
        refine Wp.icmp_ge (pc := 91) 98 dX12_isTrue_91 (by decide) (fun hc37 => ?_) (fun hc37 => ?_)
        · rw [if_pos hc37] at hf
          refine Wp.iconst (pc := 98) (0 : Int32) (by decide) dX12_isTrue_98 ?_
          refine Wp.goto (pc := 99) 112 dX12_isTrue_99 (by decide) ?_
          refine Wp.lo' (lo' := [(0, .ref x0), (1, .int x1)]) [0, 1] rfl ?_
          exact w_X12_isTrue_112 hX hx0 hf hk
        · rw [if_neg hc37] at hf
          refine Wp.iconst (pc := 94) (1 : Int32) (by decide) dX12_isTrue_94 ?_
          refine Wp.goto (pc := 95) 112 dX12_isTrue_95 (by decide) ?_
          refine Wp.lo' (lo' := [(0, .ref x0), (1, .int x1)]) [0, 1] rfl ?_
          exact w_X12_isTrue_112 hX hx0 hf hk
    · rw [if_pos hc30] at hf
      refine Wp.iload_n (pc := 66) 2 rfl rfl dX12_isTrue_66 ?_
      refine Wp.iload_n (pc := 67) 3 rfl rfl dX12_isTrue_67 ?_
      refine Wp.icmp_eq (pc := 68) 75 dX12_isTrue_68 (by decide) (fun hc38 => ?_) (fun hc38 => ?_)
      · rw [if_pos hc38] at hf
        refine Wp.iconst (pc := 75) (0 : Int32) (by decide) dX12_isTrue_75 ?_
        refine Wp.goto (pc := 76) 112 dX12_isTrue_76 (by decide) ?_
        refine Wp.lo' (lo' := [(0, .ref x0), (1, .int x1)]) [0, 1] rfl ?_
        exact w_X12_isTrue_112 hX hx0 hf hk
      · rw [if_neg hc38] at hf
        refine Wp.iconst (pc := 71) (1 : Int32) (by decide) dX12_isTrue_71 ?_
        refine Wp.goto (pc := 72) 112 dX12_isTrue_72 (by decide) ?_
        refine Wp.lo' (lo' := [(0, .ref x0), (1, .int x1)]) [0, 1] rfl ?_
        exact w_X12_isTrue_112 hX hx0 hf hk
  · rw [if_pos hc25] at hf
    refine Wp.iload_n (pc := 43) 2 rfl rfl dX12_isTrue_43 ?_
    refine Wp.iload_n (pc := 44) 3 rfl rfl dX12_isTrue_44 ?_
    refine Wp.icmp_ne (pc := 45) 52 dX12_isTrue_45 (by decide) (fun hc39 => ?_) (fun hc39 => ?_)
    · rw [if_neg hc39] at hf
      refine Wp.iconst (pc := 52) (0 : Int32) (by decide) dX12_isTrue_52 ?_
      refine Wp.goto (pc := 53) 112 dX12_isTrue_53 (by decide) ?_
      refine Wp.lo' (lo' := [(0, .ref x0), (1, .int x1)]) [0, 1] rfl ?_
      exact w_X12_isTrue_112 hX hx0 hf hk
    · rw [if_pos hc39] at hf
      refine Wp.iconst (pc := 48) (1 : Int32) (by decide) dX12_isTrue_48 ?_
      refine Wp.goto (pc := 49) 112 dX12_isTrue_49 (by decide) ?_
      refine Wp.lo' (lo' := [(0, .ref x0), (1, .int x1)]) [0, 1] rfl ?_
      exact w_X12_isTrue_112 hX hx0 hf hk
theorem c_X12_isTrue {T : List Dsc} {x0 : Nat} {x1 : Int32} {μ : Mem} {r : (Int32 × Mem)} (hx0 : T[x0]? = some (.inl 11)) (hf : F_X12_isTrue T x0 x1 μ = some r) : Ct 5 yX12_isTrue cX12_isTrue 5 (some .boolean) T μ [.ref x0, .int x1] (some (.int r.1)) r.2 := Ct.ofZ (by decide +kernel) (Nat.le_of_ble_eq_true rfl) (fun X hX hk => w_X12_isTrue hX hx0 hf hk)
