theorem dX12_strikes_0 : decode cX12_strikes 0 = .ok (.iconst 0, 1) := by decide +kernel
theorem dX12_strikes_1 : decode cX12_strikes 1 = .ok (.istore_n 2, 1) := by decide +kernel
theorem dX12_strikes_2 : decode cX12_strikes 2 = .ok (.iload_n 2, 1) := by decide +kernel
theorem dX12_strikes_3 : decode cX12_strikes 3 = .ok (.aload_n 0, 1) := by decide +kernel
theorem dX12_strikes_4 : decode cX12_strikes 4 = .ok (.getfield 399, 3) := by decide +kernel
theorem dX12_strikes_7 : decode cX12_strikes 7 = .ok (.if_icmp .ge 162, 3) := by decide +kernel
theorem dX12_strikes_10 : decode cX12_strikes 10 = .ok (.aload_n 0, 1) := by decide +kernel
theorem dX12_strikes_11 : decode cX12_strikes 11 = .ok (.getfield 149, 3) := by decide +kernel
theorem dX12_strikes_14 : decode cX12_strikes 14 = .ok (.iconst 0, 1) := by decide +kernel
theorem dX12_strikes_15 : decode cX12_strikes 15 = .ok (.aload_n 0, 1) := by decide +kernel
theorem dX12_strikes_16 : decode cX12_strikes 16 = .ok (.getfield 140, 3) := by decide +kernel
theorem dX12_strikes_19 : decode cX12_strikes 19 = .ok (.iload_n 2, 1) := by decide +kernel
theorem dX12_strikes_20 : decode cX12_strikes 20 = .ok (.iaload, 1) := by decide +kernel
theorem dX12_strikes_21 : decode cX12_strikes 21 = .ok (.iastore, 1) := by decide +kernel
theorem dX12_strikes_22 : decode cX12_strikes 22 = .ok (.aload_n 0, 1) := by decide +kernel
theorem dX12_strikes_23 : decode cX12_strikes 23 = .ok (.getfield 149, 3) := by decide +kernel
theorem dX12_strikes_26 : decode cX12_strikes 26 = .ok (.iconst 1, 1) := by decide +kernel
theorem dX12_strikes_27 : decode cX12_strikes 27 = .ok (.iload_n 2, 1) := by decide +kernel
theorem dX12_strikes_28 : decode cX12_strikes 28 = .ok (.ifCond .ne 12, 3) := by decide +kernel
theorem dX12_strikes_31 : decode cX12_strikes 31 = .ok (.aload_n 0, 1) := by decide +kernel
theorem dX12_strikes_32 : decode cX12_strikes 32 = .ok (.getfield 140, 3) := by decide +kernel
theorem dX12_strikes_35 : decode cX12_strikes 35 = .ok (.iconst 0, 1) := by decide +kernel
theorem dX12_strikes_36 : decode cX12_strikes 36 = .ok (.iaload, 1) := by decide +kernel
theorem dX12_strikes_37 : decode cX12_strikes 37 = .ok (.goto 11, 3) := by decide +kernel
theorem dX12_strikes_40 : decode cX12_strikes 40 = .ok (.aload_n 0, 1) := by decide +kernel
theorem dX12_strikes_41 : decode cX12_strikes 41 = .ok (.getfield 140, 3) := by decide +kernel
theorem dX12_strikes_44 : decode cX12_strikes 44 = .ok (.iload_n 2, 1) := by decide +kernel
theorem dX12_strikes_45 : decode cX12_strikes 45 = .ok (.iconst 1, 1) := by decide +kernel
theorem dX12_strikes_46 : decode cX12_strikes 46 = .ok (.isub, 1) := by decide +kernel
theorem dX12_strikes_47 : decode cX12_strikes 47 = .ok (.iaload, 1) := by decide +kernel
theorem dX12_strikes_48 : decode cX12_strikes 48 = .ok (.iastore, 1) := by decide +kernel
theorem dX12_strikes_49 : decode cX12_strikes 49 = .ok (.aload_n 0, 1) := by decide +kernel
theorem dX12_strikes_50 : decode cX12_strikes 50 = .ok (.getfield 149, 3) := by decide +kernel
theorem dX12_strikes_53 : decode cX12_strikes 53 = .ok (.iconst 2, 1) := by decide +kernel
theorem dX12_strikes_54 : decode cX12_strikes 54 = .ok (.iload_n 2, 1) := by decide +kernel
theorem dX12_strikes_55 : decode cX12_strikes 55 = .ok (.ifCond .ne 12, 3) := by decide +kernel
theorem dX12_strikes_58 : decode cX12_strikes 58 = .ok (.aload_n 0, 1) := by decide +kernel
theorem dX12_strikes_59 : decode cX12_strikes 59 = .ok (.getfield 140, 3) := by decide +kernel
theorem dX12_strikes_62 : decode cX12_strikes 62 = .ok (.iconst 0, 1) := by decide +kernel
theorem dX12_strikes_63 : decode cX12_strikes 63 = .ok (.iaload, 1) := by decide +kernel
theorem dX12_strikes_64 : decode cX12_strikes 64 = .ok (.goto 20, 3) := by decide +kernel
theorem dX12_strikes_67 : decode cX12_strikes 67 = .ok (.aload_n 0, 1) := by decide +kernel
theorem dX12_strikes_68 : decode cX12_strikes 68 = .ok (.getfield 140, 3) := by decide +kernel
theorem dX12_strikes_71 : decode cX12_strikes 71 = .ok (.iload_n 2, 1) := by decide +kernel
theorem dX12_strikes_72 : decode cX12_strikes 72 = .ok (.iconst 1, 1) := by decide +kernel
theorem dX12_strikes_73 : decode cX12_strikes 73 = .ok (.if_icmp .ne 7, 3) := by decide +kernel
theorem dX12_strikes_76 : decode cX12_strikes 76 = .ok (.iconst 0, 1) := by decide +kernel
theorem dX12_strikes_77 : decode cX12_strikes 77 = .ok (.goto 6, 3) := by decide +kernel
theorem dX12_strikes_80 : decode cX12_strikes 80 = .ok (.iload_n 2, 1) := by decide +kernel
theorem dX12_strikes_81 : decode cX12_strikes 81 = .ok (.iconst 2, 1) := by decide +kernel
theorem dX12_strikes_82 : decode cX12_strikes 82 = .ok (.isub, 1) := by decide +kernel
theorem dX12_strikes_83 : decode cX12_strikes 83 = .ok (.iaload, 1) := by decide +kernel
theorem dX12_strikes_84 : decode cX12_strikes 84 = .ok (.iastore, 1) := by decide +kernel
theorem dX12_strikes_85 : decode cX12_strikes 85 = .ok (.aload_n 0, 1) := by decide +kernel
theorem dX12_strikes_86 : decode cX12_strikes 86 = .ok (.getfield 149, 3) := by decide +kernel
theorem dX12_strikes_89 : decode cX12_strikes 89 = .ok (.iconst 3, 1) := by decide +kernel
theorem dX12_strikes_90 : decode cX12_strikes 90 = .ok (.aload_n 0, 1) := by decide +kernel
theorem dX12_strikes_91 : decode cX12_strikes 91 = .ok (.iload_n 2, 1) := by decide +kernel
theorem dX12_strikes_92 : decode cX12_strikes 92 = .ok (.iload_n 1, 1) := by decide +kernel
theorem dX12_strikes_93 : decode cX12_strikes 93 = .ok (.invokevirtual 434, 3) := by decide +kernel
theorem dX12_strikes_96 : decode cX12_strikes 96 = .ok (.iastore, 1) := by decide +kernel
theorem dX12_strikes_97 : decode cX12_strikes 97 = .ok (.aload_n 0, 1) := by decide +kernel
theorem dX12_strikes_98 : decode cX12_strikes 98 = .ok (.getfield 149, 3) := by decide +kernel
theorem dX12_strikes_101 : decode cX12_strikes 101 = .ok (.iconst 4, 1) := by decide +kernel
theorem dX12_strikes_102 : decode cX12_strikes 102 = .ok (.iload_n 2, 1) := by decide +kernel
theorem dX12_strikes_103 : decode cX12_strikes 103 = .ok (.iastore, 1) := by decide +kernel
theorem dX12_strikes_104 : decode cX12_strikes 104 = .ok (.aload_n 0, 1) := by decide +kernel
theorem dX12_strikes_105 : decode cX12_strikes 105 = .ok (.getfield 149, 3) := by decide +kernel
theorem dX12_strikes_108 : decode cX12_strikes 108 = .ok (.iconst 5, 1) := by decide +kernel
theorem dX12_strikes_109 : decode cX12_strikes 109 = .ok (.aload_n 0, 1) := by decide +kernel
theorem dX12_strikes_110 : decode cX12_strikes 110 = .ok (.getfield 85, 3) := by decide +kernel
theorem dX12_strikes_113 : decode cX12_strikes 113 = .ok (.aload_n 0, 1) := by decide +kernel
theorem dX12_strikes_114 : decode cX12_strikes 114 = .ok (.getfield 284, 3) := by decide +kernel
theorem dX12_strikes_117 : decode cX12_strikes 117 = .ok (.iaload, 1) := by decide +kernel
theorem dX12_strikes_118 : decode cX12_strikes 118 = .ok (.iconst (-1), 1) := by decide +kernel
theorem dX12_strikes_119 : decode cX12_strikes 119 = .ok (.if_icmp .ne 12, 3) := by decide +kernel
theorem dX12_strikes_122 : decode cX12_strikes 122 = .ok (.aload_n 0, 1) := by decide +kernel
theorem dX12_strikes_123 : decode cX12_strikes 123 = .ok (.getfield 140, 3) := by decide +kernel
theorem dX12_strikes_126 : decode cX12_strikes 126 = .ok (.iload_n 2, 1) := by decide +kernel
theorem dX12_strikes_127 : decode cX12_strikes 127 = .ok (.iaload, 1) := by decide +kernel
theorem dX12_strikes_128 : decode cX12_strikes 128 = .ok (.goto 12, 3) := by decide +kernel
theorem dX12_strikes_131 : decode cX12_strikes 131 = .ok (.aload_n 0, 1) := by decide +kernel
theorem dX12_strikes_132 : decode cX12_strikes 132 = .ok (.getfield 85, 3) := by decide +kernel
theorem dX12_strikes_135 : decode cX12_strikes 135 = .ok (.aload_n 0, 1) := by decide +kernel
theorem dX12_strikes_136 : decode cX12_strikes 136 = .ok (.getfield 284, 3) := by decide +kernel
theorem dX12_strikes_139 : decode cX12_strikes 139 = .ok (.iaload, 1) := by decide +kernel
theorem dX12_strikes_140 : decode cX12_strikes 140 = .ok (.iastore, 1) := by decide +kernel
theorem dX12_strikes_141 : decode cX12_strikes 141 = .ok (.aload_n 0, 1) := by decide +kernel
theorem dX12_strikes_142 : decode cX12_strikes 142 = .ok (.getfield 146, 3) := by decide +kernel
theorem dX12_strikes_145 : decode cX12_strikes 145 = .ok (.iload_n 2, 1) := by decide +kernel
theorem dX12_strikes_146 : decode cX12_strikes 146 = .ok (.aload_n 0, 1) := by decide +kernel
theorem dX12_strikes_147 : decode cX12_strikes 147 = .ok (.aload_n 0, 1) := by decide +kernel
theorem dX12_strikes_148 : decode cX12_strikes 148 = .ok (.getfield 143, 3) := by decide +kernel
theorem dX12_strikes_151 : decode cX12_strikes 151 = .ok (.iload_n 2, 1) := by decide +kernel
theorem dX12_strikes_152 : decode cX12_strikes 152 = .ok (.iaload, 1) := by decide +kernel
theorem dX12_strikes_153 : decode cX12_strikes 153 = .ok (.aload_n 0, 1) := by decide +kernel
theorem dX12_strikes_154 : decode cX12_strikes 154 = .ok (.getfield 140, 3) := by decide +kernel
theorem dX12_strikes_157 : decode cX12_strikes 157 = .ok (.iload_n 2, 1) := by decide +kernel
theorem dX12_strikes_158 : decode cX12_strikes 158 = .ok (.iaload, 1) := by decide +kernel
theorem dX12_strikes_159 : decode cX12_strikes 159 = .ok (.invokevirtual 438, 3) := by decide +kernel
theorem dX12_strikes_162 : decode cX12_strikes 162 = .ok (.iastore, 1) := by decide +kernel
theorem dX12_strikes_163 : decode cX12_strikes 163 = .ok (.iinc 2 1, 3) := by decide +kernel
theorem dX12_strikes_166 : decode cX12_strikes 166 = .ok (.goto (-164), 3) := by decide +kernel
theorem dX12_strikes_169 : decode cX12_strikes 169 = .ok (.iconst 0, 1) := by decide +kernel
theorem dX12_strikes_170 : decode cX12_strikes 170 = .ok (.istore_n 2, 1) := by decide +kernel
theorem dX12_strikes_171 : decode cX12_strikes 171 = .ok (.iload_n 2, 1) := by decide +kernel
theorem dX12_strikes_172 : decode cX12_strikes 172 = .ok (.aload_n 0, 1) := by decide +kernel
theorem dX12_strikes_173 : decode cX12_strikes 173 = .ok (.getfield 399, 3) := by decide +kernel
theorem dX12_strikes_176 : decode cX12_strikes 176 = .ok (.if_icmp .ge 21, 3) := by decide +kernel
theorem dX12_strikes_179 : decode cX12_strikes 179 = .ok (.aload_n 0, 1) := by decide +kernel
theorem dX12_strikes_180 : decode cX12_strikes 180 = .ok (.getfield 140, 3) := by decide +kernel
theorem dX12_strikes_183 : decode cX12_strikes 183 = .ok (.iload_n 2, 1) := by decide +kernel
theorem dX12_strikes_184 : decode cX12_strikes 184 = .ok (.aload_n 0, 1) := by decide +kernel
theorem dX12_strikes_185 : decode cX12_strikes 185 = .ok (.getfield 146, 3) := by decide +kernel
theorem dX12_strikes_188 : decode cX12_strikes 188 = .ok (.iload_n 2, 1) := by decide +kernel
theorem dX12_strikes_189 : decode cX12_strikes 189 = .ok (.iaload, 1) := by decide +kernel
theorem dX12_strikes_190 : decode cX12_strikes 190 = .ok (.iastore, 1) := by decide +kernel
theorem dX12_strikes_191 : decode cX12_strikes 191 = .ok (.iinc 2 1, 3) := by decide +kernel
theorem dX12_strikes_194 : decode cX12_strikes 194 = .ok (.goto (-23), 3) := by decide +kernel
theorem dX12_strikes_197 : decode cX12_strikes 197 = .ok (.return_, 1) := by decide +kernel
def k_X12_strikes_2 (X : CX) (T : List Dsc) (R : RM) (n1 n2 : Nat) (x1 : Int32) (r : ((Int32 × M2) ⊕ ((M2)))) : Prop := match r with
  | .inl s => Wp X cX12_strikes RX12 3 T (mk s.2 R) n1 n2 2 [(0, .ref 56), (1, .int x1), (2, .int s.1)] []
  | .inr e => Wp X cX12_strikes RX12 3 T (mk e R) n1 n2 169 [(0, .ref 56)] []
def k_X12_strikes_171 (X : CX) (T : List Dsc) (R : RM) (n1 n2 : Nat) (r : ((Int32 × M2) ⊕ ((M2)))) : Prop := match r with
  | .inl s => Wp X cX12_strikes RX12 3 T (mk s.2 R) n1 n2 171 [(0, .ref 56), (2, .int s.1)] []
  | .inr e => Wp X cX12_strikes RX12 3 T (mk e R) n1 n2 197 [] []
set_option maxHeartbeats 4000000 in
set_option maxRecDepth 100000 in
theorem w_X12_strikes_140 {X : CX} {T : List Dsc} {R : RM} {c e : Nat} {n1 n2 : Nat} {x1 : Int32} {x2 : Int32} {s1 : Int32} {s2 : Int32} {m : M2} {r : ((Int32 × M2) ⊕ ((M2)))} (hX : XR X 8 n1 n2) (hG : Geo T R c e) (hf : f_X12_strikes_140 x1 x2 s1 s2 m = some r) (hk : k_X12_strikes_2 X T R n1 n2 x1 r) : Wp X cX12_strikes RX12 3 T (mk m R) n1 n2 140 [(0, .ref 56), (1, .int x1), (2, .int x2)] [.int s2, .int s1, .ref 100] := by
  unfold f_X12_strikes_140 at hf
  obtain ⟨m1, h2, hf⟩ := bnd hf
  refine Wp.iast2 (pc := 140) h2 (hG.a 100 0 rfl) dX12_strikes_140 ?_
  refine Wp.aload_n (pc := 141) 0 rfl rfl dX12_strikes_141 ?_
  refine Wp.getR2 (pc := 142) (hG.r 56 68 rfl) (hG.t 56 rfl) fk_RX12_146 rfl dX12_strikes_142 ?_
  refine Wp.iload_n (pc := 145) 2 rfl rfl dX12_strikes_145 ?_
  refine Wp.aload_n (pc := 146) 0 rfl rfl dX12_strikes_146 ?_
  refine Wp.aload_n (pc := 147) 0 rfl rfl dX12_strikes_147 ?_
  refine Wp.getR2 (pc := 148) (hG.r 56 64 rfl) (hG.t 56 rfl) fk_RX12_143 rfl dX12_strikes_148 ?_
  refine Wp.iload_n (pc := 151) 2 rfl rfl dX12_strikes_151 ?_
  obtain ⟨v3, h4, hf⟩ := bnd hf
  refine Wp.iald2 (pc := 152) h4 (hG.a 98 0 rfl) dX12_strikes_152 ?_
  refine Wp.aload_n (pc := 153) 0 rfl rfl dX12_strikes_153 ?_
  refine Wp.getR2 (pc := 154) (hG.r 56 63 rfl) (hG.t 56 rfl) fk_RX12_140 rfl dX12_strikes_154 ?_
  refine Wp.iload_n (pc := 157) 2 rfl rfl dX12_strikes_157 ?_
  obtain ⟨v5, h6, hf⟩ := bnd hf
  refine Wp.iald2 (pc := 158) h6 (hG.a 97 0 rfl) dX12_strikes_158 ?_
  obtain ⟨c7, h8, hf⟩ := bnd hf
  refine Wp.callVi (pc := 159) (st := [.int x2, .ref 99]) (as := [.int v3, .int v5]) (c_X12_rowsBy hG h8) ml_RX12_438 mv_X12_rowsBy mb_X12_rowsBy hX (Nat.le_of_ble_eq_true rfl) (by decide) rfl (hG.t 56 rfl) rfl (by simp [Value.category]) dX12_strikes_159 rfl ?_
  obtain ⟨m9, h10, hf⟩ := bnd hf
  refine Wp.iast2 (pc := 162) h10 (hG.a 99 0 rfl) dX12_strikes_162 ?_
  obtain ⟨v11, h12, hf⟩ := bnd hf
  refine Wp.iincN (pc := 163) (lo' := [(0, .ref 56), (1, .int x1), (2, .int v11)]) (1 : Int32) (by decide) h12 2 rfl [1, 2, 0] rfl (by decide) dX12_strikes_163 ?_
  refine Wp.goto (pc := 166) 2 dX12_strikes_166 (by decide) ?_
  cases hf
  exact hk
set_option maxHeartbeats 4000000 in
set_option maxRecDepth 100000 in
theorem w_X12_strikes_84 {X : CX} {T : List Dsc} {R : RM} {c e : Nat} {n1 n2 : Nat} {x1 : Int32} {x2 : Int32} {s1 : Int32} {s2 : Int32} {m : M2} {r : ((Int32 × M2) ⊕ ((M2)))} (hX : XR X 8 n1 n2) (hG : Geo T R c e) (hf : f_X12_strikes_84 x1 x2 s1 s2 m = some r) (hk : k_X12_strikes_2 X T R n1 n2 x1 r) : Wp X cX12_strikes RX12 3 T (mk m R) n1 n2 84 [(0, .ref 56), (1, .int x1), (2, .int x2)] [.int s2, .int s1, .ref 100] := by
  unfold f_X12_strikes_84 at hf
  obtain ⟨m1, h2, hf⟩ := bnd hf
  refine Wp.iast2 (pc := 84) h2 (hG.a 100 0 rfl) dX12_strikes_84 ?_
  refine Wp.aload_n (pc := 85) 0 rfl rfl dX12_strikes_85 ?_
  refine Wp.getR2 (pc := 86) (hG.r 56 69 rfl) (hG.t 56 rfl) fk_RX12_149 rfl dX12_strikes_86 ?_
  refine Wp.iconst (pc := 89) (3 : Int32) (by decide) dX12_strikes_89 ?_
  refine Wp.aload_n (pc := 90) 0 rfl rfl dX12_strikes_90 ?_
  refine Wp.iload_n (pc := 91) 2 rfl rfl dX12_strikes_91 ?_
  refine Wp.iload_n (pc := 92) 1 rfl rfl dX12_strikes_92 ?_
  obtain ⟨c3, h4, hf⟩ := bnd hf
  refine Wp.callVi (pc := 93) (st := [.int (3 : Int32), .ref 100]) (as := [.int x2, .int x1]) (c_X12_heard hG h4) ml_RX12_434 mv_X12_heard mb_X12_heard hX (Nat.le_of_ble_eq_true rfl) (by decide) rfl (hG.t 56 rfl) rfl (by simp [Value.category]) dX12_strikes_93 rfl ?_
  obtain ⟨m5, h6, hf⟩ := bnd hf
  refine Wp.iast2 (pc := 96) h6 (hG.a 100 0 rfl) dX12_strikes_96 ?_
  refine Wp.aload_n (pc := 97) 0 rfl rfl dX12_strikes_97 ?_
  refine Wp.getR2 (pc := 98) (hG.r 56 69 rfl) (hG.t 56 rfl) fk_RX12_149 rfl dX12_strikes_98 ?_
  refine Wp.iconst (pc := 101) (4 : Int32) (by decide) dX12_strikes_101 ?_
  refine Wp.iload_n (pc := 102) 2 rfl rfl dX12_strikes_102 ?_
  obtain ⟨m7, h8, hf⟩ := bnd hf
  refine Wp.iast2 (pc := 103) h8 (hG.a 100 0 rfl) dX12_strikes_103 ?_
  refine Wp.aload_n (pc := 104) 0 rfl rfl dX12_strikes_104 ?_
  refine Wp.getR2 (pc := 105) (hG.r 56 69 rfl) (hG.t 56 rfl) fk_RX12_149 rfl dX12_strikes_105 ?_
  refine Wp.iconst (pc := 108) (5 : Int32) (by decide) dX12_strikes_108 ?_
  refine Wp.aload_n (pc := 109) 0 rfl rfl dX12_strikes_109 ?_
  refine Wp.getR2 (pc := 110) (hG.r 56 37 rfl) (hG.t 56 rfl) fk_RX12_85 rfl dX12_strikes_110 ?_
  refine Wp.aload_n (pc := 113) 0 rfl rfl dX12_strikes_113 ?_
  refine Wp.getI2 (pc := 114) (hG.t 56 rfl) fk_RX12_284 rfl dX12_strikes_114 ?_
  obtain ⟨v9, h10, hf⟩ := bnd hf
  refine Wp.iald2 (pc := 117) h10 (hG.a 79 0 rfl) dX12_strikes_117 ?_
  refine Wp.iconst (pc := 118) (-1 : Int32) (by decide) dX12_strikes_118 ?_
  refine Wp.icmp_ne (pc := 119) 131 dX12_strikes_119 (by decide) (fun hc11 => ?_) (fun hc11 => ?_)
  · rw [if_neg hc11] at hf
    refine Wp.aload_n (pc := 131) 0 rfl rfl dX12_strikes_131 ?_
    refine Wp.getR2 (pc := 132) (hG.r 56 37 rfl) (hG.t 56 rfl) fk_RX12_85 rfl dX12_strikes_132 ?_
    refine Wp.aload_n (pc := 135) 0 rfl rfl dX12_strikes_135 ?_
    refine Wp.getI2 (pc := 136) (hG.t 56 rfl) fk_RX12_284 rfl dX12_strikes_136 ?_
    obtain ⟨v12, h13, hf⟩ := bnd hf
    refine Wp.iald2 (pc := 139) h13 (hG.a 79 0 rfl) dX12_strikes_139 ?_
    exact w_X12_strikes_140 hX hG hf hk
  · rw [if_pos hc11] at hf
    refine Wp.aload_n (pc := 122) 0 rfl rfl dX12_strikes_122 ?_
    refine Wp.getR2 (pc := 123) (hG.r 56 63 rfl) (hG.t 56 rfl) fk_RX12_140 rfl dX12_strikes_123 ?_
    refine Wp.iload_n (pc := 126) 2 rfl rfl dX12_strikes_126 ?_
    obtain ⟨v14, h15, hf⟩ := bnd hf
    refine Wp.iald2 (pc := 127) h15 (hG.a 97 0 rfl) dX12_strikes_127 ?_
    refine Wp.goto (pc := 128) 140 dX12_strikes_128 (by decide) ?_
    exact w_X12_strikes_140 hX hG hf hk
set_option maxHeartbeats 4000000 in
set_option maxRecDepth 100000 in
theorem w_X12_strikes_83 {X : CX} {T : List Dsc} {R : RM} {c e : Nat} {n1 n2 : Nat} {x1 : Int32} {x2 : Int32} {s1 : Int32} {s3 : Int32} {m : M2} {r : ((Int32 × M2) ⊕ ((M2)))} (hX : XR X 8 n1 n2) (hG : Geo T R c e) (hf : f_X12_strikes_83 x1 x2 s1 s3 m = some r) (hk : k_X12_strikes_2 X T R n1 n2 x1 r) : Wp X cX12_strikes RX12 3 T (mk m R) n1 n2 83 [(0, .ref 56), (1, .int x1), (2, .int x2)] [.int s3, .ref 97, .int s1, .ref 100] := by
  unfold f_X12_strikes_83 at hf
  obtain ⟨v1, h2, hf⟩ := bnd hf
  refine Wp.iald2 (pc := 83) h2 (hG.a 97 0 rfl) dX12_strikes_83 ?_
  exact w_X12_strikes_84 hX hG hf hk
set_option maxHeartbeats 4000000 in
set_option maxRecDepth 100000 in
theorem w_X12_strikes_48 {X : CX} {T : List Dsc} {R : RM} {c e : Nat} {n1 n2 : Nat} {x1 : Int32} {x2 : Int32} {s1 : Int32} {s2 : Int32} {m : M2} {r : ((Int32 × M2) ⊕ ((M2)))} (hX : XR X 8 n1 n2) (hG : Geo T R c e) (hf : f_X12_strikes_48 x1 x2 s1 s2 m = some r) (hk : k_X12_strikes_2 X T R n1 n2 x1 r) : Wp X cX12_strikes RX12 3 T (mk m R) n1 n2 48 [(0, .ref 56), (1, .int x1), (2, .int x2)] [.int s2, .int s1, .ref 100] := by
  unfold f_X12_strikes_48 at hf
  obtain ⟨m1, h2, hf⟩ := bnd hf
  refine Wp.iast2 (pc := 48) h2 (hG.a 100 0 rfl) dX12_strikes_48 ?_
  refine Wp.aload_n (pc := 49) 0 rfl rfl dX12_strikes_49 ?_
  refine Wp.getR2 (pc := 50) (hG.r 56 69 rfl) (hG.t 56 rfl) fk_RX12_149 rfl dX12_strikes_50 ?_
  refine Wp.iconst (pc := 53) (2 : Int32) (by decide) dX12_strikes_53 ?_
  refine Wp.iload_n (pc := 54) 2 rfl rfl dX12_strikes_54 ?_
  refine Wp.if_ne (pc := 55) 67 dX12_strikes_55 (by decide) (fun hc3 => ?_) (fun hc3 => ?_)
  · rw [if_neg hc3] at hf
    refine Wp.aload_n (pc := 67) 0 rfl rfl dX12_strikes_67 ?_
    refine Wp.getR2 (pc := 68) (hG.r 56 63 rfl) (hG.t 56 rfl) fk_RX12_140 rfl dX12_strikes_68 ?_
    refine Wp.iload_n (pc := 71) 2 rfl rfl dX12_strikes_71 ?_
    refine Wp.iconst (pc := 72) (1 : Int32) (by decide) dX12_strikes_72 ?_
    refine Wp.icmp_ne (pc := 73) 80 dX12_strikes_73 (by decide) (fun hc4 => ?_) (fun hc4 => ?_)
    · rw [if_neg hc4] at hf
      refine Wp.iload_n (pc := 80) 2 rfl rfl dX12_strikes_80 ?_
      refine Wp.iconst (pc := 81) (2 : Int32) (by decide) dX12_strikes_81 ?_
      refine Wp.isub (pc := 82) dX12_strikes_82 ?_
      exact w_X12_strikes_83 hX hG hf hk
    · rw [if_pos hc4] at hf
      refine Wp.iconst (pc := 76) (0 : Int32) (by decide) dX12_strikes_76 ?_
      refine Wp.goto (pc := 77) 83 dX12_strikes_77 (by decide) ?_
      exact w_X12_strikes_83 hX hG hf hk
  · rw [if_pos hc3] at hf
    refine Wp.aload_n (pc := 58) 0 rfl rfl dX12_strikes_58 ?_
    refine Wp.getR2 (pc := 59) (hG.r 56 63 rfl) (hG.t 56 rfl) fk_RX12_140 rfl dX12_strikes_59 ?_
    refine Wp.iconst (pc := 62) (0 : Int32) (by decide) dX12_strikes_62 ?_
    obtain ⟨v5, h6, hf⟩ := bnd hf
    refine Wp.iald2 (pc := 63) h6 (hG.a 97 0 rfl) dX12_strikes_63 ?_
    refine Wp.goto (pc := 64) 84 dX12_strikes_64 (by decide) ?_
    exact w_X12_strikes_84 hX hG hf hk
set_option maxHeartbeats 4000000 in
set_option maxRecDepth 100000 in
theorem w_X12_strikes_2 {X : CX} {T : List Dsc} {R : RM} {c e : Nat} {n1 n2 : Nat} {x1 : Int32} {x2 : Int32} {m : M2} {r : ((Int32 × M2) ⊕ ((M2)))} (hX : XR X 8 n1 n2) (hG : Geo T R c e) (hf : f_X12_strikes_2 x1 x2 m = some r) (hk : k_X12_strikes_2 X T R n1 n2 x1 r) : Wp X cX12_strikes RX12 3 T (mk m R) n1 n2 2 [(0, .ref 56), (1, .int x1), (2, .int x2)] [] := by
  unfold f_X12_strikes_2 at hf
  refine Wp.iload_n (pc := 2) 2 rfl rfl dX12_strikes_2 ?_
  refine Wp.aload_n (pc := 3) 0 rfl rfl dX12_strikes_3 ?_
  refine Wp.getI2 (pc := 4) (hG.t 56 rfl) fk_RX12_399 rfl dX12_strikes_4 ?_
  refine Wp.icmp_ge (pc := 7) 169 dX12_strikes_7 (by decide) (fun hc1 => ?_) (fun hc1 => ?_)
  · rw [if_pos hc1] at hf
    refine Wp.lo' (lo' := [(0, .ref 56)]) [0] rfl ?_
    cases hf
    exact hk
  · rw [if_neg hc1] at hf
    refine Wp.aload_n (pc := 10) 0 rfl rfl dX12_strikes_10 ?_
    refine Wp.getR2 (pc := 11) (hG.r 56 69 rfl) (hG.t 56 rfl) fk_RX12_149 rfl dX12_strikes_11 ?_
    refine Wp.iconst (pc := 14) (0 : Int32) (by decide) dX12_strikes_14 ?_
    refine Wp.aload_n (pc := 15) 0 rfl rfl dX12_strikes_15 ?_
    refine Wp.getR2 (pc := 16) (hG.r 56 63 rfl) (hG.t 56 rfl) fk_RX12_140 rfl dX12_strikes_16 ?_
    refine Wp.iload_n (pc := 19) 2 rfl rfl dX12_strikes_19 ?_
    obtain ⟨v2, h3, hf⟩ := bnd hf
    refine Wp.iald2 (pc := 20) h3 (hG.a 97 0 rfl) dX12_strikes_20 ?_
    obtain ⟨m4, h5, hf⟩ := bnd hf
    refine Wp.iast2 (pc := 21) h5 (hG.a 100 0 rfl) dX12_strikes_21 ?_
    refine Wp.aload_n (pc := 22) 0 rfl rfl dX12_strikes_22 ?_
    refine Wp.getR2 (pc := 23) (hG.r 56 69 rfl) (hG.t 56 rfl) fk_RX12_149 rfl dX12_strikes_23 ?_
    refine Wp.iconst (pc := 26) (1 : Int32) (by decide) dX12_strikes_26 ?_
    refine Wp.iload_n (pc := 27) 2 rfl rfl dX12_strikes_27 ?_
    refine Wp.if_ne (pc := 28) 40 dX12_strikes_28 (by decide) (fun hc6 => ?_) (fun hc6 => ?_)
    · rw [if_neg hc6] at hf
      refine Wp.aload_n (pc := 40) 0 rfl rfl dX12_strikes_40 ?_
      refine Wp.getR2 (pc := 41) (hG.r 56 63 rfl) (hG.t 56 rfl) fk_RX12_140 rfl dX12_strikes_41 ?_
      refine Wp.iload_n (pc := 44) 2 rfl rfl dX12_strikes_44 ?_
      refine Wp.iconst (pc := 45) (1 : Int32) (by decide) dX12_strikes_45 ?_
      refine Wp.isub (pc := 46) dX12_strikes_46 ?_
      obtain ⟨v7, h8, hf⟩ := bnd hf
      refine Wp.iald2 (pc := 47) h8 (hG.a 97 0 rfl) dX12_strikes_47 ?_
      exact w_X12_strikes_48 hX hG hf hk
    · rw [if_pos hc6] at hf
      refine Wp.aload_n (pc := 31) 0 rfl rfl dX12_strikes_31 ?_
      refine Wp.getR2 (pc := 32) (hG.r 56 63 rfl) (hG.t 56 rfl) fk_RX12_140 rfl dX12_strikes_32 ?_
      refine Wp.iconst (pc := 35) (0 : Int32) (by decide) dX12_strikes_35 ?_
      obtain ⟨v9, h10, hf⟩ := bnd hf
      refine Wp.iald2 (pc := 36) h10 (hG.a 97 0 rfl) dX12_strikes_36 ?_
      refine Wp.goto (pc := 37) 48 dX12_strikes_37 (by decide) ?_
      exact w_X12_strikes_48 hX hG hf hk
theorem wl_X12_strikes_2 {X : CX} {T : List Dsc} {R : RM} {c e : Nat} {n1 n2 : Nat} {x1 : Int32} {x2 : Int32} {m : M2} {e1 : ((M2))} (hX : XR X 8 n1 n2) (hG : Geo T R c e) (h : loop (g_X12_strikes_2 x1) (x2, m) = some e1) (he : Wp X cX12_strikes RX12 3 T (mk e1 R) n1 n2 169 [(0, .ref 56)] []) : Wp X cX12_strikes RX12 3 T (mk m R) n1 n2 2 [(0, .ref 56), (1, .int x1), (2, .int x2)] [] :=
  loop_ok (K := k_X12_strikes_2 X T R n1 n2 x1) (fun s r hf hk => w_X12_strikes_2 hX hG hf hk) h he
set_option maxHeartbeats 4000000 in
set_option maxRecDepth 100000 in
theorem w_X12_strikes_171 {X : CX} {T : List Dsc} {R : RM} {c e : Nat} {n1 n2 : Nat} {x2 : Int32} {m : M2} {r : ((Int32 × M2) ⊕ ((M2)))} (hX : XR X 8 n1 n2) (hG : Geo T R c e) (hf : f_X12_strikes_171 x2 m = some r) (hk : k_X12_strikes_171 X T R n1 n2 r) : Wp X cX12_strikes RX12 3 T (mk m R) n1 n2 171 [(0, .ref 56), (2, .int x2)] [] := by
  unfold f_X12_strikes_171 at hf
  refine Wp.iload_n (pc := 171) 1 rfl rfl dX12_strikes_171 ?_
  refine Wp.aload_n (pc := 172) 0 rfl rfl dX12_strikes_172 ?_
  refine Wp.getI2 (pc := 173) (hG.t 56 rfl) fk_RX12_399 rfl dX12_strikes_173 ?_
  refine Wp.icmp_ge (pc := 176) 197 dX12_strikes_176 (by decide) (fun hc1 => ?_) (fun hc1 => ?_)
  · rw [if_pos hc1] at hf
    refine Wp.lo' (lo' := []) [] rfl ?_
    cases hf
    exact hk
  · rw [if_neg hc1] at hf
    refine Wp.aload_n (pc := 179) 0 rfl rfl dX12_strikes_179 ?_
    refine Wp.getR2 (pc := 180) (hG.r 56 63 rfl) (hG.t 56 rfl) fk_RX12_140 rfl dX12_strikes_180 ?_
    refine Wp.iload_n (pc := 183) 1 rfl rfl dX12_strikes_183 ?_
    refine Wp.aload_n (pc := 184) 0 rfl rfl dX12_strikes_184 ?_
    refine Wp.getR2 (pc := 185) (hG.r 56 68 rfl) (hG.t 56 rfl) fk_RX12_146 rfl dX12_strikes_185 ?_
    refine Wp.iload_n (pc := 188) 1 rfl rfl dX12_strikes_188 ?_
    obtain ⟨v2, h3, hf⟩ := bnd hf
    refine Wp.iald2 (pc := 189) h3 (hG.a 99 0 rfl) dX12_strikes_189 ?_
    obtain ⟨m4, h5, hf⟩ := bnd hf
    refine Wp.iast2 (pc := 190) h5 (hG.a 97 0 rfl) dX12_strikes_190 ?_
    obtain ⟨v6, h7, hf⟩ := bnd hf
    refine Wp.iincN (pc := 191) (lo' := [(0, .ref 56), (2, .int v6)]) (1 : Int32) (by decide) h7 1 rfl [1, 0] rfl (by decide) dX12_strikes_191 ?_
    refine Wp.goto (pc := 194) 171 dX12_strikes_194 (by decide) ?_
    cases hf
    exact hk
theorem wl_X12_strikes_171 {X : CX} {T : List Dsc} {R : RM} {c e : Nat} {n1 n2 : Nat} {x2 : Int32} {m : M2} {e1 : ((M2))} (hX : XR X 8 n1 n2) (hG : Geo T R c e) (h : loop (g_X12_strikes_171) (x2, m) = some e1) (he : Wp X cX12_strikes RX12 3 T (mk e1 R) n1 n2 197 [] []) : Wp X cX12_strikes RX12 3 T (mk m R) n1 n2 171 [(0, .ref 56), (2, .int x2)] [] :=
  loop_ok (K := k_X12_strikes_171 X T R n1 n2) (fun s r hf hk => w_X12_strikes_171 hX hG hf hk) h he
set_option maxHeartbeats 4000000 in
set_option maxRecDepth 100000 in
theorem w_X12_strikes {X : CX} {T : List Dsc} {R : RM} {c e : Nat} {n1 n2 : Nat} {x1 : Int32} {m : M2} {r : M2} (hX : XR X 8 n1 n2) (hG : Geo T R c e) (hf : F_X12_strikes x1 m = some r) (hk : FnV X cX12_strikes RX12 3 T n1 n2 (mk r R)) : Wp X cX12_strikes RX12 3 T (mk m R) n1 n2 0 [(0, .ref 56), (1, .int x1)] [] := by
  unfold F_X12_strikes at hf
  refine Wp.iconst (pc := 0) (0 : Int32) (by decide) dX12_strikes_0 ?_
  refine Wp.istore_n (pc := 1) (lo' := [(0, .ref 56), (1, .int x1), (2, .int (0 : Int32))]) [1, 2, 0] rfl (by decide) rfl dX12_strikes_1 ?_
  obtain ⟨e1, h2, hf⟩ := bnd hf
  refine wl_X12_strikes_2 hX hG h2 ?_
  refine Wp.iconst (pc := 169) (0 : Int32) (by decide) dX12_strikes_169 ?_
  refine Wp.istore_n (pc := 170) (lo' := [(0, .ref 56), (2, .int (0 : Int32))]) [1, 0] rfl (by decide) rfl dX12_strikes_170 ?_
  obtain ⟨e3, h4, hf⟩ := bnd hf
  refine wl_X12_strikes_171 hX hG h4 ?_
  cases hf
  exact hk _ _ dX12_strikes_197
theorem c_X12_strikes {T : List Dsc} {R : RM} {c e : Nat} {x1 : Int32} {m : M2} {r : M2} (hG : Geo T R c e) (hf : F_X12_strikes x1 m = some r) : Ct 8 yX12_strikes cX12_strikes 3 none T (mk m R) [.ref 56, .int x1] none (mk r R) := Ct.ofV (r := mk r R) (by decide +kernel) (Nat.le_of_ble_eq_true rfl) (fun X hX hk => w_X12_strikes hX hG hf hk)
theorem dX12_isBench_0 : decode cX12_isBench 0 = .ok (.iload_n 1, 1) := by decide +kernel
theorem dX12_isBench_1 : decode cX12_isBench 1 = .ok (.iconst 0, 1) := by decide +kernel
theorem dX12_isBench_2 : decode cX12_isBench 2 = .ok (.aload_n 0, 1) := by decide +kernel
theorem dX12_isBench_3 : decode cX12_isBench 3 = .ok (.invokevirtual 390, 3) := by decide +kernel
theorem dX12_isBench_6 : decode cX12_isBench 6 = .ok (.iconst 1, 1) := by decide +kernel
theorem dX12_isBench_7 : decode cX12_isBench 7 = .ok (.isub, 1) := by decide +kernel
theorem dX12_isBench_8 : decode cX12_isBench 8 = .ok (.invokestatic 414, 3) := by decide +kernel
theorem dX12_isBench_11 : decode cX12_isBench 11 = .ok (.ireturn, 1) := by decide +kernel
set_option maxHeartbeats 4000000 in
set_option maxRecDepth 100000 in
theorem w_X12_isBench {X : CX} {T : List Dsc} {R : RM} {c e : Nat} {n1 n2 : Nat} {x1 : Int32} {m : M2} {r : (Int32 × M2)} (hX : XR X 2 n1 n2) (hG : Geo T R c e) (hf : F_X12_isBench x1 m = some r) (hk : FnZ X cX12_isBench RX12 2 T n1 n2 (r.1, mk r.2 R)) : Wp X cX12_isBench RX12 2 T (mk m R) n1 n2 0 [(0, .ref 56), (1, .int x1)] [] := by
  unfold F_X12_isBench at hf
  refine Wp.iload_n (pc := 0) 1 rfl rfl dX12_isBench_0 ?_
  refine Wp.iconst (pc := 1) (0 : Int32) (by decide) dX12_isBench_1 ?_
  refine Wp.aload_n (pc := 2) 0 rfl rfl dX12_isBench_2 ?_
  obtain ⟨c1, h2, hf⟩ := bnd hf
  refine Wp.callVi (pc := 3) (st := [.int (0 : Int32), .int x1]) (as := []) (c_X12_menNow hG h2) ml_RX12_390 mv_X12_menNow mb_X12_menNow hX (Nat.le_of_ble_eq_true rfl) (by decide) rfl (hG.t 56 rfl) rfl (by simp [Value.category]) dX12_isBench_3 rfl ?_
  refine Wp.iconst (pc := 6) (1 : Int32) (by decide) dX12_isBench_6 ?_
  refine Wp.isub (pc := 7) dX12_isBench_7 ?_
  obtain ⟨c3, h4, hf⟩ := bnd hf
  refine Wp.callSi (pc := 8) (st := []) (as := [.int x1, .int (0 : Int32), .int (c1.1 - (1 : Int32))]) (c_X12_in hG h4) ml_RX12_414 ms_X12_in mb_X12_in hX (Nat.le_of_ble_eq_true rfl) (by decide) rfl (by simp) dX12_isBench_8 rfl ?_
  obtain ⟨v5, h6, hf⟩ := bnd hf
  refine Wp.zb' h6 (fun h6 => ?_)
  cases hf
  exact hk _ _ h6 dX12_isBench_11
theorem c_X12_isBench {T : List Dsc} {R : RM} {c e : Nat} {x1 : Int32} {m : M2} {r : (Int32 × M2)} (hG : Geo T R c e) (hf : F_X12_isBench x1 m = some r) : Ct 2 yX12_isBench cX12_isBench 2 (some .boolean) T (mk m R) [.ref 56, .int x1] (some (.int r.1)) (mk r.2 R) := Ct.ofZ (r := (r.1, mk r.2 R)) (by decide +kernel) (Nat.le_of_ble_eq_true rfl) (fun X hX hk => w_X12_isBench hX hG hf hk)
theorem dX12_bench_0 : decode cX12_bench 0 = .ok (.aload_n 0, 1) := by decide +kernel
theorem dX12_bench_1 : decode cX12_bench 1 = .ok (.iload_n 1, 1) := by decide +kernel
theorem dX12_bench_2 : decode cX12_bench 2 = .ok (.invokevirtual 441, 3) := by decide +kernel
theorem dX12_bench_5 : decode cX12_bench 5 = .ok (.ifCond .ne 5, 3) := by decide +kernel
theorem dX12_bench_8 : decode cX12_bench 8 = .ok (.iconst (-1), 1) := by decide +kernel
theorem dX12_bench_9 : decode cX12_bench 9 = .ok (.ireturn, 1) := by decide +kernel
theorem dX12_bench_10 : decode cX12_bench 10 = .ok (.iload_n 2, 1) := by decide +kernel
theorem dX12_bench_11 : decode cX12_bench 11 = .ok (.tableswitch 68 0 3 #[29, 36, 43, 50], 29) := by decide +kernel
theorem dX12_bench_40 : decode cX12_bench 40 = .ok (.aload_n 0, 1) := by decide +kernel
theorem dX12_bench_41 : decode cX12_bench 41 = .ok (.getfield 128, 3) := by decide +kernel
theorem dX12_bench_44 : decode cX12_bench 44 = .ok (.iload_n 1, 1) := by decide +kernel
theorem dX12_bench_45 : decode cX12_bench 45 = .ok (.iaload, 1) := by decide +kernel
theorem dX12_bench_46 : decode cX12_bench 46 = .ok (.ireturn, 1) := by decide +kernel
theorem dX12_bench_47 : decode cX12_bench 47 = .ok (.aload_n 0, 1) := by decide +kernel
theorem dX12_bench_48 : decode cX12_bench 48 = .ok (.getfield 131, 3) := by decide +kernel
theorem dX12_bench_51 : decode cX12_bench 51 = .ok (.iload_n 1, 1) := by decide +kernel
theorem dX12_bench_52 : decode cX12_bench 52 = .ok (.iaload, 1) := by decide +kernel
theorem dX12_bench_53 : decode cX12_bench 53 = .ok (.ireturn, 1) := by decide +kernel
theorem dX12_bench_54 : decode cX12_bench 54 = .ok (.aload_n 0, 1) := by decide +kernel
theorem dX12_bench_55 : decode cX12_bench 55 = .ok (.getfield 134, 3) := by decide +kernel
theorem dX12_bench_58 : decode cX12_bench 58 = .ok (.iload_n 1, 1) := by decide +kernel
theorem dX12_bench_59 : decode cX12_bench 59 = .ok (.iaload, 1) := by decide +kernel
theorem dX12_bench_60 : decode cX12_bench 60 = .ok (.ireturn, 1) := by decide +kernel
theorem dX12_bench_61 : decode cX12_bench 61 = .ok (.aload_n 0, 1) := by decide +kernel
theorem dX12_bench_62 : decode cX12_bench 62 = .ok (.invokevirtual 444, 3) := by decide +kernel
theorem dX12_bench_65 : decode cX12_bench 65 = .ok (.aload_n 0, 1) := by decide +kernel
theorem dX12_bench_66 : decode cX12_bench 66 = .ok (.iload_n 1, 1) := by decide +kernel
theorem dX12_bench_67 : decode cX12_bench 67 = .ok (.aload_n 0, 1) := by decide +kernel
theorem dX12_bench_68 : decode cX12_bench 68 = .ok (.aload_n 0, 1) := by decide +kernel
theorem dX12_bench_69 : decode cX12_bench 69 = .ok (.getfield 396, 3) := by decide +kernel
theorem dX12_bench_72 : decode cX12_bench 72 = .ok (.invokevirtual 447, 3) := by decide +kernel
theorem dX12_bench_75 : decode cX12_bench 75 = .ok (.invokevirtual 434, 3) := by decide +kernel
theorem dX12_bench_78 : decode cX12_bench 78 = .ok (.ireturn, 1) := by decide +kernel
theorem dX12_bench_79 : decode cX12_bench 79 = .ok (.iconst (-1), 1) := by decide +kernel
theorem dX12_bench_80 : decode cX12_bench 80 = .ok (.ireturn, 1) := by decide +kernel
set_option maxHeartbeats 4000000 in
set_option maxRecDepth 100000 in
theorem w_X12_bench {X : CX} {T : List Dsc} {R : RM} {c e : Nat} {n1 n2 : Nat} {x1 : Int32} {x2 : Int32} {m : M2} {r : (Int32 × M2)} (hX : XR X 4 n1 n2) (hG : Geo T R c e) (hf : F_X12_bench x1 x2 m = some r) (hk : FnI X cX12_bench RX12 3 T n1 n2 (r.1, mk r.2 R)) : Wp X cX12_bench RX12 3 T (mk m R) n1 n2 0 [(0, .ref 56), (1, .int x1), (2, .int x2)] [] := by
  unfold F_X12_bench at hf
  refine Wp.aload_n (pc := 0) 0 rfl rfl dX12_bench_0 ?_
  refine Wp.iload_n (pc := 1) 1 rfl rfl dX12_bench_1 ?_
  obtain ⟨c1, h2, hf⟩ := bnd hf
  refine Wp.callVi (pc := 2) (st := []) (as := [.int x1]) (c_X12_isBench hG h2) ml_RX12_441 mv_X12_isBench mb_X12_isBench hX (Nat.le_of_ble_eq_true rfl) (by decide) rfl (hG.t 56 rfl) rfl (by simp) dX12_bench_2 rfl ?_
  refine Wp.if_ne (pc := 5) 10 dX12_bench_5 (by decide) (fun hc3 => ?_) (fun hc3 => ?_)
  · rw [if_neg hc3] at hf
    refine Wp.iload_n (pc := 10) 2 rfl rfl dX12_bench_10 ?_
    by_cases hc4 : x2 = (0 : Int32)
    · rw [if_pos hc4] at hf
      refine Wp.swIn (pc := 11) 40 dX12_bench_11 hc4 (by decide) (by decide) rfl (by decide) ?_
      refine Wp.aload_n (pc := 40) 0 rfl rfl dX12_bench_40 ?_
      refine Wp.getR2 (pc := 41) (hG.r 56 55 rfl) (hG.t 56 rfl) fk_RX12_128 rfl dX12_bench_41 ?_
      refine Wp.iload_n (pc := 44) 1 rfl rfl dX12_bench_44 ?_
      obtain ⟨v5, h6, hf⟩ := bnd hf
      refine Wp.iald2 (pc := 45) h6 (hG.a 93 0 rfl) dX12_bench_45 ?_
      cases hf
      exact hk _ _ dX12_bench_46
    · rw [if_neg hc4] at hf
      by_cases hc7 : x2 = (1 : Int32)
      · rw [if_pos hc7] at hf
        refine Wp.swIn (pc := 11) 47 dX12_bench_11 hc7 (by decide) (by decide) rfl (by decide) ?_
        refine Wp.aload_n (pc := 47) 0 rfl rfl dX12_bench_47 ?_
        refine Wp.getR2 (pc := 48) (hG.r 56 56 rfl) (hG.t 56 rfl) fk_RX12_131 rfl dX12_bench_48 ?_
        refine Wp.iload_n (pc := 51) 1 rfl rfl dX12_bench_51 ?_
        obtain ⟨v8, h9, hf⟩ := bnd hf
        refine Wp.iald2 (pc := 52) h9 (hG.a 94 0 rfl) dX12_bench_52 ?_
        cases hf
        exact hk _ _ dX12_bench_53
      · rw [if_neg hc7] at hf
        by_cases hc10 : x2 = (2 : Int32)
        · rw [if_pos hc10] at hf
          refine Wp.swIn (pc := 11) 54 dX12_bench_11 hc10 (by decide) (by decide) rfl (by decide) ?_
          refine Wp.aload_n (pc := 54) 0 rfl rfl dX12_bench_54 ?_
          refine Wp.getR2 (pc := 55) (hG.r 56 57 rfl) (hG.t 56 rfl) fk_RX12_134 rfl dX12_bench_55 ?_
          refine Wp.iload_n (pc := 58) 1 rfl rfl dX12_bench_58 ?_
          obtain ⟨v11, h12, hf⟩ := bnd hf
          refine Wp.iald2 (pc := 59) h12 (hG.a 95 0 rfl) dX12_bench_59 ?_
          cases hf
          exact hk _ _ dX12_bench_60
        · rw [if_neg hc10] at hf
          by_cases hc13 : x2 = (3 : Int32)
          · rw [if_pos hc13] at hf
            refine Wp.swIn (pc := 11) 61 dX12_bench_11 hc13 (by decide) (by decide) rfl (by decide) ?_
            refine Wp.aload_n (pc := 61) 0 rfl rfl dX12_bench_61 ?_
            obtain ⟨c14, h15, hf⟩ := bnd hf
            refine Wp.callVv (pc := 62) (st := []) (as := []) (c_X12_takes hG h15) ml_RX12_444 mv_X12_takes mb_X12_takes hX (Nat.le_of_ble_eq_true rfl) (by decide) rfl (hG.t 56 rfl) rfl (by simp) dX12_bench_62 rfl ?_
            refine Wp.aload_n (pc := 65) 0 rfl rfl dX12_bench_65 ?_
            refine Wp.iload_n (pc := 66) 1 rfl rfl dX12_bench_66 ?_
            refine Wp.aload_n (pc := 67) 0 rfl rfl dX12_bench_67 ?_
            refine Wp.aload_n (pc := 68) 0 rfl rfl dX12_bench_68 ?_
            refine Wp.getI2 (pc := 69) (hG.t 56 rfl) fk_RX12_396 rfl dX12_bench_69 ?_
            obtain ⟨c16, h17, hf⟩ := bnd hf
            refine Wp.callVi (pc := 72) (st := [.int x1, .ref 56]) (as := [.int (hI c14 56 60)]) (c_X12_isFog hG h17) ml_RX12_447 mv_X12_isFog mb_X12_isFog hX (Nat.le_of_ble_eq_true rfl) (by decide) rfl (hG.t 56 rfl) rfl (by simp [Value.category]) dX12_bench_72 rfl ?_
            obtain ⟨c18, h19, hf⟩ := bnd hf
            refine Wp.callVi (pc := 75) (st := []) (as := [.int x1, .int c16.1]) (c_X12_heard hG h19) ml_RX12_434 mv_X12_heard mb_X12_heard hX (Nat.le_of_ble_eq_true rfl) (by decide) rfl (hG.t 56 rfl) rfl (by simp) dX12_bench_75 rfl ?_
            cases hf
            exact hk _ _ dX12_bench_78
          · rw [if_neg hc13] at hf
            refine Wp.swOut (pc := 11) 79 dX12_bench_11 (swx (fun k h1 h2 => ?_)) (by decide) ?_
            · have z0 := lv_neT hc4 (a := 0) (by decide); have z1 := lv_neT hc7 (a := 1) (by decide); have z2 := lv_neT hc10 (a := 2) (by decide); have z3 := lv_neT hc13 (a := 3) (by decide); omega
            · skip
              refine Wp.iconst (pc := 79) (-1 : Int32) (by decide) dX12_bench_79 ?_
              cases hf
              exact hk _ _ dX12_bench_80
  · rw [if_pos hc3] at hf
    refine Wp.iconst (pc := 8) (-1 : Int32) (by decide) dX12_bench_8 ?_
    cases hf
    exact hk _ _ dX12_bench_9
theorem c_X12_bench {T : List Dsc} {R : RM} {c e : Nat} {x1 : Int32} {x2 : Int32} {m : M2} {r : (Int32 × M2)} (hG : Geo T R c e) (hf : F_X12_bench x1 x2 m = some r) : Ct 4 yX12_bench cX12_bench 3 (some .int) T (mk m R) [.ref 56, .int x1, .int x2] (some (.int r.1)) (mk r.2 R) := Ct.ofI (r := (r.1, mk r.2 R)) (by decide +kernel) (Nat.le_of_ble_eq_true rfl) (fun X hX hk => w_X12_bench hX hG hf hk)
theorem dX12_row_0 : decode cX12_row 0 = .ok (.iload_n 1, 1) := by decide +kernel
theorem dX12_row_1 : decode cX12_row 1 = .ok (.iconst 0, 1) := by decide +kernel
theorem dX12_row_2 : decode cX12_row 2 = .ok (.bipush 100, 2) := by decide +kernel
theorem dX12_row_4 : decode cX12_row 4 = .ok (.invokestatic 414, 3) := by decide +kernel
theorem dX12_row_7 : decode cX12_row 7 = .ok (.ifCond .ne 5, 3) := by decide +kernel
theorem dX12_row_10 : decode cX12_row 10 = .ok (.iconst (-1), 1) := by decide +kernel
theorem dX12_row_11 : decode cX12_row 11 = .ok (.ireturn, 1) := by decide +kernel
theorem dX12_row_12 : decode cX12_row 12 = .ok (.aload_n 0, 1) := by decide +kernel
theorem dX12_row_13 : decode cX12_row 13 = .ok (.invokevirtual 444, 3) := by decide +kernel
theorem dX12_row_16 : decode cX12_row 16 = .ok (.iconst 0, 1) := by decide +kernel
theorem dX12_row_17 : decode cX12_row 17 = .ok (.istore_n 2, 1) := by decide +kernel
theorem dX12_row_18 : decode cX12_row 18 = .ok (.iload_n 2, 1) := by decide +kernel
theorem dX12_row_19 : decode cX12_row 19 = .ok (.iload_n 1, 1) := by decide +kernel
theorem dX12_row_20 : decode cX12_row 20 = .ok (.if_icmp .ge 126, 3) := by decide +kernel
theorem dX12_row_23 : decode cX12_row 23 = .ok (.aload_n 0, 1) := by decide +kernel
theorem dX12_row_24 : decode cX12_row 24 = .ok (.getfield 311, 3) := by decide +kernel
theorem dX12_row_27 : decode cX12_row 27 = .ok (.bipush 100, 2) := by decide +kernel
theorem dX12_row_29 : decode cX12_row 29 = .ok (.if_icmp .ne 43, 3) := by decide +kernel
theorem dX12_row_32 : decode cX12_row 32 = .ok (.iconst 0, 1) := by decide +kernel
theorem dX12_row_33 : decode cX12_row 33 = .ok (.istore_n 3, 1) := by decide +kernel
theorem dX12_row_34 : decode cX12_row 34 = .ok (.iload_n 3, 1) := by decide +kernel
theorem dX12_row_35 : decode cX12_row 35 = .ok (.sipush 1188, 3) := by decide +kernel
theorem dX12_row_38 : decode cX12_row 38 = .ok (.if_icmp .ge 24, 3) := by decide +kernel
theorem dX12_row_41 : decode cX12_row 41 = .ok (.aload_n 0, 1) := by decide +kernel
theorem dX12_row_42 : decode cX12_row 42 = .ok (.getfield 137, 3) := by decide +kernel
theorem dX12_row_45 : decode cX12_row 45 = .ok (.iload_n 3, 1) := by decide +kernel
theorem dX12_row_46 : decode cX12_row 46 = .ok (.aload_n 0, 1) := by decide +kernel
theorem dX12_row_47 : decode cX12_row 47 = .ok (.getfield 137, 3) := by decide +kernel
theorem dX12_row_50 : decode cX12_row 50 = .ok (.iload_n 3, 1) := by decide +kernel
theorem dX12_row_51 : decode cX12_row 51 = .ok (.bipush 12, 2) := by decide +kernel
theorem dX12_row_53 : decode cX12_row 53 = .ok (.iadd, 1) := by decide +kernel
theorem dX12_row_54 : decode cX12_row 54 = .ok (.iaload, 1) := by decide +kernel
theorem dX12_row_55 : decode cX12_row 55 = .ok (.iastore, 1) := by decide +kernel
theorem dX12_row_56 : decode cX12_row 56 = .ok (.iinc 3 1, 3) := by decide +kernel
theorem dX12_row_59 : decode cX12_row 59 = .ok (.goto (-25), 3) := by decide +kernel
theorem dX12_row_62 : decode cX12_row 62 = .ok (.aload_n 0, 1) := by decide +kernel
theorem dX12_row_63 : decode cX12_row 63 = .ok (.dup, 1) := by decide +kernel
theorem dX12_row_64 : decode cX12_row 64 = .ok (.getfield 311, 3) := by decide +kernel
theorem dX12_row_67 : decode cX12_row 67 = .ok (.iconst 1, 1) := by decide +kernel
theorem dX12_row_68 : decode cX12_row 68 = .ok (.isub, 1) := by decide +kernel
theorem dX12_row_69 : decode cX12_row 69 = .ok (.putfield 311, 3) := by decide +kernel
theorem dX12_row_72 : decode cX12_row 72 = .ok (.iconst 0, 1) := by decide +kernel
theorem dX12_row_73 : decode cX12_row 73 = .ok (.istore_n 3, 1) := by decide +kernel
theorem dX12_row_74 : decode cX12_row 74 = .ok (.iload_n 3, 1) := by decide +kernel
theorem dX12_row_75 : decode cX12_row 75 = .ok (.aload_n 0, 1) := by decide +kernel
theorem dX12_row_76 : decode cX12_row 76 = .ok (.getfield 399, 3) := by decide +kernel
theorem dX12_row_79 : decode cX12_row 79 = .ok (.if_icmp .ge 29, 3) := by decide +kernel
theorem dX12_row_82 : decode cX12_row 82 = .ok (.aload_n 0, 1) := by decide +kernel
theorem dX12_row_83 : decode cX12_row 83 = .ok (.getfield 137, 3) := by decide +kernel
theorem dX12_row_86 : decode cX12_row 86 = .ok (.bipush 12, 2) := by decide +kernel
theorem dX12_row_88 : decode cX12_row 88 = .ok (.aload_n 0, 1) := by decide +kernel
theorem dX12_row_89 : decode cX12_row 89 = .ok (.getfield 311, 3) := by decide +kernel
theorem dX12_row_92 : decode cX12_row 92 = .ok (.imul, 1) := by decide +kernel
theorem dX12_row_93 : decode cX12_row 93 = .ok (.iload_n 3, 1) := by decide +kernel
theorem dX12_row_94 : decode cX12_row 94 = .ok (.iadd, 1) := by decide +kernel
theorem dX12_row_95 : decode cX12_row 95 = .ok (.aload_n 0, 1) := by decide +kernel
theorem dX12_row_96 : decode cX12_row 96 = .ok (.getfield 140, 3) := by decide +kernel
theorem dX12_row_99 : decode cX12_row 99 = .ok (.iload_n 3, 1) := by decide +kernel
theorem dX12_row_100 : decode cX12_row 100 = .ok (.iaload, 1) := by decide +kernel
theorem dX12_row_101 : decode cX12_row 101 = .ok (.iastore, 1) := by decide +kernel
theorem dX12_row_102 : decode cX12_row 102 = .ok (.iinc 3 1, 3) := by decide +kernel
theorem dX12_row_105 : decode cX12_row 105 = .ok (.goto (-31), 3) := by decide +kernel
theorem dX12_row_108 : decode cX12_row 108 = .ok (.aload_n 0, 1) := by decide +kernel
theorem dX12_row_109 : decode cX12_row 109 = .ok (.dup, 1) := by decide +kernel
theorem dX12_row_110 : decode cX12_row 110 = .ok (.getfield 311, 3) := by decide +kernel
theorem dX12_row_113 : decode cX12_row 113 = .ok (.iconst 1, 1) := by decide +kernel
theorem dX12_row_114 : decode cX12_row 114 = .ok (.iadd, 1) := by decide +kernel
theorem dX12_row_115 : decode cX12_row 115 = .ok (.putfield 311, 3) := by decide +kernel
theorem dX12_row_118 : decode cX12_row 118 = .ok (.aload_n 0, 1) := by decide +kernel
theorem dX12_row_119 : decode cX12_row 119 = .ok (.aload_n 0, 1) := by decide +kernel
theorem dX12_row_120 : decode cX12_row 120 = .ok (.aload_n 0, 1) := by decide +kernel
theorem dX12_row_121 : decode cX12_row 121 = .ok (.getfield 396, 3) := by decide +kernel
theorem dX12_row_124 : decode cX12_row 124 = .ok (.invokevirtual 447, 3) := by decide +kernel
theorem dX12_row_127 : decode cX12_row 127 = .ok (.invokevirtual 450, 3) := by decide +kernel
theorem dX12_row_130 : decode cX12_row 130 = .ok (.aload_n 0, 1) := by decide +kernel
theorem dX12_row_131 : decode cX12_row 131 = .ok (.dup, 1) := by decide +kernel
theorem dX12_row_132 : decode cX12_row 132 = .ok (.getfield 396, 3) := by decide +kernel
theorem dX12_row_135 : decode cX12_row 135 = .ok (.iconst 1, 1) := by decide +kernel
theorem dX12_row_136 : decode cX12_row 136 = .ok (.iadd, 1) := by decide +kernel
theorem dX12_row_137 : decode cX12_row 137 = .ok (.putfield 396, 3) := by decide +kernel
theorem dX12_row_140 : decode cX12_row 140 = .ok (.iinc 2 1, 3) := by decide +kernel
theorem dX12_row_143 : decode cX12_row 143 = .ok (.goto (-125), 3) := by decide +kernel
theorem dX12_row_146 : decode cX12_row 146 = .ok (.iconst 0, 1) := by decide +kernel
theorem dX12_row_147 : decode cX12_row 147 = .ok (.istore_n 2, 1) := by decide +kernel
theorem dX12_row_148 : decode cX12_row 148 = .ok (.iload_n 2, 1) := by decide +kernel
theorem dX12_row_149 : decode cX12_row 149 = .ok (.aload_n 0, 1) := by decide +kernel
theorem dX12_row_150 : decode cX12_row 150 = .ok (.getfield 399, 3) := by decide +kernel
theorem dX12_row_153 : decode cX12_row 153 = .ok (.if_icmp .ge 21, 3) := by decide +kernel
theorem dX12_row_156 : decode cX12_row 156 = .ok (.aload_n 0, 1) := by decide +kernel
theorem dX12_row_157 : decode cX12_row 157 = .ok (.getfield 128, 3) := by decide +kernel
theorem dX12_row_160 : decode cX12_row 160 = .ok (.iload_n 2, 1) := by decide +kernel
theorem dX12_row_161 : decode cX12_row 161 = .ok (.aload_n 0, 1) := by decide +kernel
theorem dX12_row_162 : decode cX12_row 162 = .ok (.getfield 140, 3) := by decide +kernel
theorem dX12_row_165 : decode cX12_row 165 = .ok (.iload_n 2, 1) := by decide +kernel
theorem dX12_row_166 : decode cX12_row 166 = .ok (.iaload, 1) := by decide +kernel
theorem dX12_row_167 : decode cX12_row 167 = .ok (.iastore, 1) := by decide +kernel
theorem dX12_row_168 : decode cX12_row 168 = .ok (.iinc 2 1, 3) := by decide +kernel
theorem dX12_row_171 : decode cX12_row 171 = .ok (.goto (-23), 3) := by decide +kernel
theorem dX12_row_174 : decode cX12_row 174 = .ok (.aload_n 0, 1) := by decide +kernel
theorem dX12_row_175 : decode cX12_row 175 = .ok (.getfield 396, 3) := by decide +kernel
theorem dX12_row_178 : decode cX12_row 178 = .ok (.ireturn, 1) := by decide +kernel
def k_X12_row_34 (X : CX) (T : List Dsc) (R : RM) (n1 n2 : Nat) (x1 : Int32) (x2 : Int32) (r : ((Int32 × M2) ⊕ ((M2)))) : Prop := match r with
  | .inl s => Wp X cX12_row RX12 4 T (mk s.2 R) n1 n2 34 [(0, .ref 56), (1, .int x1), (2, .int x2), (3, .int s.1)] []
  | .inr e => Wp X cX12_row RX12 4 T (mk e R) n1 n2 62 [(0, .ref 56), (1, .int x1), (2, .int x2)] []
def k_X12_row_74 (X : CX) (T : List Dsc) (R : RM) (n1 n2 : Nat) (x1 : Int32) (x2 : Int32) (r : ((Int32 × M2) ⊕ ((M2)))) : Prop := match r with
  | .inl s => Wp X cX12_row RX12 4 T (mk s.2 R) n1 n2 74 [(0, .ref 56), (1, .int x1), (2, .int x2), (3, .int s.1)] []
  | .inr e => Wp X cX12_row RX12 4 T (mk e R) n1 n2 108 [(0, .ref 56), (1, .int x1), (2, .int x2)] []
def k_X12_row_18 (X : CX) (T : List Dsc) (R : RM) (n1 n2 : Nat) (x1 : Int32) (r : ((Int32 × M2) ⊕ ((M2)))) : Prop := match r with
  | .inl s => Wp X cX12_row RX12 4 T (mk s.2 R) n1 n2 18 [(0, .ref 56), (1, .int x1), (2, .int s.1)] []
  | .inr e => Wp X cX12_row RX12 4 T (mk e R) n1 n2 146 [(0, .ref 56)] []
def k_X12_row_148 (X : CX) (T : List Dsc) (R : RM) (n1 n2 : Nat) (r : ((Int32 × M2) ⊕ ((M2)))) : Prop := match r with
  | .inl s => Wp X cX12_row RX12 4 T (mk s.2 R) n1 n2 148 [(0, .ref 56), (2, .int s.1)] []
  | .inr e => Wp X cX12_row RX12 4 T (mk e R) n1 n2 174 [(0, .ref 56)] []
set_option maxHeartbeats 4000000 in
set_option maxRecDepth 100000 in
theorem w_X12_row_34 {X : CX} {T : List Dsc} {R : RM} {c e : Nat} {n1 n2 : Nat} {x1 : Int32} {x2 : Int32} {x3 : Int32} {m : M2} {r : ((Int32 × M2) ⊕ ((M2)))} (hX : XR X 9 n1 n2) (hG : Geo T R c e) (hf : f_X12_row_34 x1 x2 x3 m = some r) (hk : k_X12_row_34 X T R n1 n2 x1 x2 r) : Wp X cX12_row RX12 4 T (mk m R) n1 n2 34 [(0, .ref 56), (1, .int x1), (2, .int x2), (3, .int x3)] [] := by
  unfold f_X12_row_34 at hf
  refine Wp.iload_n (pc := 34) 3 rfl rfl dX12_row_34 ?_
  refine Wp.sipush (pc := 35) (1188 : Int32) (by decide) dX12_row_35 ?_
  refine Wp.icmp_ge (pc := 38) 62 dX12_row_38 (by decide) (fun hc1 => ?_) (fun hc1 => ?_)
  · rw [if_pos hc1] at hf
    refine Wp.lo' (lo' := [(0, .ref 56), (1, .int x1), (2, .int x2)]) [0, 1, 2] rfl ?_
    cases hf
    exact hk
  · rw [if_neg hc1] at hf
    refine Wp.aload_n (pc := 41) 0 rfl rfl dX12_row_41 ?_
    refine Wp.getR2 (pc := 42) (hG.r 56 62 rfl) (hG.t 56 rfl) fk_RX12_137 rfl dX12_row_42 ?_
    refine Wp.iload_n (pc := 45) 3 rfl rfl dX12_row_45 ?_
    refine Wp.aload_n (pc := 46) 0 rfl rfl dX12_row_46 ?_
    refine Wp.getR2 (pc := 47) (hG.r 56 62 rfl) (hG.t 56 rfl) fk_RX12_137 rfl dX12_row_47 ?_
    refine Wp.iload_n (pc := 50) 3 rfl rfl dX12_row_50 ?_
    refine Wp.bipush (pc := 51) (12 : Int32) (by decide) dX12_row_51 ?_
    refine Wp.iadd (pc := 53) dX12_row_53 ?_
    obtain ⟨v2, h3, hf⟩ := bnd hf
    refine Wp.iald2 (pc := 54) h3 (hG.a 96 0 rfl) dX12_row_54 ?_
    obtain ⟨m4, h5, hf⟩ := bnd hf
    refine Wp.iast2 (pc := 55) h5 (hG.a 96 0 rfl) dX12_row_55 ?_
    obtain ⟨v6, h7, hf⟩ := bnd hf
    refine Wp.iincN (pc := 56) (lo' := [(0, .ref 56), (1, .int x1), (2, .int x2), (3, .int v6)]) (1 : Int32) (by decide) h7 3 rfl [1, 2, 3, 0] rfl (by decide) dX12_row_56 ?_
    refine Wp.goto (pc := 59) 34 dX12_row_59 (by decide) ?_
    cases hf
    exact hk
theorem wl_X12_row_34 {X : CX} {T : List Dsc} {R : RM} {c e : Nat} {n1 n2 : Nat} {x1 : Int32} {x2 : Int32} {x3 : Int32} {m : M2} {e1 : ((M2))} (hX : XR X 9 n1 n2) (hG : Geo T R c e) (h : loop (g_X12_row_34 x1 x2) (x3, m) = some e1) (he : Wp X cX12_row RX12 4 T (mk e1 R) n1 n2 62 [(0, .ref 56), (1, .int x1), (2, .int x2)] []) : Wp X cX12_row RX12 4 T (mk m R) n1 n2 34 [(0, .ref 56), (1, .int x1), (2, .int x2), (3, .int x3)] [] :=
  loop_ok (K := k_X12_row_34 X T R n1 n2 x1 x2) (fun s r hf hk => w_X12_row_34 hX hG hf hk) h he
set_option maxHeartbeats 4000000 in
set_option maxRecDepth 100000 in
theorem w_X12_row_74 {X : CX} {T : List Dsc} {R : RM} {c e : Nat} {n1 n2 : Nat} {x1 : Int32} {x2 : Int32} {x3 : Int32} {m : M2} {r : ((Int32 × M2) ⊕ ((M2)))} (hX : XR X 9 n1 n2) (hG : Geo T R c e) (hf : f_X12_row_74 x1 x2 x3 m = some r) (hk : k_X12_row_74 X T R n1 n2 x1 x2 r) : Wp X cX12_row RX12 4 T (mk m R) n1 n2 74 [(0, .ref 56), (1, .int x1), (2, .int x2), (3, .int x3)] [] := by
  unfold f_X12_row_74 at hf
  refine Wp.iload_n (pc := 74) 3 rfl rfl dX12_row_74 ?_
  refine Wp.aload_n (pc := 75) 0 rfl rfl dX12_row_75 ?_
  refine Wp.getI2 (pc := 76) (hG.t 56 rfl) fk_RX12_399 rfl dX12_row_76 ?_
  refine Wp.icmp_ge (pc := 79) 108 dX12_row_79 (by decide) (fun hc1 => ?_) (fun hc1 => ?_)
  · rw [if_pos hc1] at hf
    refine Wp.lo' (lo' := [(0, .ref 56), (1, .int x1), (2, .int x2)]) [0, 1, 2] rfl ?_
    cases hf
    exact hk
  · rw [if_neg hc1] at hf
    refine Wp.aload_n (pc := 82) 0 rfl rfl dX12_row_82 ?_
    refine Wp.getR2 (pc := 83) (hG.r 56 62 rfl) (hG.t 56 rfl) fk_RX12_137 rfl dX12_row_83 ?_
    refine Wp.bipush (pc := 86) (12 : Int32) (by decide) dX12_row_86 ?_
    refine Wp.aload_n (pc := 88) 0 rfl rfl dX12_row_88 ?_
    refine Wp.getI2 (pc := 89) (hG.t 56 rfl) fk_RX12_311 rfl dX12_row_89 ?_
    refine Wp.imul (pc := 92) dX12_row_92 ?_
    refine Wp.iload_n (pc := 93) 3 rfl rfl dX12_row_93 ?_
    refine Wp.iadd (pc := 94) dX12_row_94 ?_
    refine Wp.aload_n (pc := 95) 0 rfl rfl dX12_row_95 ?_
    refine Wp.getR2 (pc := 96) (hG.r 56 63 rfl) (hG.t 56 rfl) fk_RX12_140 rfl dX12_row_96 ?_
    refine Wp.iload_n (pc := 99) 3 rfl rfl dX12_row_99 ?_
    obtain ⟨v2, h3, hf⟩ := bnd hf
    refine Wp.iald2 (pc := 100) h3 (hG.a 97 0 rfl) dX12_row_100 ?_
    obtain ⟨m4, h5, hf⟩ := bnd hf
    refine Wp.iast2 (pc := 101) h5 (hG.a 96 0 rfl) dX12_row_101 ?_
    obtain ⟨v6, h7, hf⟩ := bnd hf
    refine Wp.iincN (pc := 102) (lo' := [(0, .ref 56), (1, .int x1), (2, .int x2), (3, .int v6)]) (1 : Int32) (by decide) h7 3 rfl [1, 2, 3, 0] rfl (by decide) dX12_row_102 ?_
    refine Wp.goto (pc := 105) 74 dX12_row_105 (by decide) ?_
    cases hf
    exact hk
theorem wl_X12_row_74 {X : CX} {T : List Dsc} {R : RM} {c e : Nat} {n1 n2 : Nat} {x1 : Int32} {x2 : Int32} {x3 : Int32} {m : M2} {e1 : ((M2))} (hX : XR X 9 n1 n2) (hG : Geo T R c e) (h : loop (g_X12_row_74 x1 x2) (x3, m) = some e1) (he : Wp X cX12_row RX12 4 T (mk e1 R) n1 n2 108 [(0, .ref 56), (1, .int x1), (2, .int x2)] []) : Wp X cX12_row RX12 4 T (mk m R) n1 n2 74 [(0, .ref 56), (1, .int x1), (2, .int x2), (3, .int x3)] [] :=
  loop_ok (K := k_X12_row_74 X T R n1 n2 x1 x2) (fun s r hf hk => w_X12_row_74 hX hG hf hk) h he
set_option maxHeartbeats 4000000 in
set_option maxRecDepth 100000 in
theorem w_X12_row_72 {X : CX} {T : List Dsc} {R : RM} {c e : Nat} {n1 n2 : Nat} {x1 : Int32} {x2 : Int32} {m : M2} {r : ((Int32 × M2) ⊕ ((M2)))} (hX : XR X 9 n1 n2) (hG : Geo T R c e) (hf : f_X12_row_72 x1 x2 m = some r) (hk : k_X12_row_18 X T R n1 n2 x1 r) : Wp X cX12_row RX12 4 T (mk m R) n1 n2 72 [(0, .ref 56), (1, .int x1), (2, .int x2)] [] := by
  unfold f_X12_row_72 at hf
  refine Wp.iconst (pc := 72) (0 : Int32) (by decide) dX12_row_72 ?_
  refine Wp.istore_n (pc := 73) (lo' := [(0, .ref 56), (1, .int x1), (2, .int x2), (3, .int (0 : Int32))]) [1, 2, 3, 0] rfl (by decide) rfl dX12_row_73 ?_
  obtain ⟨e1, h2, hf⟩ := bnd hf
  refine wl_X12_row_74 hX hG h2 ?_
  refine Wp.aload_n (pc := 108) 0 rfl rfl dX12_row_108 ?_
  refine Wp.dup (pc := 109) rfl dX12_row_109 ?_
  refine Wp.getI2 (pc := 110) (hG.t 56 rfl) fk_RX12_311 rfl dX12_row_110 ?_
  refine Wp.iconst (pc := 113) (1 : Int32) (by decide) dX12_row_113 ?_
  refine Wp.iadd (pc := 114) dX12_row_114 ?_
  obtain ⟨m3, h4, hf⟩ := bnd hf
  refine Wp.ptI2 (pc := 115) h4 (hG.t 56 rfl) fk_RX12_311 ff_RX12_11_61 rfl dX12_row_115 ?_
  refine Wp.aload_n (pc := 118) 0 rfl rfl dX12_row_118 ?_
  refine Wp.aload_n (pc := 119) 0 rfl rfl dX12_row_119 ?_
  refine Wp.aload_n (pc := 120) 0 rfl rfl dX12_row_120 ?_
  refine Wp.getI2 (pc := 121) (hG.t 56 rfl) fk_RX12_396 rfl dX12_row_121 ?_
  obtain ⟨c5, h6, hf⟩ := bnd hf
  refine Wp.callVi (pc := 124) (st := [.ref 56]) (as := [.int (hI m3 56 60)]) (c_X12_isFog hG h6) ml_RX12_447 mv_X12_isFog mb_X12_isFog hX (Nat.le_of_ble_eq_true rfl) (by decide) rfl (hG.t 56 rfl) rfl (by simp [Value.category]) dX12_row_124 rfl ?_
  obtain ⟨c7, h8, hf⟩ := bnd hf
  refine Wp.callVv (pc := 127) (st := []) (as := [.int c5.1]) (c_X12_strikes hG h8) ml_RX12_450 mv_X12_strikes mb_X12_strikes hX (Nat.le_of_ble_eq_true rfl) (by decide) rfl (hG.t 56 rfl) rfl (by simp) dX12_row_127 rfl ?_
  refine Wp.aload_n (pc := 130) 0 rfl rfl dX12_row_130 ?_
  refine Wp.dup (pc := 131) rfl dX12_row_131 ?_
  refine Wp.getI2 (pc := 132) (hG.t 56 rfl) fk_RX12_396 rfl dX12_row_132 ?_
  refine Wp.iconst (pc := 135) (1 : Int32) (by decide) dX12_row_135 ?_
  refine Wp.iadd (pc := 136) dX12_row_136 ?_
  obtain ⟨m9, h10, hf⟩ := bnd hf
  refine Wp.ptI2 (pc := 137) h10 (hG.t 56 rfl) fk_RX12_396 ff_RX12_11_60 rfl dX12_row_137 ?_
  obtain ⟨v11, h12, hf⟩ := bnd hf
  refine Wp.iincN (pc := 140) (lo' := [(0, .ref 56), (1, .int x1), (2, .int v11)]) (1 : Int32) (by decide) h12 2 rfl [1, 2, 0] rfl (by decide) dX12_row_140 ?_
  refine Wp.goto (pc := 143) 18 dX12_row_143 (by decide) ?_
  cases hf
  exact hk
set_option maxHeartbeats 4000000 in
set_option maxRecDepth 100000 in
theorem w_X12_row_18 {X : CX} {T : List Dsc} {R : RM} {c e : Nat} {n1 n2 : Nat} {x1 : Int32} {x2 : Int32} {m : M2} {r : ((Int32 × M2) ⊕ ((M2)))} (hX : XR X 9 n1 n2) (hG : Geo T R c e) (hf : f_X12_row_18 x1 x2 m = some r) (hk : k_X12_row_18 X T R n1 n2 x1 r) : Wp X cX12_row RX12 4 T (mk m R) n1 n2 18 [(0, .ref 56), (1, .int x1), (2, .int x2)] [] := by
  unfold f_X12_row_18 at hf
  refine Wp.iload_n (pc := 18) 2 rfl rfl dX12_row_18 ?_
  refine Wp.iload_n (pc := 19) 1 rfl rfl dX12_row_19 ?_
  refine Wp.icmp_ge (pc := 20) 146 dX12_row_20 (by decide) (fun hc1 => ?_) (fun hc1 => ?_)
  · rw [if_pos hc1] at hf
    refine Wp.lo' (lo' := [(0, .ref 56)]) [0] rfl ?_
    cases hf
    exact hk
  · rw [if_neg hc1] at hf
    refine Wp.aload_n (pc := 23) 0 rfl rfl dX12_row_23 ?_
    refine Wp.getI2 (pc := 24) (hG.t 56 rfl) fk_RX12_311 rfl dX12_row_24 ?_
    refine Wp.bipush (pc := 27) (100 : Int32) (by decide) dX12_row_27 ?_
    refine Wp.icmp_ne (pc := 29) 72 dX12_row_29 (by decide) (fun hc2 => ?_) (fun hc2 => ?_)
    · rw [if_neg hc2] at hf
      exact w_X12_row_72 hX hG hf hk
    · rw [if_pos hc2] at hf
      refine Wp.iconst (pc := 32) (0 : Int32) (by decide) dX12_row_32 ?_
      refine Wp.istore_n (pc := 33) (lo' := [(0, .ref 56), (1, .int x1), (2, .int x2), (3, .int (0 : Int32))]) [1, 2, 3, 0] rfl (by decide) rfl dX12_row_33 ?_
      obtain ⟨e3, h4, hf⟩ := bnd hf
      refine wl_X12_row_34 hX hG h4 ?_
      refine Wp.aload_n (pc := 62) 0 rfl rfl dX12_row_62 ?_
      refine Wp.dup (pc := 63) rfl dX12_row_63 ?_
      refine Wp.getI2 (pc := 64) (hG.t 56 rfl) fk_RX12_311 rfl dX12_row_64 ?_
      refine Wp.iconst (pc := 67) (1 : Int32) (by decide) dX12_row_67 ?_
      refine Wp.isub (pc := 68) dX12_row_68 ?_
      obtain ⟨m5, h6, hf⟩ := bnd hf
      refine Wp.ptI2 (pc := 69) h6 (hG.t 56 rfl) fk_RX12_311 ff_RX12_11_61 rfl dX12_row_69 ?_
      exact w_X12_row_72 hX hG hf hk
theorem wl_X12_row_18 {X : CX} {T : List Dsc} {R : RM} {c e : Nat} {n1 n2 : Nat} {x1 : Int32} {x2 : Int32} {m : M2} {e1 : ((M2))} (hX : XR X 9 n1 n2) (hG : Geo T R c e) (h : loop (g_X12_row_18 x1) (x2, m) = some e1) (he : Wp X cX12_row RX12 4 T (mk e1 R) n1 n2 146 [(0, .ref 56)] []) : Wp X cX12_row RX12 4 T (mk m R) n1 n2 18 [(0, .ref 56), (1, .int x1), (2, .int x2)] [] :=
  loop_ok (K := k_X12_row_18 X T R n1 n2 x1) (fun s r hf hk => w_X12_row_18 hX hG hf hk) h he
set_option maxHeartbeats 4000000 in
set_option maxRecDepth 100000 in
theorem w_X12_row_148 {X : CX} {T : List Dsc} {R : RM} {c e : Nat} {n1 n2 : Nat} {x2 : Int32} {m : M2} {r : ((Int32 × M2) ⊕ ((M2)))} (hX : XR X 9 n1 n2) (hG : Geo T R c e) (hf : f_X12_row_148 x2 m = some r) (hk : k_X12_row_148 X T R n1 n2 r) : Wp X cX12_row RX12 4 T (mk m R) n1 n2 148 [(0, .ref 56), (2, .int x2)] [] := by
  unfold f_X12_row_148 at hf
  refine Wp.iload_n (pc := 148) 1 rfl rfl dX12_row_148 ?_
  refine Wp.aload_n (pc := 149) 0 rfl rfl dX12_row_149 ?_
  refine Wp.getI2 (pc := 150) (hG.t 56 rfl) fk_RX12_399 rfl dX12_row_150 ?_
  refine Wp.icmp_ge (pc := 153) 174 dX12_row_153 (by decide) (fun hc1 => ?_) (fun hc1 => ?_)
  · rw [if_pos hc1] at hf
    refine Wp.lo' (lo' := [(0, .ref 56)]) [0] rfl ?_
    cases hf
    exact hk
  · rw [if_neg hc1] at hf
    refine Wp.aload_n (pc := 156) 0 rfl rfl dX12_row_156 ?_
    refine Wp.getR2 (pc := 157) (hG.r 56 55 rfl) (hG.t 56 rfl) fk_RX12_128 rfl dX12_row_157 ?_
    refine Wp.iload_n (pc := 160) 1 rfl rfl dX12_row_160 ?_
    refine Wp.aload_n (pc := 161) 0 rfl rfl dX12_row_161 ?_
    refine Wp.getR2 (pc := 162) (hG.r 56 63 rfl) (hG.t 56 rfl) fk_RX12_140 rfl dX12_row_162 ?_
    refine Wp.iload_n (pc := 165) 1 rfl rfl dX12_row_165 ?_
    obtain ⟨v2, h3, hf⟩ := bnd hf
    refine Wp.iald2 (pc := 166) h3 (hG.a 97 0 rfl) dX12_row_166 ?_
    obtain ⟨m4, h5, hf⟩ := bnd hf
    refine Wp.iast2 (pc := 167) h5 (hG.a 93 0 rfl) dX12_row_167 ?_
    obtain ⟨v6, h7, hf⟩ := bnd hf
    refine Wp.iincN (pc := 168) (lo' := [(0, .ref 56), (2, .int v6)]) (1 : Int32) (by decide) h7 1 rfl [1, 0] rfl (by decide) dX12_row_168 ?_
    refine Wp.goto (pc := 171) 148 dX12_row_171 (by decide) ?_
    cases hf
    exact hk
theorem wl_X12_row_148 {X : CX} {T : List Dsc} {R : RM} {c e : Nat} {n1 n2 : Nat} {x2 : Int32} {m : M2} {e1 : ((M2))} (hX : XR X 9 n1 n2) (hG : Geo T R c e) (h : loop (g_X12_row_148) (x2, m) = some e1) (he : Wp X cX12_row RX12 4 T (mk e1 R) n1 n2 174 [(0, .ref 56)] []) : Wp X cX12_row RX12 4 T (mk m R) n1 n2 148 [(0, .ref 56), (2, .int x2)] [] :=
  loop_ok (K := k_X12_row_148 X T R n1 n2) (fun s r hf hk => w_X12_row_148 hX hG hf hk) h he
set_option maxHeartbeats 4000000 in
set_option maxRecDepth 100000 in
theorem w_X12_row {X : CX} {T : List Dsc} {R : RM} {c e : Nat} {n1 n2 : Nat} {x1 : Int32} {m : M2} {r : (Int32 × M2)} (hX : XR X 9 n1 n2) (hG : Geo T R c e) (hf : F_X12_row x1 m = some r) (hk : FnI X cX12_row RX12 4 T n1 n2 (r.1, mk r.2 R)) : Wp X cX12_row RX12 4 T (mk m R) n1 n2 0 [(0, .ref 56), (1, .int x1)] [] := by
  unfold F_X12_row at hf
  refine Wp.iload_n (pc := 0) 1 rfl rfl dX12_row_0 ?_
  refine Wp.iconst (pc := 1) (0 : Int32) (by decide) dX12_row_1 ?_
  refine Wp.bipush (pc := 2) (100 : Int32) (by decide) dX12_row_2 ?_
  obtain ⟨c1, h2, hf⟩ := bnd hf
  refine Wp.callSi (pc := 4) (st := []) (as := [.int x1, .int (0 : Int32), .int (100 : Int32)]) (c_X12_in hG h2) ml_RX12_414 ms_X12_in mb_X12_in hX (Nat.le_of_ble_eq_true rfl) (by decide) rfl (by simp) dX12_row_4 rfl ?_
  refine Wp.if_ne (pc := 7) 12 dX12_row_7 (by decide) (fun hc3 => ?_) (fun hc3 => ?_)
  · rw [if_neg hc3] at hf
    refine Wp.aload_n (pc := 12) 0 rfl rfl dX12_row_12 ?_
    obtain ⟨c4, h5, hf⟩ := bnd hf
    refine Wp.callVv (pc := 13) (st := []) (as := []) (c_X12_takes hG h5) ml_RX12_444 mv_X12_takes mb_X12_takes hX (Nat.le_of_ble_eq_true rfl) (by decide) rfl (hG.t 56 rfl) rfl (by simp) dX12_row_13 rfl ?_
    refine Wp.iconst (pc := 16) (0 : Int32) (by decide) dX12_row_16 ?_
    refine Wp.istore_n (pc := 17) (lo' := [(0, .ref 56), (1, .int x1), (2, .int (0 : Int32))]) [1, 2, 0] rfl (by decide) rfl dX12_row_17 ?_
    obtain ⟨e6, h7, hf⟩ := bnd hf
    refine wl_X12_row_18 hX hG h7 ?_
    refine Wp.iconst (pc := 146) (0 : Int32) (by decide) dX12_row_146 ?_
    refine Wp.istore_n (pc := 147) (lo' := [(0, .ref 56), (2, .int (0 : Int32))]) [1, 0] rfl (by decide) rfl dX12_row_147 ?_
    obtain ⟨e8, h9, hf⟩ := bnd hf
    refine wl_X12_row_148 hX hG h9 ?_
    refine Wp.aload_n (pc := 174) 0 rfl rfl dX12_row_174 ?_
    refine Wp.getI2 (pc := 175) (hG.t 56 rfl) fk_RX12_396 rfl dX12_row_175 ?_
    cases hf
    exact hk _ _ dX12_row_178
  · rw [if_pos hc3] at hf
    refine Wp.iconst (pc := 10) (-1 : Int32) (by decide) dX12_row_10 ?_
    cases hf
    exact hk _ _ dX12_row_11
theorem c_X12_row {T : List Dsc} {R : RM} {c e : Nat} {x1 : Int32} {m : M2} {r : (Int32 × M2)} (hG : Geo T R c e) (hf : F_X12_row x1 m = some r) : Ct 9 yX12_row cX12_row 4 (some .int) T (mk m R) [.ref 56, .int x1] (some (.int r.1)) (mk r.2 R) := Ct.ofI (r := (r.1, mk r.2 R)) (by decide +kernel) (Nat.le_of_ble_eq_true rfl) (fun X hX hk => w_X12_row hX hG hf hk)
theorem dX12_undo_0 : decode cX12_undo 0 = .ok (.aload_n 0, 1) := by decide +kernel
theorem dX12_undo_1 : decode cX12_undo 1 = .ok (.getfield 311, 3) := by decide +kernel
theorem dX12_undo_4 : decode cX12_undo 4 = .ok (.ifCond .ne 5, 3) := by decide +kernel
theorem dX12_undo_7 : decode cX12_undo 7 = .ok (.iconst 0, 1) := by decide +kernel
theorem dX12_undo_8 : decode cX12_undo 8 = .ok (.ireturn, 1) := by decide +kernel
theorem dX12_undo_9 : decode cX12_undo 9 = .ok (.aload_n 0, 1) := by decide +kernel
theorem dX12_undo_10 : decode cX12_undo 10 = .ok (.dup, 1) := by decide +kernel
theorem dX12_undo_11 : decode cX12_undo 11 = .ok (.getfield 311, 3) := by decide +kernel
theorem dX12_undo_14 : decode cX12_undo 14 = .ok (.iconst 1, 1) := by decide +kernel
theorem dX12_undo_15 : decode cX12_undo 15 = .ok (.isub, 1) := by decide +kernel
theorem dX12_undo_16 : decode cX12_undo 16 = .ok (.putfield 311, 3) := by decide +kernel
theorem dX12_undo_19 : decode cX12_undo 19 = .ok (.aload_n 0, 1) := by decide +kernel
theorem dX12_undo_20 : decode cX12_undo 20 = .ok (.dup, 1) := by decide +kernel
theorem dX12_undo_21 : decode cX12_undo 21 = .ok (.getfield 396, 3) := by decide +kernel
theorem dX12_undo_24 : decode cX12_undo 24 = .ok (.iconst 1, 1) := by decide +kernel
theorem dX12_undo_25 : decode cX12_undo 25 = .ok (.isub, 1) := by decide +kernel
theorem dX12_undo_26 : decode cX12_undo 26 = .ok (.putfield 396, 3) := by decide +kernel
theorem dX12_undo_29 : decode cX12_undo 29 = .ok (.iconst 0, 1) := by decide +kernel
theorem dX12_undo_30 : decode cX12_undo 30 = .ok (.istore_n 1, 1) := by decide +kernel
theorem dX12_undo_31 : decode cX12_undo 31 = .ok (.iload_n 1, 1) := by decide +kernel
theorem dX12_undo_32 : decode cX12_undo 32 = .ok (.aload_n 0, 1) := by decide +kernel
theorem dX12_undo_33 : decode cX12_undo 33 = .ok (.invokevirtual 390, 3) := by decide +kernel
theorem dX12_undo_36 : decode cX12_undo 36 = .ok (.if_icmp .ge 29, 3) := by decide +kernel
theorem dX12_undo_39 : decode cX12_undo 39 = .ok (.aload_n 0, 1) := by decide +kernel
theorem dX12_undo_40 : decode cX12_undo 40 = .ok (.getfield 128, 3) := by decide +kernel
theorem dX12_undo_43 : decode cX12_undo 43 = .ok (.iload_n 1, 1) := by decide +kernel
theorem dX12_undo_44 : decode cX12_undo 44 = .ok (.aload_n 0, 1) := by decide +kernel
theorem dX12_undo_45 : decode cX12_undo 45 = .ok (.getfield 137, 3) := by decide +kernel
theorem dX12_undo_48 : decode cX12_undo 48 = .ok (.bipush 12, 2) := by decide +kernel
theorem dX12_undo_50 : decode cX12_undo 50 = .ok (.aload_n 0, 1) := by decide +kernel
theorem dX12_undo_51 : decode cX12_undo 51 = .ok (.getfield 311, 3) := by decide +kernel
theorem dX12_undo_54 : decode cX12_undo 54 = .ok (.imul, 1) := by decide +kernel
theorem dX12_undo_55 : decode cX12_undo 55 = .ok (.iload_n 1, 1) := by decide +kernel
theorem dX12_undo_56 : decode cX12_undo 56 = .ok (.iadd, 1) := by decide +kernel
theorem dX12_undo_57 : decode cX12_undo 57 = .ok (.iaload, 1) := by decide +kernel
theorem dX12_undo_58 : decode cX12_undo 58 = .ok (.iastore, 1) := by decide +kernel
theorem dX12_undo_59 : decode cX12_undo 59 = .ok (.iinc 1 1, 3) := by decide +kernel
theorem dX12_undo_62 : decode cX12_undo 62 = .ok (.goto (-31), 3) := by decide +kernel
theorem dX12_undo_65 : decode cX12_undo 65 = .ok (.iconst 1, 1) := by decide +kernel
theorem dX12_undo_66 : decode cX12_undo 66 = .ok (.ireturn, 1) := by decide +kernel
def k_X12_undo_31 (X : CX) (T : List Dsc) (R : RM) (n1 n2 : Nat) (r : ((Int32 × M2) ⊕ ((M2)))) : Prop := match r with
  | .inl s => Wp X cX12_undo RX12 2 T (mk s.2 R) n1 n2 31 [(0, .ref 56), (1, .int s.1)] []
  | .inr e => Wp X cX12_undo RX12 2 T (mk e R) n1 n2 65 [] []
set_option maxHeartbeats 4000000 in
set_option maxRecDepth 100000 in
theorem w_X12_undo_31 {X : CX} {T : List Dsc} {R : RM} {c e : Nat} {n1 n2 : Nat} {x1 : Int32} {m : M2} {r : ((Int32 × M2) ⊕ ((M2)))} (hX : XR X 2 n1 n2) (hG : Geo T R c e) (hf : f_X12_undo_31 x1 m = some r) (hk : k_X12_undo_31 X T R n1 n2 r) : Wp X cX12_undo RX12 2 T (mk m R) n1 n2 31 [(0, .ref 56), (1, .int x1)] [] := by
  unfold f_X12_undo_31 at hf
  refine Wp.iload_n (pc := 31) 1 rfl rfl dX12_undo_31 ?_
  refine Wp.aload_n (pc := 32) 0 rfl rfl dX12_undo_32 ?_
  obtain ⟨c1, h2, hf⟩ := bnd hf
  refine Wp.callVi (pc := 33) (st := [.int x1]) (as := []) (c_X12_menNow hG h2) ml_RX12_390 mv_X12_menNow mb_X12_menNow hX (Nat.le_of_ble_eq_true rfl) (by decide) rfl (hG.t 56 rfl) rfl (by simp [Value.category]) dX12_undo_33 rfl ?_
  refine Wp.icmp_ge (pc := 36) 65 dX12_undo_36 (by decide) (fun hc3 => ?_) (fun hc3 => ?_)
  · rw [if_pos hc3] at hf
    refine Wp.lo' (lo' := []) [] rfl ?_
    cases hf
    exact hk
  · rw [if_neg hc3] at hf
    refine Wp.aload_n (pc := 39) 0 rfl rfl dX12_undo_39 ?_
    refine Wp.getR2 (pc := 40) (hG.r 56 55 rfl) (hG.t 56 rfl) fk_RX12_128 rfl dX12_undo_40 ?_
    refine Wp.iload_n (pc := 43) 1 rfl rfl dX12_undo_43 ?_
    refine Wp.aload_n (pc := 44) 0 rfl rfl dX12_undo_44 ?_
    refine Wp.getR2 (pc := 45) (hG.r 56 62 rfl) (hG.t 56 rfl) fk_RX12_137 rfl dX12_undo_45 ?_
    refine Wp.bipush (pc := 48) (12 : Int32) (by decide) dX12_undo_48 ?_
    refine Wp.aload_n (pc := 50) 0 rfl rfl dX12_undo_50 ?_
    refine Wp.getI2 (pc := 51) (hG.t 56 rfl) fk_RX12_311 rfl dX12_undo_51 ?_
    refine Wp.imul (pc := 54) dX12_undo_54 ?_
    refine Wp.iload_n (pc := 55) 1 rfl rfl dX12_undo_55 ?_
    refine Wp.iadd (pc := 56) dX12_undo_56 ?_
    obtain ⟨v4, h5, hf⟩ := bnd hf
    refine Wp.iald2 (pc := 57) h5 (hG.a 96 0 rfl) dX12_undo_57 ?_
    obtain ⟨m6, h7, hf⟩ := bnd hf
    refine Wp.iast2 (pc := 58) h7 (hG.a 93 0 rfl) dX12_undo_58 ?_
    obtain ⟨v8, h9, hf⟩ := bnd hf
    refine Wp.iincN (pc := 59) (lo' := [(0, .ref 56), (1, .int v8)]) (1 : Int32) (by decide) h9 1 rfl [1, 0] rfl (by decide) dX12_undo_59 ?_
    refine Wp.goto (pc := 62) 31 dX12_undo_62 (by decide) ?_
    cases hf
    exact hk
theorem wl_X12_undo_31 {X : CX} {T : List Dsc} {R : RM} {c e : Nat} {n1 n2 : Nat} {x1 : Int32} {m : M2} {e1 : ((M2))} (hX : XR X 2 n1 n2) (hG : Geo T R c e) (h : loop (g_X12_undo_31) (x1, m) = some e1) (he : Wp X cX12_undo RX12 2 T (mk e1 R) n1 n2 65 [] []) : Wp X cX12_undo RX12 2 T (mk m R) n1 n2 31 [(0, .ref 56), (1, .int x1)] [] :=
  loop_ok (K := k_X12_undo_31 X T R n1 n2) (fun s r hf hk => w_X12_undo_31 hX hG hf hk) h he
set_option maxHeartbeats 4000000 in
set_option maxRecDepth 100000 in
theorem w_X12_undo {X : CX} {T : List Dsc} {R : RM} {c e : Nat} {n1 n2 : Nat} {m : M2} {r : (Int32 × M2)} (hX : XR X 2 n1 n2) (hG : Geo T R c e) (hf : F_X12_undo m = some r) (hk : FnZ X cX12_undo RX12 2 T n1 n2 (r.1, mk r.2 R)) : Wp X cX12_undo RX12 2 T (mk m R) n1 n2 0 [(0, .ref 56)] [] := by
  unfold F_X12_undo at hf
  refine Wp.aload_n (pc := 0) 0 rfl rfl dX12_undo_0 ?_
  refine Wp.getI2 (pc := 1) (hG.t 56 rfl) fk_RX12_311 rfl dX12_undo_1 ?_
  refine Wp.if_ne (pc := 4) 9 dX12_undo_4 (by decide) (fun hc1 => ?_) (fun hc1 => ?_)
  · rw [if_neg hc1] at hf
    refine Wp.aload_n (pc := 9) 0 rfl rfl dX12_undo_9 ?_
    refine Wp.dup (pc := 10) rfl dX12_undo_10 ?_
    refine Wp.getI2 (pc := 11) (hG.t 56 rfl) fk_RX12_311 rfl dX12_undo_11 ?_
    refine Wp.iconst (pc := 14) (1 : Int32) (by decide) dX12_undo_14 ?_
    refine Wp.isub (pc := 15) dX12_undo_15 ?_
    obtain ⟨m2, h3, hf⟩ := bnd hf
    refine Wp.ptI2 (pc := 16) h3 (hG.t 56 rfl) fk_RX12_311 ff_RX12_11_61 rfl dX12_undo_16 ?_
    refine Wp.aload_n (pc := 19) 0 rfl rfl dX12_undo_19 ?_
    refine Wp.dup (pc := 20) rfl dX12_undo_20 ?_
    refine Wp.getI2 (pc := 21) (hG.t 56 rfl) fk_RX12_396 rfl dX12_undo_21 ?_
    refine Wp.iconst (pc := 24) (1 : Int32) (by decide) dX12_undo_24 ?_
    refine Wp.isub (pc := 25) dX12_undo_25 ?_
    obtain ⟨m4, h5, hf⟩ := bnd hf
    refine Wp.ptI2 (pc := 26) h5 (hG.t 56 rfl) fk_RX12_396 ff_RX12_11_60 rfl dX12_undo_26 ?_
    refine Wp.iconst (pc := 29) (0 : Int32) (by decide) dX12_undo_29 ?_
    refine Wp.istore_n (pc := 30) (lo' := [(0, .ref 56), (1, .int (0 : Int32))]) [1, 0] rfl (by decide) rfl dX12_undo_30 ?_
    obtain ⟨e6, h7, hf⟩ := bnd hf
    refine wl_X12_undo_31 hX hG h7 ?_
    refine Wp.iconst (pc := 65) (1 : Int32) (by decide) dX12_undo_65 ?_
    cases hf
    exact hk _ _ (Or.inr rfl) dX12_undo_66
  · rw [if_pos hc1] at hf
    refine Wp.iconst (pc := 7) (0 : Int32) (by decide) dX12_undo_7 ?_
    cases hf
    exact hk _ _ (Or.inl rfl) dX12_undo_8
theorem c_X12_undo {T : List Dsc} {R : RM} {c e : Nat} {m : M2} {r : (Int32 × M2)} (hG : Geo T R c e) (hf : F_X12_undo m = some r) : Ct 2 yX12_undo cX12_undo 2 (some .boolean) T (mk m R) [.ref 56] (some (.int r.1)) (mk r.2 R) := Ct.ofZ (r := (r.1, mk r.2 R)) (by decide +kernel) (Nat.le_of_ble_eq_true rfl) (fun X hX hk => w_X12_undo hX hG hf hk)
theorem dX12_clashesNow_0 : decode cX12_clashesNow 0 = .ok (.iconst 0, 1) := by decide +kernel
theorem dX12_clashesNow_1 : decode cX12_clashesNow 1 = .ok (.istore_n 1, 1) := by decide +kernel
theorem dX12_clashesNow_2 : decode cX12_clashesNow 2 = .ok (.iconst 1, 1) := by decide +kernel
theorem dX12_clashesNow_3 : decode cX12_clashesNow 3 = .ok (.istore_n 2, 1) := by decide +kernel
theorem dX12_clashesNow_4 : decode cX12_clashesNow 4 = .ok (.iload_n 2, 1) := by decide +kernel
theorem dX12_clashesNow_5 : decode cX12_clashesNow 5 = .ok (.aload_n 0, 1) := by decide +kernel
theorem dX12_clashesNow_6 : decode cX12_clashesNow 6 = .ok (.getfield 399, 3) := by decide +kernel
theorem dX12_clashesNow_9 : decode cX12_clashesNow 9 = .ok (.if_icmp .ge 53, 3) := by decide +kernel
theorem dX12_clashesNow_12 : decode cX12_clashesNow 12 = .ok (.aload_n 0, 1) := by decide +kernel
theorem dX12_clashesNow_13 : decode cX12_clashesNow 13 = .ok (.aload_n 0, 1) := by decide +kernel
theorem dX12_clashesNow_14 : decode cX12_clashesNow 14 = .ok (.getfield 140, 3) := by decide +kernel
theorem dX12_clashesNow_17 : decode cX12_clashesNow 17 = .ok (.iload_n 2, 1) := by decide +kernel
theorem dX12_clashesNow_18 : decode cX12_clashesNow 18 = .ok (.iaload, 1) := by decide +kernel
theorem dX12_clashesNow_19 : decode cX12_clashesNow 19 = .ok (.aload_n 0, 1) := by decide +kernel
theorem dX12_clashesNow_20 : decode cX12_clashesNow 20 = .ok (.getfield 140, 3) := by decide +kernel
theorem dX12_clashesNow_23 : decode cX12_clashesNow 23 = .ok (.iload_n 2, 1) := by decide +kernel
theorem dX12_clashesNow_24 : decode cX12_clashesNow 24 = .ok (.iconst 1, 1) := by decide +kernel
theorem dX12_clashesNow_25 : decode cX12_clashesNow 25 = .ok (.isub, 1) := by decide +kernel
theorem dX12_clashesNow_26 : decode cX12_clashesNow 26 = .ok (.iaload, 1) := by decide +kernel
theorem dX12_clashesNow_27 : decode cX12_clashesNow 27 = .ok (.invokevirtual 422, 3) := by decide +kernel
theorem dX12_clashesNow_30 : decode cX12_clashesNow 30 = .ok (.istore_n 3, 1) := by decide +kernel
theorem dX12_clashesNow_31 : decode cX12_clashesNow 31 = .ok (.iload_n 3, 1) := by decide +kernel
theorem dX12_clashesNow_32 : decode cX12_clashesNow 32 = .ok (.ifCond .ge 6, 3) := by decide +kernel
theorem dX12_clashesNow_35 : decode cX12_clashesNow 35 = .ok (.iload_n 3, 1) := by decide +kernel
theorem dX12_clashesNow_36 : decode cX12_clashesNow 36 = .ok (.ineg, 1) := by decide +kernel
theorem dX12_clashesNow_37 : decode cX12_clashesNow 37 = .ok (.istore_n 3, 1) := by decide +kernel
theorem dX12_clashesNow_38 : decode cX12_clashesNow 38 = .ok (.iload_n 3, 1) := by decide +kernel
theorem dX12_clashesNow_39 : decode cX12_clashesNow 39 = .ok (.aload_n 0, 1) := by decide +kernel
theorem dX12_clashesNow_40 : decode cX12_clashesNow 40 = .ok (.invokevirtual 408, 3) := by decide +kernel
theorem dX12_clashesNow_43 : decode cX12_clashesNow 43 = .ok (.iconst 2, 1) := by decide +kernel
theorem dX12_clashesNow_44 : decode cX12_clashesNow 44 = .ok (.iadd, 1) := by decide +kernel
theorem dX12_clashesNow_45 : decode cX12_clashesNow 45 = .ok (.iconst 3, 1) := by decide +kernel
theorem dX12_clashesNow_46 : decode cX12_clashesNow 46 = .ok (.idiv, 1) := by decide +kernel
theorem dX12_clashesNow_47 : decode cX12_clashesNow 47 = .ok (.if_icmp .lt 9, 3) := by decide +kernel
theorem dX12_clashesNow_50 : decode cX12_clashesNow 50 = .ok (.iload_n 1, 1) := by decide +kernel
theorem dX12_clashesNow_51 : decode cX12_clashesNow 51 = .ok (.iconst 1, 1) := by decide +kernel
theorem dX12_clashesNow_52 : decode cX12_clashesNow 52 = .ok (.iload_n 2, 1) := by decide +kernel
theorem dX12_clashesNow_53 : decode cX12_clashesNow 53 = .ok (.ishl, 1) := by decide +kernel
theorem dX12_clashesNow_54 : decode cX12_clashesNow 54 = .ok (.ior, 1) := by decide +kernel
theorem dX12_clashesNow_55 : decode cX12_clashesNow 55 = .ok (.istore_n 1, 1) := by decide +kernel
theorem dX12_clashesNow_56 : decode cX12_clashesNow 56 = .ok (.iinc 2 1, 3) := by decide +kernel
theorem dX12_clashesNow_59 : decode cX12_clashesNow 59 = .ok (.goto (-55), 3) := by decide +kernel
theorem dX12_clashesNow_62 : decode cX12_clashesNow 62 = .ok (.iload_n 1, 1) := by decide +kernel
theorem dX12_clashesNow_63 : decode cX12_clashesNow 63 = .ok (.ireturn, 1) := by decide +kernel
def k_X12_clashesNow_4 (X : CX) (T : List Dsc) (R : RM) (n1 n2 : Nat) (r : ((Int32 × Int32 × M2) ⊕ ((Int32 × M2)))) : Prop := match r with
  | .inl s => Wp X cX12_clashesNow RX12 4 T (mk s.2.2 R) n1 n2 4 [(0, .ref 56), (1, .int s.1), (2, .int s.2.1)] []
  | .inr e => Wp X cX12_clashesNow RX12 4 T (mk e.2 R) n1 n2 62 [(1, .int e.1)] []
set_option maxHeartbeats 4000000 in
set_option maxRecDepth 100000 in
theorem w_X12_clashesNow_56 {X : CX} {T : List Dsc} {R : RM} {c e : Nat} {n1 n2 : Nat} {x1 : Int32} {x2 : Int32} {m : M2} {r : ((Int32 × Int32 × M2) ⊕ ((Int32 × M2)))} (hX : XR X 4 n1 n2) (hG : Geo T R c e) (hf : f_X12_clashesNow_56 x1 x2 m = some r) (hk : k_X12_clashesNow_4 X T R n1 n2 r) : Wp X cX12_clashesNow RX12 4 T (mk m R) n1 n2 56 [(0, .ref 56), (1, .int x1), (2, .int x2)] [] := by
  unfold f_X12_clashesNow_56 at hf
  obtain ⟨v1, h2, hf⟩ := bnd hf
  refine Wp.iincN (pc := 56) (lo' := [(0, .ref 56), (1, .int x1), (2, .int v1)]) (1 : Int32) (by decide) h2 2 rfl [1, 2, 0] rfl (by decide) dX12_clashesNow_56 ?_
  refine Wp.goto (pc := 59) 4 dX12_clashesNow_59 (by decide) ?_
  cases hf
  exact hk
set_option maxHeartbeats 4000000 in
set_option maxRecDepth 100000 in
theorem w_X12_clashesNow_38 {X : CX} {T : List Dsc} {R : RM} {c e : Nat} {n1 n2 : Nat} {x1 : Int32} {x2 : Int32} {x3 : Int32} {m : M2} {r : ((Int32 × Int32 × M2) ⊕ ((Int32 × M2)))} (hX : XR X 4 n1 n2) (hG : Geo T R c e) (hf : f_X12_clashesNow_38 x1 x2 x3 m = some r) (hk : k_X12_clashesNow_4 X T R n1 n2 r) : Wp X cX12_clashesNow RX12 4 T (mk m R) n1 n2 38 [(0, .ref 56), (1, .int x1), (2, .int x2), (3, .int x3)] [] := by
  unfold f_X12_clashesNow_38 at hf
  refine Wp.iload_n (pc := 38) 3 rfl rfl dX12_clashesNow_38 ?_
  refine Wp.aload_n (pc := 39) 0 rfl rfl dX12_clashesNow_39 ?_
  obtain ⟨c1, h2, hf⟩ := bnd hf
  refine Wp.callVi (pc := 40) (st := [.int x3]) (as := []) (c_X12_all hG h2) ml_RX12_408 mv_X12_all mb_X12_all hX (Nat.le_of_ble_eq_true rfl) (by decide) rfl (hG.t 56 rfl) rfl (by simp [Value.category]) dX12_clashesNow_40 rfl ?_
  refine Wp.iconst (pc := 43) (2 : Int32) (by decide) dX12_clashesNow_43 ?_
  refine Wp.iadd (pc := 44) dX12_clashesNow_44 ?_
  refine Wp.iconst (pc := 45) (3 : Int32) (by decide) dX12_clashesNow_45 ?_
  obtain ⟨v3, h4, hf⟩ := bnd hf
  refine Wp.dv (pc := 46) h4 dX12_clashesNow_46 ?_
  refine Wp.icmp_lt (pc := 47) 56 dX12_clashesNow_47 (by decide) (fun hc5 => ?_) (fun hc5 => ?_)
  · rw [if_pos hc5] at hf
    refine Wp.lo' (lo' := [(0, .ref 56), (1, .int x1), (2, .int x2)]) [0, 1, 2] rfl ?_
    exact w_X12_clashesNow_56 hX hG hf hk
  · rw [if_neg hc5] at hf
    refine Wp.iload_n (pc := 50) 1 rfl rfl dX12_clashesNow_50 ?_
    refine Wp.iconst (pc := 51) (1 : Int32) (by decide) dX12_clashesNow_51 ?_
    refine Wp.iload_n (pc := 52) 2 rfl rfl dX12_clashesNow_52 ?_
    refine Wp.ishl (pc := 53) dX12_clashesNow_53 ?_
    refine Wp.ior (pc := 54) dX12_clashesNow_54 ?_
    obtain ⟨v6, h7, hf⟩ := bnd hf
    refine Wp.nI' h7 ?_
    refine Wp.istore_n (pc := 55) (lo' := [(0, .ref 56), (1, .int v6), (2, .int x2)]) [1, 0, 2] rfl (by decide) rfl dX12_clashesNow_55 ?_
    exact w_X12_clashesNow_56 hX hG hf hk
set_option maxHeartbeats 4000000 in
set_option maxRecDepth 100000 in
theorem w_X12_clashesNow_4 {X : CX} {T : List Dsc} {R : RM} {c e : Nat} {n1 n2 : Nat} {x1 : Int32} {x2 : Int32} {m : M2} {r : ((Int32 × Int32 × M2) ⊕ ((Int32 × M2)))} (hX : XR X 4 n1 n2) (hG : Geo T R c e) (hf : f_X12_clashesNow_4 x1 x2 m = some r) (hk : k_X12_clashesNow_4 X T R n1 n2 r) : Wp X cX12_clashesNow RX12 4 T (mk m R) n1 n2 4 [(0, .ref 56), (1, .int x1), (2, .int x2)] [] := by
  unfold f_X12_clashesNow_4 at hf
  refine Wp.iload_n (pc := 4) 2 rfl rfl dX12_clashesNow_4 ?_
  refine Wp.aload_n (pc := 5) 0 rfl rfl dX12_clashesNow_5 ?_
  refine Wp.getI2 (pc := 6) (hG.t 56 rfl) fk_RX12_399 rfl dX12_clashesNow_6 ?_
  refine Wp.icmp_ge (pc := 9) 62 dX12_clashesNow_9 (by decide) (fun hc1 => ?_) (fun hc1 => ?_)
  · rw [if_pos hc1] at hf
    refine Wp.lo' (lo' := [(1, .int x1)]) [1] rfl ?_
    cases hf
    exact hk
  · rw [if_neg hc1] at hf
    refine Wp.aload_n (pc := 12) 0 rfl rfl dX12_clashesNow_12 ?_
    refine Wp.aload_n (pc := 13) 0 rfl rfl dX12_clashesNow_13 ?_
    refine Wp.getR2 (pc := 14) (hG.r 56 63 rfl) (hG.t 56 rfl) fk_RX12_140 rfl dX12_clashesNow_14 ?_
    refine Wp.iload_n (pc := 17) 2 rfl rfl dX12_clashesNow_17 ?_
    obtain ⟨v2, h3, hf⟩ := bnd hf
    refine Wp.iald2 (pc := 18) h3 (hG.a 97 0 rfl) dX12_clashesNow_18 ?_
    refine Wp.aload_n (pc := 19) 0 rfl rfl dX12_clashesNow_19 ?_
    refine Wp.getR2 (pc := 20) (hG.r 56 63 rfl) (hG.t 56 rfl) fk_RX12_140 rfl dX12_clashesNow_20 ?_
    refine Wp.iload_n (pc := 23) 2 rfl rfl dX12_clashesNow_23 ?_
    refine Wp.iconst (pc := 24) (1 : Int32) (by decide) dX12_clashesNow_24 ?_
    refine Wp.isub (pc := 25) dX12_clashesNow_25 ?_
    obtain ⟨v4, h5, hf⟩ := bnd hf
    refine Wp.iald2 (pc := 26) h5 (hG.a 97 0 rfl) dX12_clashesNow_26 ?_
    obtain ⟨c6, h7, hf⟩ := bnd hf
    refine Wp.callVi (pc := 27) (st := []) (as := [.int v2, .int v4]) (c_X12_gap hG h7) ml_RX12_422 mv_X12_gap mb_X12_gap hX (Nat.le_of_ble_eq_true rfl) (by decide) rfl (hG.t 56 rfl) rfl (by simp) dX12_clashesNow_27 rfl ?_
    refine Wp.istore_n (pc := 30) (lo' := [(0, .ref 56), (1, .int x1), (2, .int x2), (3, .int c6.1)]) [1, 2, 3, 0] rfl (by decide) rfl dX12_clashesNow_30 ?_
    refine Wp.iload_n (pc := 31) 3 rfl rfl dX12_clashesNow_31 ?_
    refine Wp.if_ge (pc := 32) 38 dX12_clashesNow_32 (by decide) (fun hc8 => ?_) (fun hc8 => ?_)
    · rw [if_pos hc8] at hf
      exact w_X12_clashesNow_38 hX hG hf hk
    · rw [if_neg hc8] at hf
      refine Wp.iload_n (pc := 35) 3 rfl rfl dX12_clashesNow_35 ?_
      refine Wp.ineg (pc := 36) dX12_clashesNow_36 ?_
      obtain ⟨v9, h10, hf⟩ := bnd hf
      refine Wp.nI' h10 ?_
      refine Wp.istore_n (pc := 37) (lo' := [(0, .ref 56), (1, .int x1), (2, .int x2), (3, .int v9)]) [1, 2, 3, 0] rfl (by decide) rfl dX12_clashesNow_37 ?_
      exact w_X12_clashesNow_38 hX hG hf hk
theorem wl_X12_clashesNow_4 {X : CX} {T : List Dsc} {R : RM} {c e : Nat} {n1 n2 : Nat} {x1 : Int32} {x2 : Int32} {m : M2} {e1 : ((Int32 × M2))} (hX : XR X 4 n1 n2) (hG : Geo T R c e) (h : loop (g_X12_clashesNow_4) (x1, x2, m) = some e1) (he : Wp X cX12_clashesNow RX12 4 T (mk e1.2 R) n1 n2 62 [(1, .int e1.1)] []) : Wp X cX12_clashesNow RX12 4 T (mk m R) n1 n2 4 [(0, .ref 56), (1, .int x1), (2, .int x2)] [] :=
  loop_ok (K := k_X12_clashesNow_4 X T R n1 n2) (fun s r hf hk => w_X12_clashesNow_4 hX hG hf hk) h he
set_option maxHeartbeats 4000000 in
set_option maxRecDepth 100000 in
theorem w_X12_clashesNow {X : CX} {T : List Dsc} {R : RM} {c e : Nat} {n1 n2 : Nat} {m : M2} {r : (Int32 × M2)} (hX : XR X 4 n1 n2) (hG : Geo T R c e) (hf : F_X12_clashesNow m = some r) (hk : FnI X cX12_clashesNow RX12 4 T n1 n2 (r.1, mk r.2 R)) : Wp X cX12_clashesNow RX12 4 T (mk m R) n1 n2 0 [(0, .ref 56)] [] := by
  unfold F_X12_clashesNow at hf
  refine Wp.iconst (pc := 0) (0 : Int32) (by decide) dX12_clashesNow_0 ?_
  refine Wp.istore_n (pc := 1) (lo' := [(0, .ref 56), (1, .int (0 : Int32))]) [1, 0] rfl (by decide) rfl dX12_clashesNow_1 ?_
  refine Wp.iconst (pc := 2) (1 : Int32) (by decide) dX12_clashesNow_2 ?_
  refine Wp.istore_n (pc := 3) (lo' := [(0, .ref 56), (1, .int (0 : Int32)), (2, .int (1 : Int32))]) [1, 2, 0] rfl (by decide) rfl dX12_clashesNow_3 ?_
  obtain ⟨e1, h2, hf⟩ := bnd hf
  refine wl_X12_clashesNow_4 hX hG h2 ?_
  refine Wp.iload_n (pc := 62) 0 rfl rfl dX12_clashesNow_62 ?_
  cases hf
  exact hk _ _ dX12_clashesNow_63
theorem c_X12_clashesNow {T : List Dsc} {R : RM} {c e : Nat} {m : M2} {r : (Int32 × M2)} (hG : Geo T R c e) (hf : F_X12_clashesNow m = some r) : Ct 4 yX12_clashesNow cX12_clashesNow 4 (some .int) T (mk m R) [.ref 56] (some (.int r.1)) (mk r.2 R) := Ct.ofI (r := (r.1, mk r.2 R)) (by decide +kernel) (Nat.le_of_ble_eq_true rfl) (fun X hX hk => w_X12_clashesNow hX hG hf hk)
theorem dX12_clashes_0 : decode cX12_clashes 0 = .ok (.aload_n 0, 1) := by decide +kernel
theorem dX12_clashes_1 : decode cX12_clashes 1 = .ok (.invokevirtual 444, 3) := by decide +kernel
theorem dX12_clashes_4 : decode cX12_clashes 4 = .ok (.aload_n 0, 1) := by decide +kernel
theorem dX12_clashes_5 : decode cX12_clashes 5 = .ok (.invokevirtual 453, 3) := by decide +kernel
theorem dX12_clashes_8 : decode cX12_clashes 8 = .ok (.ireturn, 1) := by decide +kernel
set_option maxHeartbeats 4000000 in
set_option maxRecDepth 100000 in
theorem w_X12_clashes {X : CX} {T : List Dsc} {R : RM} {c e : Nat} {n1 n2 : Nat} {m : M2} {r : (Int32 × M2)} (hX : XR X 5 n1 n2) (hG : Geo T R c e) (hf : F_X12_clashes m = some r) (hk : FnI X cX12_clashes RX12 1 T n1 n2 (r.1, mk r.2 R)) : Wp X cX12_clashes RX12 1 T (mk m R) n1 n2 0 [(0, .ref 56)] [] := by
  unfold F_X12_clashes at hf
  refine Wp.aload_n (pc := 0) 0 rfl rfl dX12_clashes_0 ?_
  obtain ⟨c1, h2, hf⟩ := bnd hf
  refine Wp.callVv (pc := 1) (st := []) (as := []) (c_X12_takes hG h2) ml_RX12_444 mv_X12_takes mb_X12_takes hX (Nat.le_of_ble_eq_true rfl) (by decide) rfl (hG.t 56 rfl) rfl (by simp) dX12_clashes_1 rfl ?_
  refine Wp.aload_n (pc := 4) 0 rfl rfl dX12_clashes_4 ?_
  obtain ⟨c3, h4, hf⟩ := bnd hf
  refine Wp.callVi (pc := 5) (st := []) (as := []) (c_X12_clashesNow hG h4) ml_RX12_453 mv_X12_clashesNow mb_X12_clashesNow hX (Nat.le_of_ble_eq_true rfl) (by decide) rfl (hG.t 56 rfl) rfl (by simp) dX12_clashes_5 rfl ?_
  cases hf
  exact hk _ _ dX12_clashes_8
theorem c_X12_clashes {T : List Dsc} {R : RM} {c e : Nat} {m : M2} {r : (Int32 × M2)} (hG : Geo T R c e) (hf : F_X12_clashes m = some r) : Ct 5 yX12_clashes cX12_clashes 1 (some .int) T (mk m R) [.ref 56] (some (.int r.1)) (mk r.2 R) := Ct.ofI (r := (r.1, mk r.2 R)) (by decide +kernel) (Nat.le_of_ble_eq_true rfl) (fun X hX hk => w_X12_clashes hX hG hf hk)
theorem dX12_nearTo_0 : decode cX12_nearTo 0 = .ok (.iconst 0, 1) := by decide +kernel
theorem dX12_nearTo_1 : decode cX12_nearTo 1 = .ok (.istore_n 2, 1) := by decide +kernel
theorem dX12_nearTo_2 : decode cX12_nearTo 2 = .ok (.iconst 0, 1) := by decide +kernel
theorem dX12_nearTo_3 : decode cX12_nearTo 3 = .ok (.istore_n 3, 1) := by decide +kernel
theorem dX12_nearTo_4 : decode cX12_nearTo 4 = .ok (.iload_n 3, 1) := by decide +kernel
theorem dX12_nearTo_5 : decode cX12_nearTo 5 = .ok (.aload_n 0, 1) := by decide +kernel
theorem dX12_nearTo_6 : decode cX12_nearTo 6 = .ok (.getfield 399, 3) := by decide +kernel
theorem dX12_nearTo_9 : decode cX12_nearTo 9 = .ok (.if_icmp .ge 31, 3) := by decide +kernel
theorem dX12_nearTo_12 : decode cX12_nearTo 12 = .ok (.aload_n 0, 1) := by decide +kernel
theorem dX12_nearTo_13 : decode cX12_nearTo 13 = .ok (.aload_n 0, 1) := by decide +kernel
theorem dX12_nearTo_14 : decode cX12_nearTo 14 = .ok (.getfield 140, 3) := by decide +kernel
theorem dX12_nearTo_17 : decode cX12_nearTo 17 = .ok (.iload_n 3, 1) := by decide +kernel
theorem dX12_nearTo_18 : decode cX12_nearTo 18 = .ok (.iaload, 1) := by decide +kernel
theorem dX12_nearTo_19 : decode cX12_nearTo 19 = .ok (.iload_n 1, 1) := by decide +kernel
theorem dX12_nearTo_20 : decode cX12_nearTo 20 = .ok (.invokevirtual 422, 3) := by decide +kernel
theorem dX12_nearTo_23 : decode cX12_nearTo 23 = .ok (.iconst (-1), 1) := by decide +kernel
theorem dX12_nearTo_24 : decode cX12_nearTo 24 = .ok (.iconst 1, 1) := by decide +kernel
theorem dX12_nearTo_25 : decode cX12_nearTo 25 = .ok (.invokestatic 414, 3) := by decide +kernel
theorem dX12_nearTo_28 : decode cX12_nearTo 28 = .ok (.ifCond .eq 6, 3) := by decide +kernel
theorem dX12_nearTo_31 : decode cX12_nearTo 31 = .ok (.iinc 2 1, 3) := by decide +kernel
theorem dX12_nearTo_34 : decode cX12_nearTo 34 = .ok (.iinc 3 1, 3) := by decide +kernel
theorem dX12_nearTo_37 : decode cX12_nearTo 37 = .ok (.goto (-33), 3) := by decide +kernel
theorem dX12_nearTo_40 : decode cX12_nearTo 40 = .ok (.iload_n 2, 1) := by decide +kernel
theorem dX12_nearTo_41 : decode cX12_nearTo 41 = .ok (.ireturn, 1) := by decide +kernel
def k_X12_nearTo_4 (X : CX) (T : List Dsc) (R : RM) (n1 n2 : Nat) (x1 : Int32) (r : ((Int32 × Int32 × M2) ⊕ ((Int32 × M2)))) : Prop := match r with
  | .inl s => Wp X cX12_nearTo RX12 4 T (mk s.2.2 R) n1 n2 4 [(0, .ref 56), (1, .int x1), (2, .int s.1), (3, .int s.2.1)] []
  | .inr e => Wp X cX12_nearTo RX12 4 T (mk e.2 R) n1 n2 40 [(2, .int e.1)] []
set_option maxHeartbeats 4000000 in
set_option maxRecDepth 100000 in
theorem w_X12_nearTo_34 {X : CX} {T : List Dsc} {R : RM} {c e : Nat} {n1 n2 : Nat} {x1 : Int32} {x2 : Int32} {x3 : Int32} {m : M2} {r : ((Int32 × Int32 × M2) ⊕ ((Int32 × M2)))} (hX : XR X 4 n1 n2) (hG : Geo T R c e) (hf : f_X12_nearTo_34 x1 x2 x3 m = some r) (hk : k_X12_nearTo_4 X T R n1 n2 x1 r) : Wp X cX12_nearTo RX12 4 T (mk m R) n1 n2 34 [(0, .ref 56), (1, .int x1), (2, .int x2), (3, .int x3)] [] := by
  unfold f_X12_nearTo_34 at hf
  obtain ⟨v1, h2, hf⟩ := bnd hf
  refine Wp.iincN (pc := 34) (lo' := [(0, .ref 56), (1, .int x1), (2, .int x2), (3, .int v1)]) (1 : Int32) (by decide) h2 3 rfl [1, 2, 3, 0] rfl (by decide) dX12_nearTo_34 ?_
  refine Wp.goto (pc := 37) 4 dX12_nearTo_37 (by decide) ?_
  cases hf
  exact hk
set_option maxHeartbeats 4000000 in
set_option maxRecDepth 100000 in
theorem w_X12_nearTo_4 {X : CX} {T : List Dsc} {R : RM} {c e : Nat} {n1 n2 : Nat} {x1 : Int32} {x2 : Int32} {x3 : Int32} {m : M2} {r : ((Int32 × Int32 × M2) ⊕ ((Int32 × M2)))} (hX : XR X 4 n1 n2) (hG : Geo T R c e) (hf : f_X12_nearTo_4 x1 x2 x3 m = some r) (hk : k_X12_nearTo_4 X T R n1 n2 x1 r) : Wp X cX12_nearTo RX12 4 T (mk m R) n1 n2 4 [(0, .ref 56), (1, .int x1), (2, .int x2), (3, .int x3)] [] := by
  unfold f_X12_nearTo_4 at hf
  refine Wp.iload_n (pc := 4) 3 rfl rfl dX12_nearTo_4 ?_
  refine Wp.aload_n (pc := 5) 0 rfl rfl dX12_nearTo_5 ?_
  refine Wp.getI2 (pc := 6) (hG.t 56 rfl) fk_RX12_399 rfl dX12_nearTo_6 ?_
  refine Wp.icmp_ge (pc := 9) 40 dX12_nearTo_9 (by decide) (fun hc1 => ?_) (fun hc1 => ?_)
  · rw [if_pos hc1] at hf
    refine Wp.lo' (lo' := [(2, .int x2)]) [2] rfl ?_
    cases hf
    exact hk
  · rw [if_neg hc1] at hf
    refine Wp.aload_n (pc := 12) 0 rfl rfl dX12_nearTo_12 ?_
    refine Wp.aload_n (pc := 13) 0 rfl rfl dX12_nearTo_13 ?_
    refine Wp.getR2 (pc := 14) (hG.r 56 63 rfl) (hG.t 56 rfl) fk_RX12_140 rfl dX12_nearTo_14 ?_
    refine Wp.iload_n (pc := 17) 3 rfl rfl dX12_nearTo_17 ?_
    obtain ⟨v2, h3, hf⟩ := bnd hf
    refine Wp.iald2 (pc := 18) h3 (hG.a 97 0 rfl) dX12_nearTo_18 ?_
    refine Wp.iload_n (pc := 19) 1 rfl rfl dX12_nearTo_19 ?_
    obtain ⟨c4, h5, hf⟩ := bnd hf
    refine Wp.callVi (pc := 20) (st := []) (as := [.int v2, .int x1]) (c_X12_gap hG h5) ml_RX12_422 mv_X12_gap mb_X12_gap hX (Nat.le_of_ble_eq_true rfl) (by decide) rfl (hG.t 56 rfl) rfl (by simp) dX12_nearTo_20 rfl ?_
    refine Wp.iconst (pc := 23) (-1 : Int32) (by decide) dX12_nearTo_23 ?_
    refine Wp.iconst (pc := 24) (1 : Int32) (by decide) dX12_nearTo_24 ?_
    obtain ⟨c6, h7, hf⟩ := bnd hf
    refine Wp.callSi (pc := 25) (st := []) (as := [.int c4.1, .int (-1 : Int32), .int (1 : Int32)]) (c_X12_in hG h7) ml_RX12_414 ms_X12_in mb_X12_in hX (Nat.le_of_ble_eq_true rfl) (by decide) rfl (by simp) dX12_nearTo_25 rfl ?_
    refine Wp.if_eq (pc := 28) 34 dX12_nearTo_28 (by decide) (fun hc8 => ?_) (fun hc8 => ?_)
    · rw [if_pos hc8] at hf
      exact w_X12_nearTo_34 hX hG hf hk
    · rw [if_neg hc8] at hf
      obtain ⟨v9, h10, hf⟩ := bnd hf
      refine Wp.iincN (pc := 31) (lo' := [(0, .ref 56), (1, .int x1), (2, .int v9), (3, .int x3)]) (1 : Int32) (by decide) h10 2 rfl [1, 2, 0, 3] rfl (by decide) dX12_nearTo_31 ?_
      exact w_X12_nearTo_34 hX hG hf hk
theorem wl_X12_nearTo_4 {X : CX} {T : List Dsc} {R : RM} {c e : Nat} {n1 n2 : Nat} {x1 : Int32} {x2 : Int32} {x3 : Int32} {m : M2} {e1 : ((Int32 × M2))} (hX : XR X 4 n1 n2) (hG : Geo T R c e) (h : loop (g_X12_nearTo_4 x1) (x2, x3, m) = some e1) (he : Wp X cX12_nearTo RX12 4 T (mk e1.2 R) n1 n2 40 [(2, .int e1.1)] []) : Wp X cX12_nearTo RX12 4 T (mk m R) n1 n2 4 [(0, .ref 56), (1, .int x1), (2, .int x2), (3, .int x3)] [] :=
  loop_ok (K := k_X12_nearTo_4 X T R n1 n2 x1) (fun s r hf hk => w_X12_nearTo_4 hX hG hf hk) h he
set_option maxHeartbeats 4000000 in
set_option maxRecDepth 100000 in
theorem w_X12_nearTo {X : CX} {T : List Dsc} {R : RM} {c e : Nat} {n1 n2 : Nat} {x1 : Int32} {m : M2} {r : (Int32 × M2)} (hX : XR X 4 n1 n2) (hG : Geo T R c e) (hf : F_X12_nearTo x1 m = some r) (hk : FnI X cX12_nearTo RX12 4 T n1 n2 (r.1, mk r.2 R)) : Wp X cX12_nearTo RX12 4 T (mk m R) n1 n2 0 [(0, .ref 56), (1, .int x1)] [] := by
  unfold F_X12_nearTo at hf
  refine Wp.iconst (pc := 0) (0 : Int32) (by decide) dX12_nearTo_0 ?_
  refine Wp.istore_n (pc := 1) (lo' := [(0, .ref 56), (1, .int x1), (2, .int (0 : Int32))]) [1, 2, 0] rfl (by decide) rfl dX12_nearTo_1 ?_
  refine Wp.iconst (pc := 2) (0 : Int32) (by decide) dX12_nearTo_2 ?_
  refine Wp.istore_n (pc := 3) (lo' := [(0, .ref 56), (1, .int x1), (2, .int (0 : Int32)), (3, .int (0 : Int32))]) [1, 2, 3, 0] rfl (by decide) rfl dX12_nearTo_3 ?_
  obtain ⟨e1, h2, hf⟩ := bnd hf
  refine wl_X12_nearTo_4 hX hG h2 ?_
  refine Wp.iload_n (pc := 40) 0 rfl rfl dX12_nearTo_40 ?_
  cases hf
  exact hk _ _ dX12_nearTo_41
theorem c_X12_nearTo {T : List Dsc} {R : RM} {c e : Nat} {x1 : Int32} {m : M2} {r : (Int32 × M2)} (hG : Geo T R c e) (hf : F_X12_nearTo x1 m = some r) : Ct 4 yX12_nearTo cX12_nearTo 4 (some .int) T (mk m R) [.ref 56, .int x1] (some (.int r.1)) (mk r.2 R) := Ct.ofI (r := (r.1, mk r.2 R)) (by decide +kernel) (Nat.le_of_ble_eq_true rfl) (fun X hX hk => w_X12_nearTo hX hG hf hk)
theorem dX12_wayNow_0 : decode cX12_wayNow 0 = .ok (.iconst 0, 1) := by decide +kernel
theorem dX12_wayNow_1 : decode cX12_wayNow 1 = .ok (.istore_n 1, 1) := by decide +kernel
theorem dX12_wayNow_2 : decode cX12_wayNow 2 = .ok (.iconst 0, 1) := by decide +kernel
theorem dX12_wayNow_3 : decode cX12_wayNow 3 = .ok (.istore_n 2, 1) := by decide +kernel
theorem dX12_wayNow_4 : decode cX12_wayNow 4 = .ok (.iload_n 2, 1) := by decide +kernel
theorem dX12_wayNow_5 : decode cX12_wayNow 5 = .ok (.aload_n 0, 1) := by decide +kernel
theorem dX12_wayNow_6 : decode cX12_wayNow 6 = .ok (.invokevirtual 408, 3) := by decide +kernel
theorem dX12_wayNow_9 : decode cX12_wayNow 9 = .ok (.if_icmp .ge 24, 3) := by decide +kernel
theorem dX12_wayNow_12 : decode cX12_wayNow 12 = .ok (.aload_n 0, 1) := by decide +kernel
theorem dX12_wayNow_13 : decode cX12_wayNow 13 = .ok (.iload_n 2, 1) := by decide +kernel
theorem dX12_wayNow_14 : decode cX12_wayNow 14 = .ok (.invokevirtual 456, 3) := by decide +kernel
theorem dX12_wayNow_17 : decode cX12_wayNow 17 = .ok (.iload_n 1, 1) := by decide +kernel
theorem dX12_wayNow_18 : decode cX12_wayNow 18 = .ok (.if_icmp .le 9, 3) := by decide +kernel
theorem dX12_wayNow_21 : decode cX12_wayNow 21 = .ok (.aload_n 0, 1) := by decide +kernel
theorem dX12_wayNow_22 : decode cX12_wayNow 22 = .ok (.iload_n 2, 1) := by decide +kernel
theorem dX12_wayNow_23 : decode cX12_wayNow 23 = .ok (.invokevirtual 456, 3) := by decide +kernel
theorem dX12_wayNow_26 : decode cX12_wayNow 26 = .ok (.istore_n 1, 1) := by decide +kernel
theorem dX12_wayNow_27 : decode cX12_wayNow 27 = .ok (.iinc 2 1, 3) := by decide +kernel
theorem dX12_wayNow_30 : decode cX12_wayNow 30 = .ok (.goto (-26), 3) := by decide +kernel
theorem dX12_wayNow_33 : decode cX12_wayNow 33 = .ok (.iload_n 1, 1) := by decide +kernel
theorem dX12_wayNow_34 : decode cX12_wayNow 34 = .ok (.ireturn, 1) := by decide +kernel
def k_X12_wayNow_4 (X : CX) (T : List Dsc) (R : RM) (n1 n2 : Nat) (r : ((Int32 × Int32 × M2) ⊕ ((Int32 × M2)))) : Prop := match r with
  | .inl s => Wp X cX12_wayNow RX12 3 T (mk s.2.2 R) n1 n2 4 [(0, .ref 56), (1, .int s.1), (2, .int s.2.1)] []
  | .inr e => Wp X cX12_wayNow RX12 3 T (mk e.2 R) n1 n2 33 [(1, .int e.1)] []
set_option maxHeartbeats 4000000 in
set_option maxRecDepth 100000 in
theorem w_X12_wayNow_27 {X : CX} {T : List Dsc} {R : RM} {c e : Nat} {n1 n2 : Nat} {x1 : Int32} {x2 : Int32} {m : M2} {r : ((Int32 × Int32 × M2) ⊕ ((Int32 × M2)))} (hX : XR X 5 n1 n2) (hG : Geo T R c e) (hf : f_X12_wayNow_27 x1 x2 m = some r) (hk : k_X12_wayNow_4 X T R n1 n2 r) : Wp X cX12_wayNow RX12 3 T (mk m R) n1 n2 27 [(0, .ref 56), (1, .int x1), (2, .int x2)] [] := by
  unfold f_X12_wayNow_27 at hf
  obtain ⟨v1, h2, hf⟩ := bnd hf
  refine Wp.iincN (pc := 27) (lo' := [(0, .ref 56), (1, .int x1), (2, .int v1)]) (1 : Int32) (by decide) h2 2 rfl [1, 2, 0] rfl (by decide) dX12_wayNow_27 ?_
  refine Wp.goto (pc := 30) 4 dX12_wayNow_30 (by decide) ?_
  cases hf
  exact hk
set_option maxHeartbeats 4000000 in
set_option maxRecDepth 100000 in
theorem w_X12_wayNow_4 {X : CX} {T : List Dsc} {R : RM} {c e : Nat} {n1 n2 : Nat} {x1 : Int32} {x2 : Int32} {m : M2} {r : ((Int32 × Int32 × M2) ⊕ ((Int32 × M2)))} (hX : XR X 5 n1 n2) (hG : Geo T R c e) (hf : f_X12_wayNow_4 x1 x2 m = some r) (hk : k_X12_wayNow_4 X T R n1 n2 r) : Wp X cX12_wayNow RX12 3 T (mk m R) n1 n2 4 [(0, .ref 56), (1, .int x1), (2, .int x2)] [] := by
  unfold f_X12_wayNow_4 at hf
  refine Wp.iload_n (pc := 4) 2 rfl rfl dX12_wayNow_4 ?_
  refine Wp.aload_n (pc := 5) 0 rfl rfl dX12_wayNow_5 ?_
  obtain ⟨c1, h2, hf⟩ := bnd hf
  refine Wp.callVi (pc := 6) (st := [.int x2]) (as := []) (c_X12_all hG h2) ml_RX12_408 mv_X12_all mb_X12_all hX (Nat.le_of_ble_eq_true rfl) (by decide) rfl (hG.t 56 rfl) rfl (by simp [Value.category]) dX12_wayNow_6 rfl ?_
  refine Wp.icmp_ge (pc := 9) 33 dX12_wayNow_9 (by decide) (fun hc3 => ?_) (fun hc3 => ?_)
  · rw [if_pos hc3] at hf
    refine Wp.lo' (lo' := [(1, .int x1)]) [1] rfl ?_
    cases hf
    exact hk
  · rw [if_neg hc3] at hf
    refine Wp.aload_n (pc := 12) 0 rfl rfl dX12_wayNow_12 ?_
    refine Wp.iload_n (pc := 13) 2 rfl rfl dX12_wayNow_13 ?_
    obtain ⟨c4, h5, hf⟩ := bnd hf
    refine Wp.callVi (pc := 14) (st := []) (as := [.int x2]) (c_X12_nearTo hG h5) ml_RX12_456 mv_X12_nearTo mb_X12_nearTo hX (Nat.le_of_ble_eq_true rfl) (by decide) rfl (hG.t 56 rfl) rfl (by simp) dX12_wayNow_14 rfl ?_
    refine Wp.iload_n (pc := 17) 1 rfl rfl dX12_wayNow_17 ?_
    refine Wp.icmp_le (pc := 18) 27 dX12_wayNow_18 (by decide) (fun hc6 => ?_) (fun hc6 => ?_)
    · rw [if_pos hc6] at hf
      exact w_X12_wayNow_27 hX hG hf hk
    · rw [if_neg hc6] at hf
      refine Wp.aload_n (pc := 21) 0 rfl rfl dX12_wayNow_21 ?_
      refine Wp.iload_n (pc := 22) 2 rfl rfl dX12_wayNow_22 ?_
      obtain ⟨c7, h8, hf⟩ := bnd hf
      refine Wp.callVi (pc := 23) (st := []) (as := [.int x2]) (c_X12_nearTo hG h8) ml_RX12_456 mv_X12_nearTo mb_X12_nearTo hX (Nat.le_of_ble_eq_true rfl) (by decide) rfl (hG.t 56 rfl) rfl (by simp) dX12_wayNow_23 rfl ?_
      refine Wp.istore_n (pc := 26) (lo' := [(0, .ref 56), (1, .int c7.1), (2, .int x2)]) [1, 0, 2] rfl (by decide) rfl dX12_wayNow_26 ?_
      exact w_X12_wayNow_27 hX hG hf hk
theorem wl_X12_wayNow_4 {X : CX} {T : List Dsc} {R : RM} {c e : Nat} {n1 n2 : Nat} {x1 : Int32} {x2 : Int32} {m : M2} {e1 : ((Int32 × M2))} (hX : XR X 5 n1 n2) (hG : Geo T R c e) (h : loop (g_X12_wayNow_4) (x1, x2, m) = some e1) (he : Wp X cX12_wayNow RX12 3 T (mk e1.2 R) n1 n2 33 [(1, .int e1.1)] []) : Wp X cX12_wayNow RX12 3 T (mk m R) n1 n2 4 [(0, .ref 56), (1, .int x1), (2, .int x2)] [] :=
  loop_ok (K := k_X12_wayNow_4 X T R n1 n2) (fun s r hf hk => w_X12_wayNow_4 hX hG hf hk) h he
set_option maxHeartbeats 4000000 in
set_option maxRecDepth 100000 in
theorem w_X12_wayNow {X : CX} {T : List Dsc} {R : RM} {c e : Nat} {n1 n2 : Nat} {m : M2} {r : (Int32 × M2)} (hX : XR X 5 n1 n2) (hG : Geo T R c e) (hf : F_X12_wayNow m = some r) (hk : FnI X cX12_wayNow RX12 3 T n1 n2 (r.1, mk r.2 R)) : Wp X cX12_wayNow RX12 3 T (mk m R) n1 n2 0 [(0, .ref 56)] [] := by
  unfold F_X12_wayNow at hf
  refine Wp.iconst (pc := 0) (0 : Int32) (by decide) dX12_wayNow_0 ?_
  refine Wp.istore_n (pc := 1) (lo' := [(0, .ref 56), (1, .int (0 : Int32))]) [1, 0] rfl (by decide) rfl dX12_wayNow_1 ?_
  refine Wp.iconst (pc := 2) (0 : Int32) (by decide) dX12_wayNow_2 ?_
  refine Wp.istore_n (pc := 3) (lo' := [(0, .ref 56), (1, .int (0 : Int32)), (2, .int (0 : Int32))]) [1, 2, 0] rfl (by decide) rfl dX12_wayNow_3 ?_
  obtain ⟨e1, h2, hf⟩ := bnd hf
  refine wl_X12_wayNow_4 hX hG h2 ?_
  refine Wp.iload_n (pc := 33) 0 rfl rfl dX12_wayNow_33 ?_
  cases hf
  exact hk _ _ dX12_wayNow_34
theorem c_X12_wayNow {T : List Dsc} {R : RM} {c e : Nat} {m : M2} {r : (Int32 × M2)} (hG : Geo T R c e) (hf : F_X12_wayNow m = some r) : Ct 5 yX12_wayNow cX12_wayNow 3 (some .int) T (mk m R) [.ref 56] (some (.int r.1)) (mk r.2 R) := Ct.ofI (r := (r.1, mk r.2 R)) (by decide +kernel) (Nat.le_of_ble_eq_true rfl) (fun X hX hk => w_X12_wayNow hX hG hf hk)
theorem dX12_way_0 : decode cX12_way 0 = .ok (.iload_n 1, 1) := by decide +kernel
theorem dX12_way_1 : decode cX12_way 1 = .ok (.iconst 0, 1) := by decide +kernel
theorem dX12_way_2 : decode cX12_way 2 = .ok (.iconst 1, 1) := by decide +kernel
theorem dX12_way_3 : decode cX12_way 3 = .ok (.invokestatic 414, 3) := by decide +kernel
theorem dX12_way_6 : decode cX12_way 6 = .ok (.ifCond .eq 10, 3) := by decide +kernel
theorem dX12_way_9 : decode cX12_way 9 = .ok (.aload_n 0, 1) := by decide +kernel
theorem dX12_way_10 : decode cX12_way 10 = .ok (.invokevirtual 390, 3) := by decide +kernel
theorem dX12_way_13 : decode cX12_way 13 = .ok (.ifCond .ne 5, 3) := by decide +kernel
theorem dX12_way_16 : decode cX12_way 16 = .ok (.iconst (-1), 1) := by decide +kernel
theorem dX12_way_17 : decode cX12_way 17 = .ok (.ireturn, 1) := by decide +kernel
theorem dX12_way_18 : decode cX12_way 18 = .ok (.aload_n 0, 1) := by decide +kernel
theorem dX12_way_19 : decode cX12_way 19 = .ok (.invokevirtual 444, 3) := by decide +kernel
theorem dX12_way_22 : decode cX12_way 22 = .ok (.aload_n 0, 1) := by decide +kernel
theorem dX12_way_23 : decode cX12_way 23 = .ok (.invokevirtual 459, 3) := by decide +kernel
theorem dX12_way_26 : decode cX12_way 26 = .ok (.istore_n 2, 1) := by decide +kernel
theorem dX12_way_27 : decode cX12_way 27 = .ok (.iconst 0, 1) := by decide +kernel
theorem dX12_way_28 : decode cX12_way 28 = .ok (.istore_n 3, 1) := by decide +kernel
theorem dX12_way_29 : decode cX12_way 29 = .ok (.aload_n 0, 1) := by decide +kernel
theorem dX12_way_30 : decode cX12_way 30 = .ok (.iload_n 3, 1) := by decide +kernel
theorem dX12_way_31 : decode cX12_way 31 = .ok (.invokevirtual 456, 3) := by decide +kernel
theorem dX12_way_34 : decode cX12_way 34 = .ok (.iload_n 2, 1) := by decide +kernel
theorem dX12_way_35 : decode cX12_way 35 = .ok (.if_icmp .eq 9, 3) := by decide +kernel
theorem dX12_way_38 : decode cX12_way 38 = .ok (.iinc 3 1, 3) := by decide +kernel
theorem dX12_way_41 : decode cX12_way 41 = .ok (.goto (-12), 3) := by decide +kernel
theorem dX12_way_44 : decode cX12_way 44 = .ok (.iload_n 1, 1) := by decide +kernel
theorem dX12_way_45 : decode cX12_way 45 = .ok (.ifCond .ne 7, 3) := by decide +kernel
theorem dX12_way_48 : decode cX12_way 48 = .ok (.iload_n 2, 1) := by decide +kernel
theorem dX12_way_49 : decode cX12_way 49 = .ok (.goto 4, 3) := by decide +kernel
theorem dX12_way_52 : decode cX12_way 52 = .ok (.iload_n 3, 1) := by decide +kernel
theorem dX12_way_53 : decode cX12_way 53 = .ok (.ireturn, 1) := by decide +kernel
def k_X12_way_29 (X : CX) (T : List Dsc) (R : RM) (n1 n2 : Nat) (x1 : Int32) (x2 : Int32) (r : ((Int32 × M2) ⊕ ((Int32 × M2)))) : Prop := match r with
  | .inl s => Wp X cX12_way RX12 4 T (mk s.2 R) n1 n2 29 [(0, .ref 56), (1, .int x1), (2, .int x2), (3, .int s.1)] []
  | .inr e => Wp X cX12_way RX12 4 T (mk e.2 R) n1 n2 44 [(1, .int x1), (2, .int x2), (3, .int e.1)] []
set_option maxHeartbeats 4000000 in
set_option maxRecDepth 100000 in
theorem w_X12_way_16 {X : CX} {T : List Dsc} {R : RM} {c e : Nat} {n1 n2 : Nat} {m : M2} {r : (Int32 × M2)} (hX : XR X 6 n1 n2) (hG : Geo T R c e) (hf : f_X12_way_16 m = some r) (hk : FnI X cX12_way RX12 4 T n1 n2 (r.1, mk r.2 R)) : Wp X cX12_way RX12 4 T (mk m R) n1 n2 16 [] [] := by
  unfold f_X12_way_16 at hf
  refine Wp.iconst (pc := 16) (-1 : Int32) (by decide) dX12_way_16 ?_
  cases hf
  exact hk _ _ dX12_way_17
set_option maxHeartbeats 4000000 in
set_option maxRecDepth 100000 in
theorem w_X12_way_29 {X : CX} {T : List Dsc} {R : RM} {c e : Nat} {n1 n2 : Nat} {x1 : Int32} {x2 : Int32} {x3 : Int32} {m : M2} {r : ((Int32 × M2) ⊕ ((Int32 × M2)))} (hX : XR X 6 n1 n2) (hG : Geo T R c e) (hf : f_X12_way_29 x1 x2 x3 m = some r) (hk : k_X12_way_29 X T R n1 n2 x1 x2 r) : Wp X cX12_way RX12 4 T (mk m R) n1 n2 29 [(0, .ref 56), (1, .int x1), (2, .int x2), (3, .int x3)] [] := by
  unfold f_X12_way_29 at hf
  refine Wp.aload_n (pc := 29) 0 rfl rfl dX12_way_29 ?_
  refine Wp.iload_n (pc := 30) 3 rfl rfl dX12_way_30 ?_
  obtain ⟨c1, h2, hf⟩ := bnd hf
  refine Wp.callVi (pc := 31) (st := []) (as := [.int x3]) (c_X12_nearTo hG h2) ml_RX12_456 mv_X12_nearTo mb_X12_nearTo hX (Nat.le_of_ble_eq_true rfl) (by decide) rfl (hG.t 56 rfl) rfl (by simp) dX12_way_31 rfl ?_
  refine Wp.iload_n (pc := 34) 2 rfl rfl dX12_way_34 ?_
  refine Wp.icmp_eq (pc := 35) 44 dX12_way_35 (by decide) (fun hc3 => ?_) (fun hc3 => ?_)
  · rw [if_pos hc3] at hf
    refine Wp.lo' (lo' := [(1, .int x1), (2, .int x2), (3, .int x3)]) [1, 2, 3] rfl ?_
    cases hf
    exact hk
  · rw [if_neg hc3] at hf
    obtain ⟨v4, h5, hf⟩ := bnd hf
    refine Wp.iincN (pc := 38) (lo' := [(0, .ref 56), (1, .int x1), (2, .int x2), (3, .int v4)]) (1 : Int32) (by decide) h5 3 rfl [1, 2, 3, 0] rfl (by decide) dX12_way_38 ?_
    refine Wp.goto (pc := 41) 29 dX12_way_41 (by decide) ?_
    cases hf
    exact hk
theorem wl_X12_way_29 {X : CX} {T : List Dsc} {R : RM} {c e : Nat} {n1 n2 : Nat} {x1 : Int32} {x2 : Int32} {x3 : Int32} {m : M2} {e1 : ((Int32 × M2))} (hX : XR X 6 n1 n2) (hG : Geo T R c e) (h : loop (g_X12_way_29 x1 x2) (x3, m) = some e1) (he : Wp X cX12_way RX12 4 T (mk e1.2 R) n1 n2 44 [(1, .int x1), (2, .int x2), (3, .int e1.1)] []) : Wp X cX12_way RX12 4 T (mk m R) n1 n2 29 [(0, .ref 56), (1, .int x1), (2, .int x2), (3, .int x3)] [] :=
  loop_ok (K := k_X12_way_29 X T R n1 n2 x1 x2) (fun s r hf hk => w_X12_way_29 hX hG hf hk) h he
set_option maxHeartbeats 4000000 in
set_option maxRecDepth 100000 in
theorem w_X12_way_53 {X : CX} {T : List Dsc} {R : RM} {c e : Nat} {n1 n2 : Nat} {s0 : Int32} {m : M2} {r : (Int32 × M2)} (hX : XR X 6 n1 n2) (hG : Geo T R c e) (hf : f_X12_way_53 s0 m = some r) (hk : FnI X cX12_way RX12 4 T n1 n2 (r.1, mk r.2 R)) : Wp X cX12_way RX12 4 T (mk m R) n1 n2 53 [] [.int s0] := by
  unfold f_X12_way_53 at hf
  cases hf
  exact hk _ _ dX12_way_53
set_option maxHeartbeats 4000000 in
set_option maxRecDepth 100000 in
theorem w_X12_way {X : CX} {T : List Dsc} {R : RM} {c e : Nat} {n1 n2 : Nat} {x1 : Int32} {m : M2} {r : (Int32 × M2)} (hX : XR X 6 n1 n2) (hG : Geo T R c e) (hf : F_X12_way x1 m = some r) (hk : FnI X cX12_way RX12 4 T n1 n2 (r.1, mk r.2 R)) : Wp X cX12_way RX12 4 T (mk m R) n1 n2 0 [(0, .ref 56), (1, .int x1)] [] := by
  unfold F_X12_way at hf
  refine Wp.iload_n (pc := 0) 1 rfl rfl dX12_way_0 ?_
  refine Wp.iconst (pc := 1) (0 : Int32) (by decide) dX12_way_1 ?_
  refine Wp.iconst (pc := 2) (1 : Int32) (by decide) dX12_way_2 ?_
  obtain ⟨c1, h2, hf⟩ := bnd hf
  refine Wp.callSi (pc := 3) (st := []) (as := [.int x1, .int (0 : Int32), .int (1 : Int32)]) (c_X12_in hG h2) ml_RX12_414 ms_X12_in mb_X12_in hX (Nat.le_of_ble_eq_true rfl) (by decide) rfl (by simp) dX12_way_3 rfl ?_
  refine Wp.if_eq (pc := 6) 16 dX12_way_6 (by decide) (fun hc3 => ?_) (fun hc3 => ?_)
  · rw [if_pos hc3] at hf
    refine Wp.lo' (lo' := []) [] rfl ?_
    exact w_X12_way_16 hX hG hf hk
  · rw [if_neg hc3] at hf
    refine Wp.aload_n (pc := 9) 0 rfl rfl dX12_way_9 ?_
    obtain ⟨c4, h5, hf⟩ := bnd hf
    refine Wp.callVi (pc := 10) (st := []) (as := []) (c_X12_menNow hG h5) ml_RX12_390 mv_X12_menNow mb_X12_menNow hX (Nat.le_of_ble_eq_true rfl) (by decide) rfl (hG.t 56 rfl) rfl (by simp) dX12_way_10 rfl ?_
    refine Wp.if_ne (pc := 13) 18 dX12_way_13 (by decide) (fun hc6 => ?_) (fun hc6 => ?_)
    · rw [if_neg hc6] at hf
      refine Wp.aload_n (pc := 18) 0 rfl rfl dX12_way_18 ?_
      obtain ⟨c7, h8, hf⟩ := bnd hf
      refine Wp.callVv (pc := 19) (st := []) (as := []) (c_X12_takes hG h8) ml_RX12_444 mv_X12_takes mb_X12_takes hX (Nat.le_of_ble_eq_true rfl) (by decide) rfl (hG.t 56 rfl) rfl (by simp) dX12_way_19 rfl ?_
      refine Wp.aload_n (pc := 22) 0 rfl rfl dX12_way_22 ?_
      obtain ⟨c9, h10, hf⟩ := bnd hf
      refine Wp.callVi (pc := 23) (st := []) (as := []) (c_X12_wayNow hG h10) ml_RX12_459 mv_X12_wayNow mb_X12_wayNow hX (Nat.le_of_ble_eq_true rfl) (by decide) rfl (hG.t 56 rfl) rfl (by simp) dX12_way_23 rfl ?_
      refine Wp.istore_n (pc := 26) (lo' := [(0, .ref 56), (1, .int x1), (2, .int c9.1)]) [1, 2, 0] rfl (by decide) rfl dX12_way_26 ?_
      refine Wp.iconst (pc := 27) (0 : Int32) (by decide) dX12_way_27 ?_
      refine Wp.istore_n (pc := 28) (lo' := [(0, .ref 56), (1, .int x1), (2, .int c9.1), (3, .int (0 : Int32))]) [1, 2, 3, 0] rfl (by decide) rfl dX12_way_28 ?_
      obtain ⟨e11, h12, hf⟩ := bnd hf
      refine wl_X12_way_29 hX hG h12 ?_
      refine Wp.iload_n (pc := 44) 0 rfl rfl dX12_way_44 ?_
      refine Wp.if_ne (pc := 45) 52 dX12_way_45 (by decide) (fun hc13 => ?_) (fun hc13 => ?_)
      · rw [if_neg hc13] at hf
        refine Wp.iload_n (pc := 52) 2 rfl rfl dX12_way_52 ?_
        refine Wp.lo' (lo' := []) [] rfl ?_
        exact w_X12_way_53 hX hG hf hk
      · rw [if_pos hc13] at hf
        refine Wp.iload_n (pc := 48) 1 rfl rfl dX12_way_48 ?_
        refine Wp.goto (pc := 49) 53 dX12_way_49 (by decide) ?_
        refine Wp.lo' (lo' := []) [] rfl ?_
        exact w_X12_way_53 hX hG hf hk
    · rw [if_pos hc6] at hf
      refine Wp.lo' (lo' := []) [] rfl ?_
      exact w_X12_way_16 hX hG hf hk
theorem c_X12_way {T : List Dsc} {R : RM} {c e : Nat} {x1 : Int32} {m : M2} {r : (Int32 × M2)} (hG : Geo T R c e) (hf : F_X12_way x1 m = some r) : Ct 6 yX12_way cX12_way 4 (some .int) T (mk m R) [.ref 56, .int x1] (some (.int r.1)) (mk r.2 R) := Ct.ofI (r := (r.1, mk r.2 R)) (by decide +kernel) (Nat.le_of_ble_eq_true rfl) (fun X hX hk => w_X12_way hX hG hf hk)
theorem dX12_wave_0 : decode cX12_wave 0 = .ok (.iload_n 1, 1) := by decide +kernel
theorem dX12_wave_1 : decode cX12_wave 1 = .ok (.iconst 0, 1) := by decide +kernel
theorem dX12_wave_2 : decode cX12_wave 2 = .ok (.iconst 2, 1) := by decide +kernel
theorem dX12_wave_3 : decode cX12_wave 3 = .ok (.invokestatic 414, 3) := by decide +kernel
theorem dX12_wave_6 : decode cX12_wave 6 = .ok (.ifCond .ne 5, 3) := by decide +kernel
theorem dX12_wave_9 : decode cX12_wave 9 = .ok (.iconst (-1), 1) := by decide +kernel
theorem dX12_wave_10 : decode cX12_wave 10 = .ok (.ireturn, 1) := by decide +kernel
theorem dX12_wave_11 : decode cX12_wave 11 = .ok (.iconst 1, 1) := by decide +kernel
theorem dX12_wave_12 : decode cX12_wave 12 = .ok (.istore_n 2, 1) := by decide +kernel
theorem dX12_wave_13 : decode cX12_wave 13 = .ok (.iconst 0, 1) := by decide +kernel
theorem dX12_wave_14 : decode cX12_wave 14 = .ok (.istore_n 3, 1) := by decide +kernel
theorem dX12_wave_15 : decode cX12_wave 15 = .ok (.iconst 0, 1) := by decide +kernel
theorem dX12_wave_16 : decode cX12_wave 16 = .ok (.istore 4, 2) := by decide +kernel
theorem dX12_wave_18 : decode cX12_wave 18 = .ok (.iconst 0, 1) := by decide +kernel
theorem dX12_wave_19 : decode cX12_wave 19 = .ok (.istore 5, 2) := by decide +kernel
theorem dX12_wave_21 : decode cX12_wave 21 = .ok (.iload 5, 2) := by decide +kernel
theorem dX12_wave_23 : decode cX12_wave 23 = .ok (.aload_n 0, 1) := by decide +kernel
theorem dX12_wave_24 : decode cX12_wave 24 = .ok (.invokevirtual 390, 3) := by decide +kernel
theorem dX12_wave_27 : decode cX12_wave 27 = .ok (.if_icmp .ge 122, 3) := by decide +kernel
theorem dX12_wave_30 : decode cX12_wave 30 = .ok (.iconst 1, 1) := by decide +kernel
theorem dX12_wave_31 : decode cX12_wave 31 = .ok (.istore 6, 2) := by decide +kernel
theorem dX12_wave_33 : decode cX12_wave 33 = .ok (.iload 5, 2) := by decide +kernel
theorem dX12_wave_35 : decode cX12_wave 35 = .ok (.iconst 1, 1) := by decide +kernel
theorem dX12_wave_36 : decode cX12_wave 36 = .ok (.iadd, 1) := by decide +kernel
theorem dX12_wave_37 : decode cX12_wave 37 = .ok (.aload_n 0, 1) := by decide +kernel
theorem dX12_wave_38 : decode cX12_wave 38 = .ok (.invokevirtual 390, 3) := by decide +kernel
theorem dX12_wave_41 : decode cX12_wave 41 = .ok (.if_icmp .ge 26, 3) := by decide +kernel
theorem dX12_wave_44 : decode cX12_wave 44 = .ok (.aload_n 0, 1) := by decide +kernel
theorem dX12_wave_45 : decode cX12_wave 45 = .ok (.aload_n 0, 1) := by decide +kernel
theorem dX12_wave_46 : decode cX12_wave 46 = .ok (.getfield 128, 3) := by decide +kernel
theorem dX12_wave_49 : decode cX12_wave 49 = .ok (.iload 5, 2) := by decide +kernel
theorem dX12_wave_51 : decode cX12_wave 51 = .ok (.iconst 1, 1) := by decide +kernel
theorem dX12_wave_52 : decode cX12_wave 52 = .ok (.iadd, 1) := by decide +kernel
theorem dX12_wave_53 : decode cX12_wave 53 = .ok (.iaload, 1) := by decide +kernel
theorem dX12_wave_54 : decode cX12_wave 54 = .ok (.aload_n 0, 1) := by decide +kernel
theorem dX12_wave_55 : decode cX12_wave 55 = .ok (.getfield 128, 3) := by decide +kernel
theorem dX12_wave_58 : decode cX12_wave 58 = .ok (.iload 5, 2) := by decide +kernel
theorem dX12_wave_60 : decode cX12_wave 60 = .ok (.iaload, 1) := by decide +kernel
theorem dX12_wave_61 : decode cX12_wave 61 = .ok (.invokevirtual 422, 3) := by decide +kernel
theorem dX12_wave_64 : decode cX12_wave 64 = .ok (.goto 4, 3) := by decide +kernel
theorem dX12_wave_67 : decode cX12_wave 67 = .ok (.iconst 0, 1) := by decide +kernel
theorem dX12_wave_68 : decode cX12_wave 68 = .ok (.istore 7, 2) := by decide +kernel
theorem dX12_wave_70 : decode cX12_wave 70 = .ok (.iload 7, 2) := by decide +kernel
theorem dX12_wave_72 : decode cX12_wave 72 = .ok (.ifCond .eq 52, 3) := by decide +kernel
theorem dX12_wave_75 : decode cX12_wave 75 = .ok (.iload 5, 2) := by decide +kernel
theorem dX12_wave_77 : decode cX12_wave 77 = .ok (.iload 6, 2) := by decide +kernel
theorem dX12_wave_79 : decode cX12_wave 79 = .ok (.iadd, 1) := by decide +kernel
theorem dX12_wave_80 : decode cX12_wave 80 = .ok (.aload_n 0, 1) := by decide +kernel
theorem dX12_wave_81 : decode cX12_wave 81 = .ok (.invokevirtual 390, 3) := by decide +kernel
theorem dX12_wave_84 : decode cX12_wave 84 = .ok (.if_icmp .ge 40, 3) := by decide +kernel
theorem dX12_wave_87 : decode cX12_wave 87 = .ok (.aload_n 0, 1) := by decide +kernel
theorem dX12_wave_88 : decode cX12_wave 88 = .ok (.aload_n 0, 1) := by decide +kernel
theorem dX12_wave_89 : decode cX12_wave 89 = .ok (.getfield 128, 3) := by decide +kernel
theorem dX12_wave_92 : decode cX12_wave 92 = .ok (.iload 5, 2) := by decide +kernel
theorem dX12_wave_94 : decode cX12_wave 94 = .ok (.iload 6, 2) := by decide +kernel
theorem dX12_wave_96 : decode cX12_wave 96 = .ok (.iadd, 1) := by decide +kernel
theorem dX12_wave_97 : decode cX12_wave 97 = .ok (.iaload, 1) := by decide +kernel
theorem dX12_wave_98 : decode cX12_wave 98 = .ok (.aload_n 0, 1) := by decide +kernel
theorem dX12_wave_99 : decode cX12_wave 99 = .ok (.getfield 128, 3) := by decide +kernel
theorem dX12_wave_102 : decode cX12_wave 102 = .ok (.iload 5, 2) := by decide +kernel
theorem dX12_wave_104 : decode cX12_wave 104 = .ok (.iload 6, 2) := by decide +kernel
theorem dX12_wave_106 : decode cX12_wave 106 = .ok (.iadd, 1) := by decide +kernel
theorem dX12_wave_107 : decode cX12_wave 107 = .ok (.iconst 1, 1) := by decide +kernel
theorem dX12_wave_108 : decode cX12_wave 108 = .ok (.isub, 1) := by decide +kernel
theorem dX12_wave_109 : decode cX12_wave 109 = .ok (.iaload, 1) := by decide +kernel
theorem dX12_wave_110 : decode cX12_wave 110 = .ok (.invokevirtual 422, 3) := by decide +kernel
theorem dX12_wave_113 : decode cX12_wave 113 = .ok (.iload 7, 2) := by decide +kernel
theorem dX12_wave_115 : decode cX12_wave 115 = .ok (.if_icmp .ne 9, 3) := by decide +kernel
theorem dX12_wave_118 : decode cX12_wave 118 = .ok (.iinc 6 1, 3) := by decide +kernel
theorem dX12_wave_121 : decode cX12_wave 121 = .ok (.goto (-51), 3) := by decide +kernel
theorem dX12_wave_124 : decode cX12_wave 124 = .ok (.iload 6, 2) := by decide +kernel
theorem dX12_wave_126 : decode cX12_wave 126 = .ok (.iload_n 2, 1) := by decide +kernel
theorem dX12_wave_127 : decode cX12_wave 127 = .ok (.if_icmp .gt 6, 3) := by decide +kernel
theorem dX12_wave_130 : decode cX12_wave 130 = .ok (.goto 13, 3) := by decide +kernel
theorem dX12_wave_133 : decode cX12_wave 133 = .ok (.iload 6, 2) := by decide +kernel
theorem dX12_wave_135 : decode cX12_wave 135 = .ok (.istore_n 2, 1) := by decide +kernel
theorem dX12_wave_136 : decode cX12_wave 136 = .ok (.iload 5, 2) := by decide +kernel
theorem dX12_wave_138 : decode cX12_wave 138 = .ok (.istore_n 3, 1) := by decide +kernel
theorem dX12_wave_139 : decode cX12_wave 139 = .ok (.iload 7, 2) := by decide +kernel
theorem dX12_wave_141 : decode cX12_wave 141 = .ok (.istore 4, 2) := by decide +kernel
theorem dX12_wave_143 : decode cX12_wave 143 = .ok (.iinc 5 1, 3) := by decide +kernel
theorem dX12_wave_146 : decode cX12_wave 146 = .ok (.goto (-125), 3) := by decide +kernel
theorem dX12_wave_149 : decode cX12_wave 149 = .ok (.iload_n 2, 1) := by decide +kernel
theorem dX12_wave_150 : decode cX12_wave 150 = .ok (.iconst 2, 1) := by decide +kernel
theorem dX12_wave_151 : decode cX12_wave 151 = .ok (.if_icmp .ge 8, 3) := by decide +kernel
theorem dX12_wave_154 : decode cX12_wave 154 = .ok (.bipush (-2), 2) := by decide +kernel
theorem dX12_wave_156 : decode cX12_wave 156 = .ok (.goto 22, 3) := by decide +kernel
theorem dX12_wave_159 : decode cX12_wave 159 = .ok (.iload_n 1, 1) := by decide +kernel
theorem dX12_wave_160 : decode cX12_wave 160 = .ok (.ifCond .ne 7, 3) := by decide +kernel
theorem dX12_wave_163 : decode cX12_wave 163 = .ok (.iload_n 2, 1) := by decide +kernel
theorem dX12_wave_164 : decode cX12_wave 164 = .ok (.goto 14, 3) := by decide +kernel
theorem dX12_wave_167 : decode cX12_wave 167 = .ok (.iload_n 1, 1) := by decide +kernel
theorem dX12_wave_168 : decode cX12_wave 168 = .ok (.iconst 1, 1) := by decide +kernel
theorem dX12_wave_169 : decode cX12_wave 169 = .ok (.if_icmp .ne 7, 3) := by decide +kernel
theorem dX12_wave_172 : decode cX12_wave 172 = .ok (.iload_n 3, 1) := by decide +kernel
theorem dX12_wave_173 : decode cX12_wave 173 = .ok (.goto 5, 3) := by decide +kernel
theorem dX12_wave_176 : decode cX12_wave 176 = .ok (.iload 4, 2) := by decide +kernel
theorem dX12_wave_178 : decode cX12_wave 178 = .ok (.ireturn, 1) := by decide +kernel
def k_X12_wave_70 (X : CX) (T : List Dsc) (R : RM) (n1 n2 : Nat) (x1 : Int32) (x2 : Int32) (x3 : Int32) (x4 : Int32) (x5 : Int32) (x7 : Int32) (r : ((Int32 × M2) ⊕ ((Int32 × M2)))) : Prop := match r with
  | .inl s => Wp X cX12_wave RX12 8 T (mk s.2 R) n1 n2 70 [(0, .ref 56), (1, .int x1), (2, .int x2), (3, .int x3), (4, .int x4), (5, .int x5), (6, .int s.1), (7, .int x7)] []
  | .inr e => Wp X cX12_wave RX12 8 T (mk e.2 R) n1 n2 124 [(0, .ref 56), (1, .int x1), (2, .int x2), (3, .int x3), (4, .int x4), (5, .int x5), (6, .int e.1), (7, .int x7)] []
def k_X12_wave_21 (X : CX) (T : List Dsc) (R : RM) (n1 n2 : Nat) (x1 : Int32) (r : ((Int32 × Int32 × Int32 × Int32 × M2) ⊕ ((Int32 × Int32 × Int32 × M2)))) : Prop := match r with
  | .inl s => Wp X cX12_wave RX12 8 T (mk s.2.2.2.2 R) n1 n2 21 [(0, .ref 56), (1, .int x1), (2, .int s.1), (3, .int s.2.1), (4, .int s.2.2.1), (5, .int s.2.2.2.1)] []
  | .inr e => Wp X cX12_wave RX12 8 T (mk e.2.2.2 R) n1 n2 149 [(1, .int x1), (2, .int e.1), (3, .int e.2.1), (4, .int e.2.2.1)] []
set_option maxHeartbeats 4000000 in
set_option maxRecDepth 100000 in
theorem w_X12_wave_70 {X : CX} {T : List Dsc} {R : RM} {c e : Nat} {n1 n2 : Nat} {x1 : Int32} {x2 : Int32} {x3 : Int32} {x4 : Int32} {x5 : Int32} {x6 : Int32} {x7 : Int32} {m : M2} {r : ((Int32 × M2) ⊕ ((Int32 × M2)))} (hX : XR X 4 n1 n2) (hG : Geo T R c e) (hf : f_X12_wave_70 x1 x2 x3 x4 x5 x6 x7 m = some r) (hk : k_X12_wave_70 X T R n1 n2 x1 x2 x3 x4 x5 x7 r) : Wp X cX12_wave RX12 8 T (mk m R) n1 n2 70 [(0, .ref 56), (1, .int x1), (2, .int x2), (3, .int x3), (4, .int x4), (5, .int x5), (6, .int x6), (7, .int x7)] [] := by
  unfold f_X12_wave_70 at hf
  refine Wp.iload (pc := 70) 7 rfl dX12_wave_70 ?_
  refine Wp.if_eq (pc := 72) 124 dX12_wave_72 (by decide) (fun hc1 => ?_) (fun hc1 => ?_)
  · rw [if_pos hc1] at hf
    cases hf
    exact hk
  · rw [if_neg hc1] at hf
    refine Wp.iload (pc := 75) 5 rfl dX12_wave_75 ?_
    refine Wp.iload (pc := 77) 6 rfl dX12_wave_77 ?_
    refine Wp.iadd (pc := 79) dX12_wave_79 ?_
    refine Wp.aload_n (pc := 80) 0 rfl rfl dX12_wave_80 ?_
    obtain ⟨c2, h3, hf⟩ := bnd hf
    refine Wp.callVi (pc := 81) (st := [.int (x5 + x6)]) (as := []) (c_X12_menNow hG h3) ml_RX12_390 mv_X12_menNow mb_X12_menNow hX (Nat.le_of_ble_eq_true rfl) (by decide) rfl (hG.t 56 rfl) rfl (by simp [Value.category]) dX12_wave_81 rfl ?_
    refine Wp.icmp_ge (pc := 84) 124 dX12_wave_84 (by decide) (fun hc4 => ?_) (fun hc4 => ?_)
    · rw [if_pos hc4] at hf
      cases hf
      exact hk
    · rw [if_neg hc4] at hf
      refine Wp.aload_n (pc := 87) 0 rfl rfl dX12_wave_87 ?_
      refine Wp.aload_n (pc := 88) 0 rfl rfl dX12_wave_88 ?_
      refine Wp.getR2 (pc := 89) (hG.r 56 55 rfl) (hG.t 56 rfl) fk_RX12_128 rfl dX12_wave_89 ?_
      refine Wp.iload (pc := 92) 5 rfl dX12_wave_92 ?_
      refine Wp.iload (pc := 94) 6 rfl dX12_wave_94 ?_
      refine Wp.iadd (pc := 96) dX12_wave_96 ?_
      obtain ⟨v5, h6, hf⟩ := bnd hf
      refine Wp.iald2 (pc := 97) h6 (hG.a 93 0 rfl) dX12_wave_97 ?_
      refine Wp.aload_n (pc := 98) 0 rfl rfl dX12_wave_98 ?_
      refine Wp.getR2 (pc := 99) (hG.r 56 55 rfl) (hG.t 56 rfl) fk_RX12_128 rfl dX12_wave_99 ?_
      refine Wp.iload (pc := 102) 5 rfl dX12_wave_102 ?_
      refine Wp.iload (pc := 104) 6 rfl dX12_wave_104 ?_
      refine Wp.iadd (pc := 106) dX12_wave_106 ?_
      refine Wp.iconst (pc := 107) (1 : Int32) (by decide) dX12_wave_107 ?_
      refine Wp.isub (pc := 108) dX12_wave_108 ?_
      obtain ⟨v7, h8, hf⟩ := bnd hf
      refine Wp.iald2 (pc := 109) h8 (hG.a 93 0 rfl) dX12_wave_109 ?_
      obtain ⟨c9, h10, hf⟩ := bnd hf
      refine Wp.callVi (pc := 110) (st := []) (as := [.int v5, .int v7]) (c_X12_gap hG h10) ml_RX12_422 mv_X12_gap mb_X12_gap hX (Nat.le_of_ble_eq_true rfl) (by decide) rfl (hG.t 56 rfl) rfl (by simp) dX12_wave_110 rfl ?_
      refine Wp.iload (pc := 113) 7 rfl dX12_wave_113 ?_
      refine Wp.icmp_ne (pc := 115) 124 dX12_wave_115 (by decide) (fun hc11 => ?_) (fun hc11 => ?_)
      · rw [if_neg hc11] at hf
        cases hf
        exact hk
      · rw [if_pos hc11] at hf
        obtain ⟨v12, h13, hf⟩ := bnd hf
        refine Wp.iincN (pc := 118) (lo' := [(0, .ref 56), (1, .int x1), (2, .int x2), (3, .int x3), (4, .int x4), (5, .int x5), (6, .int v12), (7, .int x7)]) (1 : Int32) (by decide) h13 6 rfl [1, 2, 3, 4, 5, 6, 0, 7] rfl (by decide) dX12_wave_118 ?_
        refine Wp.goto (pc := 121) 70 dX12_wave_121 (by decide) ?_
        cases hf
        exact hk
theorem wl_X12_wave_70 {X : CX} {T : List Dsc} {R : RM} {c e : Nat} {n1 n2 : Nat} {x1 : Int32} {x2 : Int32} {x3 : Int32} {x4 : Int32} {x5 : Int32} {x6 : Int32} {x7 : Int32} {m : M2} {e1 : ((Int32 × M2))} (hX : XR X 4 n1 n2) (hG : Geo T R c e) (h : loop (g_X12_wave_70 x1 x2 x3 x4 x5 x7) (x6, m) = some e1) (he : Wp X cX12_wave RX12 8 T (mk e1.2 R) n1 n2 124 [(0, .ref 56), (1, .int x1), (2, .int x2), (3, .int x3), (4, .int x4), (5, .int x5), (6, .int e1.1), (7, .int x7)] []) : Wp X cX12_wave RX12 8 T (mk m R) n1 n2 70 [(0, .ref 56), (1, .int x1), (2, .int x2), (3, .int x3), (4, .int x4), (5, .int x5), (6, .int x6), (7, .int x7)] [] :=
  loop_ok (K := k_X12_wave_70 X T R n1 n2 x1 x2 x3 x4 x5 x7) (fun s r hf hk => w_X12_wave_70 hX hG hf hk) h he
set_option maxHeartbeats 4000000 in
set_option maxRecDepth 100000 in
theorem w_X12_wave_143 {X : CX} {T : List Dsc} {R : RM} {c e : Nat} {n1 n2 : Nat} {x1 : Int32} {x2 : Int32} {x3 : Int32} {x4 : Int32} {x5 : Int32} {m : M2} {r : ((Int32 × Int32 × Int32 × Int32 × M2) ⊕ ((Int32 × Int32 × Int32 × M2)))} (hX : XR X 4 n1 n2) (hG : Geo T R c e) (hf : f_X12_wave_143 x1 x2 x3 x4 x5 m = some r) (hk : k_X12_wave_21 X T R n1 n2 x1 r) : Wp X cX12_wave RX12 8 T (mk m R) n1 n2 143 [(0, .ref 56), (1, .int x1), (2, .int x2), (3, .int x3), (4, .int x4), (5, .int x5)] [] := by
  unfold f_X12_wave_143 at hf
  obtain ⟨v1, h2, hf⟩ := bnd hf
  refine Wp.iincN (pc := 143) (lo' := [(0, .ref 56), (1, .int x1), (2, .int x2), (3, .int x3), (4, .int x4), (5, .int v1)]) (1 : Int32) (by decide) h2 5 rfl [1, 2, 3, 4, 5, 0] rfl (by decide) dX12_wave_143 ?_
  refine Wp.goto (pc := 146) 21 dX12_wave_146 (by decide) ?_
  cases hf
  exact hk
set_option maxHeartbeats 4000000 in
set_option maxRecDepth 100000 in
theorem w_X12_wave_124 {X : CX} {T : List Dsc} {R : RM} {c e : Nat} {n1 n2 : Nat} {x1 : Int32} {x2 : Int32} {x3 : Int32} {x4 : Int32} {x5 : Int32} {x6 : Int32} {x7 : Int32} {m : M2} {r : ((Int32 × Int32 × Int32 × Int32 × M2) ⊕ ((Int32 × Int32 × Int32 × M2)))} (hX : XR X 4 n1 n2) (hG : Geo T R c e) (hf : f_X12_wave_124 x1 x2 x3 x4 x5 x6 x7 m = some r) (hk : k_X12_wave_21 X T R n1 n2 x1 r) : Wp X cX12_wave RX12 8 T (mk m R) n1 n2 124 [(0, .ref 56), (1, .int x1), (2, .int x2), (3, .int x3), (4, .int x4), (5, .int x5), (6, .int x6), (7, .int x7)] [] := by
  unfold f_X12_wave_124 at hf
  refine Wp.iload (pc := 124) 6 rfl dX12_wave_124 ?_
  refine Wp.iload_n (pc := 126) 2 rfl rfl dX12_wave_126 ?_
  refine Wp.icmp_gt (pc := 127) 133 dX12_wave_127 (by decide) (fun hc1 => ?_) (fun hc1 => ?_)
  · rw [if_pos hc1] at hf
    refine Wp.iload (pc := 133) 6 rfl dX12_wave_133 ?_
    refine Wp.istore_n (pc := 135) (lo' := [(0, .ref 56), (1, .int x1), (2, .int x6), (5, .int x5), (7, .int x7)]) [1, 2, 0, 5, 7] rfl (by decide) rfl dX12_wave_135 ?_
    refine Wp.iload (pc := 136) 3 rfl dX12_wave_136 ?_
    refine Wp.istore_n (pc := 138) (lo' := [(0, .ref 56), (1, .int x1), (2, .int x6), (3, .int x5), (5, .int x5), (7, .int x7)]) [1, 2, 3, 0, 4, 5] rfl (by decide) rfl dX12_wave_138 ?_
    refine Wp.iload (pc := 139) 5 rfl dX12_wave_139 ?_
    refine Wp.istore (pc := 141) (lo' := [(0, .ref 56), (1, .int x1), (2, .int x6), (3, .int x5), (4, .int x7), (5, .int x5)]) [1, 2, 3, 4, 0, 5] rfl (by decide) dX12_wave_141 ?_
    exact w_X12_wave_143 hX hG hf hk
  · rw [if_neg hc1] at hf
    refine Wp.goto (pc := 130) 143 dX12_wave_130 (by decide) ?_
    refine Wp.lo' (lo' := [(0, .ref 56), (1, .int x1), (2, .int x2), (3, .int x3), (4, .int x4), (5, .int x5)]) [0, 1, 2, 3, 4, 5] rfl ?_
    exact w_X12_wave_143 hX hG hf hk
set_option maxHeartbeats 4000000 in
set_option maxRecDepth 100000 in
theorem w_X12_wave_68 {X : CX} {T : List Dsc} {R : RM} {c e : Nat} {n1 n2 : Nat} {x1 : Int32} {x2 : Int32} {x3 : Int32} {x4 : Int32} {x5 : Int32} {x6 : Int32} {s0 : Int32} {m : M2} {r : ((Int32 × Int32 × Int32 × Int32 × M2) ⊕ ((Int32 × Int32 × Int32 × M2)))} (hX : XR X 4 n1 n2) (hG : Geo T R c e) (hf : f_X12_wave_68 x1 x2 x3 x4 x5 x6 s0 m = some r) (hk : k_X12_wave_21 X T R n1 n2 x1 r) : Wp X cX12_wave RX12 8 T (mk m R) n1 n2 68 [(0, .ref 56), (1, .int x1), (2, .int x2), (3, .int x3), (4, .int x4), (5, .int x5), (6, .int x6)] [.int s0] := by
  unfold f_X12_wave_68 at hf
  refine Wp.istore (pc := 68) (lo' := [(0, .ref 56), (1, .int x1), (2, .int x2), (3, .int x3), (4, .int x4), (5, .int x5), (6, .int x6), (7, .int s0)]) [1, 2, 3, 4, 5, 6, 7, 0] rfl (by decide) dX12_wave_68 ?_
  obtain ⟨e1, h2, hf⟩ := bnd hf
  refine wl_X12_wave_70 hX hG h2 ?_
  exact w_X12_wave_124 hX hG hf hk
set_option maxHeartbeats 4000000 in
set_option maxRecDepth 100000 in
theorem w_X12_wave_21 {X : CX} {T : List Dsc} {R : RM} {c e : Nat} {n1 n2 : Nat} {x1 : Int32} {x2 : Int32} {x3 : Int32} {x4 : Int32} {x5 : Int32} {m : M2} {r : ((Int32 × Int32 × Int32 × Int32 × M2) ⊕ ((Int32 × Int32 × Int32 × M2)))} (hX : XR X 4 n1 n2) (hG : Geo T R c e) (hf : f_X12_wave_21 x1 x2 x3 x4 x5 m = some r) (hk : k_X12_wave_21 X T R n1 n2 x1 r) : Wp X cX12_wave RX12 8 T (mk m R) n1 n2 21 [(0, .ref 56), (1, .int x1), (2, .int x2), (3, .int x3), (4, .int x4), (5, .int x5)] [] := by
  unfold f_X12_wave_21 at hf
  refine Wp.iload (pc := 21) 5 rfl dX12_wave_21 ?_
  refine Wp.aload_n (pc := 23) 0 rfl rfl dX12_wave_23 ?_
  obtain ⟨c1, h2, hf⟩ := bnd hf
  refine Wp.callVi (pc := 24) (st := [.int x5]) (as := []) (c_X12_menNow hG h2) ml_RX12_390 mv_X12_menNow mb_X12_menNow hX (Nat.le_of_ble_eq_true rfl) (by decide) rfl (hG.t 56 rfl) rfl (by simp [Value.category]) dX12_wave_24 rfl ?_
  refine Wp.icmp_ge (pc := 27) 149 dX12_wave_27 (by decide) (fun hc3 => ?_) (fun hc3 => ?_)
  · rw [if_pos hc3] at hf
    refine Wp.lo' (lo' := [(1, .int x1), (2, .int x2), (3, .int x3), (4, .int x4)]) [1, 2, 3, 4] rfl ?_
    cases hf
    exact hk
  · rw [if_neg hc3] at hf
    refine Wp.iconst (pc := 30) (1 : Int32) (by decide) dX12_wave_30 ?_
    refine Wp.istore (pc := 31) (lo' := [(0, .ref 56), (1, .int x1), (2, .int x2), (3, .int x3), (4, .int x4), (5, .int x5), (6, .int (1 : Int32))]) [1, 2, 3, 4, 5, 6, 0] rfl (by decide) dX12_wave_31 ?_
    refine Wp.iload (pc := 33) 5 rfl dX12_wave_33 ?_
    refine Wp.iconst (pc := 35) (1 : Int32) (by decide) dX12_wave_35 ?_
    refine Wp.iadd (pc := 36) dX12_wave_36 ?_
    refine Wp.aload_n (pc := 37) 0 rfl rfl dX12_wave_37 ?_
    obtain ⟨c4, h5, hf⟩ := bnd hf
    refine Wp.callVi (pc := 38) (st := [.int (x5 + (1 : Int32))]) (as := []) (c_X12_menNow hG h5) ml_RX12_390 mv_X12_menNow mb_X12_menNow hX (Nat.le_of_ble_eq_true rfl) (by decide) rfl (hG.t 56 rfl) rfl (by simp [Value.category]) dX12_wave_38 rfl ?_
    refine Wp.icmp_ge (pc := 41) 67 dX12_wave_41 (by decide) (fun hc6 => ?_) (fun hc6 => ?_)
    · rw [if_pos hc6] at hf
      refine Wp.iconst (pc := 67) (0 : Int32) (by decide) dX12_wave_67 ?_
      exact w_X12_wave_68 hX hG hf hk
    · rw [if_neg hc6] at hf
      refine Wp.aload_n (pc := 44) 0 rfl rfl dX12_wave_44 ?_
      refine Wp.aload_n (pc := 45) 0 rfl rfl dX12_wave_45 ?_
      refine Wp.getR2 (pc := 46) (hG.r 56 55 rfl) (hG.t 56 rfl) fk_RX12_128 rfl dX12_wave_46 ?_
      refine Wp.iload (pc := 49) 5 rfl dX12_wave_49 ?_
      refine Wp.iconst (pc := 51) (1 : Int32) (by decide) dX12_wave_51 ?_
      refine Wp.iadd (pc := 52) dX12_wave_52 ?_
      obtain ⟨v7, h8, hf⟩ := bnd hf
      refine Wp.iald2 (pc := 53) h8 (hG.a 93 0 rfl) dX12_wave_53 ?_
      refine Wp.aload_n (pc := 54) 0 rfl rfl dX12_wave_54 ?_
      refine Wp.getR2 (pc := 55) (hG.r 56 55 rfl) (hG.t 56 rfl) fk_RX12_128 rfl dX12_wave_55 ?_
      refine Wp.iload (pc := 58) 5 rfl dX12_wave_58 ?_
      obtain ⟨v9, h10, hf⟩ := bnd hf
      refine Wp.iald2 (pc := 60) h10 (hG.a 93 0 rfl) dX12_wave_60 ?_
      obtain ⟨c11, h12, hf⟩ := bnd hf
      refine Wp.callVi (pc := 61) (st := []) (as := [.int v7, .int v9]) (c_X12_gap hG h12) ml_RX12_422 mv_X12_gap mb_X12_gap hX (Nat.le_of_ble_eq_true rfl) (by decide) rfl (hG.t 56 rfl) rfl (by simp) dX12_wave_61 rfl ?_
      refine Wp.goto (pc := 64) 68 dX12_wave_64 (by decide) ?_
      exact w_X12_wave_68 hX hG hf hk
theorem wl_X12_wave_21 {X : CX} {T : List Dsc} {R : RM} {c e : Nat} {n1 n2 : Nat} {x1 : Int32} {x2 : Int32} {x3 : Int32} {x4 : Int32} {x5 : Int32} {m : M2} {e1 : ((Int32 × Int32 × Int32 × M2))} (hX : XR X 4 n1 n2) (hG : Geo T R c e) (h : loop (g_X12_wave_21 x1) (x2, x3, x4, x5, m) = some e1) (he : Wp X cX12_wave RX12 8 T (mk e1.2.2.2 R) n1 n2 149 [(1, .int x1), (2, .int e1.1), (3, .int e1.2.1), (4, .int e1.2.2.1)] []) : Wp X cX12_wave RX12 8 T (mk m R) n1 n2 21 [(0, .ref 56), (1, .int x1), (2, .int x2), (3, .int x3), (4, .int x4), (5, .int x5)] [] :=
  loop_ok (K := k_X12_wave_21 X T R n1 n2 x1) (fun s r hf hk => w_X12_wave_21 hX hG hf hk) h he
set_option maxHeartbeats 4000000 in
set_option maxRecDepth 100000 in
theorem w_X12_wave_178 {X : CX} {T : List Dsc} {R : RM} {c e : Nat} {n1 n2 : Nat} {s0 : Int32} {m : M2} {r : (Int32 × M2)} (hX : XR X 4 n1 n2) (hG : Geo T R c e) (hf : f_X12_wave_178 s0 m = some r) (hk : FnI X cX12_wave RX12 8 T n1 n2 (r.1, mk r.2 R)) : Wp X cX12_wave RX12 8 T (mk m R) n1 n2 178 [] [.int s0] := by
  unfold f_X12_wave_178 at hf
  cases hf
  exact hk _ _ dX12_wave_178
set_option maxHeartbeats 4000000 in
set_option maxRecDepth 100000 in
theorem w_X12_wave {X : CX} {T : List Dsc} {R : RM} {c e : Nat} {n1 n2 : Nat} {x1 : Int32} {m : M2} {r : (Int32 × M2)} (hX : XR X 4 n1 n2) (hG : Geo T R c e) (hf : F_X12_wave x1 m = some r) (hk : FnI X cX12_wave RX12 8 T n1 n2 (r.1, mk r.2 R)) : Wp X cX12_wave RX12 8 T (mk m R) n1 n2 0 [(0, .ref 56), (1, .int x1)] [] := by
  unfold F_X12_wave at hf
  refine Wp.iload_n (pc := 0) 1 rfl rfl dX12_wave_0 ?_
  refine Wp.iconst (pc := 1) (0 : Int32) (by decide) dX12_wave_1 ?_
  refine Wp.iconst (pc := 2) (2 : Int32) (by decide) dX12_wave_2 ?_
  obtain ⟨c1, h2, hf⟩ := bnd hf
  refine Wp.callSi (pc := 3) (st := []) (as := [.int x1, .int (0 : Int32), .int (2 : Int32)]) (c_X12_in hG h2) ml_RX12_414 ms_X12_in mb_X12_in hX (Nat.le_of_ble_eq_true rfl) (by decide) rfl (by simp) dX12_wave_3 rfl ?_
  refine Wp.if_ne (pc := 6) 11 dX12_wave_6 (by decide) (fun hc3 => ?_) (fun hc3 => ?_)
  · rw [if_neg hc3] at hf
    refine Wp.iconst (pc := 11) (1 : Int32) (by decide) dX12_wave_11 ?_
    refine Wp.istore_n (pc := 12) (lo' := [(0, .ref 56), (1, .int x1), (2, .int (1 : Int32))]) [1, 2, 0] rfl (by decide) rfl dX12_wave_12 ?_
    refine Wp.iconst (pc := 13) (0 : Int32) (by decide) dX12_wave_13 ?_
    refine Wp.istore_n (pc := 14) (lo' := [(0, .ref 56), (1, .int x1), (2, .int (1 : Int32)), (3, .int (0 : Int32))]) [1, 2, 3, 0] rfl (by decide) rfl dX12_wave_14 ?_
    refine Wp.iconst (pc := 15) (0 : Int32) (by decide) dX12_wave_15 ?_
    refine Wp.istore (pc := 16) (lo' := [(0, .ref 56), (1, .int x1), (2, .int (1 : Int32)), (3, .int (0 : Int32)), (4, .int (0 : Int32))]) [1, 2, 3, 4, 0] rfl (by decide) dX12_wave_16 ?_
    refine Wp.iconst (pc := 18) (0 : Int32) (by decide) dX12_wave_18 ?_
    refine Wp.istore (pc := 19) (lo' := [(0, .ref 56), (1, .int x1), (2, .int (1 : Int32)), (3, .int (0 : Int32)), (4, .int (0 : Int32)), (5, .int (0 : Int32))]) [1, 2, 3, 4, 5, 0] rfl (by decide) dX12_wave_19 ?_
    obtain ⟨e4, h5, hf⟩ := bnd hf
    refine wl_X12_wave_21 hX hG h5 ?_
    refine Wp.iload_n (pc := 149) 1 rfl rfl dX12_wave_149 ?_
    refine Wp.iconst (pc := 150) (2 : Int32) (by decide) dX12_wave_150 ?_
    refine Wp.icmp_ge (pc := 151) 159 dX12_wave_151 (by decide) (fun hc6 => ?_) (fun hc6 => ?_)
    · rw [if_pos hc6] at hf
      refine Wp.iload_n (pc := 159) 0 rfl rfl dX12_wave_159 ?_
      refine Wp.if_ne (pc := 160) 167 dX12_wave_160 (by decide) (fun hc7 => ?_) (fun hc7 => ?_)
      · rw [if_neg hc7] at hf
        refine Wp.iload_n (pc := 167) 0 rfl rfl dX12_wave_167 ?_
        refine Wp.iconst (pc := 168) (1 : Int32) (by decide) dX12_wave_168 ?_
        refine Wp.icmp_ne (pc := 169) 176 dX12_wave_169 (by decide) (fun hc8 => ?_) (fun hc8 => ?_)
        · rw [if_neg hc8] at hf
          refine Wp.iload (pc := 176) 3 rfl dX12_wave_176 ?_
          refine Wp.lo' (lo' := []) [] rfl ?_
          exact w_X12_wave_178 hX hG hf hk
        · rw [if_pos hc8] at hf
          refine Wp.iload_n (pc := 172) 2 rfl rfl dX12_wave_172 ?_
          refine Wp.goto (pc := 173) 178 dX12_wave_173 (by decide) ?_
          refine Wp.lo' (lo' := []) [] rfl ?_
          exact w_X12_wave_178 hX hG hf hk
      · rw [if_pos hc7] at hf
        refine Wp.iload_n (pc := 163) 1 rfl rfl dX12_wave_163 ?_
        refine Wp.goto (pc := 164) 178 dX12_wave_164 (by decide) ?_
        refine Wp.lo' (lo' := []) [] rfl ?_
        exact w_X12_wave_178 hX hG hf hk
    · rw [if_neg hc6] at hf
      refine Wp.bipush (pc := 154) (-2 : Int32) (by decide) dX12_wave_154 ?_
      refine Wp.goto (pc := 156) 178 dX12_wave_156 (by decide) ?_
      refine Wp.lo' (lo' := []) [] rfl ?_
      exact w_X12_wave_178 hX hG hf hk
  · rw [if_pos hc3] at hf
    refine Wp.iconst (pc := 9) (-1 : Int32) (by decide) dX12_wave_9 ?_
    cases hf
    exact hk _ _ dX12_wave_10
theorem c_X12_wave {T : List Dsc} {R : RM} {c e : Nat} {x1 : Int32} {m : M2} {r : (Int32 × M2)} (hG : Geo T R c e) (hf : F_X12_wave x1 m = some r) : Ct 4 yX12_wave cX12_wave 8 (some .int) T (mk m R) [.ref 56, .int x1] (some (.int r.1)) (mk r.2 R) := Ct.ofI (r := (r.1, mk r.2 R)) (by decide +kernel) (Nat.le_of_ble_eq_true rfl) (fun X hX hk => w_X12_wave hX hG hf hk)
theorem dX12_soon_0 : decode cX12_soon 0 = .ok (.iload_n 1, 1) := by decide +kernel
theorem dX12_soon_1 : decode cX12_soon 1 = .ok (.iconst 1, 1) := by decide +kernel
theorem dX12_soon_2 : decode cX12_soon 2 = .ok (.aload_n 0, 1) := by decide +kernel
theorem dX12_soon_3 : decode cX12_soon 3 = .ok (.invokevirtual 390, 3) := by decide +kernel
theorem dX12_soon_6 : decode cX12_soon 6 = .ok (.invokestatic 414, 3) := by decide +kernel
theorem dX12_soon_9 : decode cX12_soon 9 = .ok (.ifCond .ne 5, 3) := by decide +kernel
theorem dX12_soon_12 : decode cX12_soon 12 = .ok (.iconst (-1), 1) := by decide +kernel
theorem dX12_soon_13 : decode cX12_soon 13 = .ok (.ireturn, 1) := by decide +kernel
theorem dX12_soon_14 : decode cX12_soon 14 = .ok (.aload_n 0, 1) := by decide +kernel
theorem dX12_soon_15 : decode cX12_soon 15 = .ok (.invokevirtual 444, 3) := by decide +kernel
theorem dX12_soon_18 : decode cX12_soon 18 = .ok (.iconst 0, 1) := by decide +kernel
theorem dX12_soon_19 : decode cX12_soon 19 = .ok (.istore_n 2, 1) := by decide +kernel
theorem dX12_soon_20 : decode cX12_soon 20 = .ok (.iload_n 2, 1) := by decide +kernel
theorem dX12_soon_21 : decode cX12_soon 21 = .ok (.bipush 100, 2) := by decide +kernel
theorem dX12_soon_23 : decode cX12_soon 23 = .ok (.if_icmp .gt 33, 3) := by decide +kernel
theorem dX12_soon_26 : decode cX12_soon 26 = .ok (.aload_n 0, 1) := by decide +kernel
theorem dX12_soon_27 : decode cX12_soon 27 = .ok (.invokevirtual 459, 3) := by decide +kernel
theorem dX12_soon_30 : decode cX12_soon 30 = .ok (.iload_n 1, 1) := by decide +kernel
theorem dX12_soon_31 : decode cX12_soon 31 = .ok (.if_icmp .lt 5, 3) := by decide +kernel
theorem dX12_soon_34 : decode cX12_soon 34 = .ok (.iload_n 2, 1) := by decide +kernel
theorem dX12_soon_35 : decode cX12_soon 35 = .ok (.ireturn, 1) := by decide +kernel
theorem dX12_soon_36 : decode cX12_soon 36 = .ok (.aload_n 0, 1) := by decide +kernel
theorem dX12_soon_37 : decode cX12_soon 37 = .ok (.aload_n 0, 1) := by decide +kernel
theorem dX12_soon_38 : decode cX12_soon 38 = .ok (.aload_n 0, 1) := by decide +kernel
theorem dX12_soon_39 : decode cX12_soon 39 = .ok (.getfield 396, 3) := by decide +kernel
theorem dX12_soon_42 : decode cX12_soon 42 = .ok (.iload_n 2, 1) := by decide +kernel
theorem dX12_soon_43 : decode cX12_soon 43 = .ok (.iadd, 1) := by decide +kernel
theorem dX12_soon_44 : decode cX12_soon 44 = .ok (.invokevirtual 447, 3) := by decide +kernel
theorem dX12_soon_47 : decode cX12_soon 47 = .ok (.invokevirtual 450, 3) := by decide +kernel
theorem dX12_soon_50 : decode cX12_soon 50 = .ok (.iinc 2 1, 3) := by decide +kernel
theorem dX12_soon_53 : decode cX12_soon 53 = .ok (.goto (-33), 3) := by decide +kernel
theorem dX12_soon_56 : decode cX12_soon 56 = .ok (.bipush (-2), 2) := by decide +kernel
theorem dX12_soon_58 : decode cX12_soon 58 = .ok (.ireturn, 1) := by decide +kernel
def k_X12_soon_20 (X : CX) (T : List Dsc) (R : RM) (n1 n2 : Nat) (x1 : Int32) (r : ((Int32 × M2) ⊕ ((Int32 × M2) ⊕ (M2)))) : Prop := match r with
  | .inl s => Wp X cX12_soon RX12 3 T (mk s.2 R) n1 n2 20 [(0, .ref 56), (1, .int x1), (2, .int s.1)] []
  | .inr (.inl e) => Wp X cX12_soon RX12 3 T (mk e.2 R) n1 n2 34 [(2, .int e.1)] []
  | .inr (.inr e) => Wp X cX12_soon RX12 3 T (mk e R) n1 n2 56 [] []
set_option maxHeartbeats 4000000 in
set_option maxRecDepth 100000 in
theorem w_X12_soon_20 {X : CX} {T : List Dsc} {R : RM} {c e : Nat} {n1 n2 : Nat} {x1 : Int32} {x2 : Int32} {m : M2} {r : ((Int32 × M2) ⊕ ((Int32 × M2) ⊕ (M2)))} (hX : XR X 9 n1 n2) (hG : Geo T R c e) (hf : f_X12_soon_20 x1 x2 m = some r) (hk : k_X12_soon_20 X T R n1 n2 x1 r) : Wp X cX12_soon RX12 3 T (mk m R) n1 n2 20 [(0, .ref 56), (1, .int x1), (2, .int x2)] [] := by
  unfold f_X12_soon_20 at hf
  refine Wp.iload_n (pc := 20) 2 rfl rfl dX12_soon_20 ?_
  refine Wp.bipush (pc := 21) (100 : Int32) (by decide) dX12_soon_21 ?_
  refine Wp.icmp_gt (pc := 23) 56 dX12_soon_23 (by decide) (fun hc1 => ?_) (fun hc1 => ?_)
  · rw [if_pos hc1] at hf
    refine Wp.lo' (lo' := []) [] rfl ?_
    cases hf
    exact hk
  · rw [if_neg hc1] at hf
    refine Wp.aload_n (pc := 26) 0 rfl rfl dX12_soon_26 ?_
    obtain ⟨c2, h3, hf⟩ := bnd hf
    refine Wp.callVi (pc := 27) (st := []) (as := []) (c_X12_wayNow hG h3) ml_RX12_459 mv_X12_wayNow mb_X12_wayNow hX (Nat.le_of_ble_eq_true rfl) (by decide) rfl (hG.t 56 rfl) rfl (by simp) dX12_soon_27 rfl ?_
    refine Wp.iload_n (pc := 30) 1 rfl rfl dX12_soon_30 ?_
    refine Wp.icmp_lt (pc := 31) 36 dX12_soon_31 (by decide) (fun hc4 => ?_) (fun hc4 => ?_)
    · rw [if_pos hc4] at hf
      refine Wp.aload_n (pc := 36) 0 rfl rfl dX12_soon_36 ?_
      refine Wp.aload_n (pc := 37) 0 rfl rfl dX12_soon_37 ?_
      refine Wp.aload_n (pc := 38) 0 rfl rfl dX12_soon_38 ?_
      refine Wp.getI2 (pc := 39) (hG.t 56 rfl) fk_RX12_396 rfl dX12_soon_39 ?_
      refine Wp.iload_n (pc := 42) 2 rfl rfl dX12_soon_42 ?_
      refine Wp.iadd (pc := 43) dX12_soon_43 ?_
      obtain ⟨c5, h6, hf⟩ := bnd hf
      refine Wp.callVi (pc := 44) (st := [.ref 56]) (as := [.int ((hI c2.2 56 60) + x2)]) (c_X12_isFog hG h6) ml_RX12_447 mv_X12_isFog mb_X12_isFog hX (Nat.le_of_ble_eq_true rfl) (by decide) rfl (hG.t 56 rfl) rfl (by simp [Value.category]) dX12_soon_44 rfl ?_
      obtain ⟨c7, h8, hf⟩ := bnd hf
      refine Wp.callVv (pc := 47) (st := []) (as := [.int c5.1]) (c_X12_strikes hG h8) ml_RX12_450 mv_X12_strikes mb_X12_strikes hX (Nat.le_of_ble_eq_true rfl) (by decide) rfl (hG.t 56 rfl) rfl (by simp) dX12_soon_47 rfl ?_
      obtain ⟨v9, h10, hf⟩ := bnd hf
      refine Wp.iincN (pc := 50) (lo' := [(0, .ref 56), (1, .int x1), (2, .int v9)]) (1 : Int32) (by decide) h10 2 rfl [1, 2, 0] rfl (by decide) dX12_soon_50 ?_
      refine Wp.goto (pc := 53) 20 dX12_soon_53 (by decide) ?_
      cases hf
      exact hk
    · rw [if_neg hc4] at hf
      refine Wp.lo' (lo' := [(2, .int x2)]) [2] rfl ?_
      cases hf
      exact hk
theorem wl_X12_soon_20 {X : CX} {T : List Dsc} {R : RM} {c e : Nat} {n1 n2 : Nat} {x1 : Int32} {x2 : Int32} {m : M2} {e1 : ((Int32 × M2) ⊕ (M2))} (hX : XR X 9 n1 n2) (hG : Geo T R c e) (h : loop (g_X12_soon_20 x1) (x2, m) = some e1) (he0 : ∀ e_, e1 = (Sum.inl e_) → Wp X cX12_soon RX12 3 T (mk e_.2 R) n1 n2 34 [(2, .int e_.1)] []) (he1 : ∀ e_, e1 = (Sum.inr e_) → Wp X cX12_soon RX12 3 T (mk e_ R) n1 n2 56 [] []) : Wp X cX12_soon RX12 3 T (mk m R) n1 n2 20 [(0, .ref 56), (1, .int x1), (2, .int x2)] [] :=
  loop_ok (K := k_X12_soon_20 X T R n1 n2 x1) (fun s r hf hk => w_X12_soon_20 hX hG hf hk) h (by rcases e1 with e_ | e_ <;> first | exact he0 _ rfl | exact he1 _ rfl)
set_option maxHeartbeats 4000000 in
set_option maxRecDepth 100000 in
theorem w_X12_soon {X : CX} {T : List Dsc} {R : RM} {c e : Nat} {n1 n2 : Nat} {x1 : Int32} {m : M2} {r : (Int32 × M2)} (hX : XR X 9 n1 n2) (hG : Geo T R c e) (hf : F_X12_soon x1 m = some r) (hk : FnI X cX12_soon RX12 3 T n1 n2 (r.1, mk r.2 R)) : Wp X cX12_soon RX12 3 T (mk m R) n1 n2 0 [(0, .ref 56), (1, .int x1)] [] := by
  unfold F_X12_soon at hf
  refine Wp.iload_n (pc := 0) 1 rfl rfl dX12_soon_0 ?_
  refine Wp.iconst (pc := 1) (1 : Int32) (by decide) dX12_soon_1 ?_
  refine Wp.aload_n (pc := 2) 0 rfl rfl dX12_soon_2 ?_
  obtain ⟨c1, h2, hf⟩ := bnd hf
  refine Wp.callVi (pc := 3) (st := [.int (1 : Int32), .int x1]) (as := []) (c_X12_menNow hG h2) ml_RX12_390 mv_X12_menNow mb_X12_menNow hX (Nat.le_of_ble_eq_true rfl) (by decide) rfl (hG.t 56 rfl) rfl (by simp [Value.category]) dX12_soon_3 rfl ?_
  obtain ⟨c3, h4, hf⟩ := bnd hf
  refine Wp.callSi (pc := 6) (st := []) (as := [.int x1, .int (1 : Int32), .int c1.1]) (c_X12_in hG h4) ml_RX12_414 ms_X12_in mb_X12_in hX (Nat.le_of_ble_eq_true rfl) (by decide) rfl (by simp) dX12_soon_6 rfl ?_
  refine Wp.if_ne (pc := 9) 14 dX12_soon_9 (by decide) (fun hc5 => ?_) (fun hc5 => ?_)
  · rw [if_neg hc5] at hf
    refine Wp.aload_n (pc := 14) 0 rfl rfl dX12_soon_14 ?_
    obtain ⟨c6, h7, hf⟩ := bnd hf
    refine Wp.callVv (pc := 15) (st := []) (as := []) (c_X12_takes hG h7) ml_RX12_444 mv_X12_takes mb_X12_takes hX (Nat.le_of_ble_eq_true rfl) (by decide) rfl (hG.t 56 rfl) rfl (by simp) dX12_soon_15 rfl ?_
    refine Wp.iconst (pc := 18) (0 : Int32) (by decide) dX12_soon_18 ?_
    refine Wp.istore_n (pc := 19) (lo' := [(0, .ref 56), (1, .int x1), (2, .int (0 : Int32))]) [1, 2, 0] rfl (by decide) rfl dX12_soon_19 ?_
    obtain ⟨e8, h9, hf⟩ := bnd hf
    refine wl_X12_soon_20 hX hG h9 (fun e8_0 hq => ?_) (fun e8_1 hq => ?_)
    · rw [hq, Sum.elim_inl] at hf
      refine Wp.iload_n (pc := 34) 0 rfl rfl dX12_soon_34 ?_
      cases hf
      exact hk _ _ dX12_soon_35
    · rw [hq, Sum.elim_inr] at hf
      refine Wp.bipush (pc := 56) (-2 : Int32) (by decide) dX12_soon_56 ?_
      cases hf
      exact hk _ _ dX12_soon_58
  · rw [if_pos hc5] at hf
    refine Wp.iconst (pc := 12) (-1 : Int32) (by decide) dX12_soon_12 ?_
    cases hf
    exact hk _ _ dX12_soon_13
theorem c_X12_soon {T : List Dsc} {R : RM} {c e : Nat} {x1 : Int32} {m : M2} {r : (Int32 × M2)} (hG : Geo T R c e) (hf : F_X12_soon x1 m = some r) : Ct 9 yX12_soon cX12_soon 3 (some .int) T (mk m R) [.ref 56, .int x1] (some (.int r.1)) (mk r.2 R) := Ct.ofI (r := (r.1, mk r.2 R)) (by decide +kernel) (Nat.le_of_ble_eq_true rfl) (fun X hX hk => w_X12_soon hX hG hf hk)
theorem dX12_rubs_0 : decode cX12_rubs 0 = .ok (.iload_n 1, 1) := by decide +kernel
theorem dX12_rubs_1 : decode cX12_rubs 1 = .ok (.iconst 1, 1) := by decide +kernel
theorem dX12_rubs_2 : decode cX12_rubs 2 = .ok (.bipush 100, 2) := by decide +kernel
theorem dX12_rubs_4 : decode cX12_rubs 4 = .ok (.invokestatic 414, 3) := by decide +kernel
theorem dX12_rubs_7 : decode cX12_rubs 7 = .ok (.ifCond .ne 5, 3) := by decide +kernel
theorem dX12_rubs_10 : decode cX12_rubs 10 = .ok (.iconst (-1), 1) := by decide +kernel
theorem dX12_rubs_11 : decode cX12_rubs 11 = .ok (.ireturn, 1) := by decide +kernel
theorem dX12_rubs_12 : decode cX12_rubs 12 = .ok (.aload_n 0, 1) := by decide +kernel
theorem dX12_rubs_13 : decode cX12_rubs 13 = .ok (.invokevirtual 444, 3) := by decide +kernel
theorem dX12_rubs_16 : decode cX12_rubs 16 = .ok (.iconst 0, 1) := by decide +kernel
theorem dX12_rubs_17 : decode cX12_rubs 17 = .ok (.istore_n 2, 1) := by decide +kernel
theorem dX12_rubs_18 : decode cX12_rubs 18 = .ok (.iload_n 2, 1) := by decide +kernel
theorem dX12_rubs_19 : decode cX12_rubs 19 = .ok (.bipush 12, 2) := by decide +kernel
theorem dX12_rubs_21 : decode cX12_rubs 21 = .ok (.if_icmp .ge 16, 3) := by decide +kernel
theorem dX12_rubs_24 : decode cX12_rubs 24 = .ok (.aload_n 0, 1) := by decide +kernel
theorem dX12_rubs_25 : decode cX12_rubs 25 = .ok (.getfield 155, 3) := by decide +kernel
theorem dX12_rubs_28 : decode cX12_rubs 28 = .ok (.iload_n 2, 1) := by decide +kernel
theorem dX12_rubs_29 : decode cX12_rubs 29 = .ok (.iconst 0, 1) := by decide +kernel
theorem dX12_rubs_30 : decode cX12_rubs 30 = .ok (.iastore, 1) := by decide +kernel
theorem dX12_rubs_31 : decode cX12_rubs 31 = .ok (.iinc 2 1, 3) := by decide +kernel
theorem dX12_rubs_34 : decode cX12_rubs 34 = .ok (.goto (-16), 3) := by decide +kernel
theorem dX12_rubs_37 : decode cX12_rubs 37 = .ok (.iconst 0, 1) := by decide +kernel
theorem dX12_rubs_38 : decode cX12_rubs 38 = .ok (.istore_n 2, 1) := by decide +kernel
theorem dX12_rubs_39 : decode cX12_rubs 39 = .ok (.iload_n 2, 1) := by decide +kernel
theorem dX12_rubs_40 : decode cX12_rubs 40 = .ok (.iload_n 1, 1) := by decide +kernel
theorem dX12_rubs_41 : decode cX12_rubs 41 = .ok (.if_icmp .ge 60, 3) := by decide +kernel
theorem dX12_rubs_44 : decode cX12_rubs 44 = .ok (.aload_n 0, 1) := by decide +kernel
theorem dX12_rubs_45 : decode cX12_rubs 45 = .ok (.aload_n 0, 1) := by decide +kernel
theorem dX12_rubs_46 : decode cX12_rubs 46 = .ok (.aload_n 0, 1) := by decide +kernel
theorem dX12_rubs_47 : decode cX12_rubs 47 = .ok (.getfield 396, 3) := by decide +kernel
theorem dX12_rubs_50 : decode cX12_rubs 50 = .ok (.iload_n 2, 1) := by decide +kernel
theorem dX12_rubs_51 : decode cX12_rubs 51 = .ok (.iadd, 1) := by decide +kernel
theorem dX12_rubs_52 : decode cX12_rubs 52 = .ok (.invokevirtual 447, 3) := by decide +kernel
theorem dX12_rubs_55 : decode cX12_rubs 55 = .ok (.invokevirtual 450, 3) := by decide +kernel
theorem dX12_rubs_58 : decode cX12_rubs 58 = .ok (.aload_n 0, 1) := by decide +kernel
theorem dX12_rubs_59 : decode cX12_rubs 59 = .ok (.invokevirtual 453, 3) := by decide +kernel
theorem dX12_rubs_62 : decode cX12_rubs 62 = .ok (.istore_n 3, 1) := by decide +kernel
theorem dX12_rubs_63 : decode cX12_rubs 63 = .ok (.iconst 0, 1) := by decide +kernel
theorem dX12_rubs_64 : decode cX12_rubs 64 = .ok (.istore 4, 2) := by decide +kernel
theorem dX12_rubs_66 : decode cX12_rubs 66 = .ok (.iload 4, 2) := by decide +kernel
theorem dX12_rubs_68 : decode cX12_rubs 68 = .ok (.bipush 12, 2) := by decide +kernel
theorem dX12_rubs_70 : decode cX12_rubs 70 = .ok (.if_icmp .ge 25, 3) := by decide +kernel
theorem dX12_rubs_73 : decode cX12_rubs 73 = .ok (.aload_n 0, 1) := by decide +kernel
theorem dX12_rubs_74 : decode cX12_rubs 74 = .ok (.getfield 155, 3) := by decide +kernel
theorem dX12_rubs_77 : decode cX12_rubs 77 = .ok (.iload 4, 2) := by decide +kernel
theorem dX12_rubs_79 : decode cX12_rubs 79 = .ok (.dup2, 1) := by decide +kernel
theorem dX12_rubs_80 : decode cX12_rubs 80 = .ok (.iaload, 1) := by decide +kernel
theorem dX12_rubs_81 : decode cX12_rubs 81 = .ok (.iload_n 3, 1) := by decide +kernel
theorem dX12_rubs_82 : decode cX12_rubs 82 = .ok (.iload 4, 2) := by decide +kernel
theorem dX12_rubs_84 : decode cX12_rubs 84 = .ok (.ishr, 1) := by decide +kernel
theorem dX12_rubs_85 : decode cX12_rubs 85 = .ok (.iconst 1, 1) := by decide +kernel
theorem dX12_rubs_86 : decode cX12_rubs 86 = .ok (.iand, 1) := by decide +kernel
theorem dX12_rubs_87 : decode cX12_rubs 87 = .ok (.iadd, 1) := by decide +kernel
theorem dX12_rubs_88 : decode cX12_rubs 88 = .ok (.iastore, 1) := by decide +kernel
theorem dX12_rubs_89 : decode cX12_rubs 89 = .ok (.iinc 4 1, 3) := by decide +kernel
theorem dX12_rubs_92 : decode cX12_rubs 92 = .ok (.goto (-26), 3) := by decide +kernel
theorem dX12_rubs_95 : decode cX12_rubs 95 = .ok (.iinc 2 1, 3) := by decide +kernel
theorem dX12_rubs_98 : decode cX12_rubs 98 = .ok (.goto (-59), 3) := by decide +kernel
theorem dX12_rubs_101 : decode cX12_rubs 101 = .ok (.bipush (-2), 2) := by decide +kernel
theorem dX12_rubs_103 : decode cX12_rubs 103 = .ok (.istore_n 2, 1) := by decide +kernel
theorem dX12_rubs_104 : decode cX12_rubs 104 = .ok (.iconst 1, 1) := by decide +kernel
theorem dX12_rubs_105 : decode cX12_rubs 105 = .ok (.istore_n 3, 1) := by decide +kernel
theorem dX12_rubs_106 : decode cX12_rubs 106 = .ok (.iload_n 3, 1) := by decide +kernel
theorem dX12_rubs_107 : decode cX12_rubs 107 = .ok (.aload_n 0, 1) := by decide +kernel
theorem dX12_rubs_108 : decode cX12_rubs 108 = .ok (.invokevirtual 390, 3) := by decide +kernel
theorem dX12_rubs_111 : decode cX12_rubs 111 = .ok (.if_icmp .ge 39, 3) := by decide +kernel
theorem dX12_rubs_114 : decode cX12_rubs 114 = .ok (.aload_n 0, 1) := by decide +kernel
theorem dX12_rubs_115 : decode cX12_rubs 115 = .ok (.getfield 155, 3) := by decide +kernel
theorem dX12_rubs_118 : decode cX12_rubs 118 = .ok (.iload_n 3, 1) := by decide +kernel
theorem dX12_rubs_119 : decode cX12_rubs 119 = .ok (.iaload, 1) := by decide +kernel
theorem dX12_rubs_120 : decode cX12_rubs 120 = .ok (.ifCond .le 24, 3) := by decide +kernel
theorem dX12_rubs_123 : decode cX12_rubs 123 = .ok (.iload_n 2, 1) := by decide +kernel
theorem dX12_rubs_124 : decode cX12_rubs 124 = .ok (.ifCond .lt 18, 3) := by decide +kernel
theorem dX12_rubs_127 : decode cX12_rubs 127 = .ok (.aload_n 0, 1) := by decide +kernel
theorem dX12_rubs_128 : decode cX12_rubs 128 = .ok (.getfield 155, 3) := by decide +kernel
theorem dX12_rubs_131 : decode cX12_rubs 131 = .ok (.iload_n 3, 1) := by decide +kernel
theorem dX12_rubs_132 : decode cX12_rubs 132 = .ok (.iaload, 1) := by decide +kernel
theorem dX12_rubs_133 : decode cX12_rubs 133 = .ok (.aload_n 0, 1) := by decide +kernel
theorem dX12_rubs_134 : decode cX12_rubs 134 = .ok (.getfield 155, 3) := by decide +kernel
theorem dX12_rubs_137 : decode cX12_rubs 137 = .ok (.iload_n 2, 1) := by decide +kernel
theorem dX12_rubs_138 : decode cX12_rubs 138 = .ok (.iaload, 1) := by decide +kernel
theorem dX12_rubs_139 : decode cX12_rubs 139 = .ok (.if_icmp .le 5, 3) := by decide +kernel
theorem dX12_rubs_142 : decode cX12_rubs 142 = .ok (.iload_n 3, 1) := by decide +kernel
theorem dX12_rubs_143 : decode cX12_rubs 143 = .ok (.istore_n 2, 1) := by decide +kernel
theorem dX12_rubs_144 : decode cX12_rubs 144 = .ok (.iinc 3 1, 3) := by decide +kernel
theorem dX12_rubs_147 : decode cX12_rubs 147 = .ok (.goto (-41), 3) := by decide +kernel
theorem dX12_rubs_150 : decode cX12_rubs 150 = .ok (.iload_n 2, 1) := by decide +kernel
theorem dX12_rubs_151 : decode cX12_rubs 151 = .ok (.ireturn, 1) := by decide +kernel
def k_X12_rubs_18 (X : CX) (T : List Dsc) (R : RM) (n1 n2 : Nat) (x1 : Int32) (r : ((Int32 × M2) ⊕ ((M2)))) : Prop := match r with
  | .inl s => Wp X cX12_rubs RX12 5 T (mk s.2 R) n1 n2 18 [(0, .ref 56), (1, .int x1), (2, .int s.1)] []
  | .inr e => Wp X cX12_rubs RX12 5 T (mk e R) n1 n2 37 [(0, .ref 56), (1, .int x1)] []
def k_X12_rubs_66 (X : CX) (T : List Dsc) (R : RM) (n1 n2 : Nat) (x1 : Int32) (x2 : Int32) (x3 : Int32) (r : ((Int32 × M2) ⊕ ((M2)))) : Prop := match r with
  | .inl s => Wp X cX12_rubs RX12 5 T (mk s.2 R) n1 n2 66 [(0, .ref 56), (1, .int x1), (2, .int x2), (3, .int x3), (4, .int s.1)] []
  | .inr e => Wp X cX12_rubs RX12 5 T (mk e R) n1 n2 95 [(0, .ref 56), (1, .int x1), (2, .int x2)] []
def k_X12_rubs_39 (X : CX) (T : List Dsc) (R : RM) (n1 n2 : Nat) (x1 : Int32) (r : ((Int32 × M2) ⊕ ((M2)))) : Prop := match r with
  | .inl s => Wp X cX12_rubs RX12 5 T (mk s.2 R) n1 n2 39 [(0, .ref 56), (1, .int x1), (2, .int s.1)] []
  | .inr e => Wp X cX12_rubs RX12 5 T (mk e R) n1 n2 101 [(0, .ref 56)] []
def k_X12_rubs_106 (X : CX) (T : List Dsc) (R : RM) (n1 n2 : Nat) (r : ((Int32 × Int32 × M2) ⊕ ((Int32 × M2)))) : Prop := match r with
  | .inl s => Wp X cX12_rubs RX12 5 T (mk s.2.2 R) n1 n2 106 [(0, .ref 56), (2, .int s.1), (3, .int s.2.1)] []
  | .inr e => Wp X cX12_rubs RX12 5 T (mk e.2 R) n1 n2 150 [(2, .int e.1)] []
set_option maxHeartbeats 4000000 in
set_option maxRecDepth 100000 in
theorem w_X12_rubs_18 {X : CX} {T : List Dsc} {R : RM} {c e : Nat} {n1 n2 : Nat} {x1 : Int32} {x2 : Int32} {m : M2} {r : ((Int32 × M2) ⊕ ((M2)))} (hX : XR X 9 n1 n2) (hG : Geo T R c e) (hf : f_X12_rubs_18 x1 x2 m = some r) (hk : k_X12_rubs_18 X T R n1 n2 x1 r) : Wp X cX12_rubs RX12 5 T (mk m R) n1 n2 18 [(0, .ref 56), (1, .int x1), (2, .int x2)] [] := by
  unfold f_X12_rubs_18 at hf
  refine Wp.iload_n (pc := 18) 2 rfl rfl dX12_rubs_18 ?_
  refine Wp.bipush (pc := 19) (12 : Int32) (by decide) dX12_rubs_19 ?_
  refine Wp.icmp_ge (pc := 21) 37 dX12_rubs_21 (by decide) (fun hc1 => ?_) (fun hc1 => ?_)
  · rw [if_pos hc1] at hf
    refine Wp.lo' (lo' := [(0, .ref 56), (1, .int x1)]) [0, 1] rfl ?_
    cases hf
    exact hk
  · rw [if_neg hc1] at hf
    refine Wp.aload_n (pc := 24) 0 rfl rfl dX12_rubs_24 ?_
    refine Wp.getR2 (pc := 25) (hG.r 56 72 rfl) (hG.t 56 rfl) fk_RX12_155 rfl dX12_rubs_25 ?_
    refine Wp.iload_n (pc := 28) 2 rfl rfl dX12_rubs_28 ?_
    refine Wp.iconst (pc := 29) (0 : Int32) (by decide) dX12_rubs_29 ?_
    obtain ⟨m2, h3, hf⟩ := bnd hf
    refine Wp.iast2 (pc := 30) h3 (hG.a 102 0 rfl) dX12_rubs_30 ?_
    obtain ⟨v4, h5, hf⟩ := bnd hf
    refine Wp.iincN (pc := 31) (lo' := [(0, .ref 56), (1, .int x1), (2, .int v4)]) (1 : Int32) (by decide) h5 2 rfl [1, 2, 0] rfl (by decide) dX12_rubs_31 ?_
    refine Wp.goto (pc := 34) 18 dX12_rubs_34 (by decide) ?_
    cases hf
    exact hk
theorem wl_X12_rubs_18 {X : CX} {T : List Dsc} {R : RM} {c e : Nat} {n1 n2 : Nat} {x1 : Int32} {x2 : Int32} {m : M2} {e1 : ((M2))} (hX : XR X 9 n1 n2) (hG : Geo T R c e) (h : loop (g_X12_rubs_18 x1) (x2, m) = some e1) (he : Wp X cX12_rubs RX12 5 T (mk e1 R) n1 n2 37 [(0, .ref 56), (1, .int x1)] []) : Wp X cX12_rubs RX12 5 T (mk m R) n1 n2 18 [(0, .ref 56), (1, .int x1), (2, .int x2)] [] :=
  loop_ok (K := k_X12_rubs_18 X T R n1 n2 x1) (fun s r hf hk => w_X12_rubs_18 hX hG hf hk) h he
set_option maxHeartbeats 4000000 in
set_option maxRecDepth 100000 in
theorem w_X12_rubs_66 {X : CX} {T : List Dsc} {R : RM} {c e : Nat} {n1 n2 : Nat} {x1 : Int32} {x2 : Int32} {x3 : Int32} {x4 : Int32} {m : M2} {r : ((Int32 × M2) ⊕ ((M2)))} (hX : XR X 9 n1 n2) (hG : Geo T R c e) (hf : f_X12_rubs_66 x1 x2 x3 x4 m = some r) (hk : k_X12_rubs_66 X T R n1 n2 x1 x2 x3 r) : Wp X cX12_rubs RX12 5 T (mk m R) n1 n2 66 [(0, .ref 56), (1, .int x1), (2, .int x2), (3, .int x3), (4, .int x4)] [] := by
  unfold f_X12_rubs_66 at hf
  refine Wp.iload (pc := 66) 4 rfl dX12_rubs_66 ?_
  refine Wp.bipush (pc := 68) (12 : Int32) (by decide) dX12_rubs_68 ?_
  refine Wp.icmp_ge (pc := 70) 95 dX12_rubs_70 (by decide) (fun hc1 => ?_) (fun hc1 => ?_)
  · rw [if_pos hc1] at hf
    refine Wp.lo' (lo' := [(0, .ref 56), (1, .int x1), (2, .int x2)]) [0, 1, 2] rfl ?_
    cases hf
    exact hk
  · rw [if_neg hc1] at hf
    refine Wp.aload_n (pc := 73) 0 rfl rfl dX12_rubs_73 ?_
    refine Wp.getR2 (pc := 74) (hG.r 56 72 rfl) (hG.t 56 rfl) fk_RX12_155 rfl dX12_rubs_74 ?_
    refine Wp.iload (pc := 77) 4 rfl dX12_rubs_77 ?_
    refine Wp.dup2 (pc := 79) rfl rfl dX12_rubs_79 ?_
    obtain ⟨v2, h3, hf⟩ := bnd hf
    refine Wp.iald2 (pc := 80) h3 (hG.a 102 0 rfl) dX12_rubs_80 ?_
    refine Wp.iload_n (pc := 81) 3 rfl rfl dX12_rubs_81 ?_
    refine Wp.iload (pc := 82) 4 rfl dX12_rubs_82 ?_
    refine Wp.ishr (pc := 84) dX12_rubs_84 ?_
    refine Wp.iconst (pc := 85) (1 : Int32) (by decide) dX12_rubs_85 ?_
    refine Wp.iand (pc := 86) dX12_rubs_86 ?_
    refine Wp.iadd (pc := 87) dX12_rubs_87 ?_
    obtain ⟨m4, h5, hf⟩ := bnd hf
    refine Wp.iast2 (pc := 88) h5 (hG.a 102 0 rfl) dX12_rubs_88 ?_
    obtain ⟨v6, h7, hf⟩ := bnd hf
    refine Wp.iincN (pc := 89) (lo' := [(0, .ref 56), (1, .int x1), (2, .int x2), (3, .int x3), (4, .int v6)]) (1 : Int32) (by decide) h7 4 rfl [1, 2, 3, 4, 0] rfl (by decide) dX12_rubs_89 ?_
    refine Wp.goto (pc := 92) 66 dX12_rubs_92 (by decide) ?_
    cases hf
    exact hk
theorem wl_X12_rubs_66 {X : CX} {T : List Dsc} {R : RM} {c e : Nat} {n1 n2 : Nat} {x1 : Int32} {x2 : Int32} {x3 : Int32} {x4 : Int32} {m : M2} {e1 : ((M2))} (hX : XR X 9 n1 n2) (hG : Geo T R c e) (h : loop (g_X12_rubs_66 x1 x2 x3) (x4, m) = some e1) (he : Wp X cX12_rubs RX12 5 T (mk e1 R) n1 n2 95 [(0, .ref 56), (1, .int x1), (2, .int x2)] []) : Wp X cX12_rubs RX12 5 T (mk m R) n1 n2 66 [(0, .ref 56), (1, .int x1), (2, .int x2), (3, .int x3), (4, .int x4)] [] :=
  loop_ok (K := k_X12_rubs_66 X T R n1 n2 x1 x2 x3) (fun s r hf hk => w_X12_rubs_66 hX hG hf hk) h he
set_option maxHeartbeats 4000000 in
set_option maxRecDepth 100000 in
theorem w_X12_rubs_39 {X : CX} {T : List Dsc} {R : RM} {c e : Nat} {n1 n2 : Nat} {x1 : Int32} {x2 : Int32} {m : M2} {r : ((Int32 × M2) ⊕ ((M2)))} (hX : XR X 9 n1 n2) (hG : Geo T R c e) (hf : f_X12_rubs_39 x1 x2 m = some r) (hk : k_X12_rubs_39 X T R n1 n2 x1 r) : Wp X cX12_rubs RX12 5 T (mk m R) n1 n2 39 [(0, .ref 56), (1, .int x1), (2, .int x2)] [] := by
  unfold f_X12_rubs_39 at hf
  refine Wp.iload_n (pc := 39) 2 rfl rfl dX12_rubs_39 ?_
  refine Wp.iload_n (pc := 40) 1 rfl rfl dX12_rubs_40 ?_
  refine Wp.icmp_ge (pc := 41) 101 dX12_rubs_41 (by decide) (fun hc1 => ?_) (fun hc1 => ?_)
  · rw [if_pos hc1] at hf
    refine Wp.lo' (lo' := [(0, .ref 56)]) [0] rfl ?_
    cases hf
    exact hk
  · rw [if_neg hc1] at hf
    refine Wp.aload_n (pc := 44) 0 rfl rfl dX12_rubs_44 ?_
    refine Wp.aload_n (pc := 45) 0 rfl rfl dX12_rubs_45 ?_
    refine Wp.aload_n (pc := 46) 0 rfl rfl dX12_rubs_46 ?_
    refine Wp.getI2 (pc := 47) (hG.t 56 rfl) fk_RX12_396 rfl dX12_rubs_47 ?_
    refine Wp.iload_n (pc := 50) 2 rfl rfl dX12_rubs_50 ?_
    refine Wp.iadd (pc := 51) dX12_rubs_51 ?_
    obtain ⟨c2, h3, hf⟩ := bnd hf
    refine Wp.callVi (pc := 52) (st := [.ref 56]) (as := [.int ((hI m 56 60) + x2)]) (c_X12_isFog hG h3) ml_RX12_447 mv_X12_isFog mb_X12_isFog hX (Nat.le_of_ble_eq_true rfl) (by decide) rfl (hG.t 56 rfl) rfl (by simp [Value.category]) dX12_rubs_52 rfl ?_
    obtain ⟨c4, h5, hf⟩ := bnd hf
    refine Wp.callVv (pc := 55) (st := []) (as := [.int c2.1]) (c_X12_strikes hG h5) ml_RX12_450 mv_X12_strikes mb_X12_strikes hX (Nat.le_of_ble_eq_true rfl) (by decide) rfl (hG.t 56 rfl) rfl (by simp) dX12_rubs_55 rfl ?_
    refine Wp.aload_n (pc := 58) 0 rfl rfl dX12_rubs_58 ?_
    obtain ⟨c6, h7, hf⟩ := bnd hf
    refine Wp.callVi (pc := 59) (st := []) (as := []) (c_X12_clashesNow hG h7) ml_RX12_453 mv_X12_clashesNow mb_X12_clashesNow hX (Nat.le_of_ble_eq_true rfl) (by decide) rfl (hG.t 56 rfl) rfl (by simp) dX12_rubs_59 rfl ?_
    refine Wp.istore_n (pc := 62) (lo' := [(0, .ref 56), (1, .int x1), (2, .int x2), (3, .int c6.1)]) [1, 2, 3, 0] rfl (by decide) rfl dX12_rubs_62 ?_
    refine Wp.iconst (pc := 63) (0 : Int32) (by decide) dX12_rubs_63 ?_
    refine Wp.istore (pc := 64) (lo' := [(0, .ref 56), (1, .int x1), (2, .int x2), (3, .int c6.1), (4, .int (0 : Int32))]) [1, 2, 3, 4, 0] rfl (by decide) dX12_rubs_64 ?_
    obtain ⟨e8, h9, hf⟩ := bnd hf
    refine wl_X12_rubs_66 hX hG h9 ?_
    obtain ⟨v10, h11, hf⟩ := bnd hf
    refine Wp.iincN (pc := 95) (lo' := [(0, .ref 56), (1, .int x1), (2, .int v10)]) (1 : Int32) (by decide) h11 2 rfl [1, 2, 0] rfl (by decide) dX12_rubs_95 ?_
    refine Wp.goto (pc := 98) 39 dX12_rubs_98 (by decide) ?_
    cases hf
    exact hk
theorem wl_X12_rubs_39 {X : CX} {T : List Dsc} {R : RM} {c e : Nat} {n1 n2 : Nat} {x1 : Int32} {x2 : Int32} {m : M2} {e1 : ((M2))} (hX : XR X 9 n1 n2) (hG : Geo T R c e) (h : loop (g_X12_rubs_39 x1) (x2, m) = some e1) (he : Wp X cX12_rubs RX12 5 T (mk e1 R) n1 n2 101 [(0, .ref 56)] []) : Wp X cX12_rubs RX12 5 T (mk m R) n1 n2 39 [(0, .ref 56), (1, .int x1), (2, .int x2)] [] :=
  loop_ok (K := k_X12_rubs_39 X T R n1 n2 x1) (fun s r hf hk => w_X12_rubs_39 hX hG hf hk) h he
set_option maxHeartbeats 4000000 in
set_option maxRecDepth 100000 in
theorem w_X12_rubs_144 {X : CX} {T : List Dsc} {R : RM} {c e : Nat} {n1 n2 : Nat} {x2 : Int32} {x3 : Int32} {m : M2} {r : ((Int32 × Int32 × M2) ⊕ ((Int32 × M2)))} (hX : XR X 9 n1 n2) (hG : Geo T R c e) (hf : f_X12_rubs_144 x2 x3 m = some r) (hk : k_X12_rubs_106 X T R n1 n2 r) : Wp X cX12_rubs RX12 5 T (mk m R) n1 n2 144 [(0, .ref 56), (2, .int x2), (3, .int x3)] [] := by
  unfold f_X12_rubs_144 at hf
  obtain ⟨v1, h2, hf⟩ := bnd hf
  refine Wp.iincN (pc := 144) (lo' := [(0, .ref 56), (2, .int x2), (3, .int v1)]) (1 : Int32) (by decide) h2 2 rfl [1, 2, 0] rfl (by decide) dX12_rubs_144 ?_
  refine Wp.goto (pc := 147) 106 dX12_rubs_147 (by decide) ?_
  cases hf
  exact hk
set_option maxHeartbeats 4000000 in
set_option maxRecDepth 100000 in
theorem w_X12_rubs_142 {X : CX} {T : List Dsc} {R : RM} {c e : Nat} {n1 n2 : Nat} {x3 : Int32} {m : M2} {r : ((Int32 × Int32 × M2) ⊕ ((Int32 × M2)))} (hX : XR X 9 n1 n2) (hG : Geo T R c e) (hf : f_X12_rubs_142 x3 m = some r) (hk : k_X12_rubs_106 X T R n1 n2 r) : Wp X cX12_rubs RX12 5 T (mk m R) n1 n2 142 [(0, .ref 56), (3, .int x3)] [] := by
  unfold f_X12_rubs_142 at hf
  refine Wp.iload_n (pc := 142) 1 rfl rfl dX12_rubs_142 ?_
  refine Wp.istore_n (pc := 143) (lo' := [(0, .ref 56), (2, .int x3), (3, .int x3)]) [1, 0, 2] rfl (by decide) rfl dX12_rubs_143 ?_
  exact w_X12_rubs_144 hX hG hf hk
set_option maxHeartbeats 4000000 in
set_option maxRecDepth 100000 in
theorem w_X12_rubs_106 {X : CX} {T : List Dsc} {R : RM} {c e : Nat} {n1 n2 : Nat} {x2 : Int32} {x3 : Int32} {m : M2} {r : ((Int32 × Int32 × M2) ⊕ ((Int32 × M2)))} (hX : XR X 9 n1 n2) (hG : Geo T R c e) (hf : f_X12_rubs_106 x2 x3 m = some r) (hk : k_X12_rubs_106 X T R n1 n2 r) : Wp X cX12_rubs RX12 5 T (mk m R) n1 n2 106 [(0, .ref 56), (2, .int x2), (3, .int x3)] [] := by
  unfold f_X12_rubs_106 at hf
  refine Wp.iload_n (pc := 106) 2 rfl rfl dX12_rubs_106 ?_
  refine Wp.aload_n (pc := 107) 0 rfl rfl dX12_rubs_107 ?_
  obtain ⟨c1, h2, hf⟩ := bnd hf
  refine Wp.callVi (pc := 108) (st := [.int x3]) (as := []) (c_X12_menNow hG h2) ml_RX12_390 mv_X12_menNow mb_X12_menNow hX (Nat.le_of_ble_eq_true rfl) (by decide) rfl (hG.t 56 rfl) rfl (by simp [Value.category]) dX12_rubs_108 rfl ?_
  refine Wp.icmp_ge (pc := 111) 150 dX12_rubs_111 (by decide) (fun hc3 => ?_) (fun hc3 => ?_)
  · rw [if_pos hc3] at hf
    refine Wp.lo' (lo' := [(2, .int x2)]) [1] rfl ?_
    cases hf
    exact hk
  · rw [if_neg hc3] at hf
    refine Wp.aload_n (pc := 114) 0 rfl rfl dX12_rubs_114 ?_
    refine Wp.getR2 (pc := 115) (hG.r 56 72 rfl) (hG.t 56 rfl) fk_RX12_155 rfl dX12_rubs_115 ?_
    refine Wp.iload_n (pc := 118) 2 rfl rfl dX12_rubs_118 ?_
    obtain ⟨v4, h5, hf⟩ := bnd hf
    refine Wp.iald2 (pc := 119) h5 (hG.a 102 0 rfl) dX12_rubs_119 ?_
    refine Wp.if_le (pc := 120) 144 dX12_rubs_120 (by decide) (fun hc6 => ?_) (fun hc6 => ?_)
    · rw [if_pos hc6] at hf
      exact w_X12_rubs_144 hX hG hf hk
    · rw [if_neg hc6] at hf
      refine Wp.iload_n (pc := 123) 1 rfl rfl dX12_rubs_123 ?_
      refine Wp.if_lt (pc := 124) 142 dX12_rubs_124 (by decide) (fun hc7 => ?_) (fun hc7 => ?_)
      · rw [if_pos hc7] at hf
        refine Wp.lo' (lo' := [(0, .ref 56), (3, .int x3)]) [0, 2] rfl ?_
        exact w_X12_rubs_142 hX hG hf hk
      · rw [if_neg hc7] at hf
        refine Wp.aload_n (pc := 127) 0 rfl rfl dX12_rubs_127 ?_
        refine Wp.getR2 (pc := 128) (hG.r 56 72 rfl) (hG.t 56 rfl) fk_RX12_155 rfl dX12_rubs_128 ?_
        refine Wp.iload_n (pc := 131) 2 rfl rfl dX12_rubs_131 ?_
        obtain ⟨v8, h9, hf⟩ := bnd hf
        refine Wp.iald2 (pc := 132) h9 (hG.a 102 0 rfl) dX12_rubs_132 ?_
        refine Wp.aload_n (pc := 133) 0 rfl rfl dX12_rubs_133 ?_
        refine Wp.getR2 (pc := 134) (hG.r 56 72 rfl) (hG.t 56 rfl) fk_RX12_155 rfl dX12_rubs_134 ?_
        refine Wp.iload_n (pc := 137) 1 rfl rfl dX12_rubs_137 ?_
        obtain ⟨v10, h11, hf⟩ := bnd hf
        refine Wp.iald2 (pc := 138) h11 (hG.a 102 0 rfl) dX12_rubs_138 ?_
        refine Wp.icmp_le (pc := 139) 144 dX12_rubs_139 (by decide) (fun hc12 => ?_) (fun hc12 => ?_)
        · rw [if_pos hc12] at hf
          exact w_X12_rubs_144 hX hG hf hk
        · rw [if_neg hc12] at hf
          refine Wp.lo' (lo' := [(0, .ref 56), (3, .int x3)]) [0, 2] rfl ?_
          exact w_X12_rubs_142 hX hG hf hk
theorem wl_X12_rubs_106 {X : CX} {T : List Dsc} {R : RM} {c e : Nat} {n1 n2 : Nat} {x2 : Int32} {x3 : Int32} {m : M2} {e1 : ((Int32 × M2))} (hX : XR X 9 n1 n2) (hG : Geo T R c e) (h : loop (g_X12_rubs_106) (x2, x3, m) = some e1) (he : Wp X cX12_rubs RX12 5 T (mk e1.2 R) n1 n2 150 [(2, .int e1.1)] []) : Wp X cX12_rubs RX12 5 T (mk m R) n1 n2 106 [(0, .ref 56), (2, .int x2), (3, .int x3)] [] :=
  loop_ok (K := k_X12_rubs_106 X T R n1 n2) (fun s r hf hk => w_X12_rubs_106 hX hG hf hk) h he
set_option maxHeartbeats 4000000 in
set_option maxRecDepth 100000 in
theorem w_X12_rubs {X : CX} {T : List Dsc} {R : RM} {c e : Nat} {n1 n2 : Nat} {x1 : Int32} {m : M2} {r : (Int32 × M2)} (hX : XR X 9 n1 n2) (hG : Geo T R c e) (hf : F_X12_rubs x1 m = some r) (hk : FnI X cX12_rubs RX12 5 T n1 n2 (r.1, mk r.2 R)) : Wp X cX12_rubs RX12 5 T (mk m R) n1 n2 0 [(0, .ref 56), (1, .int x1)] [] := by
  unfold F_X12_rubs at hf
  refine Wp.iload_n (pc := 0) 1 rfl rfl dX12_rubs_0 ?_
  refine Wp.iconst (pc := 1) (1 : Int32) (by decide) dX12_rubs_1 ?_
  refine Wp.bipush (pc := 2) (100 : Int32) (by decide) dX12_rubs_2 ?_
  obtain ⟨c1, h2, hf⟩ := bnd hf
  refine Wp.callSi (pc := 4) (st := []) (as := [.int x1, .int (1 : Int32), .int (100 : Int32)]) (c_X12_in hG h2) ml_RX12_414 ms_X12_in mb_X12_in hX (Nat.le_of_ble_eq_true rfl) (by decide) rfl (by simp) dX12_rubs_4 rfl ?_
  refine Wp.if_ne (pc := 7) 12 dX12_rubs_7 (by decide) (fun hc3 => ?_) (fun hc3 => ?_)
  · rw [if_neg hc3] at hf
    refine Wp.aload_n (pc := 12) 0 rfl rfl dX12_rubs_12 ?_
    obtain ⟨c4, h5, hf⟩ := bnd hf
    refine Wp.callVv (pc := 13) (st := []) (as := []) (c_X12_takes hG h5) ml_RX12_444 mv_X12_takes mb_X12_takes hX (Nat.le_of_ble_eq_true rfl) (by decide) rfl (hG.t 56 rfl) rfl (by simp) dX12_rubs_13 rfl ?_
    refine Wp.iconst (pc := 16) (0 : Int32) (by decide) dX12_rubs_16 ?_
    refine Wp.istore_n (pc := 17) (lo' := [(0, .ref 56), (1, .int x1), (2, .int (0 : Int32))]) [1, 2, 0] rfl (by decide) rfl dX12_rubs_17 ?_
    obtain ⟨e6, h7, hf⟩ := bnd hf
    refine wl_X12_rubs_18 hX hG h7 ?_
    refine Wp.iconst (pc := 37) (0 : Int32) (by decide) dX12_rubs_37 ?_
    refine Wp.istore_n (pc := 38) (lo' := [(0, .ref 56), (1, .int x1), (2, .int (0 : Int32))]) [1, 2, 0] rfl (by decide) rfl dX12_rubs_38 ?_
    obtain ⟨e8, h9, hf⟩ := bnd hf
    refine wl_X12_rubs_39 hX hG h9 ?_
    refine Wp.bipush (pc := 101) (-2 : Int32) (by decide) dX12_rubs_101 ?_
    refine Wp.istore_n (pc := 103) (lo' := [(0, .ref 56), (2, .int (-2 : Int32))]) [1, 0] rfl (by decide) rfl dX12_rubs_103 ?_
    refine Wp.iconst (pc := 104) (1 : Int32) (by decide) dX12_rubs_104 ?_
    refine Wp.istore_n (pc := 105) (lo' := [(0, .ref 56), (2, .int (-2 : Int32)), (3, .int (1 : Int32))]) [1, 2, 0] rfl (by decide) rfl dX12_rubs_105 ?_
    obtain ⟨e10, h11, hf⟩ := bnd hf
    refine wl_X12_rubs_106 hX hG h11 ?_
    refine Wp.iload_n (pc := 150) 0 rfl rfl dX12_rubs_150 ?_
    cases hf
    exact hk _ _ dX12_rubs_151
  · rw [if_pos hc3] at hf
    refine Wp.iconst (pc := 10) (-1 : Int32) (by decide) dX12_rubs_10 ?_
    cases hf
    exact hk _ _ dX12_rubs_11
theorem c_X12_rubs {T : List Dsc} {R : RM} {c e : Nat} {x1 : Int32} {m : M2} {r : (Int32 × M2)} (hG : Geo T R c e) (hf : F_X12_rubs x1 m = some r) : Ct 9 yX12_rubs cX12_rubs 5 (some .int) T (mk m R) [.ref 56, .int x1] (some (.int r.1)) (mk r.2 R) := Ct.ofI (r := (r.1, mk r.2 R)) (by decide +kernel) (Nat.le_of_ble_eq_true rfl) (fun X hX hk => w_X12_rubs hX hG hf hk)
