theorem dX4_readFog_0 : decode cX4_readFog 0 = .ok (.aload_n 0, 1) := by decide +kernel
theorem dX4_readFog_1 : decode cX4_readFog 1 = .ok (.getfield 35, 3) := by decide +kernel
theorem dX4_readFog_4 : decode cX4_readFog 4 = .ok (.getfield 187, 3) := by decide +kernel
theorem dX4_readFog_7 : decode cX4_readFog 7 = .ok (.iconst 4, 1) := by decide +kernel
theorem dX4_readFog_8 : decode cX4_readFog 8 = .ok (.if_icmp .lt 9, 3) := by decide +kernel
theorem dX4_readFog_11 : decode cX4_readFog 11 = .ok (.aload_n 0, 1) := by decide +kernel
theorem dX4_readFog_12 : decode cX4_readFog 12 = .ok (.iconst 2, 1) := by decide +kernel
theorem dX4_readFog_13 : decode cX4_readFog 13 = .ok (.invokevirtual 67, 3) := by decide +kernel
theorem dX4_readFog_16 : decode cX4_readFog 16 = .ok (.return_, 1) := by decide +kernel
theorem dX4_readFog_17 : decode cX4_readFog 17 = .ok (.aload_n 0, 1) := by decide +kernel
theorem dX4_readFog_18 : decode cX4_readFog 18 = .ok (.bipush 20, 2) := by decide +kernel
theorem dX4_readFog_20 : decode cX4_readFog 20 = .ok (.invokevirtual 114, 3) := by decide +kernel
theorem dX4_readFog_23 : decode cX4_readFog 23 = .ok (.pop, 1) := by decide +kernel
theorem dX4_readFog_24 : decode cX4_readFog 24 = .ok (.aload_n 0, 1) := by decide +kernel
theorem dX4_readFog_25 : decode cX4_readFog 25 = .ok (.iconst 3, 1) := by decide +kernel
theorem dX4_readFog_26 : decode cX4_readFog 26 = .ok (.invokevirtual 114, 3) := by decide +kernel
theorem dX4_readFog_29 : decode cX4_readFog 29 = .ok (.ifCond .eq 39, 3) := by decide +kernel
theorem dX4_readFog_32 : decode cX4_readFog 32 = .ok (.aload_n 0, 1) := by decide +kernel
theorem dX4_readFog_33 : decode cX4_readFog 33 = .ok (.getfield 35, 3) := by decide +kernel
theorem dX4_readFog_36 : decode cX4_readFog 36 = .ok (.getfield 190, 3) := by decide +kernel
theorem dX4_readFog_39 : decode cX4_readFog 39 = .ok (.aload_n 0, 1) := by decide +kernel
theorem dX4_readFog_40 : decode cX4_readFog 40 = .ok (.getfield 35, 3) := by decide +kernel
theorem dX4_readFog_43 : decode cX4_readFog 43 = .ok (.getfield 187, 3) := by decide +kernel
theorem dX4_readFog_46 : decode cX4_readFog 46 = .ok (.aload_n 0, 1) := by decide +kernel
theorem dX4_readFog_47 : decode cX4_readFog 47 = .ok (.invokevirtual 118, 3) := by decide +kernel
theorem dX4_readFog_50 : decode cX4_readFog 50 = .ok (.l2i, 1) := by decide +kernel
theorem dX4_readFog_51 : decode cX4_readFog 51 = .ok (.iastore, 1) := by decide +kernel
theorem dX4_readFog_52 : decode cX4_readFog 52 = .ok (.aload_n 0, 1) := by decide +kernel
theorem dX4_readFog_53 : decode cX4_readFog 53 = .ok (.invokevirtual 118, 3) := by decide +kernel
theorem dX4_readFog_56 : decode cX4_readFog 56 = .ok (.ldc2_w 193, 3) := by decide +kernel
theorem dX4_readFog_59 : decode cX4_readFog 59 = .ok (.lcmp, 1) := by decide +kernel
theorem dX4_readFog_60 : decode cX4_readFog 60 = .ok (.ifCond .le 8, 3) := by decide +kernel
theorem dX4_readFog_63 : decode cX4_readFog 63 = .ok (.aload_n 0, 1) := by decide +kernel
theorem dX4_readFog_64 : decode cX4_readFog 64 = .ok (.iconst 5, 1) := by decide +kernel
theorem dX4_readFog_65 : decode cX4_readFog 65 = .ok (.invokevirtual 126, 3) := by decide +kernel
theorem dX4_readFog_68 : decode cX4_readFog 68 = .ok (.aload_n 0, 1) := by decide +kernel
theorem dX4_readFog_69 : decode cX4_readFog 69 = .ok (.iconst 3, 1) := by decide +kernel
theorem dX4_readFog_70 : decode cX4_readFog 70 = .ok (.invokevirtual 114, 3) := by decide +kernel
theorem dX4_readFog_73 : decode cX4_readFog 73 = .ok (.ifCond .eq 63, 3) := by decide +kernel
theorem dX4_readFog_76 : decode cX4_readFog 76 = .ok (.aload_n 0, 1) := by decide +kernel
theorem dX4_readFog_77 : decode cX4_readFog 77 = .ok (.getfield 35, 3) := by decide +kernel
theorem dX4_readFog_80 : decode cX4_readFog 80 = .ok (.getfield 195, 3) := by decide +kernel
theorem dX4_readFog_83 : decode cX4_readFog 83 = .ok (.aload_n 0, 1) := by decide +kernel
theorem dX4_readFog_84 : decode cX4_readFog 84 = .ok (.getfield 35, 3) := by decide +kernel
theorem dX4_readFog_87 : decode cX4_readFog 87 = .ok (.getfield 187, 3) := by decide +kernel
theorem dX4_readFog_90 : decode cX4_readFog 90 = .ok (.aload_n 0, 1) := by decide +kernel
theorem dX4_readFog_91 : decode cX4_readFog 91 = .ok (.invokevirtual 118, 3) := by decide +kernel
theorem dX4_readFog_94 : decode cX4_readFog 94 = .ok (.l2i, 1) := by decide +kernel
theorem dX4_readFog_95 : decode cX4_readFog 95 = .ok (.iastore, 1) := by decide +kernel
theorem dX4_readFog_96 : decode cX4_readFog 96 = .ok (.aload_n 0, 1) := by decide +kernel
theorem dX4_readFog_97 : decode cX4_readFog 97 = .ok (.invokevirtual 118, 3) := by decide +kernel
theorem dX4_readFog_100 : decode cX4_readFog 100 = .ok (.ldc2_w 193, 3) := by decide +kernel
theorem dX4_readFog_103 : decode cX4_readFog 103 = .ok (.lcmp, 1) := by decide +kernel
theorem dX4_readFog_104 : decode cX4_readFog 104 = .ok (.ifCond .gt 27, 3) := by decide +kernel
theorem dX4_readFog_107 : decode cX4_readFog 107 = .ok (.aload_n 0, 1) := by decide +kernel
theorem dX4_readFog_108 : decode cX4_readFog 108 = .ok (.invokevirtual 118, 3) := by decide +kernel
theorem dX4_readFog_111 : decode cX4_readFog 111 = .ok (.aload_n 0, 1) := by decide +kernel
theorem dX4_readFog_112 : decode cX4_readFog 112 = .ok (.getfield 35, 3) := by decide +kernel
theorem dX4_readFog_115 : decode cX4_readFog 115 = .ok (.getfield 190, 3) := by decide +kernel
theorem dX4_readFog_118 : decode cX4_readFog 118 = .ok (.aload_n 0, 1) := by decide +kernel
theorem dX4_readFog_119 : decode cX4_readFog 119 = .ok (.getfield 35, 3) := by decide +kernel
theorem dX4_readFog_122 : decode cX4_readFog 122 = .ok (.getfield 187, 3) := by decide +kernel
theorem dX4_readFog_125 : decode cX4_readFog 125 = .ok (.iaload, 1) := by decide +kernel
theorem dX4_readFog_126 : decode cX4_readFog 126 = .ok (.i2l, 1) := by decide +kernel
theorem dX4_readFog_127 : decode cX4_readFog 127 = .ok (.lcmp, 1) := by decide +kernel
theorem dX4_readFog_128 : decode cX4_readFog 128 = .ok (.ifCond .ge 8, 3) := by decide +kernel
theorem dX4_readFog_131 : decode cX4_readFog 131 = .ok (.aload_n 0, 1) := by decide +kernel
theorem dX4_readFog_132 : decode cX4_readFog 132 = .ok (.iconst 5, 1) := by decide +kernel
theorem dX4_readFog_133 : decode cX4_readFog 133 = .ok (.invokevirtual 126, 3) := by decide +kernel
theorem dX4_readFog_136 : decode cX4_readFog 136 = .ok (.aload_n 0, 1) := by decide +kernel
theorem dX4_readFog_137 : decode cX4_readFog 137 = .ok (.iconst 4, 1) := by decide +kernel
theorem dX4_readFog_138 : decode cX4_readFog 138 = .ok (.invokevirtual 114, 3) := by decide +kernel
theorem dX4_readFog_141 : decode cX4_readFog 141 = .ok (.pop, 1) := by decide +kernel
theorem dX4_readFog_142 : decode cX4_readFog 142 = .ok (.aload_n 0, 1) := by decide +kernel
theorem dX4_readFog_143 : decode cX4_readFog 143 = .ok (.getfield 35, 3) := by decide +kernel
theorem dX4_readFog_146 : decode cX4_readFog 146 = .ok (.dup, 1) := by decide +kernel
theorem dX4_readFog_147 : decode cX4_readFog 147 = .ok (.getfield 187, 3) := by decide +kernel
theorem dX4_readFog_150 : decode cX4_readFog 150 = .ok (.iconst 1, 1) := by decide +kernel
theorem dX4_readFog_151 : decode cX4_readFog 151 = .ok (.iadd, 1) := by decide +kernel
theorem dX4_readFog_152 : decode cX4_readFog 152 = .ok (.putfield 187, 3) := by decide +kernel
theorem dX4_readFog_155 : decode cX4_readFog 155 = .ok (.return_, 1) := by decide +kernel
set_option maxHeartbeats 4000000 in
set_option maxRecDepth 100000 in
theorem w_X4_readFog_136 {X : CX} {T : List Dsc} {n1 n2 : Nat} {x0 : Nat} {μ : Mem} {r : Mem} (hX : XR X 2 n1 n2) (hx0 : T[x0]? = some (.inl 3)) (hf : f_X4_readFog_136 T x0 μ = some r) (hk : FnV X cX4_readFog RX4 1 T n1 n2 r) : Wp X cX4_readFog RX4 1 T μ n1 n2 136 [(0, .ref x0)] [] := by
  unfold f_X4_readFog_136 at hf
  refine Wp.aload_n (pc := 136) 0 rfl rfl dX4_readFog_136 ?_
  refine Wp.iconst (pc := 137) (4 : Int32) (by decide) dX4_readFog_137 ?_
  obtain ⟨c1, h2, hf⟩ := bnd hf
  refine Wp.callVi (pc := 138) (st := []) (as := [.int (4 : Int32)]) (c_X4_take hx0 h2) ml_RX4_114 mv_X4_take mb_X4_take hX (Nat.le_of_ble_eq_true rfl) (by decide) rfl hx0 rfl (by simp) dX4_readFog_138 rfl ?_
  refine Wp.pop (pc := 141) rfl dX4_readFog_141 ?_
  refine Wp.aload_n (pc := 142) 0 rfl rfl dX4_readFog_142 ?_
  obtain ⟨r3, h4, hf⟩ := bnd hf
  refine Wp.getR (pc := 143) (gO_R h4) hx0 fk_RX4_35 rfl dX4_readFog_143 ?_
  refine Wp.dup (pc := 146) rfl dX4_readFog_146 ?_
  refine Wp.getI (pc := 147) (gO_T h4) fk_RX4_187 rfl dX4_readFog_147 ?_
  refine Wp.iconst (pc := 150) (1 : Int32) (by decide) dX4_readFog_150 ?_
  refine Wp.iadd (pc := 151) dX4_readFog_151 ?_
  obtain ⟨μ5, h6, hf⟩ := bnd hf
  refine Wp.ptI (pc := 152) h6 (gO_T h4) fk_RX4_187 ff_RX4_6_11 rfl dX4_readFog_152 ?_
  cases hf
  exact hk _ _ dX4_readFog_155
set_option maxHeartbeats 4000000 in
set_option maxRecDepth 100000 in
theorem w_X4_readFog_131 {X : CX} {T : List Dsc} {n1 n2 : Nat} {x0 : Nat} {μ : Mem} {r : Mem} (hX : XR X 2 n1 n2) (hx0 : T[x0]? = some (.inl 3)) (hf : f_X4_readFog_131 T x0 μ = some r) (hk : FnV X cX4_readFog RX4 1 T n1 n2 r) : Wp X cX4_readFog RX4 1 T μ n1 n2 131 [(0, .ref x0)] [] := by
  unfold f_X4_readFog_131 at hf
  refine Wp.aload_n (pc := 131) 0 rfl rfl dX4_readFog_131 ?_
  refine Wp.iconst (pc := 132) (5 : Int32) (by decide) dX4_readFog_132 ?_
  obtain ⟨c1, h2, hf⟩ := bnd hf
  refine Wp.callVv (pc := 133) (st := []) (as := [.int (5 : Int32)]) (c_X4_slipAtTaken hx0 h2) ml_RX4_126 mv_X4_slipAtTaken mb_X4_slipAtTaken hX (Nat.le_of_ble_eq_true rfl) (by decide) rfl hx0 rfl (by simp) dX4_readFog_133 rfl ?_
  exact w_X4_readFog_136 hX hx0 hf hk
set_option maxHeartbeats 4000000 in
set_option maxRecDepth 100000 in
theorem w_X4_readFog_68 {X : CX} {T : List Dsc} {n1 n2 : Nat} {x0 : Nat} {μ : Mem} {r : Mem} (hX : XR X 2 n1 n2) (hx0 : T[x0]? = some (.inl 3)) (hf : f_X4_readFog_68 T x0 μ = some r) (hk : FnV X cX4_readFog RX4 1 T n1 n2 r) : Wp X cX4_readFog RX4 1 T μ n1 n2 68 [(0, .ref x0)] [] := by
  unfold f_X4_readFog_68 at hf
  refine Wp.aload_n (pc := 68) 0 rfl rfl dX4_readFog_68 ?_
  refine Wp.iconst (pc := 69) (3 : Int32) (by decide) dX4_readFog_69 ?_
  obtain ⟨c1, h2, hf⟩ := bnd hf
  refine Wp.callVi (pc := 70) (st := []) (as := [.int (3 : Int32)]) (c_X4_take hx0 h2) ml_RX4_114 mv_X4_take mb_X4_take hX (Nat.le_of_ble_eq_true rfl) (by decide) rfl hx0 rfl (by simp) dX4_readFog_70 rfl ?_
  refine Wp.if_eq (pc := 73) 136 dX4_readFog_73 (by decide) (fun hc3 => ?_) (fun hc3 => ?_)
  · rw [if_pos hc3] at hf
    exact w_X4_readFog_136 hX hx0 hf hk
  · rw [if_neg hc3] at hf
    refine Wp.aload_n (pc := 76) 0 rfl rfl dX4_readFog_76 ?_
    obtain ⟨r4, h5, hf⟩ := bnd hf
    refine Wp.getR (pc := 77) (gO_R h5) hx0 fk_RX4_35 rfl dX4_readFog_77 ?_
    obtain ⟨a6, h7, hf⟩ := bnd hf
    refine Wp.getR (pc := 80) (gA_R h7) (gO_T h5) fk_RX4_195 rfl dX4_readFog_80 ?_
    refine Wp.aload_n (pc := 83) 0 rfl rfl dX4_readFog_83 ?_
    obtain ⟨r8, h9, hf⟩ := bnd hf
    refine Wp.getR (pc := 84) (gO_R h9) hx0 fk_RX4_35 rfl dX4_readFog_84 ?_
    refine Wp.getI (pc := 87) (gO_T h9) fk_RX4_187 rfl dX4_readFog_87 ?_
    refine Wp.aload_n (pc := 90) 0 rfl rfl dX4_readFog_90 ?_
    obtain ⟨c10, h11, hf⟩ := bnd hf
    refine Wp.callVl (pc := 91) (st := [.int (gI c1.2 r8 11), .ref a6.1]) (as := []) (c_X4_taken hx0 h11) ml_RX4_118 mv_X4_taken mb_X4_taken hX (Nat.le_of_ble_eq_true rfl) (by decide) rfl hx0 rfl (by simp [Value.category]) dX4_readFog_91 rfl ?_
    refine Wp.l2i (pc := 94) dX4_readFog_94 ?_
    obtain ⟨μ12, h13, hf⟩ := bnd hf
    refine Wp.iast (pc := 95) h13 (gA_T h7) dX4_readFog_95 ?_
    refine Wp.aload_n (pc := 96) 0 rfl rfl dX4_readFog_96 ?_
    obtain ⟨c14, h15, hf⟩ := bnd hf
    refine Wp.callVl (pc := 97) (st := []) (as := []) (c_X4_taken hx0 h15) ml_RX4_118 mv_X4_taken mb_X4_taken hX (Nat.le_of_ble_eq_true rfl) (by decide) rfl hx0 rfl (by simp) dX4_readFog_97 rfl ?_
    refine Wp.ldc2 (pc := 100) (v := (999 : Int64)) (gw_tb 650 (by decide +kernel) rfl) dX4_readFog_100 ?_
    refine Wp.lcmp (pc := 103) dX4_readFog_103 ?_
    refine Wp.if_gt (pc := 104) 131 dX4_readFog_104 (by decide) (fun hc16 => ?_) (fun hc16 => ?_)
    · rw [if_pos hc16] at hf
      exact w_X4_readFog_131 hX hx0 hf hk
    · rw [if_neg hc16] at hf
      refine Wp.aload_n (pc := 107) 0 rfl rfl dX4_readFog_107 ?_
      obtain ⟨c17, h18, hf⟩ := bnd hf
      refine Wp.callVl (pc := 108) (st := []) (as := []) (c_X4_taken hx0 h18) ml_RX4_118 mv_X4_taken mb_X4_taken hX (Nat.le_of_ble_eq_true rfl) (by decide) rfl hx0 rfl (by simp) dX4_readFog_108 rfl ?_
      refine Wp.aload_n (pc := 111) 0 rfl rfl dX4_readFog_111 ?_
      obtain ⟨r19, h20, hf⟩ := bnd hf
      refine Wp.getR (pc := 112) (gO_R h20) hx0 fk_RX4_35 rfl dX4_readFog_112 ?_
      obtain ⟨a21, h22, hf⟩ := bnd hf
      refine Wp.getR (pc := 115) (gA_R h22) (gO_T h20) fk_RX4_190 rfl dX4_readFog_115 ?_
      refine Wp.aload_n (pc := 118) 0 rfl rfl dX4_readFog_118 ?_
      obtain ⟨r23, h24, hf⟩ := bnd hf
      refine Wp.getR (pc := 119) (gO_R h24) hx0 fk_RX4_35 rfl dX4_readFog_119 ?_
      refine Wp.getI (pc := 122) (gO_T h24) fk_RX4_187 rfl dX4_readFog_122 ?_
      obtain ⟨v25, h26, hf⟩ := bnd hf
      refine Wp.iald (pc := 125) h26 (gA_T h22) dX4_readFog_125 ?_
      refine Wp.i2l (pc := 126) dX4_readFog_126 ?_
      refine Wp.lcmp (pc := 127) dX4_readFog_127 ?_
      refine Wp.if_ge (pc := 128) 136 dX4_readFog_128 (by decide) (fun hc27 => ?_) (fun hc27 => ?_)
      · rw [if_pos hc27] at hf
        exact w_X4_readFog_136 hX hx0 hf hk
      · rw [if_neg hc27] at hf
        exact w_X4_readFog_131 hX hx0 hf hk
set_option maxHeartbeats 4000000 in
set_option maxRecDepth 100000 in
theorem w_X4_readFog {X : CX} {T : List Dsc} {n1 n2 : Nat} {x0 : Nat} {μ : Mem} {r : Mem} (hX : XR X 2 n1 n2) (hx0 : T[x0]? = some (.inl 3)) (hf : F_X4_readFog T x0 μ = some r) (hk : FnV X cX4_readFog RX4 1 T n1 n2 r) : Wp X cX4_readFog RX4 1 T μ n1 n2 0 [(0, .ref x0)] [] := by
  unfold F_X4_readFog at hf
  refine Wp.aload_n (pc := 0) 0 rfl rfl dX4_readFog_0 ?_
  obtain ⟨r1, h2, hf⟩ := bnd hf
  refine Wp.getR (pc := 1) (gO_R h2) hx0 fk_RX4_35 rfl dX4_readFog_1 ?_
  refine Wp.getI (pc := 4) (gO_T h2) fk_RX4_187 rfl dX4_readFog_4 ?_
  refine Wp.iconst (pc := 7) (4 : Int32) (by decide) dX4_readFog_7 ?_
  refine Wp.icmp_lt (pc := 8) 17 dX4_readFog_8 (by decide) (fun hc3 => ?_) (fun hc3 => ?_)
  · rw [if_pos hc3] at hf
    refine Wp.aload_n (pc := 17) 0 rfl rfl dX4_readFog_17 ?_
    refine Wp.bipush (pc := 18) (20 : Int32) (by decide) dX4_readFog_18 ?_
    obtain ⟨c4, h5, hf⟩ := bnd hf
    refine Wp.callVi (pc := 20) (st := []) (as := [.int (20 : Int32)]) (c_X4_take hx0 h5) ml_RX4_114 mv_X4_take mb_X4_take hX (Nat.le_of_ble_eq_true rfl) (by decide) rfl hx0 rfl (by simp) dX4_readFog_20 rfl ?_
    refine Wp.pop (pc := 23) rfl dX4_readFog_23 ?_
    refine Wp.aload_n (pc := 24) 0 rfl rfl dX4_readFog_24 ?_
    refine Wp.iconst (pc := 25) (3 : Int32) (by decide) dX4_readFog_25 ?_
    obtain ⟨c6, h7, hf⟩ := bnd hf
    refine Wp.callVi (pc := 26) (st := []) (as := [.int (3 : Int32)]) (c_X4_take hx0 h7) ml_RX4_114 mv_X4_take mb_X4_take hX (Nat.le_of_ble_eq_true rfl) (by decide) rfl hx0 rfl (by simp) dX4_readFog_26 rfl ?_
    refine Wp.if_eq (pc := 29) 68 dX4_readFog_29 (by decide) (fun hc8 => ?_) (fun hc8 => ?_)
    · rw [if_pos hc8] at hf
      exact w_X4_readFog_68 hX hx0 hf hk
    · rw [if_neg hc8] at hf
      refine Wp.aload_n (pc := 32) 0 rfl rfl dX4_readFog_32 ?_
      obtain ⟨r9, h10, hf⟩ := bnd hf
      refine Wp.getR (pc := 33) (gO_R h10) hx0 fk_RX4_35 rfl dX4_readFog_33 ?_
      obtain ⟨a11, h12, hf⟩ := bnd hf
      refine Wp.getR (pc := 36) (gA_R h12) (gO_T h10) fk_RX4_190 rfl dX4_readFog_36 ?_
      refine Wp.aload_n (pc := 39) 0 rfl rfl dX4_readFog_39 ?_
      obtain ⟨r13, h14, hf⟩ := bnd hf
      refine Wp.getR (pc := 40) (gO_R h14) hx0 fk_RX4_35 rfl dX4_readFog_40 ?_
      refine Wp.getI (pc := 43) (gO_T h14) fk_RX4_187 rfl dX4_readFog_43 ?_
      refine Wp.aload_n (pc := 46) 0 rfl rfl dX4_readFog_46 ?_
      obtain ⟨c15, h16, hf⟩ := bnd hf
      refine Wp.callVl (pc := 47) (st := [.int (gI c6.2 r13 11), .ref a11.1]) (as := []) (c_X4_taken hx0 h16) ml_RX4_118 mv_X4_taken mb_X4_taken hX (Nat.le_of_ble_eq_true rfl) (by decide) rfl hx0 rfl (by simp [Value.category]) dX4_readFog_47 rfl ?_
      refine Wp.l2i (pc := 50) dX4_readFog_50 ?_
      obtain ⟨μ17, h18, hf⟩ := bnd hf
      refine Wp.iast (pc := 51) h18 (gA_T h12) dX4_readFog_51 ?_
      refine Wp.aload_n (pc := 52) 0 rfl rfl dX4_readFog_52 ?_
      obtain ⟨c19, h20, hf⟩ := bnd hf
      refine Wp.callVl (pc := 53) (st := []) (as := []) (c_X4_taken hx0 h20) ml_RX4_118 mv_X4_taken mb_X4_taken hX (Nat.le_of_ble_eq_true rfl) (by decide) rfl hx0 rfl (by simp) dX4_readFog_53 rfl ?_
      refine Wp.ldc2 (pc := 56) (v := (999 : Int64)) (gw_tb 650 (by decide +kernel) rfl) dX4_readFog_56 ?_
      refine Wp.lcmp (pc := 59) dX4_readFog_59 ?_
      refine Wp.if_le (pc := 60) 68 dX4_readFog_60 (by decide) (fun hc21 => ?_) (fun hc21 => ?_)
      · rw [if_pos hc21] at hf
        exact w_X4_readFog_68 hX hx0 hf hk
      · rw [if_neg hc21] at hf
        refine Wp.aload_n (pc := 63) 0 rfl rfl dX4_readFog_63 ?_
        refine Wp.iconst (pc := 64) (5 : Int32) (by decide) dX4_readFog_64 ?_
        obtain ⟨c22, h23, hf⟩ := bnd hf
        refine Wp.callVv (pc := 65) (st := []) (as := [.int (5 : Int32)]) (c_X4_slipAtTaken hx0 h23) ml_RX4_126 mv_X4_slipAtTaken mb_X4_slipAtTaken hX (Nat.le_of_ble_eq_true rfl) (by decide) rfl hx0 rfl (by simp) dX4_readFog_65 rfl ?_
        exact w_X4_readFog_68 hX hx0 hf hk
  · rw [if_neg hc3] at hf
    refine Wp.aload_n (pc := 11) 0 rfl rfl dX4_readFog_11 ?_
    refine Wp.iconst (pc := 12) (2 : Int32) (by decide) dX4_readFog_12 ?_
    obtain ⟨c24, h25, hf⟩ := bnd hf
    refine Wp.callVv (pc := 13) (st := []) (as := [.int (2 : Int32)]) (c_X4_fail hx0 h25) ml_RX4_67 mv_X4_fail mb_X4_fail hX (Nat.le_of_ble_eq_true rfl) (by decide) rfl hx0 rfl (by simp) dX4_readFog_13 rfl ?_
    cases hf
    exact hk _ _ dX4_readFog_16
theorem c_X4_readFog {T : List Dsc} {x0 : Nat} {μ : Mem} {r : Mem} (hx0 : T[x0]? = some (.inl 3)) (hf : F_X4_readFog T x0 μ = some r) : Ct 2 yX4_readFog cX4_readFog 1 none T μ [.ref x0] none r := Ct.ofV (by decide +kernel) (Nat.le_of_ble_eq_true rfl) (fun X hX hk => w_X4_readFog hX hx0 hf hk)
theorem dX4_takeLaterFault_0 : decode cX4_takeLaterFault 0 = .ok (.aload_n 0, 1) := by decide +kernel
theorem dX4_takeLaterFault_1 : decode cX4_takeLaterFault 1 = .ok (.getfield 88, 3) := by decide +kernel
theorem dX4_takeLaterFault_4 : decode cX4_takeLaterFault 4 = .ok (.ifCond .eq 22, 3) := by decide +kernel
theorem dX4_takeLaterFault_7 : decode cX4_takeLaterFault 7 = .ok (.aload_n 0, 1) := by decide +kernel
theorem dX4_takeLaterFault_8 : decode cX4_takeLaterFault 8 = .ok (.aload_n 0, 1) := by decide +kernel
theorem dX4_takeLaterFault_9 : decode cX4_takeLaterFault 9 = .ok (.getfield 88, 3) := by decide +kernel
theorem dX4_takeLaterFault_12 : decode cX4_takeLaterFault 12 = .ok (.putfield 43, 3) := by decide +kernel
theorem dX4_takeLaterFault_15 : decode cX4_takeLaterFault 15 = .ok (.aload_n 0, 1) := by decide +kernel
theorem dX4_takeLaterFault_16 : decode cX4_takeLaterFault 16 = .ok (.aload_n 0, 1) := by decide +kernel
theorem dX4_takeLaterFault_17 : decode cX4_takeLaterFault 17 = .ok (.getfield 100, 3) := by decide +kernel
theorem dX4_takeLaterFault_20 : decode cX4_takeLaterFault 20 = .ok (.putfield 9, 3) := by decide +kernel
theorem dX4_takeLaterFault_23 : decode cX4_takeLaterFault 23 = .ok (.goto 41, 3) := by decide +kernel
theorem dX4_takeLaterFault_26 : decode cX4_takeLaterFault 26 = .ok (.aload_n 0, 1) := by decide +kernel
theorem dX4_takeLaterFault_27 : decode cX4_takeLaterFault 27 = .ok (.getfield 15, 3) := by decide +kernel
theorem dX4_takeLaterFault_30 : decode cX4_takeLaterFault 30 = .ok (.aload_n 0, 1) := by decide +kernel
theorem dX4_takeLaterFault_31 : decode cX4_takeLaterFault 31 = .ok (.getfield 35, 3) := by decide +kernel
theorem dX4_takeLaterFault_34 : decode cX4_takeLaterFault 34 = .ok (.getfield 103, 3) := by decide +kernel
theorem dX4_takeLaterFault_37 : decode cX4_takeLaterFault 37 = .ok (.iaload, 1) := by decide +kernel
theorem dX4_takeLaterFault_38 : decode cX4_takeLaterFault 38 = .ok (.iconst (-1), 1) := by decide +kernel
theorem dX4_takeLaterFault_39 : decode cX4_takeLaterFault 39 = .ok (.if_icmp .eq 25, 3) := by decide +kernel
theorem dX4_takeLaterFault_42 : decode cX4_takeLaterFault 42 = .ok (.aload_n 0, 1) := by decide +kernel
theorem dX4_takeLaterFault_43 : decode cX4_takeLaterFault 43 = .ok (.bipush 6, 2) := by decide +kernel
theorem dX4_takeLaterFault_45 : decode cX4_takeLaterFault 45 = .ok (.putfield 43, 3) := by decide +kernel
theorem dX4_takeLaterFault_48 : decode cX4_takeLaterFault 48 = .ok (.aload_n 0, 1) := by decide +kernel
theorem dX4_takeLaterFault_49 : decode cX4_takeLaterFault 49 = .ok (.aload_n 0, 1) := by decide +kernel
theorem dX4_takeLaterFault_50 : decode cX4_takeLaterFault 50 = .ok (.getfield 15, 3) := by decide +kernel
theorem dX4_takeLaterFault_53 : decode cX4_takeLaterFault 53 = .ok (.aload_n 0, 1) := by decide +kernel
theorem dX4_takeLaterFault_54 : decode cX4_takeLaterFault 54 = .ok (.getfield 35, 3) := by decide +kernel
theorem dX4_takeLaterFault_57 : decode cX4_takeLaterFault 57 = .ok (.getfield 103, 3) := by decide +kernel
theorem dX4_takeLaterFault_60 : decode cX4_takeLaterFault 60 = .ok (.iaload, 1) := by decide +kernel
theorem dX4_takeLaterFault_61 : decode cX4_takeLaterFault 61 = .ok (.putfield 9, 3) := by decide +kernel
theorem dX4_takeLaterFault_64 : decode cX4_takeLaterFault 64 = .ok (.return_, 1) := by decide +kernel
set_option maxHeartbeats 4000000 in
set_option maxRecDepth 100000 in
theorem w_X4_takeLaterFault_64 {X : CX} {T : List Dsc} {n1 n2 : Nat} {μ : Mem} {r : Mem} (hX : XR X 1 n1 n2) (hf : f_X4_takeLaterFault_64 T μ = some r) (hk : FnV X cX4_takeLaterFault RX4 1 T n1 n2 r) : Wp X cX4_takeLaterFault RX4 1 T μ n1 n2 64 [] [] := by
  unfold f_X4_takeLaterFault_64 at hf
  cases hf
  exact hk _ _ dX4_takeLaterFault_64
set_option maxHeartbeats 4000000 in
set_option maxRecDepth 100000 in
theorem w_X4_takeLaterFault {X : CX} {T : List Dsc} {n1 n2 : Nat} {x0 : Nat} {μ : Mem} {r : Mem} (hX : XR X 1 n1 n2) (hx0 : T[x0]? = some (.inl 3)) (hf : F_X4_takeLaterFault T x0 μ = some r) (hk : FnV X cX4_takeLaterFault RX4 1 T n1 n2 r) : Wp X cX4_takeLaterFault RX4 1 T μ n1 n2 0 [(0, .ref x0)] [] := by
  unfold F_X4_takeLaterFault at hf
  refine Wp.aload_n (pc := 0) 0 rfl rfl dX4_takeLaterFault_0 ?_
  refine Wp.getI (pc := 1) hx0 fk_RX4_88 rfl dX4_takeLaterFault_1 ?_
  refine Wp.if_eq (pc := 4) 26 dX4_takeLaterFault_4 (by decide) (fun hc1 => ?_) (fun hc1 => ?_)
  · rw [if_pos hc1] at hf
    refine Wp.aload_n (pc := 26) 0 rfl rfl dX4_takeLaterFault_26 ?_
    obtain ⟨a2, h3, hf⟩ := bnd hf
    refine Wp.getR (pc := 27) (gA_R h3) hx0 fk_RX4_15 rfl dX4_takeLaterFault_27 ?_
    refine Wp.aload_n (pc := 30) 0 rfl rfl dX4_takeLaterFault_30 ?_
    obtain ⟨r4, h5, hf⟩ := bnd hf
    refine Wp.getR (pc := 31) (gO_R h5) hx0 fk_RX4_35 rfl dX4_takeLaterFault_31 ?_
    refine Wp.getI (pc := 34) (gO_T h5) fk_RX4_103 rfl dX4_takeLaterFault_34 ?_
    obtain ⟨v6, h7, hf⟩ := bnd hf
    refine Wp.iald (pc := 37) h7 (gA_T h3) dX4_takeLaterFault_37 ?_
    refine Wp.iconst (pc := 38) (-1 : Int32) (by decide) dX4_takeLaterFault_38 ?_
    refine Wp.icmp_eq (pc := 39) 64 dX4_takeLaterFault_39 (by decide) (fun hc8 => ?_) (fun hc8 => ?_)
    · rw [if_pos hc8] at hf
      refine Wp.lo' (lo' := []) [] rfl ?_
      exact w_X4_takeLaterFault_64 hX hf hk
    · rw [if_neg hc8] at hf
      refine Wp.aload_n (pc := 42) 0 rfl rfl dX4_takeLaterFault_42 ?_
      refine Wp.bipush (pc := 43) (6 : Int32) (by decide) dX4_takeLaterFault_43 ?_
      obtain ⟨μ9, h10, hf⟩ := bnd hf
      refine Wp.ptI (pc := 45) h10 hx0 fk_RX4_43 ff_RX4_3_4 rfl dX4_takeLaterFault_45 ?_
      refine Wp.aload_n (pc := 48) 0 rfl rfl dX4_takeLaterFault_48 ?_
      refine Wp.aload_n (pc := 49) 0 rfl rfl dX4_takeLaterFault_49 ?_
      obtain ⟨a11, h12, hf⟩ := bnd hf
      refine Wp.getR (pc := 50) (gA_R h12) hx0 fk_RX4_15 rfl dX4_takeLaterFault_50 ?_
      refine Wp.aload_n (pc := 53) 0 rfl rfl dX4_takeLaterFault_53 ?_
      obtain ⟨r13, h14, hf⟩ := bnd hf
      refine Wp.getR (pc := 54) (gO_R h14) hx0 fk_RX4_35 rfl dX4_takeLaterFault_54 ?_
      refine Wp.getI (pc := 57) (gO_T h14) fk_RX4_103 rfl dX4_takeLaterFault_57 ?_
      obtain ⟨v15, h16, hf⟩ := bnd hf
      refine Wp.iald (pc := 60) h16 (gA_T h12) dX4_takeLaterFault_60 ?_
      obtain ⟨μ17, h18, hf⟩ := bnd hf
      refine Wp.ptI (pc := 61) h18 hx0 fk_RX4_9 ff_RX4_3_5 rfl dX4_takeLaterFault_61 ?_
      refine Wp.lo' (lo' := []) [] rfl ?_
      exact w_X4_takeLaterFault_64 hX hf hk
  · rw [if_neg hc1] at hf
    refine Wp.aload_n (pc := 7) 0 rfl rfl dX4_takeLaterFault_7 ?_
    refine Wp.aload_n (pc := 8) 0 rfl rfl dX4_takeLaterFault_8 ?_
    refine Wp.getI (pc := 9) hx0 fk_RX4_88 rfl dX4_takeLaterFault_9 ?_
    obtain ⟨μ19, h20, hf⟩ := bnd hf
    refine Wp.ptI (pc := 12) h20 hx0 fk_RX4_43 ff_RX4_3_4 rfl dX4_takeLaterFault_12 ?_
    refine Wp.aload_n (pc := 15) 0 rfl rfl dX4_takeLaterFault_15 ?_
    refine Wp.aload_n (pc := 16) 0 rfl rfl dX4_takeLaterFault_16 ?_
    refine Wp.getI (pc := 17) hx0 fk_RX4_100 rfl dX4_takeLaterFault_17 ?_
    obtain ⟨μ21, h22, hf⟩ := bnd hf
    refine Wp.ptI (pc := 20) h22 hx0 fk_RX4_9 ff_RX4_3_5 rfl dX4_takeLaterFault_20 ?_
    refine Wp.goto (pc := 23) 64 dX4_takeLaterFault_23 (by decide) ?_
    refine Wp.lo' (lo' := []) [] rfl ?_
    exact w_X4_takeLaterFault_64 hX hf hk
theorem c_X4_takeLaterFault {T : List Dsc} {x0 : Nat} {μ : Mem} {r : Mem} (hx0 : T[x0]? = some (.inl 3)) (hf : F_X4_takeLaterFault T x0 μ = some r) : Ct 1 yX4_takeLaterFault cX4_takeLaterFault 1 none T μ [.ref x0] none r := Ct.ofV (by decide +kernel) (Nat.le_of_ble_eq_true rfl) (fun X hX hk => w_X4_takeLaterFault hX hx0 hf hk)
theorem dX4_readTape_0 : decode cX4_readTape 0 = .ok (.aload_n 0, 1) := by decide +kernel
theorem dX4_readTape_1 : decode cX4_readTape 1 = .ok (.iload_n 1, 1) := by decide +kernel
theorem dX4_readTape_2 : decode cX4_readTape 2 = .ok (.aload_n 2, 1) := by decide +kernel
theorem dX4_readTape_3 : decode cX4_readTape 3 = .ok (.invokevirtual 39, 3) := by decide +kernel
theorem dX4_readTape_6 : decode cX4_readTape 6 = .ok (.iconst 0, 1) := by decide +kernel
theorem dX4_readTape_7 : decode cX4_readTape 7 = .ok (.istore_n 3, 1) := by decide +kernel
theorem dX4_readTape_8 : decode cX4_readTape 8 = .ok (.iload_n 3, 1) := by decide +kernel
theorem dX4_readTape_9 : decode cX4_readTape 9 = .ok (.sipush 400, 3) := by decide +kernel
theorem dX4_readTape_12 : decode cX4_readTape 12 = .ok (.if_icmp .gt 157, 3) := by decide +kernel
theorem dX4_readTape_15 : decode cX4_readTape 15 = .ok (.aload_n 0, 1) := by decide +kernel
theorem dX4_readTape_16 : decode cX4_readTape 16 = .ok (.getfield 43, 3) := by decide +kernel
theorem dX4_readTape_19 : decode cX4_readTape 19 = .ok (.ifCond .ne 150, 3) := by decide +kernel
theorem dX4_readTape_22 : decode cX4_readTape 22 = .ok (.aload_n 0, 1) := by decide +kernel
theorem dX4_readTape_23 : decode cX4_readTape 23 = .ok (.getfield 46, 3) := by decide +kernel
theorem dX4_readTape_26 : decode cX4_readTape 26 = .ok (.ifCond .eq 143, 3) := by decide +kernel
theorem dX4_readTape_29 : decode cX4_readTape 29 = .ok (.aload_n 0, 1) := by decide +kernel
theorem dX4_readTape_30 : decode cX4_readTape 30 = .ok (.getfield 46, 3) := by decide +kernel
theorem dX4_readTape_33 : decode cX4_readTape 33 = .ok (.tableswitch 125 17 33 #[83, 90, 97, 118, 125, 125, 125, 125, 125, 125, 125, 125, 125, 125, 104, 125, 111], 83) := by decide +kernel
theorem dX4_readTape_116 : decode cX4_readTape 116 = .ok (.aload_n 0, 1) := by decide +kernel
theorem dX4_readTape_117 : decode cX4_readTape 117 = .ok (.invokevirtual 49, 3) := by decide +kernel
theorem dX4_readTape_120 : decode cX4_readTape 120 = .ok (.goto 43, 3) := by decide +kernel
theorem dX4_readTape_123 : decode cX4_readTape 123 = .ok (.aload_n 0, 1) := by decide +kernel
theorem dX4_readTape_124 : decode cX4_readTape 124 = .ok (.invokevirtual 52, 3) := by decide +kernel
theorem dX4_readTape_127 : decode cX4_readTape 127 = .ok (.goto 36, 3) := by decide +kernel
theorem dX4_readTape_130 : decode cX4_readTape 130 = .ok (.aload_n 0, 1) := by decide +kernel
theorem dX4_readTape_131 : decode cX4_readTape 131 = .ok (.invokevirtual 55, 3) := by decide +kernel
theorem dX4_readTape_134 : decode cX4_readTape 134 = .ok (.goto 29, 3) := by decide +kernel
theorem dX4_readTape_137 : decode cX4_readTape 137 = .ok (.aload_n 0, 1) := by decide +kernel
theorem dX4_readTape_138 : decode cX4_readTape 138 = .ok (.invokevirtual 58, 3) := by decide +kernel
theorem dX4_readTape_141 : decode cX4_readTape 141 = .ok (.goto 22, 3) := by decide +kernel
theorem dX4_readTape_144 : decode cX4_readTape 144 = .ok (.aload_n 0, 1) := by decide +kernel
theorem dX4_readTape_145 : decode cX4_readTape 145 = .ok (.invokevirtual 61, 3) := by decide +kernel
theorem dX4_readTape_148 : decode cX4_readTape 148 = .ok (.goto 15, 3) := by decide +kernel
theorem dX4_readTape_151 : decode cX4_readTape 151 = .ok (.aload_n 0, 1) := by decide +kernel
theorem dX4_readTape_152 : decode cX4_readTape 152 = .ok (.invokevirtual 64, 3) := by decide +kernel
theorem dX4_readTape_155 : decode cX4_readTape 155 = .ok (.goto 8, 3) := by decide +kernel
theorem dX4_readTape_158 : decode cX4_readTape 158 = .ok (.aload_n 0, 1) := by decide +kernel
theorem dX4_readTape_159 : decode cX4_readTape 159 = .ok (.iconst 1, 1) := by decide +kernel
theorem dX4_readTape_160 : decode cX4_readTape 160 = .ok (.invokevirtual 67, 3) := by decide +kernel
theorem dX4_readTape_163 : decode cX4_readTape 163 = .ok (.iinc 3 1, 3) := by decide +kernel
theorem dX4_readTape_166 : decode cX4_readTape 166 = .ok (.goto (-158), 3) := by decide +kernel
theorem dX4_readTape_169 : decode cX4_readTape 169 = .ok (.aload_n 0, 1) := by decide +kernel
theorem dX4_readTape_170 : decode cX4_readTape 170 = .ok (.getfield 43, 3) := by decide +kernel
theorem dX4_readTape_173 : decode cX4_readTape 173 = .ok (.ifCond .ne 7, 3) := by decide +kernel
theorem dX4_readTape_176 : decode cX4_readTape 176 = .ok (.aload_n 0, 1) := by decide +kernel
theorem dX4_readTape_177 : decode cX4_readTape 177 = .ok (.invokevirtual 71, 3) := by decide +kernel
theorem dX4_readTape_180 : decode cX4_readTape 180 = .ok (.aload_n 0, 1) := by decide +kernel
theorem dX4_readTape_181 : decode cX4_readTape 181 = .ok (.getfield 43, 3) := by decide +kernel
theorem dX4_readTape_184 : decode cX4_readTape 184 = .ok (.ireturn, 1) := by decide +kernel
def k_X4_readTape_8 (X : CX) (T : List Dsc) (n1 n2 : Nat) (x0 : Nat) (r : ((Int32 × Mem) ⊕ ((Mem)))) : Prop := match r with
  | .inl s => Wp X cX4_readTape RX4 4 T s.2 n1 n2 8 [(0, .ref x0), (3, .int s.1)] []
  | .inr e => Wp X cX4_readTape RX4 4 T e n1 n2 169 [(0, .ref x0)] []
set_option maxHeartbeats 4000000 in
set_option maxRecDepth 100000 in
theorem w_X4_readTape_163 {X : CX} {T : List Dsc} {n1 n2 : Nat} {x0 : Nat} {x3 : Int32} {μ : Mem} {r : ((Int32 × Mem) ⊕ ((Mem)))} (hX : XR X 74 n1 n2) (hx0 : T[x0]? = some (.inl 3)) (hf : f_X4_readTape_163 T x0 x3 μ = some r) (hk : k_X4_readTape_8 X T n1 n2 x0 r) : Wp X cX4_readTape RX4 4 T μ n1 n2 163 [(0, .ref x0), (3, .int x3)] [] := by
  unfold f_X4_readTape_163 at hf
  obtain ⟨v1, h2, hf⟩ := bnd hf
  refine Wp.iincN (pc := 163) (lo' := [(0, .ref x0), (3, .int v1)]) (1 : Int32) (by decide) h2 1 rfl [1, 0] rfl (by decide) dX4_readTape_163 ?_
  refine Wp.goto (pc := 166) 8 dX4_readTape_166 (by decide) ?_
  cases hf
  exact hk
set_option maxHeartbeats 4000000 in
set_option maxRecDepth 100000 in
theorem w_X4_readTape_8 {X : CX} {T : List Dsc} {n1 n2 : Nat} {x0 : Nat} {x3 : Int32} {μ : Mem} {r : ((Int32 × Mem) ⊕ ((Mem)))} (hX : XR X 74 n1 n2) (hx0 : T[x0]? = some (.inl 3)) (hf : f_X4_readTape_8 T x0 x3 μ = some r) (hk : k_X4_readTape_8 X T n1 n2 x0 r) : Wp X cX4_readTape RX4 4 T μ n1 n2 8 [(0, .ref x0), (3, .int x3)] [] := by
  unfold f_X4_readTape_8 at hf
  refine Wp.iload_n (pc := 8) 1 rfl rfl dX4_readTape_8 ?_
  refine Wp.sipush (pc := 9) (400 : Int32) (by decide) dX4_readTape_9 ?_
  refine Wp.icmp_gt (pc := 12) 169 dX4_readTape_12 (by decide) (fun hc1 => ?_) (fun hc1 => ?_)
  · rw [if_pos hc1] at hf
    refine Wp.lo' (lo' := [(0, .ref x0)]) [0] rfl ?_
    cases hf
    exact hk
  · rw [if_neg hc1] at hf
    refine Wp.aload_n (pc := 15) 0 rfl rfl dX4_readTape_15 ?_
    refine Wp.getI (pc := 16) hx0 fk_RX4_43 rfl dX4_readTape_16 ?_
    refine Wp.if_ne (pc := 19) 169 dX4_readTape_19 (by decide) (fun hc2 => ?_) (fun hc2 => ?_)
    · rw [if_neg hc2] at hf
      refine Wp.lo' (lo' := [(0, .ref x0)]) [0] rfl ?_
      cases hf
      exact hk
    · rw [if_pos hc2] at hf
      refine Wp.aload_n (pc := 22) 0 rfl rfl dX4_readTape_22 ?_
      refine Wp.getI (pc := 23) hx0 fk_RX4_46 rfl dX4_readTape_23 ?_
      refine Wp.if_eq (pc := 26) 169 dX4_readTape_26 (by decide) (fun hc3 => ?_) (fun hc3 => ?_)
      · rw [if_pos hc3] at hf
        refine Wp.lo' (lo' := [(0, .ref x0)]) [0] rfl ?_
        cases hf
        exact hk
      · rw [if_neg hc3] at hf
        refine Wp.aload_n (pc := 29) 0 rfl rfl dX4_readTape_29 ?_
        refine Wp.getI (pc := 30) hx0 fk_RX4_46 rfl dX4_readTape_30 ?_
        by_cases hc4 : (gI μ x0 2) = (17 : Int32)
        · rw [if_pos hc4] at hf
          refine Wp.swIn (pc := 33) 116 dX4_readTape_33 hc4 (by decide) (by decide) rfl (by decide) ?_
          refine Wp.aload_n (pc := 116) 0 rfl rfl dX4_readTape_116 ?_
          obtain ⟨c5, h6, hf⟩ := bnd hf
          refine Wp.callVv (pc := 117) (st := []) (as := []) (c_X4_readParts hx0 h6) ml_RX4_49 mv_X4_readParts mb_X4_readParts hX (Nat.le_of_ble_eq_true rfl) (by decide) rfl hx0 rfl (by simp) dX4_readTape_117 rfl ?_
          refine Wp.goto (pc := 120) 163 dX4_readTape_120 (by decide) ?_
          exact w_X4_readTape_163 hX hx0 hf hk
        · rw [if_neg hc4] at hf
          by_cases hc7 : (gI μ x0 2) = (18 : Int32)
          · rw [if_pos hc7] at hf
            refine Wp.swIn (pc := 33) 123 dX4_readTape_33 hc7 (by decide) (by decide) rfl (by decide) ?_
            refine Wp.aload_n (pc := 123) 0 rfl rfl dX4_readTape_123 ?_
            obtain ⟨c8, h9, hf⟩ := bnd hf
            refine Wp.callVv (pc := 124) (st := []) (as := []) (c_X4_readLaw hx0 h9) ml_RX4_52 mv_X4_readLaw mb_X4_readLaw hX (Nat.le_of_ble_eq_true rfl) (by decide) rfl hx0 rfl (by simp) dX4_readTape_124 rfl ?_
            refine Wp.goto (pc := 127) 163 dX4_readTape_127 (by decide) ?_
            exact w_X4_readTape_163 hX hx0 hf hk
          · rw [if_neg hc7] at hf
            by_cases hc10 : (gI μ x0 2) = (19 : Int32)
            · rw [if_pos hc10] at hf
              refine Wp.swIn (pc := 33) 130 dX4_readTape_33 hc10 (by decide) (by decide) rfl (by decide) ?_
              refine Wp.aload_n (pc := 130) 0 rfl rfl dX4_readTape_130 ?_
              obtain ⟨c11, h12, hf⟩ := bnd hf
              refine Wp.callVv (pc := 131) (st := []) (as := []) (c_X4_readMan hx0 h12) ml_RX4_55 mv_X4_readMan mb_X4_readMan hX (Nat.le_of_ble_eq_true rfl) (by decide) rfl hx0 rfl (by simp) dX4_readTape_131 rfl ?_
              refine Wp.goto (pc := 134) 163 dX4_readTape_134 (by decide) ?_
              exact w_X4_readTape_163 hX hx0 hf hk
            · rw [if_neg hc10] at hf
              by_cases hc13 : (gI μ x0 2) = (20 : Int32)
              · rw [if_pos hc13] at hf
                refine Wp.swIn (pc := 33) 151 dX4_readTape_33 hc13 (by decide) (by decide) rfl (by decide) ?_
                refine Wp.aload_n (pc := 151) 0 rfl rfl dX4_readTape_151 ?_
                obtain ⟨c14, h15, hf⟩ := bnd hf
                refine Wp.callVv (pc := 152) (st := []) (as := []) (c_X4_readFog hx0 h15) ml_RX4_64 mv_X4_readFog mb_X4_readFog hX (Nat.le_of_ble_eq_true rfl) (by decide) rfl hx0 rfl (by simp) dX4_readTape_152 rfl ?_
                refine Wp.goto (pc := 155) 163 dX4_readTape_155 (by decide) ?_
                exact w_X4_readTape_163 hX hx0 hf hk
              · rw [if_neg hc13] at hf
                by_cases hc16 : (gI μ x0 2) = (21 : Int32)
                · rw [if_pos hc16] at hf
                  refine Wp.swIn (pc := 33) 158 dX4_readTape_33 hc16 (by decide) (by decide) rfl (by decide) ?_
                  refine Wp.aload_n (pc := 158) 0 rfl rfl dX4_readTape_158 ?_
                  refine Wp.iconst (pc := 159) (1 : Int32) (by decide) dX4_readTape_159 ?_
                  obtain ⟨c17, h18, hf⟩ := bnd hf
                  refine Wp.callVv (pc := 160) (st := []) (as := [.int (1 : Int32)]) (c_X4_fail hx0 h18) ml_RX4_67 mv_X4_fail mb_X4_fail hX (Nat.le_of_ble_eq_true rfl) (by decide) rfl hx0 rfl (by simp) dX4_readTape_160 rfl ?_
                  exact w_X4_readTape_163 hX hx0 hf hk
                · rw [if_neg hc16] at hf
                  by_cases hc19 : (gI μ x0 2) = (22 : Int32)
                  · rw [if_pos hc19] at hf
                    refine Wp.swIn (pc := 33) 158 dX4_readTape_33 hc19 (by decide) (by decide) rfl (by decide) ?_
                    refine Wp.aload_n (pc := 158) 0 rfl rfl dX4_readTape_158 ?_
                    refine Wp.iconst (pc := 159) (1 : Int32) (by decide) dX4_readTape_159 ?_
                    obtain ⟨c20, h21, hf⟩ := bnd hf
                    refine Wp.callVv (pc := 160) (st := []) (as := [.int (1 : Int32)]) (c_X4_fail hx0 h21) ml_RX4_67 mv_X4_fail mb_X4_fail hX (Nat.le_of_ble_eq_true rfl) (by decide) rfl hx0 rfl (by simp) dX4_readTape_160 rfl ?_
                    exact w_X4_readTape_163 hX hx0 hf hk
                  · rw [if_neg hc19] at hf
                    by_cases hc22 : (gI μ x0 2) = (23 : Int32)
                    · rw [if_pos hc22] at hf
                      refine Wp.swIn (pc := 33) 158 dX4_readTape_33 hc22 (by decide) (by decide) rfl (by decide) ?_
                      refine Wp.aload_n (pc := 158) 0 rfl rfl dX4_readTape_158 ?_
                      refine Wp.iconst (pc := 159) (1 : Int32) (by decide) dX4_readTape_159 ?_
                      obtain ⟨c23, h24, hf⟩ := bnd hf
                      refine Wp.callVv (pc := 160) (st := []) (as := [.int (1 : Int32)]) (c_X4_fail hx0 h24) ml_RX4_67 mv_X4_fail mb_X4_fail hX (Nat.le_of_ble_eq_true rfl) (by decide) rfl hx0 rfl (by simp) dX4_readTape_160 rfl ?_
                      exact w_X4_readTape_163 hX hx0 hf hk
                    · rw [if_neg hc22] at hf
                      by_cases hc25 : (gI μ x0 2) = (24 : Int32)
                      · rw [if_pos hc25] at hf
                        refine Wp.swIn (pc := 33) 158 dX4_readTape_33 hc25 (by decide) (by decide) rfl (by decide) ?_
                        refine Wp.aload_n (pc := 158) 0 rfl rfl dX4_readTape_158 ?_
                        refine Wp.iconst (pc := 159) (1 : Int32) (by decide) dX4_readTape_159 ?_
                        obtain ⟨c26, h27, hf⟩ := bnd hf
                        refine Wp.callVv (pc := 160) (st := []) (as := [.int (1 : Int32)]) (c_X4_fail hx0 h27) ml_RX4_67 mv_X4_fail mb_X4_fail hX (Nat.le_of_ble_eq_true rfl) (by decide) rfl hx0 rfl (by simp) dX4_readTape_160 rfl ?_
                        exact w_X4_readTape_163 hX hx0 hf hk
                      · rw [if_neg hc25] at hf
                        by_cases hc28 : (gI μ x0 2) = (25 : Int32)
                        · rw [if_pos hc28] at hf
                          refine Wp.swIn (pc := 33) 158 dX4_readTape_33 hc28 (by decide) (by decide) rfl (by decide) ?_
                          refine Wp.aload_n (pc := 158) 0 rfl rfl dX4_readTape_158 ?_
                          refine Wp.iconst (pc := 159) (1 : Int32) (by decide) dX4_readTape_159 ?_
                          obtain ⟨c29, h30, hf⟩ := bnd hf
                          refine Wp.callVv (pc := 160) (st := []) (as := [.int (1 : Int32)]) (c_X4_fail hx0 h30) ml_RX4_67 mv_X4_fail mb_X4_fail hX (Nat.le_of_ble_eq_true rfl) (by decide) rfl hx0 rfl (by simp) dX4_readTape_160 rfl ?_
                          exact w_X4_readTape_163 hX hx0 hf hk
                        · rw [if_neg hc28] at hf
                          by_cases hc31 : (gI μ x0 2) = (26 : Int32)
                          · rw [if_pos hc31] at hf
                            refine Wp.swIn (pc := 33) 158 dX4_readTape_33 hc31 (by decide) (by decide) rfl (by decide) ?_
                            refine Wp.aload_n (pc := 158) 0 rfl rfl dX4_readTape_158 ?_
                            refine Wp.iconst (pc := 159) (1 : Int32) (by decide) dX4_readTape_159 ?_
                            obtain ⟨c32, h33, hf⟩ := bnd hf
                            refine Wp.callVv (pc := 160) (st := []) (as := [.int (1 : Int32)]) (c_X4_fail hx0 h33) ml_RX4_67 mv_X4_fail mb_X4_fail hX (Nat.le_of_ble_eq_true rfl) (by decide) rfl hx0 rfl (by simp) dX4_readTape_160 rfl ?_
                            exact w_X4_readTape_163 hX hx0 hf hk
                          · rw [if_neg hc31] at hf
                            by_cases hc34 : (gI μ x0 2) = (27 : Int32)
                            · rw [if_pos hc34] at hf
                              refine Wp.swIn (pc := 33) 158 dX4_readTape_33 hc34 (by decide) (by decide) rfl (by decide) ?_
                              refine Wp.aload_n (pc := 158) 0 rfl rfl dX4_readTape_158 ?_
                              refine Wp.iconst (pc := 159) (1 : Int32) (by decide) dX4_readTape_159 ?_
                              obtain ⟨c35, h36, hf⟩ := bnd hf
                              refine Wp.callVv (pc := 160) (st := []) (as := [.int (1 : Int32)]) (c_X4_fail hx0 h36) ml_RX4_67 mv_X4_fail mb_X4_fail hX (Nat.le_of_ble_eq_true rfl) (by decide) rfl hx0 rfl (by simp) dX4_readTape_160 rfl ?_
                              exact w_X4_readTape_163 hX hx0 hf hk
                            · rw [if_neg hc34] at hf
                              by_cases hc37 : (gI μ x0 2) = (28 : Int32)
                              · rw [if_pos hc37] at hf
                                refine Wp.swIn (pc := 33) 158 dX4_readTape_33 hc37 (by decide) (by decide) rfl (by decide) ?_
                                refine Wp.aload_n (pc := 158) 0 rfl rfl dX4_readTape_158 ?_
                                refine Wp.iconst (pc := 159) (1 : Int32) (by decide) dX4_readTape_159 ?_
                                obtain ⟨c38, h39, hf⟩ := bnd hf
                                refine Wp.callVv (pc := 160) (st := []) (as := [.int (1 : Int32)]) (c_X4_fail hx0 h39) ml_RX4_67 mv_X4_fail mb_X4_fail hX (Nat.le_of_ble_eq_true rfl) (by decide) rfl hx0 rfl (by simp) dX4_readTape_160 rfl ?_
                                exact w_X4_readTape_163 hX hx0 hf hk
                              · rw [if_neg hc37] at hf
                                by_cases hc40 : (gI μ x0 2) = (29 : Int32)
                                · rw [if_pos hc40] at hf
                                  refine Wp.swIn (pc := 33) 158 dX4_readTape_33 hc40 (by decide) (by decide) rfl (by decide) ?_
                                  refine Wp.aload_n (pc := 158) 0 rfl rfl dX4_readTape_158 ?_
                                  refine Wp.iconst (pc := 159) (1 : Int32) (by decide) dX4_readTape_159 ?_
                                  obtain ⟨c41, h42, hf⟩ := bnd hf
                                  refine Wp.callVv (pc := 160) (st := []) (as := [.int (1 : Int32)]) (c_X4_fail hx0 h42) ml_RX4_67 mv_X4_fail mb_X4_fail hX (Nat.le_of_ble_eq_true rfl) (by decide) rfl hx0 rfl (by simp) dX4_readTape_160 rfl ?_
                                  exact w_X4_readTape_163 hX hx0 hf hk
                                · rw [if_neg hc40] at hf
                                  by_cases hc43 : (gI μ x0 2) = (30 : Int32)
                                  · rw [if_pos hc43] at hf
                                    refine Wp.swIn (pc := 33) 158 dX4_readTape_33 hc43 (by decide) (by decide) rfl (by decide) ?_
                                    refine Wp.aload_n (pc := 158) 0 rfl rfl dX4_readTape_158 ?_
                                    refine Wp.iconst (pc := 159) (1 : Int32) (by decide) dX4_readTape_159 ?_
                                    obtain ⟨c44, h45, hf⟩ := bnd hf
                                    refine Wp.callVv (pc := 160) (st := []) (as := [.int (1 : Int32)]) (c_X4_fail hx0 h45) ml_RX4_67 mv_X4_fail mb_X4_fail hX (Nat.le_of_ble_eq_true rfl) (by decide) rfl hx0 rfl (by simp) dX4_readTape_160 rfl ?_
                                    exact w_X4_readTape_163 hX hx0 hf hk
                                  · rw [if_neg hc43] at hf
                                    by_cases hc46 : (gI μ x0 2) = (31 : Int32)
                                    · rw [if_pos hc46] at hf
                                      refine Wp.swIn (pc := 33) 137 dX4_readTape_33 hc46 (by decide) (by decide) rfl (by decide) ?_
                                      refine Wp.aload_n (pc := 137) 0 rfl rfl dX4_readTape_137 ?_
                                      obtain ⟨c47, h48, hf⟩ := bnd hf
                                      refine Wp.callVv (pc := 138) (st := []) (as := []) (c_X4_readDrum hx0 h48) ml_RX4_58 mv_X4_readDrum mb_X4_readDrum hX (Nat.le_of_ble_eq_true rfl) (by decide) rfl hx0 rfl (by simp) dX4_readTape_138 rfl ?_
                                      refine Wp.goto (pc := 141) 163 dX4_readTape_141 (by decide) ?_
                                      exact w_X4_readTape_163 hX hx0 hf hk
                                    · rw [if_neg hc46] at hf
                                      by_cases hc49 : (gI μ x0 2) = (32 : Int32)
                                      · rw [if_pos hc49] at hf
                                        refine Wp.swIn (pc := 33) 158 dX4_readTape_33 hc49 (by decide) (by decide) rfl (by decide) ?_
                                        refine Wp.aload_n (pc := 158) 0 rfl rfl dX4_readTape_158 ?_
                                        refine Wp.iconst (pc := 159) (1 : Int32) (by decide) dX4_readTape_159 ?_
                                        obtain ⟨c50, h51, hf⟩ := bnd hf
                                        refine Wp.callVv (pc := 160) (st := []) (as := [.int (1 : Int32)]) (c_X4_fail hx0 h51) ml_RX4_67 mv_X4_fail mb_X4_fail hX (Nat.le_of_ble_eq_true rfl) (by decide) rfl hx0 rfl (by simp) dX4_readTape_160 rfl ?_
                                        exact w_X4_readTape_163 hX hx0 hf hk
                                      · rw [if_neg hc49] at hf
                                        by_cases hc52 : (gI μ x0 2) = (33 : Int32)
                                        · rw [if_pos hc52] at hf
                                          refine Wp.swIn (pc := 33) 144 dX4_readTape_33 hc52 (by decide) (by decide) rfl (by decide) ?_
                                          refine Wp.aload_n (pc := 144) 0 rfl rfl dX4_readTape_144 ?_
                                          obtain ⟨c53, h54, hf⟩ := bnd hf
                                          refine Wp.callVv (pc := 145) (st := []) (as := []) (c_X4_readSong hx0 h54) ml_RX4_61 mv_X4_readSong mb_X4_readSong hX (Nat.le_of_ble_eq_true rfl) (by decide) rfl hx0 rfl (by simp) dX4_readTape_145 rfl ?_
                                          refine Wp.goto (pc := 148) 163 dX4_readTape_148 (by decide) ?_
                                          exact w_X4_readTape_163 hX hx0 hf hk
                                        · rw [if_neg hc52] at hf
                                          refine Wp.swOut (pc := 33) 158 dX4_readTape_33 (swx (fun k h1 h2 => ?_)) (by decide) ?_
                                          · have z0 := lv_neT hc4 (a := 17) (by decide); have z1 := lv_neT hc7 (a := 18) (by decide); have z2 := lv_neT hc10 (a := 19) (by decide); have z3 := lv_neT hc13 (a := 20) (by decide); have z4 := lv_neT hc16 (a := 21) (by decide); have z5 := lv_neT hc19 (a := 22) (by decide); have z6 := lv_neT hc22 (a := 23) (by decide); have z7 := lv_neT hc25 (a := 24) (by decide); have z8 := lv_neT hc28 (a := 25) (by decide); have z9 := lv_neT hc31 (a := 26) (by decide); have z10 := lv_neT hc34 (a := 27) (by decide); have z11 := lv_neT hc37 (a := 28) (by decide); have z12 := lv_neT hc40 (a := 29) (by decide); have z13 := lv_neT hc43 (a := 30) (by decide); have z14 := lv_neT hc46 (a := 31) (by decide); have z15 := lv_neT hc49 (a := 32) (by decide); have z16 := lv_neT hc52 (a := 33) (by decide); omega
                                          · skip
                                            refine Wp.aload_n (pc := 158) 0 rfl rfl dX4_readTape_158 ?_
                                            refine Wp.iconst (pc := 159) (1 : Int32) (by decide) dX4_readTape_159 ?_
                                            obtain ⟨c55, h56, hf⟩ := bnd hf
                                            refine Wp.callVv (pc := 160) (st := []) (as := [.int (1 : Int32)]) (c_X4_fail hx0 h56) ml_RX4_67 mv_X4_fail mb_X4_fail hX (Nat.le_of_ble_eq_true rfl) (by decide) rfl hx0 rfl (by simp) dX4_readTape_160 rfl ?_
                                            exact w_X4_readTape_163 hX hx0 hf hk
theorem wl_X4_readTape_8 {X : CX} {T : List Dsc} {n1 n2 : Nat} {x0 : Nat} {x3 : Int32} {μ : Mem} {e : ((Mem))} (hX : XR X 74 n1 n2) (hx0 : T[x0]? = some (.inl 3)) (h : loop (g_X4_readTape_8 T x0) (x3, μ) = some e) (he : Wp X cX4_readTape RX4 4 T e n1 n2 169 [(0, .ref x0)] []) : Wp X cX4_readTape RX4 4 T μ n1 n2 8 [(0, .ref x0), (3, .int x3)] [] :=
  loop_ok (K := k_X4_readTape_8 X T n1 n2 x0) (fun s r hf hk => w_X4_readTape_8 hX hx0 hf hk) h he
set_option maxHeartbeats 4000000 in
set_option maxRecDepth 100000 in
theorem w_X4_readTape_180 {X : CX} {T : List Dsc} {n1 n2 : Nat} {x0 : Nat} {μ : Mem} {r : (Int32 × Mem)} (hX : XR X 74 n1 n2) (hx0 : T[x0]? = some (.inl 3)) (hf : f_X4_readTape_180 T x0 μ = some r) (hk : FnI X cX4_readTape RX4 4 T n1 n2 r) : Wp X cX4_readTape RX4 4 T μ n1 n2 180 [(0, .ref x0)] [] := by
  unfold f_X4_readTape_180 at hf
  refine Wp.aload_n (pc := 180) 0 rfl rfl dX4_readTape_180 ?_
  refine Wp.getI (pc := 181) hx0 fk_RX4_43 rfl dX4_readTape_181 ?_
  cases hf
  exact hk _ _ dX4_readTape_184
set_option maxHeartbeats 4000000 in
set_option maxRecDepth 100000 in
theorem w_X4_readTape_169 {X : CX} {T : List Dsc} {n1 n2 : Nat} {x0 : Nat} {μ : Mem} {r : (Int32 × Mem)} (hX : XR X 74 n1 n2) (hx0 : T[x0]? = some (.inl 3)) (hf : f_X4_readTape_169 T x0 μ = some r) (hk : FnI X cX4_readTape RX4 4 T n1 n2 r) : Wp X cX4_readTape RX4 4 T μ n1 n2 169 [(0, .ref x0)] [] := by
  unfold f_X4_readTape_169 at hf
  refine Wp.aload_n (pc := 169) 0 rfl rfl dX4_readTape_169 ?_
  refine Wp.getI (pc := 170) hx0 fk_RX4_43 rfl dX4_readTape_170 ?_
  refine Wp.if_ne (pc := 173) 180 dX4_readTape_173 (by decide) (fun hc1 => ?_) (fun hc1 => ?_)
  · rw [if_neg hc1] at hf
    exact w_X4_readTape_180 hX hx0 hf hk
  · rw [if_pos hc1] at hf
    refine Wp.aload_n (pc := 176) 0 rfl rfl dX4_readTape_176 ?_
    obtain ⟨c2, h3, hf⟩ := bnd hf
    refine Wp.callVv (pc := 177) (st := []) (as := []) (c_X4_takeLaterFault hx0 h3) ml_RX4_71 mv_X4_takeLaterFault mb_X4_takeLaterFault hX (Nat.le_of_ble_eq_true rfl) (by decide) rfl hx0 rfl (by simp) dX4_readTape_177 rfl ?_
    exact w_X4_readTape_180 hX hx0 hf hk
set_option maxHeartbeats 4000000 in
set_option maxRecDepth 100000 in
theorem w_X4_readTape {X : CX} {T : List Dsc} {n1 n2 : Nat} {x0 : Nat} {x1 : Int32} {x2 : Nat} {μ : Mem} {r : (Int32 × Mem)} (hX : XR X 74 n1 n2) (hx0 : T[x0]? = some (.inl 3)) (hx2 : T[x2]? = some (.inl 6)) (hf : F_X4_readTape T x0 x1 x2 μ = some r) (hk : FnI X cX4_readTape RX4 4 T n1 n2 r) : Wp X cX4_readTape RX4 4 T μ n1 n2 0 [(0, .ref x0), (1, .int x1), (2, .ref x2)] [] := by
  unfold F_X4_readTape at hf
  refine Wp.aload_n (pc := 0) 0 rfl rfl dX4_readTape_0 ?_
  refine Wp.iload_n (pc := 1) 1 rfl rfl dX4_readTape_1 ?_
  refine Wp.aload_n (pc := 2) 2 rfl rfl dX4_readTape_2 ?_
  obtain ⟨c1, h2, hf⟩ := bnd hf
  refine Wp.callVv (pc := 3) (st := []) (as := [.int x1, .ref x2]) (c_X4_begin hx0 hx2 h2) ml_RX4_39 mv_X4_begin mb_X4_begin hX (Nat.le_of_ble_eq_true rfl) (by decide) rfl hx0 rfl (by simp) dX4_readTape_3 rfl ?_
  refine Wp.iconst (pc := 6) (0 : Int32) (by decide) dX4_readTape_6 ?_
  refine Wp.istore_n (pc := 7) (lo' := [(0, .ref x0), (3, .int (0 : Int32))]) [1, 0] rfl (by decide) rfl dX4_readTape_7 ?_
  obtain ⟨e3, h4, hf⟩ := bnd hf
  refine wl_X4_readTape_8 hX hx0 h4 ?_
  exact w_X4_readTape_169 hX hx0 hf hk
theorem c_X4_readTape {T : List Dsc} {x0 : Nat} {x1 : Int32} {x2 : Nat} {μ : Mem} {r : (Int32 × Mem)} (hx0 : T[x0]? = some (.inl 3)) (hx2 : T[x2]? = some (.inl 6)) (hf : F_X4_readTape T x0 x1 x2 μ = some r) : Ct 74 yX4_readTape cX4_readTape 4 (some .int) T μ [.ref x0, .int x1, .ref x2] (some (.int r.1)) r.2 := Ct.ofI (by decide +kernel) (Nat.le_of_ble_eq_true rfl) (fun X hX hk => w_X4_readTape hX hx0 hx2 hf hk)
theorem dX5_stroke_0 : decode cX5_stroke 0 = .ok (.lconst 0, 1) := by decide +kernel
theorem dX5_stroke_1 : decode cX5_stroke 1 = .ok (.lstore 6, 2) := by decide +kernel
theorem dX5_stroke_3 : decode cX5_stroke 3 = .ok (.lload_n 1, 1) := by decide +kernel
theorem dX5_stroke_4 : decode cX5_stroke 4 = .ok (.iconst 0, 1) := by decide +kernel
theorem dX5_stroke_5 : decode cX5_stroke 5 = .ok (.invokestatic 39, 3) := by decide +kernel
theorem dX5_stroke_8 : decode cX5_stroke 8 = .ok (.istore 8, 2) := by decide +kernel
theorem dX5_stroke_10 : decode cX5_stroke 10 = .ok (.iload 8, 2) := by decide +kernel
theorem dX5_stroke_12 : decode cX5_stroke 12 = .ok (.istore 9, 2) := by decide +kernel
theorem dX5_stroke_14 : decode cX5_stroke 14 = .ok (.iconst 0, 1) := by decide +kernel
theorem dX5_stroke_15 : decode cX5_stroke 15 = .ok (.istore 10, 2) := by decide +kernel
theorem dX5_stroke_17 : decode cX5_stroke 17 = .ok (.iload 10, 2) := by decide +kernel
theorem dX5_stroke_19 : decode cX5_stroke 19 = .ok (.aload_n 0, 1) := by decide +kernel
theorem dX5_stroke_20 : decode cX5_stroke 20 = .ok (.getfield 26, 3) := by decide +kernel
theorem dX5_stroke_23 : decode cX5_stroke 23 = .ok (.getfield 43, 3) := by decide +kernel
theorem dX5_stroke_26 : decode cX5_stroke 26 = .ok (.if_icmp .ge 61, 3) := by decide +kernel
theorem dX5_stroke_29 : decode cX5_stroke 29 = .ok (.iload 10, 2) := by decide +kernel
theorem dX5_stroke_31 : decode cX5_stroke 31 = .ok (.aload_n 3, 1) := by decide +kernel
theorem dX5_stroke_32 : decode cX5_stroke 32 = .ok (.arraylength, 1) := by decide +kernel
theorem dX5_stroke_33 : decode cX5_stroke 33 = .ok (.if_icmp .ge 54, 3) := by decide +kernel
theorem dX5_stroke_36 : decode cX5_stroke 36 = .ok (.lload_n 1, 1) := by decide +kernel
theorem dX5_stroke_37 : decode cX5_stroke 37 = .ok (.iload 10, 2) := by decide +kernel
theorem dX5_stroke_39 : decode cX5_stroke 39 = .ok (.invokestatic 39, 3) := by decide +kernel
theorem dX5_stroke_42 : decode cX5_stroke 42 = .ok (.istore 11, 2) := by decide +kernel
theorem dX5_stroke_44 : decode cX5_stroke 44 = .ok (.lload 6, 2) := by decide +kernel
theorem dX5_stroke_46 : decode cX5_stroke 46 = .ok (.iload 10, 2) := by decide +kernel
theorem dX5_stroke_48 : decode cX5_stroke 48 = .ok (.aload_n 0, 1) := by decide +kernel
theorem dX5_stroke_49 : decode cX5_stroke 49 = .ok (.aload_n 3, 1) := by decide +kernel
theorem dX5_stroke_50 : decode cX5_stroke 50 = .ok (.iload 10, 2) := by decide +kernel
theorem dX5_stroke_52 : decode cX5_stroke 52 = .ok (.iaload, 1) := by decide +kernel
theorem dX5_stroke_53 : decode cX5_stroke 53 = .ok (.iload 10, 2) := by decide +kernel
theorem dX5_stroke_55 : decode cX5_stroke 55 = .ok (.iload 11, 2) := by decide +kernel
theorem dX5_stroke_57 : decode cX5_stroke 57 = .ok (.iload 8, 2) := by decide +kernel
theorem dX5_stroke_59 : decode cX5_stroke 59 = .ok (.iload 9, 2) := by decide +kernel
theorem dX5_stroke_61 : decode cX5_stroke 61 = .ok (.iload 4, 2) := by decide +kernel
theorem dX5_stroke_63 : decode cX5_stroke 63 = .ok (.iload 5, 2) := by decide +kernel
theorem dX5_stroke_65 : decode cX5_stroke 65 = .ok (.invokevirtual 46, 3) := by decide +kernel
theorem dX5_stroke_68 : decode cX5_stroke 68 = .ok (.invokestatic 50, 3) := by decide +kernel
theorem dX5_stroke_71 : decode cX5_stroke 71 = .ok (.lstore 6, 2) := by decide +kernel
theorem dX5_stroke_73 : decode cX5_stroke 73 = .ok (.iload 8, 2) := by decide +kernel
theorem dX5_stroke_75 : decode cX5_stroke 75 = .ok (.istore 9, 2) := by decide +kernel
theorem dX5_stroke_77 : decode cX5_stroke 77 = .ok (.iload 11, 2) := by decide +kernel
theorem dX5_stroke_79 : decode cX5_stroke 79 = .ok (.istore 8, 2) := by decide +kernel
theorem dX5_stroke_81 : decode cX5_stroke 81 = .ok (.iinc 10 1, 3) := by decide +kernel
theorem dX5_stroke_84 : decode cX5_stroke 84 = .ok (.goto (-67), 3) := by decide +kernel
theorem dX5_stroke_87 : decode cX5_stroke 87 = .ok (.lload 6, 2) := by decide +kernel
theorem dX5_stroke_89 : decode cX5_stroke 89 = .ok (.lreturn, 1) := by decide +kernel
def k_X5_stroke_17 (X : CX) (T : List Dsc) (n1 n2 : Nat) (x0 : Nat) (x1 : Int64) (x3 : Nat) (m3 : Nat) (x4 : Int32) (x5 : Int32) (r : ((Int64 × Int32 × Int32 × Int32 × Mem) ⊕ ((Int64 × Mem)))) : Prop := match r with
  | .inl s => Wp X cX5_stroke RX5 12 T s.2.2.2.2 n1 n2 17 [(0, .ref x0), (1, .long x1), (3, .ref x3), (4, .int x4), (5, .int x5), (6, .long s.1), (8, .int s.2.1), (9, .int s.2.2.1), (10, .int s.2.2.2.1)] []
  | .inr e => Wp X cX5_stroke RX5 12 T e.2 n1 n2 87 [(6, .long e.1)] []
set_option maxHeartbeats 4000000 in
set_option maxRecDepth 100000 in
theorem w_X5_stroke_17 {X : CX} {T : List Dsc} {n1 n2 : Nat} {x0 : Nat} {x1 : Int64} {x3 : Nat} {m3 : Nat} {x4 : Int32} {x5 : Int32} {x6 : Int64} {x8 : Int32} {x9 : Int32} {x10 : Int32} {μ : Mem} {r : ((Int64 × Int32 × Int32 × Int32 × Mem) ⊕ ((Int64 × Mem)))} (hX : XR X 5 n1 n2) (hx0 : T[x0]? = some (.inl 4)) (hx3 : aLen T x3 0 = some m3) (hf : f_X5_stroke_17 T x0 x1 x3 m3 x4 x5 x6 x8 x9 x10 μ = some r) (hk : k_X5_stroke_17 X T n1 n2 x0 x1 x3 m3 x4 x5 r) : Wp X cX5_stroke RX5 12 T μ n1 n2 17 [(0, .ref x0), (1, .long x1), (3, .ref x3), (4, .int x4), (5, .int x5), (6, .long x6), (8, .int x8), (9, .int x9), (10, .int x10)] [] := by
  unfold f_X5_stroke_17 at hf
  refine Wp.iload (pc := 17) 8 rfl dX5_stroke_17 ?_
  refine Wp.aload_n (pc := 19) 0 rfl rfl dX5_stroke_19 ?_
  obtain ⟨r1, h2, hf⟩ := bnd hf
  refine Wp.getR (pc := 20) (gO_R h2) hx0 fk_RX5_26 rfl dX5_stroke_20 ?_
  refine Wp.getI (pc := 23) (gO_T h2) fk_RX5_43 rfl dX5_stroke_23 ?_
  refine Wp.icmp_ge (pc := 26) 87 dX5_stroke_26 (by decide) (fun hc3 => ?_) (fun hc3 => ?_)
  · rw [if_pos hc3] at hf
    refine Wp.lo' (lo' := [(6, .long x6)]) [5] rfl ?_
    cases hf
    exact hk
  · rw [if_neg hc3] at hf
    refine Wp.iload (pc := 29) 8 rfl dX5_stroke_29 ?_
    refine Wp.aload_n (pc := 31) 2 rfl rfl dX5_stroke_31 ?_
    refine Wp.alen (pc := 32) hx3 dX5_stroke_32 ?_
    refine Wp.icmp_ge (pc := 33) 87 dX5_stroke_33 (by decide) (fun hc4 => ?_) (fun hc4 => ?_)
    · rw [if_pos hc4] at hf
      refine Wp.lo' (lo' := [(6, .long x6)]) [5] rfl ?_
      cases hf
      exact hk
    · rw [if_neg hc4] at hf
      refine Wp.lload_n (pc := 36) 1 rfl rfl dX5_stroke_36 ?_
      refine Wp.iload (pc := 37) 8 rfl dX5_stroke_37 ?_
      obtain ⟨c5, h6, hf⟩ := bnd hf
      refine Wp.callSNi (pc := 39) (st := []) (as := [.long x1, .int x10]) (c_X11_timeAt h6) ml_RX5_39 ms_X11_timeAt mb_X11_timeAt hX (Nat.le_of_ble_eq_true rfl) (by decide) rfl (by simp) dX5_stroke_39 rfl ?_
      refine Wp.istore (pc := 42) (lo' := [(0, .ref x0), (1, .long x1), (3, .ref x3), (4, .int x4), (5, .int x5), (6, .long x6), (8, .int x8), (9, .int x9), (10, .int x10), (11, .int c5.1)]) [1, 2, 3, 4, 5, 6, 7, 8, 9, 0] rfl (by decide) dX5_stroke_42 ?_
      refine Wp.lload (pc := 44) 5 rfl dX5_stroke_44 ?_
      refine Wp.iload (pc := 46) 8 rfl dX5_stroke_46 ?_
      refine Wp.aload_n (pc := 48) 0 rfl rfl dX5_stroke_48 ?_
      refine Wp.aload_n (pc := 49) 2 rfl rfl dX5_stroke_49 ?_
      refine Wp.iload (pc := 50) 8 rfl dX5_stroke_50 ?_
      obtain ⟨v7, h8, hf⟩ := bnd hf
      refine Wp.iald (pc := 52) h8 hx3 dX5_stroke_52 ?_
      refine Wp.iload (pc := 53) 8 rfl dX5_stroke_53 ?_
      refine Wp.iload (pc := 55) 9 rfl dX5_stroke_55 ?_
      refine Wp.iload (pc := 57) 6 rfl dX5_stroke_57 ?_
      refine Wp.iload (pc := 59) 7 rfl dX5_stroke_59 ?_
      refine Wp.iload (pc := 61) 3 rfl dX5_stroke_61 ?_
      refine Wp.iload (pc := 63) 4 rfl dX5_stroke_63 ?_
      obtain ⟨c9, h10, hf⟩ := bnd hf
      refine Wp.callVi (pc := 65) (st := [.int x10, .long x6]) (as := [.int v7, .int x10, .int c5.1, .int x8, .int x9, .int x4, .int x5]) (c_X5_turned hx0 h10) ml_RX5_46 mv_X5_turned mb_X5_turned hX (Nat.le_of_ble_eq_true rfl) (by decide) rfl hx0 rfl (by simp [Value.category]) dX5_stroke_65 rfl ?_
      obtain ⟨c11, h12, hf⟩ := bnd hf
      refine Wp.callSNl (pc := 68) (st := []) (as := [.long x6, .int x10, .int c9.1]) (c_X11_withTime h12) ml_RX5_50 ms_X11_withTime mb_X11_withTime hX (Nat.le_of_ble_eq_true rfl) (by decide) rfl (by simp) dX5_stroke_68 rfl ?_
      refine Wp.lstore (pc := 71) (lo' := [(0, .ref x0), (1, .long x1), (3, .ref x3), (4, .int x4), (5, .int x5), (6, .long c11.1), (8, .int x8), (10, .int x10), (11, .int c5.1)]) [1, 2, 3, 4, 5, 0, 6, 8, 9] rfl (by decide) dX5_stroke_71 ?_
      refine Wp.iload (pc := 73) 6 rfl dX5_stroke_73 ?_
      refine Wp.istore (pc := 75) (lo' := [(0, .ref x0), (1, .long x1), (3, .ref x3), (4, .int x4), (5, .int x5), (6, .long c11.1), (9, .int x8), (10, .int x10), (11, .int c5.1)]) [1, 2, 3, 4, 5, 6, 0, 8, 9] rfl (by decide) dX5_stroke_75 ?_
      refine Wp.iload (pc := 77) 8 rfl dX5_stroke_77 ?_
      refine Wp.istore (pc := 79) (lo' := [(0, .ref x0), (1, .long x1), (3, .ref x3), (4, .int x4), (5, .int x5), (6, .long c11.1), (8, .int c5.1), (9, .int x8), (10, .int x10)]) [1, 2, 3, 4, 5, 6, 0, 7, 8] rfl (by decide) dX5_stroke_79 ?_
      obtain ⟨v13, h14, hf⟩ := bnd hf
      refine Wp.iincN (pc := 81) (lo' := [(0, .ref x0), (1, .long x1), (3, .ref x3), (4, .int x4), (5, .int x5), (6, .long c11.1), (8, .int c5.1), (9, .int x8), (10, .int v13)]) (1 : Int32) (by decide) h14 8 rfl [1, 2, 3, 4, 5, 6, 7, 8, 0] rfl (by decide) dX5_stroke_81 ?_
      refine Wp.goto (pc := 84) 17 dX5_stroke_84 (by decide) ?_
      cases hf
      exact hk
theorem wl_X5_stroke_17 {X : CX} {T : List Dsc} {n1 n2 : Nat} {x0 : Nat} {x1 : Int64} {x3 : Nat} {m3 : Nat} {x4 : Int32} {x5 : Int32} {x6 : Int64} {x8 : Int32} {x9 : Int32} {x10 : Int32} {μ : Mem} {e : ((Int64 × Mem))} (hX : XR X 5 n1 n2) (hx0 : T[x0]? = some (.inl 4)) (hx3 : aLen T x3 0 = some m3) (h : loop (g_X5_stroke_17 T x0 x1 x3 m3 x4 x5) (x6, x8, x9, x10, μ) = some e) (he : Wp X cX5_stroke RX5 12 T e.2 n1 n2 87 [(6, .long e.1)] []) : Wp X cX5_stroke RX5 12 T μ n1 n2 17 [(0, .ref x0), (1, .long x1), (3, .ref x3), (4, .int x4), (5, .int x5), (6, .long x6), (8, .int x8), (9, .int x9), (10, .int x10)] [] :=
  loop_ok (K := k_X5_stroke_17 X T n1 n2 x0 x1 x3 m3 x4 x5) (fun s r hf hk => w_X5_stroke_17 hX hx0 hx3 hf hk) h he
set_option maxHeartbeats 4000000 in
set_option maxRecDepth 100000 in
theorem w_X5_stroke_87 {X : CX} {T : List Dsc} {n1 n2 : Nat} {x6 : Int64} {μ : Mem} {r : (Int64 × Mem)} (hX : XR X 5 n1 n2) (hf : f_X5_stroke_87 T x6 μ = some r) (hk : FnJ X cX5_stroke RX5 12 T n1 n2 r) : Wp X cX5_stroke RX5 12 T μ n1 n2 87 [(6, .long x6)] [] := by
  unfold f_X5_stroke_87 at hf
  refine Wp.lload (pc := 87) 0 rfl dX5_stroke_87 ?_
  cases hf
  exact hk _ _ dX5_stroke_89
set_option maxHeartbeats 4000000 in
set_option maxRecDepth 100000 in
theorem w_X5_stroke {X : CX} {T : List Dsc} {n1 n2 : Nat} {x0 : Nat} {x1 : Int64} {x3 : Nat} {m3 : Nat} {x4 : Int32} {x5 : Int32} {μ : Mem} {r : (Int64 × Mem)} (hX : XR X 5 n1 n2) (hx0 : T[x0]? = some (.inl 4)) (hx3 : aLen T x3 0 = some m3) (hf : F_X5_stroke T x0 x1 x3 m3 x4 x5 μ = some r) (hk : FnJ X cX5_stroke RX5 12 T n1 n2 r) : Wp X cX5_stroke RX5 12 T μ n1 n2 0 [(0, .ref x0), (1, .long x1), (3, .ref x3), (4, .int x4), (5, .int x5)] [] := by
  unfold F_X5_stroke at hf
  refine Wp.lconst (pc := 0) (0 : Int64) (by decide) dX5_stroke_0 ?_
  refine Wp.lstore (pc := 1) (lo' := [(0, .ref x0), (1, .long x1), (3, .ref x3), (4, .int x4), (5, .int x5), (6, .long (0 : Int64))]) [1, 2, 3, 4, 5, 0] rfl (by decide) dX5_stroke_1 ?_
  refine Wp.lload_n (pc := 3) 1 rfl rfl dX5_stroke_3 ?_
  refine Wp.iconst (pc := 4) (0 : Int32) (by decide) dX5_stroke_4 ?_
  obtain ⟨c1, h2, hf⟩ := bnd hf
  refine Wp.callSNi (pc := 5) (st := []) (as := [.long x1, .int (0 : Int32)]) (c_X11_timeAt h2) ml_RX5_39 ms_X11_timeAt mb_X11_timeAt hX (Nat.le_of_ble_eq_true rfl) (by decide) rfl (by simp) dX5_stroke_5 rfl ?_
  refine Wp.istore (pc := 8) (lo' := [(0, .ref x0), (1, .long x1), (3, .ref x3), (4, .int x4), (5, .int x5), (6, .long (0 : Int64)), (8, .int c1.1)]) [1, 2, 3, 4, 5, 6, 0] rfl (by decide) dX5_stroke_8 ?_
  refine Wp.iload (pc := 10) 6 rfl dX5_stroke_10 ?_
  refine Wp.istore (pc := 12) (lo' := [(0, .ref x0), (1, .long x1), (3, .ref x3), (4, .int x4), (5, .int x5), (6, .long (0 : Int64)), (8, .int c1.1), (9, .int c1.1)]) [1, 2, 3, 4, 5, 6, 7, 0] rfl (by decide) dX5_stroke_12 ?_
  refine Wp.iconst (pc := 14) (0 : Int32) (by decide) dX5_stroke_14 ?_
  refine Wp.istore (pc := 15) (lo' := [(0, .ref x0), (1, .long x1), (3, .ref x3), (4, .int x4), (5, .int x5), (6, .long (0 : Int64)), (8, .int c1.1), (9, .int c1.1), (10, .int (0 : Int32))]) [1, 2, 3, 4, 5, 6, 7, 8, 0] rfl (by decide) dX5_stroke_15 ?_
  obtain ⟨e3, h4, hf⟩ := bnd hf
  refine wl_X5_stroke_17 hX hx0 hx3 h4 ?_
  exact w_X5_stroke_87 hX hf hk
theorem c_X5_stroke {T : List Dsc} {x0 : Nat} {x1 : Int64} {x3 : Nat} {m3 : Nat} {x4 : Int32} {x5 : Int32} {μ : Mem} {r : (Int64 × Mem)} (hx0 : T[x0]? = some (.inl 4)) (hx3 : aLen T x3 0 = some m3) (hf : F_X5_stroke T x0 x1 x3 m3 x4 x5 μ = some r) : Ct 5 yX5_stroke cX5_stroke 12 (some .long) T μ [.ref x0, .long x1, .ref x3, .int x4, .int x5] (some (.long r.1)) r.2 := Ct.ofJ (by decide +kernel) (Nat.le_of_ble_eq_true rfl) (fun X hX hk => w_X5_stroke hX hx0 hx3 hf hk)
theorem dX5_gapAhead_0 : decode cX5_gapAhead 0 = .ok (.aload_n 0, 1) := by decide +kernel
theorem dX5_gapAhead_1 : decode cX5_gapAhead 1 = .ok (.lload_n 1, 1) := by decide +kernel
theorem dX5_gapAhead_2 : decode cX5_gapAhead 2 = .ok (.iload_n 3, 1) := by decide +kernel
theorem dX5_gapAhead_3 : decode cX5_gapAhead 3 = .ok (.invokestatic 39, 3) := by decide +kernel
theorem dX5_gapAhead_6 : decode cX5_gapAhead 6 = .ok (.lload_n 1, 1) := by decide +kernel
theorem dX5_gapAhead_7 : decode cX5_gapAhead 7 = .ok (.iload_n 3, 1) := by decide +kernel
theorem dX5_gapAhead_8 : decode cX5_gapAhead 8 = .ok (.iconst 1, 1) := by decide +kernel
theorem dX5_gapAhead_9 : decode cX5_gapAhead 9 = .ok (.isub, 1) := by decide +kernel
theorem dX5_gapAhead_10 : decode cX5_gapAhead 10 = .ok (.invokestatic 39, 3) := by decide +kernel
theorem dX5_gapAhead_13 : decode cX5_gapAhead 13 = .ok (.invokevirtual 87, 3) := by decide +kernel
theorem dX5_gapAhead_16 : decode cX5_gapAhead 16 = .ok (.ireturn, 1) := by decide +kernel
set_option maxHeartbeats 4000000 in
set_option maxRecDepth 100000 in
theorem w_X5_gapAhead {X : CX} {T : List Dsc} {n1 n2 : Nat} {x0 : Nat} {x1 : Int64} {x3 : Int32} {μ : Mem} {r : (Int32 × Mem)} (hX : XR X 2 n1 n2) (hx0 : T[x0]? = some (.inl 4)) (hf : F_X5_gapAhead T x0 x1 x3 μ = some r) (hk : FnI X cX5_gapAhead RX5 4 T n1 n2 r) : Wp X cX5_gapAhead RX5 4 T μ n1 n2 0 [(0, .ref x0), (1, .long x1), (3, .int x3)] [] := by
  unfold F_X5_gapAhead at hf
  refine Wp.aload_n (pc := 0) 0 rfl rfl dX5_gapAhead_0 ?_
  refine Wp.lload_n (pc := 1) 1 rfl rfl dX5_gapAhead_1 ?_
  refine Wp.iload_n (pc := 2) 2 rfl rfl dX5_gapAhead_2 ?_
  obtain ⟨c1, h2, hf⟩ := bnd hf
  refine Wp.callSNi (pc := 3) (st := [.ref x0]) (as := [.long x1, .int x3]) (c_X11_timeAt h2) ml_RX5_39 ms_X11_timeAt mb_X11_timeAt hX (Nat.le_of_ble_eq_true rfl) (by decide) rfl (by simp [Value.category]) dX5_gapAhead_3 rfl ?_
  refine Wp.lload_n (pc := 6) 1 rfl rfl dX5_gapAhead_6 ?_
  refine Wp.iload_n (pc := 7) 2 rfl rfl dX5_gapAhead_7 ?_
  refine Wp.iconst (pc := 8) (1 : Int32) (by decide) dX5_gapAhead_8 ?_
  refine Wp.isub (pc := 9) dX5_gapAhead_9 ?_
  obtain ⟨c3, h4, hf⟩ := bnd hf
  refine Wp.callSNi (pc := 10) (st := [.int c1.1, .ref x0]) (as := [.long x1, .int (x3 - (1 : Int32))]) (c_X11_timeAt h4) ml_RX5_39 ms_X11_timeAt mb_X11_timeAt hX (Nat.le_of_ble_eq_true rfl) (by decide) rfl (by simp [Value.category]) dX5_gapAhead_10 rfl ?_
  obtain ⟨c5, h6, hf⟩ := bnd hf
  refine Wp.callVi (pc := 13) (st := []) (as := [.int c1.1, .int c3.1]) (c_X5_gap hx0 h6) ml_RX5_87 mv_X5_gap mb_X5_gap hX (Nat.le_of_ble_eq_true rfl) (by decide) rfl hx0 rfl (by simp) dX5_gapAhead_13 rfl ?_
  cases hf
  exact hk _ _ dX5_gapAhead_16
theorem c_X5_gapAhead {T : List Dsc} {x0 : Nat} {x1 : Int64} {x3 : Int32} {μ : Mem} {r : (Int32 × Mem)} (hx0 : T[x0]? = some (.inl 4)) (hf : F_X5_gapAhead T x0 x1 x3 μ = some r) : Ct 2 yX5_gapAhead cX5_gapAhead 4 (some .int) T μ [.ref x0, .long x1, .int x3] (some (.int r.1)) r.2 := Ct.ofI (by decide +kernel) (Nat.le_of_ble_eq_true rfl) (fun X hX hk => w_X5_gapAhead hX hx0 hf hk)
theorem dX5_clashBits_0 : decode cX5_clashBits 0 = .ok (.aload_n 0, 1) := by decide +kernel
theorem dX5_clashBits_1 : decode cX5_clashBits 1 = .ok (.getfield 26, 3) := by decide +kernel
theorem dX5_clashBits_4 : decode cX5_clashBits 4 = .ok (.getfield 36, 3) := by decide +kernel
theorem dX5_clashBits_7 : decode cX5_clashBits 7 = .ok (.iconst 2, 1) := by decide +kernel
theorem dX5_clashBits_8 : decode cX5_clashBits 8 = .ok (.iadd, 1) := by decide +kernel
theorem dX5_clashBits_9 : decode cX5_clashBits 9 = .ok (.iconst 3, 1) := by decide +kernel
theorem dX5_clashBits_10 : decode cX5_clashBits 10 = .ok (.idiv, 1) := by decide +kernel
theorem dX5_clashBits_11 : decode cX5_clashBits 11 = .ok (.istore_n 3, 1) := by decide +kernel
theorem dX5_clashBits_12 : decode cX5_clashBits 12 = .ok (.iconst 0, 1) := by decide +kernel
theorem dX5_clashBits_13 : decode cX5_clashBits 13 = .ok (.istore 4, 2) := by decide +kernel
theorem dX5_clashBits_15 : decode cX5_clashBits 15 = .ok (.iconst 1, 1) := by decide +kernel
theorem dX5_clashBits_16 : decode cX5_clashBits 16 = .ok (.istore 5, 2) := by decide +kernel
theorem dX5_clashBits_18 : decode cX5_clashBits 18 = .ok (.iload 5, 2) := by decide +kernel
theorem dX5_clashBits_20 : decode cX5_clashBits 20 = .ok (.aload_n 0, 1) := by decide +kernel
theorem dX5_clashBits_21 : decode cX5_clashBits 21 = .ok (.getfield 26, 3) := by decide +kernel
theorem dX5_clashBits_24 : decode cX5_clashBits 24 = .ok (.getfield 43, 3) := by decide +kernel
theorem dX5_clashBits_27 : decode cX5_clashBits 27 = .ok (.if_icmp .ge 32, 3) := by decide +kernel
theorem dX5_clashBits_30 : decode cX5_clashBits 30 = .ok (.aload_n 0, 1) := by decide +kernel
theorem dX5_clashBits_31 : decode cX5_clashBits 31 = .ok (.lload_n 1, 1) := by decide +kernel
theorem dX5_clashBits_32 : decode cX5_clashBits 32 = .ok (.iload 5, 2) := by decide +kernel
theorem dX5_clashBits_34 : decode cX5_clashBits 34 = .ok (.invokevirtual 90, 3) := by decide +kernel
theorem dX5_clashBits_37 : decode cX5_clashBits 37 = .ok (.invokestatic 93, 3) := by decide +kernel
theorem dX5_clashBits_40 : decode cX5_clashBits 40 = .ok (.iload_n 3, 1) := by decide +kernel
theorem dX5_clashBits_41 : decode cX5_clashBits 41 = .ok (.if_icmp .lt 12, 3) := by decide +kernel
theorem dX5_clashBits_44 : decode cX5_clashBits 44 = .ok (.iload 4, 2) := by decide +kernel
theorem dX5_clashBits_46 : decode cX5_clashBits 46 = .ok (.iconst 1, 1) := by decide +kernel
theorem dX5_clashBits_47 : decode cX5_clashBits 47 = .ok (.iload 5, 2) := by decide +kernel
theorem dX5_clashBits_49 : decode cX5_clashBits 49 = .ok (.ishl, 1) := by decide +kernel
theorem dX5_clashBits_50 : decode cX5_clashBits 50 = .ok (.ior, 1) := by decide +kernel
theorem dX5_clashBits_51 : decode cX5_clashBits 51 = .ok (.istore 4, 2) := by decide +kernel
theorem dX5_clashBits_53 : decode cX5_clashBits 53 = .ok (.iinc 5 1, 3) := by decide +kernel
theorem dX5_clashBits_56 : decode cX5_clashBits 56 = .ok (.goto (-38), 3) := by decide +kernel
theorem dX5_clashBits_59 : decode cX5_clashBits 59 = .ok (.iload 4, 2) := by decide +kernel
theorem dX5_clashBits_61 : decode cX5_clashBits 61 = .ok (.ireturn, 1) := by decide +kernel
def k_X5_clashBits_18 (X : CX) (T : List Dsc) (n1 n2 : Nat) (x0 : Nat) (x1 : Int64) (x3 : Int32) (r : ((Int32 × Int32 × Mem) ⊕ ((Int32 × Mem)))) : Prop := match r with
  | .inl s => Wp X cX5_clashBits RX5 6 T s.2.2 n1 n2 18 [(0, .ref x0), (1, .long x1), (3, .int x3), (4, .int s.1), (5, .int s.2.1)] []
  | .inr e => Wp X cX5_clashBits RX5 6 T e.2 n1 n2 59 [(4, .int e.1)] []
set_option maxHeartbeats 4000000 in
set_option maxRecDepth 100000 in
theorem w_X5_clashBits_53 {X : CX} {T : List Dsc} {n1 n2 : Nat} {x0 : Nat} {x1 : Int64} {x3 : Int32} {x4 : Int32} {x5 : Int32} {μ : Mem} {r : ((Int32 × Int32 × Mem) ⊕ ((Int32 × Mem)))} (hX : XR X 3 n1 n2) (hx0 : T[x0]? = some (.inl 4)) (hf : f_X5_clashBits_53 T x0 x1 x3 x4 x5 μ = some r) (hk : k_X5_clashBits_18 X T n1 n2 x0 x1 x3 r) : Wp X cX5_clashBits RX5 6 T μ n1 n2 53 [(0, .ref x0), (1, .long x1), (3, .int x3), (4, .int x4), (5, .int x5)] [] := by
  unfold f_X5_clashBits_53 at hf
  obtain ⟨v1, h2, hf⟩ := bnd hf
  refine Wp.iincN (pc := 53) (lo' := [(0, .ref x0), (1, .long x1), (3, .int x3), (4, .int x4), (5, .int v1)]) (1 : Int32) (by decide) h2 4 rfl [1, 2, 3, 4, 0] rfl (by decide) dX5_clashBits_53 ?_
  refine Wp.goto (pc := 56) 18 dX5_clashBits_56 (by decide) ?_
  cases hf
  exact hk
set_option maxHeartbeats 4000000 in
set_option maxRecDepth 100000 in
theorem w_X5_clashBits_18 {X : CX} {T : List Dsc} {n1 n2 : Nat} {x0 : Nat} {x1 : Int64} {x3 : Int32} {x4 : Int32} {x5 : Int32} {μ : Mem} {r : ((Int32 × Int32 × Mem) ⊕ ((Int32 × Mem)))} (hX : XR X 3 n1 n2) (hx0 : T[x0]? = some (.inl 4)) (hf : f_X5_clashBits_18 T x0 x1 x3 x4 x5 μ = some r) (hk : k_X5_clashBits_18 X T n1 n2 x0 x1 x3 r) : Wp X cX5_clashBits RX5 6 T μ n1 n2 18 [(0, .ref x0), (1, .long x1), (3, .int x3), (4, .int x4), (5, .int x5)] [] := by
  unfold f_X5_clashBits_18 at hf
  refine Wp.iload (pc := 18) 4 rfl dX5_clashBits_18 ?_
  refine Wp.aload_n (pc := 20) 0 rfl rfl dX5_clashBits_20 ?_
  obtain ⟨r1, h2, hf⟩ := bnd hf
  refine Wp.getR (pc := 21) (gO_R h2) hx0 fk_RX5_26 rfl dX5_clashBits_21 ?_
  refine Wp.getI (pc := 24) (gO_T h2) fk_RX5_43 rfl dX5_clashBits_24 ?_
  refine Wp.icmp_ge (pc := 27) 59 dX5_clashBits_27 (by decide) (fun hc3 => ?_) (fun hc3 => ?_)
  · rw [if_pos hc3] at hf
    refine Wp.lo' (lo' := [(4, .int x4)]) [3] rfl ?_
    cases hf
    exact hk
  · rw [if_neg hc3] at hf
    refine Wp.aload_n (pc := 30) 0 rfl rfl dX5_clashBits_30 ?_
    refine Wp.lload_n (pc := 31) 1 rfl rfl dX5_clashBits_31 ?_
    refine Wp.iload (pc := 32) 4 rfl dX5_clashBits_32 ?_
    obtain ⟨c4, h5, hf⟩ := bnd hf
    refine Wp.callVi (pc := 34) (st := []) (as := [.long x1, .int x5]) (c_X5_gapAhead hx0 h5) ml_RX5_90 mv_X5_gapAhead mb_X5_gapAhead hX (Nat.le_of_ble_eq_true rfl) (by decide) rfl hx0 rfl (by simp) dX5_clashBits_34 rfl ?_
    refine Wp.mabs (pc := 37) mm_RX5_93 hX (Nat.le_of_ble_eq_true rfl) (by simp) dX5_clashBits_37 ?_
    refine Wp.iload_n (pc := 40) 2 rfl rfl dX5_clashBits_40 ?_
    refine Wp.icmp_lt (pc := 41) 53 dX5_clashBits_41 (by decide) (fun hc6 => ?_) (fun hc6 => ?_)
    · rw [if_pos hc6] at hf
      exact w_X5_clashBits_53 hX hx0 hf hk
    · rw [if_neg hc6] at hf
      refine Wp.iload (pc := 44) 3 rfl dX5_clashBits_44 ?_
      refine Wp.iconst (pc := 46) (1 : Int32) (by decide) dX5_clashBits_46 ?_
      refine Wp.iload (pc := 47) 4 rfl dX5_clashBits_47 ?_
      refine Wp.ishl (pc := 49) dX5_clashBits_49 ?_
      refine Wp.ior (pc := 50) dX5_clashBits_50 ?_
      obtain ⟨v7, h8, hf⟩ := bnd hf
      refine Wp.nI' h8 ?_
      refine Wp.istore (pc := 51) (lo' := [(0, .ref x0), (1, .long x1), (3, .int x3), (4, .int v7), (5, .int x5)]) [1, 2, 3, 0, 4] rfl (by decide) dX5_clashBits_51 ?_
      exact w_X5_clashBits_53 hX hx0 hf hk
theorem wl_X5_clashBits_18 {X : CX} {T : List Dsc} {n1 n2 : Nat} {x0 : Nat} {x1 : Int64} {x3 : Int32} {x4 : Int32} {x5 : Int32} {μ : Mem} {e : ((Int32 × Mem))} (hX : XR X 3 n1 n2) (hx0 : T[x0]? = some (.inl 4)) (h : loop (g_X5_clashBits_18 T x0 x1 x3) (x4, x5, μ) = some e) (he : Wp X cX5_clashBits RX5 6 T e.2 n1 n2 59 [(4, .int e.1)] []) : Wp X cX5_clashBits RX5 6 T μ n1 n2 18 [(0, .ref x0), (1, .long x1), (3, .int x3), (4, .int x4), (5, .int x5)] [] :=
  loop_ok (K := k_X5_clashBits_18 X T n1 n2 x0 x1 x3) (fun s r hf hk => w_X5_clashBits_18 hX hx0 hf hk) h he
set_option maxHeartbeats 4000000 in
set_option maxRecDepth 100000 in
theorem w_X5_clashBits {X : CX} {T : List Dsc} {n1 n2 : Nat} {x0 : Nat} {x1 : Int64} {μ : Mem} {r : (Int32 × Mem)} (hX : XR X 3 n1 n2) (hx0 : T[x0]? = some (.inl 4)) (hf : F_X5_clashBits T x0 x1 μ = some r) (hk : FnI X cX5_clashBits RX5 6 T n1 n2 r) : Wp X cX5_clashBits RX5 6 T μ n1 n2 0 [(0, .ref x0), (1, .long x1)] [] := by
  unfold F_X5_clashBits at hf
  refine Wp.aload_n (pc := 0) 0 rfl rfl dX5_clashBits_0 ?_
  obtain ⟨r1, h2, hf⟩ := bnd hf
  refine Wp.getR (pc := 1) (gO_R h2) hx0 fk_RX5_26 rfl dX5_clashBits_1 ?_
  refine Wp.getI (pc := 4) (gO_T h2) fk_RX5_36 rfl dX5_clashBits_4 ?_
  refine Wp.iconst (pc := 7) (2 : Int32) (by decide) dX5_clashBits_7 ?_
  refine Wp.iadd (pc := 8) dX5_clashBits_8 ?_
  refine Wp.iconst (pc := 9) (3 : Int32) (by decide) dX5_clashBits_9 ?_
  obtain ⟨v3, h4, hf⟩ := bnd hf
  refine Wp.dv (pc := 10) h4 dX5_clashBits_10 ?_
  refine Wp.istore_n (pc := 11) (lo' := [(0, .ref x0), (1, .long x1), (3, .int v3)]) [1, 2, 0] rfl (by decide) rfl dX5_clashBits_11 ?_
  refine Wp.iconst (pc := 12) (0 : Int32) (by decide) dX5_clashBits_12 ?_
  refine Wp.istore (pc := 13) (lo' := [(0, .ref x0), (1, .long x1), (3, .int v3), (4, .int (0 : Int32))]) [1, 2, 3, 0] rfl (by decide) dX5_clashBits_13 ?_
  refine Wp.iconst (pc := 15) (1 : Int32) (by decide) dX5_clashBits_15 ?_
  refine Wp.istore (pc := 16) (lo' := [(0, .ref x0), (1, .long x1), (3, .int v3), (4, .int (0 : Int32)), (5, .int (1 : Int32))]) [1, 2, 3, 4, 0] rfl (by decide) dX5_clashBits_16 ?_
  obtain ⟨e5, h6, hf⟩ := bnd hf
  refine wl_X5_clashBits_18 hX hx0 h6 ?_
  refine Wp.iload (pc := 59) 0 rfl dX5_clashBits_59 ?_
  cases hf
  exact hk _ _ dX5_clashBits_61
theorem c_X5_clashBits {T : List Dsc} {x0 : Nat} {x1 : Int64} {μ : Mem} {r : (Int32 × Mem)} (hx0 : T[x0]? = some (.inl 4)) (hf : F_X5_clashBits T x0 x1 μ = some r) : Ct 3 yX5_clashBits cX5_clashBits 6 (some .int) T μ [.ref x0, .long x1] (some (.int r.1)) r.2 := Ct.ofI (by decide +kernel) (Nat.le_of_ble_eq_true rfl) (fun X hX hk => w_X5_clashBits hX hx0 hf hk)
theorem dX5_menNear_0 : decode cX5_menNear 0 = .ok (.iload_n 1, 1) := by decide +kernel
theorem dX5_menNear_1 : decode cX5_menNear 1 = .ok (.ifCond .lt 14, 3) := by decide +kernel
theorem dX5_menNear_4 : decode cX5_menNear 4 = .ok (.iload_n 1, 1) := by decide +kernel
theorem dX5_menNear_5 : decode cX5_menNear 5 = .ok (.aload_n 0, 1) := by decide +kernel
theorem dX5_menNear_6 : decode cX5_menNear 6 = .ok (.getfield 26, 3) := by decide +kernel
theorem dX5_menNear_9 : decode cX5_menNear 9 = .ok (.getfield 36, 3) := by decide +kernel
theorem dX5_menNear_12 : decode cX5_menNear 12 = .ok (.if_icmp .lt 5, 3) := by decide +kernel
theorem dX5_menNear_15 : decode cX5_menNear 15 = .ok (.iconst 0, 1) := by decide +kernel
theorem dX5_menNear_16 : decode cX5_menNear 16 = .ok (.ireturn, 1) := by decide +kernel
theorem dX5_menNear_17 : decode cX5_menNear 17 = .ok (.iload_n 1, 1) := by decide +kernel
theorem dX5_menNear_18 : decode cX5_menNear 18 = .ok (.ifCond .ne 15, 3) := by decide +kernel
theorem dX5_menNear_21 : decode cX5_menNear 21 = .ok (.aload_n 0, 1) := by decide +kernel
theorem dX5_menNear_22 : decode cX5_menNear 22 = .ok (.getfield 26, 3) := by decide +kernel
theorem dX5_menNear_25 : decode cX5_menNear 25 = .ok (.getfield 36, 3) := by decide +kernel
theorem dX5_menNear_28 : decode cX5_menNear 28 = .ok (.iconst 1, 1) := by decide +kernel
theorem dX5_menNear_29 : decode cX5_menNear 29 = .ok (.isub, 1) := by decide +kernel
theorem dX5_menNear_30 : decode cX5_menNear 30 = .ok (.goto 6, 3) := by decide +kernel
theorem dX5_menNear_33 : decode cX5_menNear 33 = .ok (.iload_n 1, 1) := by decide +kernel
theorem dX5_menNear_34 : decode cX5_menNear 34 = .ok (.iconst 1, 1) := by decide +kernel
theorem dX5_menNear_35 : decode cX5_menNear 35 = .ok (.isub, 1) := by decide +kernel
theorem dX5_menNear_36 : decode cX5_menNear 36 = .ok (.istore_n 2, 1) := by decide +kernel
theorem dX5_menNear_37 : decode cX5_menNear 37 = .ok (.iload_n 1, 1) := by decide +kernel
theorem dX5_menNear_38 : decode cX5_menNear 38 = .ok (.aload_n 0, 1) := by decide +kernel
theorem dX5_menNear_39 : decode cX5_menNear 39 = .ok (.getfield 26, 3) := by decide +kernel
theorem dX5_menNear_42 : decode cX5_menNear 42 = .ok (.getfield 36, 3) := by decide +kernel
theorem dX5_menNear_45 : decode cX5_menNear 45 = .ok (.iconst 1, 1) := by decide +kernel
theorem dX5_menNear_46 : decode cX5_menNear 46 = .ok (.isub, 1) := by decide +kernel
theorem dX5_menNear_47 : decode cX5_menNear 47 = .ok (.if_icmp .ne 7, 3) := by decide +kernel
theorem dX5_menNear_50 : decode cX5_menNear 50 = .ok (.iconst 0, 1) := by decide +kernel
theorem dX5_menNear_51 : decode cX5_menNear 51 = .ok (.goto 6, 3) := by decide +kernel
theorem dX5_menNear_54 : decode cX5_menNear 54 = .ok (.iload_n 1, 1) := by decide +kernel
theorem dX5_menNear_55 : decode cX5_menNear 55 = .ok (.iconst 1, 1) := by decide +kernel
theorem dX5_menNear_56 : decode cX5_menNear 56 = .ok (.iadd, 1) := by decide +kernel
theorem dX5_menNear_57 : decode cX5_menNear 57 = .ok (.istore_n 3, 1) := by decide +kernel
theorem dX5_menNear_58 : decode cX5_menNear 58 = .ok (.aload_n 0, 1) := by decide +kernel
theorem dX5_menNear_59 : decode cX5_menNear 59 = .ok (.getfield 20, 3) := by decide +kernel
theorem dX5_menNear_62 : decode cX5_menNear 62 = .ok (.iload_n 2, 1) := by decide +kernel
theorem dX5_menNear_63 : decode cX5_menNear 63 = .ok (.iaload, 1) := by decide +kernel
theorem dX5_menNear_64 : decode cX5_menNear 64 = .ok (.aload_n 0, 1) := by decide +kernel
theorem dX5_menNear_65 : decode cX5_menNear 65 = .ok (.getfield 20, 3) := by decide +kernel
theorem dX5_menNear_68 : decode cX5_menNear 68 = .ok (.iload_n 1, 1) := by decide +kernel
theorem dX5_menNear_69 : decode cX5_menNear 69 = .ok (.iaload, 1) := by decide +kernel
theorem dX5_menNear_70 : decode cX5_menNear 70 = .ok (.iadd, 1) := by decide +kernel
theorem dX5_menNear_71 : decode cX5_menNear 71 = .ok (.aload_n 0, 1) := by decide +kernel
theorem dX5_menNear_72 : decode cX5_menNear 72 = .ok (.getfield 20, 3) := by decide +kernel
theorem dX5_menNear_75 : decode cX5_menNear 75 = .ok (.iload_n 3, 1) := by decide +kernel
theorem dX5_menNear_76 : decode cX5_menNear 76 = .ok (.iaload, 1) := by decide +kernel
theorem dX5_menNear_77 : decode cX5_menNear 77 = .ok (.iadd, 1) := by decide +kernel
theorem dX5_menNear_78 : decode cX5_menNear 78 = .ok (.ireturn, 1) := by decide +kernel
set_option maxHeartbeats 4000000 in
set_option maxRecDepth 100000 in
theorem w_X5_menNear_15 {X : CX} {T : List Dsc} {n1 n2 : Nat} {μ : Mem} {r : (Int32 × Mem)} (hX : XR X 1 n1 n2) (hf : f_X5_menNear_15 T μ = some r) (hk : FnI X cX5_menNear RX5 4 T n1 n2 r) : Wp X cX5_menNear RX5 4 T μ n1 n2 15 [] [] := by
  unfold f_X5_menNear_15 at hf
  refine Wp.iconst (pc := 15) (0 : Int32) (by decide) dX5_menNear_15 ?_
  cases hf
  exact hk _ _ dX5_menNear_16
set_option maxHeartbeats 4000000 in
set_option maxRecDepth 100000 in
theorem w_X5_menNear_57 {X : CX} {T : List Dsc} {n1 n2 : Nat} {x0 : Nat} {x1 : Int32} {x2 : Int32} {s0 : Int32} {μ : Mem} {r : (Int32 × Mem)} (hX : XR X 1 n1 n2) (hx0 : T[x0]? = some (.inl 4)) (hf : f_X5_menNear_57 T x0 x1 x2 s0 μ = some r) (hk : FnI X cX5_menNear RX5 4 T n1 n2 r) : Wp X cX5_menNear RX5 4 T μ n1 n2 57 [(0, .ref x0), (1, .int x1), (2, .int x2)] [.int s0] := by
  unfold f_X5_menNear_57 at hf
  refine Wp.istore_n (pc := 57) (lo' := [(0, .ref x0), (1, .int x1), (2, .int x2), (3, .int s0)]) [1, 2, 3, 0] rfl (by decide) rfl dX5_menNear_57 ?_
  refine Wp.aload_n (pc := 58) 0 rfl rfl dX5_menNear_58 ?_
  obtain ⟨a1, h2, hf⟩ := bnd hf
  refine Wp.getR (pc := 59) (gA_R h2) hx0 fk_RX5_20 rfl dX5_menNear_59 ?_
  refine Wp.iload_n (pc := 62) 2 rfl rfl dX5_menNear_62 ?_
  obtain ⟨v3, h4, hf⟩ := bnd hf
  refine Wp.iald (pc := 63) h4 (gA_T h2) dX5_menNear_63 ?_
  refine Wp.aload_n (pc := 64) 0 rfl rfl dX5_menNear_64 ?_
  obtain ⟨a5, h6, hf⟩ := bnd hf
  refine Wp.getR (pc := 65) (gA_R h6) hx0 fk_RX5_20 rfl dX5_menNear_65 ?_
  refine Wp.iload_n (pc := 68) 1 rfl rfl dX5_menNear_68 ?_
  obtain ⟨v7, h8, hf⟩ := bnd hf
  refine Wp.iald (pc := 69) h8 (gA_T h6) dX5_menNear_69 ?_
  refine Wp.iadd (pc := 70) dX5_menNear_70 ?_
  refine Wp.aload_n (pc := 71) 0 rfl rfl dX5_menNear_71 ?_
  obtain ⟨a9, h10, hf⟩ := bnd hf
  refine Wp.getR (pc := 72) (gA_R h10) hx0 fk_RX5_20 rfl dX5_menNear_72 ?_
  refine Wp.iload_n (pc := 75) 3 rfl rfl dX5_menNear_75 ?_
  obtain ⟨v11, h12, hf⟩ := bnd hf
  refine Wp.iald (pc := 76) h12 (gA_T h10) dX5_menNear_76 ?_
  refine Wp.iadd (pc := 77) dX5_menNear_77 ?_
  cases hf
  exact hk _ _ dX5_menNear_78
set_option maxHeartbeats 4000000 in
set_option maxRecDepth 100000 in
theorem w_X5_menNear_36 {X : CX} {T : List Dsc} {n1 n2 : Nat} {x0 : Nat} {x1 : Int32} {s0 : Int32} {μ : Mem} {r : (Int32 × Mem)} (hX : XR X 1 n1 n2) (hx0 : T[x0]? = some (.inl 4)) (hf : f_X5_menNear_36 T x0 x1 s0 μ = some r) (hk : FnI X cX5_menNear RX5 4 T n1 n2 r) : Wp X cX5_menNear RX5 4 T μ n1 n2 36 [(0, .ref x0), (1, .int x1)] [.int s0] := by
  unfold f_X5_menNear_36 at hf
  refine Wp.istore_n (pc := 36) (lo' := [(0, .ref x0), (1, .int x1), (2, .int s0)]) [1, 2, 0] rfl (by decide) rfl dX5_menNear_36 ?_
  refine Wp.iload_n (pc := 37) 1 rfl rfl dX5_menNear_37 ?_
  refine Wp.aload_n (pc := 38) 0 rfl rfl dX5_menNear_38 ?_
  obtain ⟨r1, h2, hf⟩ := bnd hf
  refine Wp.getR (pc := 39) (gO_R h2) hx0 fk_RX5_26 rfl dX5_menNear_39 ?_
  refine Wp.getI (pc := 42) (gO_T h2) fk_RX5_36 rfl dX5_menNear_42 ?_
  refine Wp.iconst (pc := 45) (1 : Int32) (by decide) dX5_menNear_45 ?_
  refine Wp.isub (pc := 46) dX5_menNear_46 ?_
  refine Wp.icmp_ne (pc := 47) 54 dX5_menNear_47 (by decide) (fun hc3 => ?_) (fun hc3 => ?_)
  · rw [if_neg hc3] at hf
    refine Wp.iload_n (pc := 54) 1 rfl rfl dX5_menNear_54 ?_
    refine Wp.iconst (pc := 55) (1 : Int32) (by decide) dX5_menNear_55 ?_
    refine Wp.iadd (pc := 56) dX5_menNear_56 ?_
    exact w_X5_menNear_57 hX hx0 hf hk
  · rw [if_pos hc3] at hf
    refine Wp.iconst (pc := 50) (0 : Int32) (by decide) dX5_menNear_50 ?_
    refine Wp.goto (pc := 51) 57 dX5_menNear_51 (by decide) ?_
    exact w_X5_menNear_57 hX hx0 hf hk
set_option maxHeartbeats 4000000 in
set_option maxRecDepth 100000 in
theorem w_X5_menNear {X : CX} {T : List Dsc} {n1 n2 : Nat} {x0 : Nat} {x1 : Int32} {μ : Mem} {r : (Int32 × Mem)} (hX : XR X 1 n1 n2) (hx0 : T[x0]? = some (.inl 4)) (hf : F_X5_menNear T x0 x1 μ = some r) (hk : FnI X cX5_menNear RX5 4 T n1 n2 r) : Wp X cX5_menNear RX5 4 T μ n1 n2 0 [(0, .ref x0), (1, .int x1)] [] := by
  unfold F_X5_menNear at hf
  refine Wp.iload_n (pc := 0) 1 rfl rfl dX5_menNear_0 ?_
  refine Wp.if_lt (pc := 1) 15 dX5_menNear_1 (by decide) (fun hc1 => ?_) (fun hc1 => ?_)
  · rw [if_pos hc1] at hf
    refine Wp.lo' (lo' := []) [] rfl ?_
    exact w_X5_menNear_15 hX hf hk
  · rw [if_neg hc1] at hf
    refine Wp.iload_n (pc := 4) 1 rfl rfl dX5_menNear_4 ?_
    refine Wp.aload_n (pc := 5) 0 rfl rfl dX5_menNear_5 ?_
    obtain ⟨r2, h3, hf⟩ := bnd hf
    refine Wp.getR (pc := 6) (gO_R h3) hx0 fk_RX5_26 rfl dX5_menNear_6 ?_
    refine Wp.getI (pc := 9) (gO_T h3) fk_RX5_36 rfl dX5_menNear_9 ?_
    refine Wp.icmp_lt (pc := 12) 17 dX5_menNear_12 (by decide) (fun hc4 => ?_) (fun hc4 => ?_)
    · rw [if_pos hc4] at hf
      refine Wp.iload_n (pc := 17) 1 rfl rfl dX5_menNear_17 ?_
      refine Wp.if_ne (pc := 18) 33 dX5_menNear_18 (by decide) (fun hc5 => ?_) (fun hc5 => ?_)
      · rw [if_neg hc5] at hf
        refine Wp.iload_n (pc := 33) 1 rfl rfl dX5_menNear_33 ?_
        refine Wp.iconst (pc := 34) (1 : Int32) (by decide) dX5_menNear_34 ?_
        refine Wp.isub (pc := 35) dX5_menNear_35 ?_
        exact w_X5_menNear_36 hX hx0 hf hk
      · rw [if_pos hc5] at hf
        refine Wp.aload_n (pc := 21) 0 rfl rfl dX5_menNear_21 ?_
        obtain ⟨r6, h7, hf⟩ := bnd hf
        refine Wp.getR (pc := 22) (gO_R h7) hx0 fk_RX5_26 rfl dX5_menNear_22 ?_
        refine Wp.getI (pc := 25) (gO_T h7) fk_RX5_36 rfl dX5_menNear_25 ?_
        refine Wp.iconst (pc := 28) (1 : Int32) (by decide) dX5_menNear_28 ?_
        refine Wp.isub (pc := 29) dX5_menNear_29 ?_
        refine Wp.goto (pc := 30) 36 dX5_menNear_30 (by decide) ?_
        exact w_X5_menNear_36 hX hx0 hf hk
    · rw [if_neg hc4] at hf
      refine Wp.lo' (lo' := []) [] rfl ?_
      exact w_X5_menNear_15 hX hf hk
theorem c_X5_menNear {T : List Dsc} {x0 : Nat} {x1 : Int32} {μ : Mem} {r : (Int32 × Mem)} (hx0 : T[x0]? = some (.inl 4)) (hf : F_X5_menNear T x0 x1 μ = some r) : Ct 1 yX5_menNear cX5_menNear 4 (some .int) T μ [.ref x0, .int x1] (some (.int r.1)) r.2 := Ct.ofI (by decide +kernel) (Nat.le_of_ble_eq_true rfl) (fun X hX hk => w_X5_menNear hX hx0 hf hk)
theorem dX5_wayPart_0 : decode cX5_wayPart 0 = .ok (.aload_n 0, 1) := by decide +kernel
theorem dX5_wayPart_1 : decode cX5_wayPart 1 = .ok (.getfield 20, 3) := by decide +kernel
theorem dX5_wayPart_4 : decode cX5_wayPart 4 = .ok (.iconst 0, 1) := by decide +kernel
theorem dX5_wayPart_5 : decode cX5_wayPart 5 = .ok (.invokestatic 105, 3) := by decide +kernel
theorem dX5_wayPart_8 : decode cX5_wayPart 8 = .ok (.iconst 0, 1) := by decide +kernel
theorem dX5_wayPart_9 : decode cX5_wayPart 9 = .ok (.istore_n 3, 1) := by decide +kernel
theorem dX5_wayPart_10 : decode cX5_wayPart 10 = .ok (.iload_n 3, 1) := by decide +kernel
theorem dX5_wayPart_11 : decode cX5_wayPart 11 = .ok (.aload_n 0, 1) := by decide +kernel
theorem dX5_wayPart_12 : decode cX5_wayPart 12 = .ok (.getfield 26, 3) := by decide +kernel
theorem dX5_wayPart_15 : decode cX5_wayPart 15 = .ok (.getfield 43, 3) := by decide +kernel
theorem dX5_wayPart_18 : decode cX5_wayPart 18 = .ok (.if_icmp .ge 39, 3) := by decide +kernel
theorem dX5_wayPart_21 : decode cX5_wayPart 21 = .ok (.lload_n 1, 1) := by decide +kernel
theorem dX5_wayPart_22 : decode cX5_wayPart 22 = .ok (.iload_n 3, 1) := by decide +kernel
theorem dX5_wayPart_23 : decode cX5_wayPart 23 = .ok (.invokestatic 39, 3) := by decide +kernel
theorem dX5_wayPart_26 : decode cX5_wayPart 26 = .ok (.istore 4, 2) := by decide +kernel
theorem dX5_wayPart_28 : decode cX5_wayPart 28 = .ok (.iload 4, 2) := by decide +kernel
theorem dX5_wayPart_30 : decode cX5_wayPart 30 = .ok (.aload_n 0, 1) := by decide +kernel
theorem dX5_wayPart_31 : decode cX5_wayPart 31 = .ok (.getfield 26, 3) := by decide +kernel
theorem dX5_wayPart_34 : decode cX5_wayPart 34 = .ok (.getfield 36, 3) := by decide +kernel
theorem dX5_wayPart_37 : decode cX5_wayPart 37 = .ok (.if_icmp .ge 14, 3) := by decide +kernel
theorem dX5_wayPart_40 : decode cX5_wayPart 40 = .ok (.aload_n 0, 1) := by decide +kernel
theorem dX5_wayPart_41 : decode cX5_wayPart 41 = .ok (.getfield 20, 3) := by decide +kernel
theorem dX5_wayPart_44 : decode cX5_wayPart 44 = .ok (.iload 4, 2) := by decide +kernel
theorem dX5_wayPart_46 : decode cX5_wayPart 46 = .ok (.dup2, 1) := by decide +kernel
theorem dX5_wayPart_47 : decode cX5_wayPart 47 = .ok (.iaload, 1) := by decide +kernel
theorem dX5_wayPart_48 : decode cX5_wayPart 48 = .ok (.iconst 1, 1) := by decide +kernel
theorem dX5_wayPart_49 : decode cX5_wayPart 49 = .ok (.iadd, 1) := by decide +kernel
theorem dX5_wayPart_50 : decode cX5_wayPart 50 = .ok (.iastore, 1) := by decide +kernel
theorem dX5_wayPart_51 : decode cX5_wayPart 51 = .ok (.iinc 3 1, 3) := by decide +kernel
theorem dX5_wayPart_54 : decode cX5_wayPart 54 = .ok (.goto (-44), 3) := by decide +kernel
theorem dX5_wayPart_57 : decode cX5_wayPart 57 = .ok (.iconst 0, 1) := by decide +kernel
theorem dX5_wayPart_58 : decode cX5_wayPart 58 = .ok (.istore_n 3, 1) := by decide +kernel
theorem dX5_wayPart_59 : decode cX5_wayPart 59 = .ok (.aload_n 0, 1) := by decide +kernel
theorem dX5_wayPart_60 : decode cX5_wayPart 60 = .ok (.iconst 0, 1) := by decide +kernel
theorem dX5_wayPart_61 : decode cX5_wayPart 61 = .ok (.invokevirtual 102, 3) := by decide +kernel
theorem dX5_wayPart_64 : decode cX5_wayPart 64 = .ok (.istore 4, 2) := by decide +kernel
theorem dX5_wayPart_66 : decode cX5_wayPart 66 = .ok (.iconst 1, 1) := by decide +kernel
theorem dX5_wayPart_67 : decode cX5_wayPart 67 = .ok (.istore 5, 2) := by decide +kernel
theorem dX5_wayPart_69 : decode cX5_wayPart 69 = .ok (.iload 5, 2) := by decide +kernel
theorem dX5_wayPart_71 : decode cX5_wayPart 71 = .ok (.aload_n 0, 1) := by decide +kernel
theorem dX5_wayPart_72 : decode cX5_wayPart 72 = .ok (.getfield 26, 3) := by decide +kernel
theorem dX5_wayPart_75 : decode cX5_wayPart 75 = .ok (.getfield 36, 3) := by decide +kernel
theorem dX5_wayPart_78 : decode cX5_wayPart 78 = .ok (.if_icmp .ge 43, 3) := by decide +kernel
theorem dX5_wayPart_81 : decode cX5_wayPart 81 = .ok (.iload 4, 2) := by decide +kernel
theorem dX5_wayPart_83 : decode cX5_wayPart 83 = .ok (.aload_n 0, 1) := by decide +kernel
theorem dX5_wayPart_84 : decode cX5_wayPart 84 = .ok (.getfield 26, 3) := by decide +kernel
theorem dX5_wayPart_87 : decode cX5_wayPart 87 = .ok (.getfield 43, 3) := by decide +kernel
theorem dX5_wayPart_90 : decode cX5_wayPart 90 = .ok (.if_icmp .ge 31, 3) := by decide +kernel
theorem dX5_wayPart_93 : decode cX5_wayPart 93 = .ok (.aload_n 0, 1) := by decide +kernel
theorem dX5_wayPart_94 : decode cX5_wayPart 94 = .ok (.iload 5, 2) := by decide +kernel
theorem dX5_wayPart_96 : decode cX5_wayPart 96 = .ok (.invokevirtual 102, 3) := by decide +kernel
theorem dX5_wayPart_99 : decode cX5_wayPart 99 = .ok (.istore 6, 2) := by decide +kernel
theorem dX5_wayPart_101 : decode cX5_wayPart 101 = .ok (.iload 6, 2) := by decide +kernel
theorem dX5_wayPart_103 : decode cX5_wayPart 103 = .ok (.iload 4, 2) := by decide +kernel
theorem dX5_wayPart_105 : decode cX5_wayPart 105 = .ok (.if_icmp .le 10, 3) := by decide +kernel
theorem dX5_wayPart_108 : decode cX5_wayPart 108 = .ok (.iload 6, 2) := by decide +kernel
theorem dX5_wayPart_110 : decode cX5_wayPart 110 = .ok (.istore 4, 2) := by decide +kernel
theorem dX5_wayPart_112 : decode cX5_wayPart 112 = .ok (.iload 5, 2) := by decide +kernel
theorem dX5_wayPart_114 : decode cX5_wayPart 114 = .ok (.istore_n 3, 1) := by decide +kernel
theorem dX5_wayPart_115 : decode cX5_wayPart 115 = .ok (.iinc 5 1, 3) := by decide +kernel
theorem dX5_wayPart_118 : decode cX5_wayPart 118 = .ok (.goto (-49), 3) := by decide +kernel
theorem dX5_wayPart_121 : decode cX5_wayPart 121 = .ok (.iload_n 3, 1) := by decide +kernel
theorem dX5_wayPart_122 : decode cX5_wayPart 122 = .ok (.ireturn, 1) := by decide +kernel
def k_X5_wayPart_10 (X : CX) (T : List Dsc) (n1 n2 : Nat) (x0 : Nat) (x1 : Int64) (r : ((Int32 × Mem) ⊕ ((Mem)))) : Prop := match r with
  | .inl s => Wp X cX5_wayPart RX5 7 T s.2 n1 n2 10 [(0, .ref x0), (1, .long x1), (3, .int s.1)] []
  | .inr e => Wp X cX5_wayPart RX5 7 T e n1 n2 57 [(0, .ref x0)] []
def k_X5_wayPart_69 (X : CX) (T : List Dsc) (n1 n2 : Nat) (x0 : Nat) (r : ((Int32 × Int32 × Int32 × Mem) ⊕ ((Int32 × Mem)))) : Prop := match r with
  | .inl s => Wp X cX5_wayPart RX5 7 T s.2.2.2 n1 n2 69 [(0, .ref x0), (3, .int s.1), (4, .int s.2.1), (5, .int s.2.2.1)] []
  | .inr e => Wp X cX5_wayPart RX5 7 T e.2 n1 n2 121 [(3, .int e.1)] []
set_option maxHeartbeats 4000000 in
set_option maxRecDepth 100000 in
theorem w_X5_wayPart_51 {X : CX} {T : List Dsc} {n1 n2 : Nat} {x0 : Nat} {x1 : Int64} {x3 : Int32} {μ : Mem} {r : ((Int32 × Mem) ⊕ ((Mem)))} (hX : XR X 2 n1 n2) (hx0 : T[x0]? = some (.inl 4)) (hf : f_X5_wayPart_51 T x0 x1 x3 μ = some r) (hk : k_X5_wayPart_10 X T n1 n2 x0 x1 r) : Wp X cX5_wayPart RX5 7 T μ n1 n2 51 [(0, .ref x0), (1, .long x1), (3, .int x3)] [] := by
  unfold f_X5_wayPart_51 at hf
  obtain ⟨v1, h2, hf⟩ := bnd hf
  refine Wp.iincN (pc := 51) (lo' := [(0, .ref x0), (1, .long x1), (3, .int v1)]) (1 : Int32) (by decide) h2 2 rfl [1, 2, 0] rfl (by decide) dX5_wayPart_51 ?_
  refine Wp.goto (pc := 54) 10 dX5_wayPart_54 (by decide) ?_
  cases hf
  exact hk
set_option maxHeartbeats 4000000 in
set_option maxRecDepth 100000 in
theorem w_X5_wayPart_10 {X : CX} {T : List Dsc} {n1 n2 : Nat} {x0 : Nat} {x1 : Int64} {x3 : Int32} {μ : Mem} {r : ((Int32 × Mem) ⊕ ((Mem)))} (hX : XR X 2 n1 n2) (hx0 : T[x0]? = some (.inl 4)) (hf : f_X5_wayPart_10 T x0 x1 x3 μ = some r) (hk : k_X5_wayPart_10 X T n1 n2 x0 x1 r) : Wp X cX5_wayPart RX5 7 T μ n1 n2 10 [(0, .ref x0), (1, .long x1), (3, .int x3)] [] := by
  unfold f_X5_wayPart_10 at hf
  refine Wp.iload_n (pc := 10) 2 rfl rfl dX5_wayPart_10 ?_
  refine Wp.aload_n (pc := 11) 0 rfl rfl dX5_wayPart_11 ?_
  obtain ⟨r1, h2, hf⟩ := bnd hf
  refine Wp.getR (pc := 12) (gO_R h2) hx0 fk_RX5_26 rfl dX5_wayPart_12 ?_
  refine Wp.getI (pc := 15) (gO_T h2) fk_RX5_43 rfl dX5_wayPart_15 ?_
  refine Wp.icmp_ge (pc := 18) 57 dX5_wayPart_18 (by decide) (fun hc3 => ?_) (fun hc3 => ?_)
  · rw [if_pos hc3] at hf
    refine Wp.lo' (lo' := [(0, .ref x0)]) [0] rfl ?_
    cases hf
    exact hk
  · rw [if_neg hc3] at hf
    refine Wp.lload_n (pc := 21) 1 rfl rfl dX5_wayPart_21 ?_
    refine Wp.iload_n (pc := 22) 2 rfl rfl dX5_wayPart_22 ?_
    obtain ⟨c4, h5, hf⟩ := bnd hf
    refine Wp.callSNi (pc := 23) (st := []) (as := [.long x1, .int x3]) (c_X11_timeAt h5) ml_RX5_39 ms_X11_timeAt mb_X11_timeAt hX (Nat.le_of_ble_eq_true rfl) (by decide) rfl (by simp) dX5_wayPart_23 rfl ?_
    refine Wp.istore (pc := 26) (lo' := [(0, .ref x0), (1, .long x1), (3, .int x3), (4, .int c4.1)]) [1, 2, 3, 0] rfl (by decide) dX5_wayPart_26 ?_
    refine Wp.iload (pc := 28) 3 rfl dX5_wayPart_28 ?_
    refine Wp.aload_n (pc := 30) 0 rfl rfl dX5_wayPart_30 ?_
    obtain ⟨r6, h7, hf⟩ := bnd hf
    refine Wp.getR (pc := 31) (gO_R h7) hx0 fk_RX5_26 rfl dX5_wayPart_31 ?_
    refine Wp.getI (pc := 34) (gO_T h7) fk_RX5_36 rfl dX5_wayPart_34 ?_
    refine Wp.icmp_ge (pc := 37) 51 dX5_wayPart_37 (by decide) (fun hc8 => ?_) (fun hc8 => ?_)
    · rw [if_pos hc8] at hf
      refine Wp.lo' (lo' := [(0, .ref x0), (1, .long x1), (3, .int x3)]) [0, 1, 2] rfl ?_
      exact w_X5_wayPart_51 hX hx0 hf hk
    · rw [if_neg hc8] at hf
      refine Wp.aload_n (pc := 40) 0 rfl rfl dX5_wayPart_40 ?_
      obtain ⟨a9, h10, hf⟩ := bnd hf
      refine Wp.getR (pc := 41) (gA_R h10) hx0 fk_RX5_20 rfl dX5_wayPart_41 ?_
      refine Wp.iload (pc := 44) 3 rfl dX5_wayPart_44 ?_
      refine Wp.dup2 (pc := 46) rfl rfl dX5_wayPart_46 ?_
      obtain ⟨v11, h12, hf⟩ := bnd hf
      refine Wp.iald (pc := 47) h12 (gA_T h10) dX5_wayPart_47 ?_
      refine Wp.iconst (pc := 48) (1 : Int32) (by decide) dX5_wayPart_48 ?_
      refine Wp.iadd (pc := 49) dX5_wayPart_49 ?_
      obtain ⟨μ13, h14, hf⟩ := bnd hf
      refine Wp.iast (pc := 50) h14 (gA_T h10) dX5_wayPart_50 ?_
      refine Wp.lo' (lo' := [(0, .ref x0), (1, .long x1), (3, .int x3)]) [0, 1, 2] rfl ?_
      exact w_X5_wayPart_51 hX hx0 hf hk
theorem wl_X5_wayPart_10 {X : CX} {T : List Dsc} {n1 n2 : Nat} {x0 : Nat} {x1 : Int64} {x3 : Int32} {μ : Mem} {e : ((Mem))} (hX : XR X 2 n1 n2) (hx0 : T[x0]? = some (.inl 4)) (h : loop (g_X5_wayPart_10 T x0 x1) (x3, μ) = some e) (he : Wp X cX5_wayPart RX5 7 T e n1 n2 57 [(0, .ref x0)] []) : Wp X cX5_wayPart RX5 7 T μ n1 n2 10 [(0, .ref x0), (1, .long x1), (3, .int x3)] [] :=
  loop_ok (K := k_X5_wayPart_10 X T n1 n2 x0 x1) (fun s r hf hk => w_X5_wayPart_10 hX hx0 hf hk) h he
set_option maxHeartbeats 4000000 in
set_option maxRecDepth 100000 in
theorem w_X5_wayPart_115 {X : CX} {T : List Dsc} {n1 n2 : Nat} {x0 : Nat} {x3 : Int32} {x4 : Int32} {x5 : Int32} {μ : Mem} {r : ((Int32 × Int32 × Int32 × Mem) ⊕ ((Int32 × Mem)))} (hX : XR X 2 n1 n2) (hx0 : T[x0]? = some (.inl 4)) (hf : f_X5_wayPart_115 T x0 x3 x4 x5 μ = some r) (hk : k_X5_wayPart_69 X T n1 n2 x0 r) : Wp X cX5_wayPart RX5 7 T μ n1 n2 115 [(0, .ref x0), (3, .int x3), (4, .int x4), (5, .int x5)] [] := by
  unfold f_X5_wayPart_115 at hf
  obtain ⟨v1, h2, hf⟩ := bnd hf
  refine Wp.iincN (pc := 115) (lo' := [(0, .ref x0), (3, .int x3), (4, .int x4), (5, .int v1)]) (1 : Int32) (by decide) h2 3 rfl [1, 2, 3, 0] rfl (by decide) dX5_wayPart_115 ?_
  refine Wp.goto (pc := 118) 69 dX5_wayPart_118 (by decide) ?_
  cases hf
  exact hk
set_option maxHeartbeats 4000000 in
set_option maxRecDepth 100000 in
theorem w_X5_wayPart_69 {X : CX} {T : List Dsc} {n1 n2 : Nat} {x0 : Nat} {x3 : Int32} {x4 : Int32} {x5 : Int32} {μ : Mem} {r : ((Int32 × Int32 × Int32 × Mem) ⊕ ((Int32 × Mem)))} (hX : XR X 2 n1 n2) (hx0 : T[x0]? = some (.inl 4)) (hf : f_X5_wayPart_69 T x0 x3 x4 x5 μ = some r) (hk : k_X5_wayPart_69 X T n1 n2 x0 r) : Wp X cX5_wayPart RX5 7 T μ n1 n2 69 [(0, .ref x0), (3, .int x3), (4, .int x4), (5, .int x5)] [] := by
  unfold f_X5_wayPart_69 at hf
  refine Wp.iload (pc := 69) 3 rfl dX5_wayPart_69 ?_
  refine Wp.aload_n (pc := 71) 0 rfl rfl dX5_wayPart_71 ?_
  obtain ⟨r1, h2, hf⟩ := bnd hf
  refine Wp.getR (pc := 72) (gO_R h2) hx0 fk_RX5_26 rfl dX5_wayPart_72 ?_
  refine Wp.getI (pc := 75) (gO_T h2) fk_RX5_36 rfl dX5_wayPart_75 ?_
  refine Wp.icmp_ge (pc := 78) 121 dX5_wayPart_78 (by decide) (fun hc3 => ?_) (fun hc3 => ?_)
  · rw [if_pos hc3] at hf
    refine Wp.lo' (lo' := [(3, .int x3)]) [1] rfl ?_
    cases hf
    exact hk
  · rw [if_neg hc3] at hf
    refine Wp.iload (pc := 81) 2 rfl dX5_wayPart_81 ?_
    refine Wp.aload_n (pc := 83) 0 rfl rfl dX5_wayPart_83 ?_
    obtain ⟨r4, h5, hf⟩ := bnd hf
    refine Wp.getR (pc := 84) (gO_R h5) hx0 fk_RX5_26 rfl dX5_wayPart_84 ?_
    refine Wp.getI (pc := 87) (gO_T h5) fk_RX5_43 rfl dX5_wayPart_87 ?_
    refine Wp.icmp_ge (pc := 90) 121 dX5_wayPart_90 (by decide) (fun hc6 => ?_) (fun hc6 => ?_)
    · rw [if_pos hc6] at hf
      refine Wp.lo' (lo' := [(3, .int x3)]) [1] rfl ?_
      cases hf
      exact hk
    · rw [if_neg hc6] at hf
      refine Wp.aload_n (pc := 93) 0 rfl rfl dX5_wayPart_93 ?_
      refine Wp.iload (pc := 94) 3 rfl dX5_wayPart_94 ?_
      obtain ⟨c7, h8, hf⟩ := bnd hf
      refine Wp.callVi (pc := 96) (st := []) (as := [.int x5]) (c_X5_menNear hx0 h8) ml_RX5_102 mv_X5_menNear mb_X5_menNear hX (Nat.le_of_ble_eq_true rfl) (by decide) rfl hx0 rfl (by simp) dX5_wayPart_96 rfl ?_
      refine Wp.istore (pc := 99) (lo' := [(0, .ref x0), (3, .int x3), (4, .int x4), (5, .int x5), (6, .int c7.1)]) [1, 2, 3, 4, 0] rfl (by decide) dX5_wayPart_99 ?_
      refine Wp.iload (pc := 101) 4 rfl dX5_wayPart_101 ?_
      refine Wp.iload (pc := 103) 2 rfl dX5_wayPart_103 ?_
      refine Wp.icmp_le (pc := 105) 115 dX5_wayPart_105 (by decide) (fun hc9 => ?_) (fun hc9 => ?_)
      · rw [if_pos hc9] at hf
        refine Wp.lo' (lo' := [(0, .ref x0), (3, .int x3), (4, .int x4), (5, .int x5)]) [0, 1, 2, 3] rfl ?_
        exact w_X5_wayPart_115 hX hx0 hf hk
      · rw [if_neg hc9] at hf
        refine Wp.iload (pc := 108) 4 rfl dX5_wayPart_108 ?_
        refine Wp.istore (pc := 110) (lo' := [(0, .ref x0), (4, .int c7.1), (5, .int x5)]) [1, 0, 3] rfl (by decide) dX5_wayPart_110 ?_
        refine Wp.iload (pc := 112) 2 rfl dX5_wayPart_112 ?_
        refine Wp.istore_n (pc := 114) (lo' := [(0, .ref x0), (3, .int x5), (4, .int c7.1), (5, .int x5)]) [1, 0, 2, 3] rfl (by decide) rfl dX5_wayPart_114 ?_
        exact w_X5_wayPart_115 hX hx0 hf hk
theorem wl_X5_wayPart_69 {X : CX} {T : List Dsc} {n1 n2 : Nat} {x0 : Nat} {x3 : Int32} {x4 : Int32} {x5 : Int32} {μ : Mem} {e : ((Int32 × Mem))} (hX : XR X 2 n1 n2) (hx0 : T[x0]? = some (.inl 4)) (h : loop (g_X5_wayPart_69 T x0) (x3, x4, x5, μ) = some e) (he : Wp X cX5_wayPart RX5 7 T e.2 n1 n2 121 [(3, .int e.1)] []) : Wp X cX5_wayPart RX5 7 T μ n1 n2 69 [(0, .ref x0), (3, .int x3), (4, .int x4), (5, .int x5)] [] :=
  loop_ok (K := k_X5_wayPart_69 X T n1 n2 x0) (fun s r hf hk => w_X5_wayPart_69 hX hx0 hf hk) h he
set_option maxHeartbeats 4000000 in
set_option maxRecDepth 100000 in
theorem w_X5_wayPart_121 {X : CX} {T : List Dsc} {n1 n2 : Nat} {x3 : Int32} {μ : Mem} {r : (Int32 × Mem)} (hX : XR X 2 n1 n2) (hf : f_X5_wayPart_121 T x3 μ = some r) (hk : FnI X cX5_wayPart RX5 7 T n1 n2 r) : Wp X cX5_wayPart RX5 7 T μ n1 n2 121 [(3, .int x3)] [] := by
  unfold f_X5_wayPart_121 at hf
  refine Wp.iload_n (pc := 121) 0 rfl rfl dX5_wayPart_121 ?_
  cases hf
  exact hk _ _ dX5_wayPart_122
set_option maxHeartbeats 4000000 in
set_option maxRecDepth 100000 in
theorem w_X5_wayPart {X : CX} {T : List Dsc} {n1 n2 : Nat} {x0 : Nat} {x1 : Int64} {μ : Mem} {r : (Int32 × Mem)} (hX : XR X 2 n1 n2) (hx0 : T[x0]? = some (.inl 4)) (hf : F_X5_wayPart T x0 x1 μ = some r) (hk : FnI X cX5_wayPart RX5 7 T n1 n2 r) : Wp X cX5_wayPart RX5 7 T μ n1 n2 0 [(0, .ref x0), (1, .long x1)] [] := by
  unfold F_X5_wayPart at hf
  refine Wp.aload_n (pc := 0) 0 rfl rfl dX5_wayPart_0 ?_
  obtain ⟨a1, h2, hf⟩ := bnd hf
  refine Wp.getR (pc := 1) (gA_R h2) hx0 fk_RX5_20 rfl dX5_wayPart_1 ?_
  refine Wp.iconst (pc := 4) (0 : Int32) (by decide) dX5_wayPart_4 ?_
  obtain ⟨c3, h4, hf⟩ := bnd hf
  refine Wp.callSv (pc := 5) (st := []) (as := [.ref a1.1, .int (0 : Int32)]) (c_J7_fill_53178 (gA_T h2) h4) ml_RX5_105 ms_J7_fill_53178 mb_J7_fill_53178 hX (Nat.le_of_ble_eq_true rfl) (by decide) rfl (by simp) dX5_wayPart_5 rfl ?_
  refine Wp.iconst (pc := 8) (0 : Int32) (by decide) dX5_wayPart_8 ?_
  refine Wp.istore_n (pc := 9) (lo' := [(0, .ref x0), (1, .long x1), (3, .int (0 : Int32))]) [1, 2, 0] rfl (by decide) rfl dX5_wayPart_9 ?_
  obtain ⟨e5, h6, hf⟩ := bnd hf
  refine wl_X5_wayPart_10 hX hx0 h6 ?_
  refine Wp.iconst (pc := 57) (0 : Int32) (by decide) dX5_wayPart_57 ?_
  refine Wp.istore_n (pc := 58) (lo' := [(0, .ref x0), (3, .int (0 : Int32))]) [1, 0] rfl (by decide) rfl dX5_wayPart_58 ?_
  refine Wp.aload_n (pc := 59) 0 rfl rfl dX5_wayPart_59 ?_
  refine Wp.iconst (pc := 60) (0 : Int32) (by decide) dX5_wayPart_60 ?_
  obtain ⟨c7, h8, hf⟩ := bnd hf
  refine Wp.callVi (pc := 61) (st := []) (as := [.int (0 : Int32)]) (c_X5_menNear hx0 h8) ml_RX5_102 mv_X5_menNear mb_X5_menNear hX (Nat.le_of_ble_eq_true rfl) (by decide) rfl hx0 rfl (by simp) dX5_wayPart_61 rfl ?_
  refine Wp.istore (pc := 64) (lo' := [(0, .ref x0), (3, .int (0 : Int32)), (4, .int c7.1)]) [1, 2, 0] rfl (by decide) dX5_wayPart_64 ?_
  refine Wp.iconst (pc := 66) (1 : Int32) (by decide) dX5_wayPart_66 ?_
  refine Wp.istore (pc := 67) (lo' := [(0, .ref x0), (3, .int (0 : Int32)), (4, .int c7.1), (5, .int (1 : Int32))]) [1, 2, 3, 0] rfl (by decide) dX5_wayPart_67 ?_
  obtain ⟨e9, h10, hf⟩ := bnd hf
  refine wl_X5_wayPart_69 hX hx0 h10 ?_
  exact w_X5_wayPart_121 hX hf hk
theorem c_X5_wayPart {T : List Dsc} {x0 : Nat} {x1 : Int64} {μ : Mem} {r : (Int32 × Mem)} (hx0 : T[x0]? = some (.inl 4)) (hf : F_X5_wayPart T x0 x1 μ = some r) : Ct 2 yX5_wayPart cX5_wayPart 7 (some .int) T μ [.ref x0, .long x1] (some (.int r.1)) r.2 := Ct.ofI (by decide +kernel) (Nat.le_of_ble_eq_true rfl) (fun X hX hk => w_X5_wayPart hX hx0 hf hk)
theorem dX5_wayOf_0 : decode cX5_wayOf 0 = .ok (.aload_n 0, 1) := by decide +kernel
theorem dX5_wayOf_1 : decode cX5_wayOf 1 = .ok (.aload_n 0, 1) := by decide +kernel
theorem dX5_wayOf_2 : decode cX5_wayOf 2 = .ok (.lload_n 1, 1) := by decide +kernel
theorem dX5_wayOf_3 : decode cX5_wayOf 3 = .ok (.invokevirtual 98, 3) := by decide +kernel
theorem dX5_wayOf_6 : decode cX5_wayOf 6 = .ok (.invokevirtual 102, 3) := by decide +kernel
theorem dX5_wayOf_9 : decode cX5_wayOf 9 = .ok (.ireturn, 1) := by decide +kernel
set_option maxHeartbeats 4000000 in
set_option maxRecDepth 100000 in
theorem w_X5_wayOf {X : CX} {T : List Dsc} {n1 n2 : Nat} {x0 : Nat} {x1 : Int64} {μ : Mem} {r : (Int32 × Mem)} (hX : XR X 3 n1 n2) (hx0 : T[x0]? = some (.inl 4)) (hf : F_X5_wayOf T x0 x1 μ = some r) (hk : FnI X cX5_wayOf RX5 3 T n1 n2 r) : Wp X cX5_wayOf RX5 3 T μ n1 n2 0 [(0, .ref x0), (1, .long x1)] [] := by
  unfold F_X5_wayOf at hf
  refine Wp.aload_n (pc := 0) 0 rfl rfl dX5_wayOf_0 ?_
  refine Wp.aload_n (pc := 1) 0 rfl rfl dX5_wayOf_1 ?_
  refine Wp.lload_n (pc := 2) 1 rfl rfl dX5_wayOf_2 ?_
  obtain ⟨c1, h2, hf⟩ := bnd hf
  refine Wp.callVi (pc := 3) (st := [.ref x0]) (as := [.long x1]) (c_X5_wayPart hx0 h2) ml_RX5_98 mv_X5_wayPart mb_X5_wayPart hX (Nat.le_of_ble_eq_true rfl) (by decide) rfl hx0 rfl (by simp [Value.category]) dX5_wayOf_3 rfl ?_
  obtain ⟨c3, h4, hf⟩ := bnd hf
  refine Wp.callVi (pc := 6) (st := []) (as := [.int c1.1]) (c_X5_menNear hx0 h4) ml_RX5_102 mv_X5_menNear mb_X5_menNear hX (Nat.le_of_ble_eq_true rfl) (by decide) rfl hx0 rfl (by simp) dX5_wayOf_6 rfl ?_
  cases hf
  exact hk _ _ dX5_wayOf_9
theorem c_X5_wayOf {T : List Dsc} {x0 : Nat} {x1 : Int64} {μ : Mem} {r : (Int32 × Mem)} (hx0 : T[x0]? = some (.inl 4)) (hf : F_X5_wayOf T x0 x1 μ = some r) : Ct 3 yX5_wayOf cX5_wayOf 3 (some .int) T μ [.ref x0, .long x1] (some (.int r.1)) r.2 := Ct.ofI (by decide +kernel) (Nat.le_of_ble_eq_true rfl) (fun X hX hk => w_X5_wayOf hX hx0 hf hk)
theorem dX5_waveOf_0 : decode cX5_waveOf 0 = .ok (.iconst 0, 1) := by decide +kernel
theorem dX5_waveOf_1 : decode cX5_waveOf 1 = .ok (.istore 4, 2) := by decide +kernel
theorem dX5_waveOf_3 : decode cX5_waveOf 3 = .ok (.iconst 0, 1) := by decide +kernel
theorem dX5_waveOf_4 : decode cX5_waveOf 4 = .ok (.istore 5, 2) := by decide +kernel
theorem dX5_waveOf_6 : decode cX5_waveOf 6 = .ok (.iconst 0, 1) := by decide +kernel
theorem dX5_waveOf_7 : decode cX5_waveOf 7 = .ok (.istore 6, 2) := by decide +kernel
theorem dX5_waveOf_9 : decode cX5_waveOf 9 = .ok (.iconst 0, 1) := by decide +kernel
theorem dX5_waveOf_10 : decode cX5_waveOf 10 = .ok (.istore 7, 2) := by decide +kernel
theorem dX5_waveOf_12 : decode cX5_waveOf 12 = .ok (.iconst 0, 1) := by decide +kernel
theorem dX5_waveOf_13 : decode cX5_waveOf 13 = .ok (.istore 8, 2) := by decide +kernel
theorem dX5_waveOf_15 : decode cX5_waveOf 15 = .ok (.iconst 1, 1) := by decide +kernel
theorem dX5_waveOf_16 : decode cX5_waveOf 16 = .ok (.istore 9, 2) := by decide +kernel
theorem dX5_waveOf_18 : decode cX5_waveOf 18 = .ok (.iload 9, 2) := by decide +kernel
theorem dX5_waveOf_20 : decode cX5_waveOf 20 = .ok (.aload_n 0, 1) := by decide +kernel
theorem dX5_waveOf_21 : decode cX5_waveOf 21 = .ok (.getfield 26, 3) := by decide +kernel
theorem dX5_waveOf_24 : decode cX5_waveOf 24 = .ok (.getfield 43, 3) := by decide +kernel
theorem dX5_waveOf_27 : decode cX5_waveOf 27 = .ok (.if_icmp .ge 69, 3) := by decide +kernel
theorem dX5_waveOf_30 : decode cX5_waveOf 30 = .ok (.aload_n 0, 1) := by decide +kernel
theorem dX5_waveOf_31 : decode cX5_waveOf 31 = .ok (.lload_n 1, 1) := by decide +kernel
theorem dX5_waveOf_32 : decode cX5_waveOf 32 = .ok (.iload 9, 2) := by decide +kernel
theorem dX5_waveOf_34 : decode cX5_waveOf 34 = .ok (.invokevirtual 90, 3) := by decide +kernel
theorem dX5_waveOf_37 : decode cX5_waveOf 37 = .ok (.istore 10, 2) := by decide +kernel
theorem dX5_waveOf_39 : decode cX5_waveOf 39 = .ok (.iload 10, 2) := by decide +kernel
theorem dX5_waveOf_41 : decode cX5_waveOf 41 = .ok (.iload 8, 2) := by decide +kernel
theorem dX5_waveOf_43 : decode cX5_waveOf 43 = .ok (.if_icmp .eq 13, 3) := by decide +kernel
theorem dX5_waveOf_46 : decode cX5_waveOf 46 = .ok (.iload 9, 2) := by decide +kernel
theorem dX5_waveOf_48 : decode cX5_waveOf 48 = .ok (.iconst 1, 1) := by decide +kernel
theorem dX5_waveOf_49 : decode cX5_waveOf 49 = .ok (.isub, 1) := by decide +kernel
theorem dX5_waveOf_50 : decode cX5_waveOf 50 = .ok (.istore 7, 2) := by decide +kernel
theorem dX5_waveOf_52 : decode cX5_waveOf 52 = .ok (.iload 10, 2) := by decide +kernel
theorem dX5_waveOf_54 : decode cX5_waveOf 54 = .ok (.istore 8, 2) := by decide +kernel
theorem dX5_waveOf_56 : decode cX5_waveOf 56 = .ok (.iload 10, 2) := by decide +kernel
theorem dX5_waveOf_58 : decode cX5_waveOf 58 = .ok (.ifCond .eq 32, 3) := by decide +kernel
theorem dX5_waveOf_61 : decode cX5_waveOf 61 = .ok (.iload 9, 2) := by decide +kernel
theorem dX5_waveOf_63 : decode cX5_waveOf 63 = .ok (.iload 7, 2) := by decide +kernel
theorem dX5_waveOf_65 : decode cX5_waveOf 65 = .ok (.isub, 1) := by decide +kernel
theorem dX5_waveOf_66 : decode cX5_waveOf 66 = .ok (.iconst 1, 1) := by decide +kernel
theorem dX5_waveOf_67 : decode cX5_waveOf 67 = .ok (.iadd, 1) := by decide +kernel
theorem dX5_waveOf_68 : decode cX5_waveOf 68 = .ok (.iload 4, 2) := by decide +kernel
theorem dX5_waveOf_70 : decode cX5_waveOf 70 = .ok (.if_icmp .le 20, 3) := by decide +kernel
theorem dX5_waveOf_73 : decode cX5_waveOf 73 = .ok (.iload 9, 2) := by decide +kernel
theorem dX5_waveOf_75 : decode cX5_waveOf 75 = .ok (.iload 7, 2) := by decide +kernel
theorem dX5_waveOf_77 : decode cX5_waveOf 77 = .ok (.isub, 1) := by decide +kernel
theorem dX5_waveOf_78 : decode cX5_waveOf 78 = .ok (.iconst 1, 1) := by decide +kernel
theorem dX5_waveOf_79 : decode cX5_waveOf 79 = .ok (.iadd, 1) := by decide +kernel
theorem dX5_waveOf_80 : decode cX5_waveOf 80 = .ok (.istore 4, 2) := by decide +kernel
theorem dX5_waveOf_82 : decode cX5_waveOf 82 = .ok (.iload 7, 2) := by decide +kernel
theorem dX5_waveOf_84 : decode cX5_waveOf 84 = .ok (.istore 5, 2) := by decide +kernel
theorem dX5_waveOf_86 : decode cX5_waveOf 86 = .ok (.iload 10, 2) := by decide +kernel
theorem dX5_waveOf_88 : decode cX5_waveOf 88 = .ok (.istore 6, 2) := by decide +kernel
theorem dX5_waveOf_90 : decode cX5_waveOf 90 = .ok (.iinc 9 1, 3) := by decide +kernel
theorem dX5_waveOf_93 : decode cX5_waveOf 93 = .ok (.goto (-75), 3) := by decide +kernel
theorem dX5_waveOf_96 : decode cX5_waveOf 96 = .ok (.iload 4, 2) := by decide +kernel
theorem dX5_waveOf_98 : decode cX5_waveOf 98 = .ok (.iconst 2, 1) := by decide +kernel
theorem dX5_waveOf_99 : decode cX5_waveOf 99 = .ok (.if_icmp .ge 6, 3) := by decide +kernel
theorem dX5_waveOf_102 : decode cX5_waveOf 102 = .ok (.bipush (-2), 2) := by decide +kernel
theorem dX5_waveOf_104 : decode cX5_waveOf 104 = .ok (.ireturn, 1) := by decide +kernel
theorem dX5_waveOf_105 : decode cX5_waveOf 105 = .ok (.iload_n 3, 1) := by decide +kernel
theorem dX5_waveOf_106 : decode cX5_waveOf 106 = .ok (.ifCond .ne 6, 3) := by decide +kernel
theorem dX5_waveOf_109 : decode cX5_waveOf 109 = .ok (.iload 4, 2) := by decide +kernel
theorem dX5_waveOf_111 : decode cX5_waveOf 111 = .ok (.ireturn, 1) := by decide +kernel
theorem dX5_waveOf_112 : decode cX5_waveOf 112 = .ok (.iload_n 3, 1) := by decide +kernel
theorem dX5_waveOf_113 : decode cX5_waveOf 113 = .ok (.iconst 1, 1) := by decide +kernel
theorem dX5_waveOf_114 : decode cX5_waveOf 114 = .ok (.if_icmp .ne 8, 3) := by decide +kernel
theorem dX5_waveOf_117 : decode cX5_waveOf 117 = .ok (.iload 5, 2) := by decide +kernel
theorem dX5_waveOf_119 : decode cX5_waveOf 119 = .ok (.goto 5, 3) := by decide +kernel
theorem dX5_waveOf_122 : decode cX5_waveOf 122 = .ok (.iload 6, 2) := by decide +kernel
theorem dX5_waveOf_124 : decode cX5_waveOf 124 = .ok (.ireturn, 1) := by decide +kernel
def k_X5_waveOf_18 (X : CX) (T : List Dsc) (n1 n2 : Nat) (x0 : Nat) (x1 : Int64) (x3 : Int32) (r : ((Int32 × Int32 × Int32 × Int32 × Int32 × Int32 × Mem) ⊕ ((Int32 × Int32 × Int32 × Mem)))) : Prop := match r with
  | .inl s => Wp X cX5_waveOf RX5 11 T s.2.2.2.2.2.2 n1 n2 18 [(0, .ref x0), (1, .long x1), (3, .int x3), (4, .int s.1), (5, .int s.2.1), (6, .int s.2.2.1), (7, .int s.2.2.2.1), (8, .int s.2.2.2.2.1), (9, .int s.2.2.2.2.2.1)] []
  | .inr e => Wp X cX5_waveOf RX5 11 T e.2.2.2 n1 n2 96 [(3, .int x3), (4, .int e.1), (5, .int e.2.1), (6, .int e.2.2.1)] []
set_option maxHeartbeats 4000000 in
set_option maxRecDepth 100000 in
theorem w_X5_waveOf_90 {X : CX} {T : List Dsc} {n1 n2 : Nat} {x0 : Nat} {x1 : Int64} {x3 : Int32} {x4 : Int32} {x5 : Int32} {x6 : Int32} {x7 : Int32} {x8 : Int32} {x9 : Int32} {μ : Mem} {r : ((Int32 × Int32 × Int32 × Int32 × Int32 × Int32 × Mem) ⊕ ((Int32 × Int32 × Int32 × Mem)))} (hX : XR X 3 n1 n2) (hx0 : T[x0]? = some (.inl 4)) (hf : f_X5_waveOf_90 T x0 x1 x3 x4 x5 x6 x7 x8 x9 μ = some r) (hk : k_X5_waveOf_18 X T n1 n2 x0 x1 x3 r) : Wp X cX5_waveOf RX5 11 T μ n1 n2 90 [(0, .ref x0), (1, .long x1), (3, .int x3), (4, .int x4), (5, .int x5), (6, .int x6), (7, .int x7), (8, .int x8), (9, .int x9)] [] := by
  unfold f_X5_waveOf_90 at hf
  obtain ⟨v1, h2, hf⟩ := bnd hf
  refine Wp.iincN (pc := 90) (lo' := [(0, .ref x0), (1, .long x1), (3, .int x3), (4, .int x4), (5, .int x5), (6, .int x6), (7, .int x7), (8, .int x8), (9, .int v1)]) (1 : Int32) (by decide) h2 8 rfl [1, 2, 3, 4, 5, 6, 7, 8, 0] rfl (by decide) dX5_waveOf_90 ?_
  refine Wp.goto (pc := 93) 18 dX5_waveOf_93 (by decide) ?_
  cases hf
  exact hk
set_option maxHeartbeats 4000000 in
set_option maxRecDepth 100000 in
theorem w_X5_waveOf_56 {X : CX} {T : List Dsc} {n1 n2 : Nat} {x0 : Nat} {x1 : Int64} {x3 : Int32} {x4 : Int32} {x5 : Int32} {x6 : Int32} {x7 : Int32} {x8 : Int32} {x9 : Int32} {x10 : Int32} {μ : Mem} {r : ((Int32 × Int32 × Int32 × Int32 × Int32 × Int32 × Mem) ⊕ ((Int32 × Int32 × Int32 × Mem)))} (hX : XR X 3 n1 n2) (hx0 : T[x0]? = some (.inl 4)) (hf : f_X5_waveOf_56 T x0 x1 x3 x4 x5 x6 x7 x8 x9 x10 μ = some r) (hk : k_X5_waveOf_18 X T n1 n2 x0 x1 x3 r) : Wp X cX5_waveOf RX5 11 T μ n1 n2 56 [(0, .ref x0), (1, .long x1), (3, .int x3), (4, .int x4), (5, .int x5), (6, .int x6), (7, .int x7), (8, .int x8), (9, .int x9), (10, .int x10)] [] := by
  unfold f_X5_waveOf_56 at hf
  refine Wp.iload (pc := 56) 9 rfl dX5_waveOf_56 ?_
  refine Wp.if_eq (pc := 58) 90 dX5_waveOf_58 (by decide) (fun hc1 => ?_) (fun hc1 => ?_)
  · rw [if_pos hc1] at hf
    refine Wp.lo' (lo' := [(0, .ref x0), (1, .long x1), (3, .int x3), (4, .int x4), (5, .int x5), (6, .int x6), (7, .int x7), (8, .int x8), (9, .int x9)]) [0, 1, 2, 3, 4, 5, 6, 7, 8] rfl ?_
    exact w_X5_waveOf_90 hX hx0 hf hk
  · rw [if_neg hc1] at hf
    refine Wp.iload (pc := 61) 8 rfl dX5_waveOf_61 ?_
    refine Wp.iload (pc := 63) 6 rfl dX5_waveOf_63 ?_
    refine Wp.isub (pc := 65) dX5_waveOf_65 ?_
    refine Wp.iconst (pc := 66) (1 : Int32) (by decide) dX5_waveOf_66 ?_
    refine Wp.iadd (pc := 67) dX5_waveOf_67 ?_
    refine Wp.iload (pc := 68) 3 rfl dX5_waveOf_68 ?_
    refine Wp.icmp_le (pc := 70) 90 dX5_waveOf_70 (by decide) (fun hc2 => ?_) (fun hc2 => ?_)
    · rw [if_pos hc2] at hf
      refine Wp.lo' (lo' := [(0, .ref x0), (1, .long x1), (3, .int x3), (4, .int x4), (5, .int x5), (6, .int x6), (7, .int x7), (8, .int x8), (9, .int x9)]) [0, 1, 2, 3, 4, 5, 6, 7, 8] rfl ?_
      exact w_X5_waveOf_90 hX hx0 hf hk
    · rw [if_neg hc2] at hf
      refine Wp.iload (pc := 73) 8 rfl dX5_waveOf_73 ?_
      refine Wp.iload (pc := 75) 6 rfl dX5_waveOf_75 ?_
      refine Wp.isub (pc := 77) dX5_waveOf_77 ?_
      refine Wp.iconst (pc := 78) (1 : Int32) (by decide) dX5_waveOf_78 ?_
      refine Wp.iadd (pc := 79) dX5_waveOf_79 ?_
      obtain ⟨v3, h4, hf⟩ := bnd hf
      refine Wp.nI' h4 ?_
      refine Wp.istore (pc := 80) (lo' := [(0, .ref x0), (1, .long x1), (3, .int x3), (4, .int v3), (7, .int x7), (8, .int x8), (9, .int x9), (10, .int x10)]) [1, 2, 3, 0, 6, 7, 8, 9] rfl (by decide) dX5_waveOf_80 ?_
      refine Wp.iload (pc := 82) 4 rfl dX5_waveOf_82 ?_
      refine Wp.istore (pc := 84) (lo' := [(0, .ref x0), (1, .long x1), (3, .int x3), (4, .int v3), (5, .int x7), (7, .int x7), (8, .int x8), (9, .int x9), (10, .int x10)]) [1, 2, 3, 4, 0, 5, 6, 7, 8] rfl (by decide) dX5_waveOf_84 ?_
      refine Wp.iload (pc := 86) 8 rfl dX5_waveOf_86 ?_
      refine Wp.istore (pc := 88) (lo' := [(0, .ref x0), (1, .long x1), (3, .int x3), (4, .int v3), (5, .int x7), (6, .int x10), (7, .int x7), (8, .int x8), (9, .int x9)]) [1, 2, 3, 4, 5, 0, 6, 7, 8] rfl (by decide) dX5_waveOf_88 ?_
      exact w_X5_waveOf_90 hX hx0 hf hk
set_option maxHeartbeats 4000000 in
set_option maxRecDepth 100000 in
theorem w_X5_waveOf_18 {X : CX} {T : List Dsc} {n1 n2 : Nat} {x0 : Nat} {x1 : Int64} {x3 : Int32} {x4 : Int32} {x5 : Int32} {x6 : Int32} {x7 : Int32} {x8 : Int32} {x9 : Int32} {μ : Mem} {r : ((Int32 × Int32 × Int32 × Int32 × Int32 × Int32 × Mem) ⊕ ((Int32 × Int32 × Int32 × Mem)))} (hX : XR X 3 n1 n2) (hx0 : T[x0]? = some (.inl 4)) (hf : f_X5_waveOf_18 T x0 x1 x3 x4 x5 x6 x7 x8 x9 μ = some r) (hk : k_X5_waveOf_18 X T n1 n2 x0 x1 x3 r) : Wp X cX5_waveOf RX5 11 T μ n1 n2 18 [(0, .ref x0), (1, .long x1), (3, .int x3), (4, .int x4), (5, .int x5), (6, .int x6), (7, .int x7), (8, .int x8), (9, .int x9)] [] := by
  unfold f_X5_waveOf_18 at hf
  refine Wp.iload (pc := 18) 8 rfl dX5_waveOf_18 ?_
  refine Wp.aload_n (pc := 20) 0 rfl rfl dX5_waveOf_20 ?_
  obtain ⟨r1, h2, hf⟩ := bnd hf
  refine Wp.getR (pc := 21) (gO_R h2) hx0 fk_RX5_26 rfl dX5_waveOf_21 ?_
  refine Wp.getI (pc := 24) (gO_T h2) fk_RX5_43 rfl dX5_waveOf_24 ?_
  refine Wp.icmp_ge (pc := 27) 96 dX5_waveOf_27 (by decide) (fun hc3 => ?_) (fun hc3 => ?_)
  · rw [if_pos hc3] at hf
    refine Wp.lo' (lo' := [(3, .int x3), (4, .int x4), (5, .int x5), (6, .int x6)]) [2, 3, 4, 5] rfl ?_
    cases hf
    exact hk
  · rw [if_neg hc3] at hf
    refine Wp.aload_n (pc := 30) 0 rfl rfl dX5_waveOf_30 ?_
    refine Wp.lload_n (pc := 31) 1 rfl rfl dX5_waveOf_31 ?_
    refine Wp.iload (pc := 32) 8 rfl dX5_waveOf_32 ?_
    obtain ⟨c4, h5, hf⟩ := bnd hf
    refine Wp.callVi (pc := 34) (st := []) (as := [.long x1, .int x9]) (c_X5_gapAhead hx0 h5) ml_RX5_90 mv_X5_gapAhead mb_X5_gapAhead hX (Nat.le_of_ble_eq_true rfl) (by decide) rfl hx0 rfl (by simp) dX5_waveOf_34 rfl ?_
    refine Wp.istore (pc := 37) (lo' := [(0, .ref x0), (1, .long x1), (3, .int x3), (4, .int x4), (5, .int x5), (6, .int x6), (7, .int x7), (8, .int x8), (9, .int x9), (10, .int c4.1)]) [1, 2, 3, 4, 5, 6, 7, 8, 9, 0] rfl (by decide) dX5_waveOf_37 ?_
    refine Wp.iload (pc := 39) 9 rfl dX5_waveOf_39 ?_
    refine Wp.iload (pc := 41) 7 rfl dX5_waveOf_41 ?_
    refine Wp.icmp_eq (pc := 43) 56 dX5_waveOf_43 (by decide) (fun hc6 => ?_) (fun hc6 => ?_)
    · rw [if_pos hc6] at hf
      exact w_X5_waveOf_56 hX hx0 hf hk
    · rw [if_neg hc6] at hf
      refine Wp.iload (pc := 46) 8 rfl dX5_waveOf_46 ?_
      refine Wp.iconst (pc := 48) (1 : Int32) (by decide) dX5_waveOf_48 ?_
      refine Wp.isub (pc := 49) dX5_waveOf_49 ?_
      obtain ⟨v7, h8, hf⟩ := bnd hf
      refine Wp.nI' h8 ?_
      refine Wp.istore (pc := 50) (lo' := [(0, .ref x0), (1, .long x1), (3, .int x3), (4, .int x4), (5, .int x5), (6, .int x6), (7, .int v7), (9, .int x9), (10, .int c4.1)]) [1, 2, 3, 4, 5, 6, 0, 8, 9] rfl (by decide) dX5_waveOf_50 ?_
      refine Wp.iload (pc := 52) 8 rfl dX5_waveOf_52 ?_
      refine Wp.istore (pc := 54) (lo' := [(0, .ref x0), (1, .long x1), (3, .int x3), (4, .int x4), (5, .int x5), (6, .int x6), (7, .int v7), (8, .int c4.1), (9, .int x9), (10, .int c4.1)]) [1, 2, 3, 4, 5, 6, 7, 0, 8, 9] rfl (by decide) dX5_waveOf_54 ?_
      exact w_X5_waveOf_56 hX hx0 hf hk
theorem wl_X5_waveOf_18 {X : CX} {T : List Dsc} {n1 n2 : Nat} {x0 : Nat} {x1 : Int64} {x3 : Int32} {x4 : Int32} {x5 : Int32} {x6 : Int32} {x7 : Int32} {x8 : Int32} {x9 : Int32} {μ : Mem} {e : ((Int32 × Int32 × Int32 × Mem))} (hX : XR X 3 n1 n2) (hx0 : T[x0]? = some (.inl 4)) (h : loop (g_X5_waveOf_18 T x0 x1 x3) (x4, x5, x6, x7, x8, x9, μ) = some e) (he : Wp X cX5_waveOf RX5 11 T e.2.2.2 n1 n2 96 [(3, .int x3), (4, .int e.1), (5, .int e.2.1), (6, .int e.2.2.1)] []) : Wp X cX5_waveOf RX5 11 T μ n1 n2 18 [(0, .ref x0), (1, .long x1), (3, .int x3), (4, .int x4), (5, .int x5), (6, .int x6), (7, .int x7), (8, .int x8), (9, .int x9)] [] :=
  loop_ok (K := k_X5_waveOf_18 X T n1 n2 x0 x1 x3) (fun s r hf hk => w_X5_waveOf_18 hX hx0 hf hk) h he
set_option maxHeartbeats 4000000 in
set_option maxRecDepth 100000 in
theorem w_X5_waveOf_124 {X : CX} {T : List Dsc} {n1 n2 : Nat} {s0 : Int32} {μ : Mem} {r : (Int32 × Mem)} (hX : XR X 3 n1 n2) (hf : f_X5_waveOf_124 T s0 μ = some r) (hk : FnI X cX5_waveOf RX5 11 T n1 n2 r) : Wp X cX5_waveOf RX5 11 T μ n1 n2 124 [] [.int s0] := by
  unfold f_X5_waveOf_124 at hf
  cases hf
  exact hk _ _ dX5_waveOf_124
set_option maxHeartbeats 4000000 in
set_option maxRecDepth 100000 in
theorem w_X5_waveOf {X : CX} {T : List Dsc} {n1 n2 : Nat} {x0 : Nat} {x1 : Int64} {x3 : Int32} {μ : Mem} {r : (Int32 × Mem)} (hX : XR X 3 n1 n2) (hx0 : T[x0]? = some (.inl 4)) (hf : F_X5_waveOf T x0 x1 x3 μ = some r) (hk : FnI X cX5_waveOf RX5 11 T n1 n2 r) : Wp X cX5_waveOf RX5 11 T μ n1 n2 0 [(0, .ref x0), (1, .long x1), (3, .int x3)] [] := by
  unfold F_X5_waveOf at hf
  refine Wp.iconst (pc := 0) (0 : Int32) (by decide) dX5_waveOf_0 ?_
  refine Wp.istore (pc := 1) (lo' := [(0, .ref x0), (1, .long x1), (3, .int x3), (4, .int (0 : Int32))]) [1, 2, 3, 0] rfl (by decide) dX5_waveOf_1 ?_
  refine Wp.iconst (pc := 3) (0 : Int32) (by decide) dX5_waveOf_3 ?_
  refine Wp.istore (pc := 4) (lo' := [(0, .ref x0), (1, .long x1), (3, .int x3), (4, .int (0 : Int32)), (5, .int (0 : Int32))]) [1, 2, 3, 4, 0] rfl (by decide) dX5_waveOf_4 ?_
  refine Wp.iconst (pc := 6) (0 : Int32) (by decide) dX5_waveOf_6 ?_
  refine Wp.istore (pc := 7) (lo' := [(0, .ref x0), (1, .long x1), (3, .int x3), (4, .int (0 : Int32)), (5, .int (0 : Int32)), (6, .int (0 : Int32))]) [1, 2, 3, 4, 5, 0] rfl (by decide) dX5_waveOf_7 ?_
  refine Wp.iconst (pc := 9) (0 : Int32) (by decide) dX5_waveOf_9 ?_
  refine Wp.istore (pc := 10) (lo' := [(0, .ref x0), (1, .long x1), (3, .int x3), (4, .int (0 : Int32)), (5, .int (0 : Int32)), (6, .int (0 : Int32)), (7, .int (0 : Int32))]) [1, 2, 3, 4, 5, 6, 0] rfl (by decide) dX5_waveOf_10 ?_
  refine Wp.iconst (pc := 12) (0 : Int32) (by decide) dX5_waveOf_12 ?_
  refine Wp.istore (pc := 13) (lo' := [(0, .ref x0), (1, .long x1), (3, .int x3), (4, .int (0 : Int32)), (5, .int (0 : Int32)), (6, .int (0 : Int32)), (7, .int (0 : Int32)), (8, .int (0 : Int32))]) [1, 2, 3, 4, 5, 6, 7, 0] rfl (by decide) dX5_waveOf_13 ?_
  refine Wp.iconst (pc := 15) (1 : Int32) (by decide) dX5_waveOf_15 ?_
  refine Wp.istore (pc := 16) (lo' := [(0, .ref x0), (1, .long x1), (3, .int x3), (4, .int (0 : Int32)), (5, .int (0 : Int32)), (6, .int (0 : Int32)), (7, .int (0 : Int32)), (8, .int (0 : Int32)), (9, .int (1 : Int32))]) [1, 2, 3, 4, 5, 6, 7, 8, 0] rfl (by decide) dX5_waveOf_16 ?_
  obtain ⟨e1, h2, hf⟩ := bnd hf
  refine wl_X5_waveOf_18 hX hx0 h2 ?_
  refine Wp.iload (pc := 96) 1 rfl dX5_waveOf_96 ?_
  refine Wp.iconst (pc := 98) (2 : Int32) (by decide) dX5_waveOf_98 ?_
  refine Wp.icmp_ge (pc := 99) 105 dX5_waveOf_99 (by decide) (fun hc3 => ?_) (fun hc3 => ?_)
  · rw [if_pos hc3] at hf
    refine Wp.iload_n (pc := 105) 0 rfl rfl dX5_waveOf_105 ?_
    refine Wp.if_ne (pc := 106) 112 dX5_waveOf_106 (by decide) (fun hc4 => ?_) (fun hc4 => ?_)
    · rw [if_neg hc4] at hf
      refine Wp.iload_n (pc := 112) 0 rfl rfl dX5_waveOf_112 ?_
      refine Wp.iconst (pc := 113) (1 : Int32) (by decide) dX5_waveOf_113 ?_
      refine Wp.icmp_ne (pc := 114) 122 dX5_waveOf_114 (by decide) (fun hc5 => ?_) (fun hc5 => ?_)
      · rw [if_neg hc5] at hf
        refine Wp.iload (pc := 122) 3 rfl dX5_waveOf_122 ?_
        refine Wp.lo' (lo' := []) [] rfl ?_
        exact w_X5_waveOf_124 hX hf hk
      · rw [if_pos hc5] at hf
        refine Wp.iload (pc := 117) 2 rfl dX5_waveOf_117 ?_
        refine Wp.goto (pc := 119) 124 dX5_waveOf_119 (by decide) ?_
        refine Wp.lo' (lo' := []) [] rfl ?_
        exact w_X5_waveOf_124 hX hf hk
    · rw [if_pos hc4] at hf
      refine Wp.iload (pc := 109) 1 rfl dX5_waveOf_109 ?_
      cases hf
      exact hk _ _ dX5_waveOf_111
  · rw [if_neg hc3] at hf
    refine Wp.bipush (pc := 102) (-2 : Int32) (by decide) dX5_waveOf_102 ?_
    cases hf
    exact hk _ _ dX5_waveOf_104
theorem c_X5_waveOf {T : List Dsc} {x0 : Nat} {x1 : Int64} {x3 : Int32} {μ : Mem} {r : (Int32 × Mem)} (hx0 : T[x0]? = some (.inl 4)) (hf : F_X5_waveOf T x0 x1 x3 μ = some r) : Ct 3 yX5_waveOf cX5_waveOf 11 (some .int) T μ [.ref x0, .long x1, .int x3] (some (.int r.1)) r.2 := Ct.ofI (by decide +kernel) (Nat.le_of_ble_eq_true rfl) (fun X hX hk => w_X5_waveOf hX hx0 hf hk)
theorem dX7_isFog_0 : decode cX7_isFog 0 = .ok (.iconst 0, 1) := by decide +kernel
theorem dX7_isFog_1 : decode cX7_isFog 1 = .ok (.istore_n 2, 1) := by decide +kernel
theorem dX7_isFog_2 : decode cX7_isFog 2 = .ok (.iload_n 2, 1) := by decide +kernel
theorem dX7_isFog_3 : decode cX7_isFog 3 = .ok (.aload_n 0, 1) := by decide +kernel
theorem dX7_isFog_4 : decode cX7_isFog 4 = .ok (.getfield 53, 3) := by decide +kernel
theorem dX7_isFog_7 : decode cX7_isFog 7 = .ok (.if_icmp .ge 31, 3) := by decide +kernel
theorem dX7_isFog_10 : decode cX7_isFog 10 = .ok (.aload_n 0, 1) := by decide +kernel
theorem dX7_isFog_11 : decode cX7_isFog 11 = .ok (.getfield 31, 3) := by decide +kernel
theorem dX7_isFog_14 : decode cX7_isFog 14 = .ok (.iload_n 2, 1) := by decide +kernel
theorem dX7_isFog_15 : decode cX7_isFog 15 = .ok (.iaload, 1) := by decide +kernel
theorem dX7_isFog_16 : decode cX7_isFog 16 = .ok (.iload_n 1, 1) := by decide +kernel
theorem dX7_isFog_17 : decode cX7_isFog 17 = .ok (.if_icmp .gt 15, 3) := by decide +kernel
theorem dX7_isFog_20 : decode cX7_isFog 20 = .ok (.iload_n 1, 1) := by decide +kernel
theorem dX7_isFog_21 : decode cX7_isFog 21 = .ok (.aload_n 0, 1) := by decide +kernel
theorem dX7_isFog_22 : decode cX7_isFog 22 = .ok (.getfield 34, 3) := by decide +kernel
theorem dX7_isFog_25 : decode cX7_isFog 25 = .ok (.iload_n 2, 1) := by decide +kernel
theorem dX7_isFog_26 : decode cX7_isFog 26 = .ok (.iaload, 1) := by decide +kernel
theorem dX7_isFog_27 : decode cX7_isFog 27 = .ok (.if_icmp .gt 5, 3) := by decide +kernel
theorem dX7_isFog_30 : decode cX7_isFog 30 = .ok (.iconst 1, 1) := by decide +kernel
theorem dX7_isFog_31 : decode cX7_isFog 31 = .ok (.ireturn, 1) := by decide +kernel
theorem dX7_isFog_32 : decode cX7_isFog 32 = .ok (.iinc 2 1, 3) := by decide +kernel
theorem dX7_isFog_35 : decode cX7_isFog 35 = .ok (.goto (-33), 3) := by decide +kernel
theorem dX7_isFog_38 : decode cX7_isFog 38 = .ok (.iconst 0, 1) := by decide +kernel
theorem dX7_isFog_39 : decode cX7_isFog 39 = .ok (.ireturn, 1) := by decide +kernel
def k_X7_isFog_2 (X : CX) (T : List Dsc) (n1 n2 : Nat) (x0 : Nat) (x1 : Int32) (r : ((Int32 × Mem) ⊕ ((Mem) ⊕ (Mem)))) : Prop := match r with
  | .inl s => Wp X cX7_isFog RX7 3 T s.2 n1 n2 2 [(0, .ref x0), (1, .int x1), (2, .int s.1)] []
  | .inr (.inl e) => Wp X cX7_isFog RX7 3 T e n1 n2 30 [] []
  | .inr (.inr e) => Wp X cX7_isFog RX7 3 T e n1 n2 38 [] []
set_option maxHeartbeats 4000000 in
set_option maxRecDepth 100000 in
theorem w_X7_isFog_32 {X : CX} {T : List Dsc} {n1 n2 : Nat} {x0 : Nat} {x1 : Int32} {x2 : Int32} {μ : Mem} {r : ((Int32 × Mem) ⊕ ((Mem) ⊕ (Mem)))} (hX : XR X 1 n1 n2) (hx0 : T[x0]? = some (.inl 6)) (hf : f_X7_isFog_32 T x0 x1 x2 μ = some r) (hk : k_X7_isFog_2 X T n1 n2 x0 x1 r) : Wp X cX7_isFog RX7 3 T μ n1 n2 32 [(0, .ref x0), (1, .int x1), (2, .int x2)] [] := by
  unfold f_X7_isFog_32 at hf
  obtain ⟨v1, h2, hf⟩ := bnd hf
  refine Wp.iincN (pc := 32) (lo' := [(0, .ref x0), (1, .int x1), (2, .int v1)]) (1 : Int32) (by decide) h2 2 rfl [1, 2, 0] rfl (by decide) dX7_isFog_32 ?_
  refine Wp.goto (pc := 35) 2 dX7_isFog_35 (by decide) ?_
  cases hf
  exact hk
set_option maxHeartbeats 4000000 in
set_option maxRecDepth 100000 in
theorem w_X7_isFog_2 {X : CX} {T : List Dsc} {n1 n2 : Nat} {x0 : Nat} {x1 : Int32} {x2 : Int32} {μ : Mem} {r : ((Int32 × Mem) ⊕ ((Mem) ⊕ (Mem)))} (hX : XR X 1 n1 n2) (hx0 : T[x0]? = some (.inl 6)) (hf : f_X7_isFog_2 T x0 x1 x2 μ = some r) (hk : k_X7_isFog_2 X T n1 n2 x0 x1 r) : Wp X cX7_isFog RX7 3 T μ n1 n2 2 [(0, .ref x0), (1, .int x1), (2, .int x2)] [] := by
  unfold f_X7_isFog_2 at hf
  refine Wp.iload_n (pc := 2) 2 rfl rfl dX7_isFog_2 ?_
  refine Wp.aload_n (pc := 3) 0 rfl rfl dX7_isFog_3 ?_
  refine Wp.getI (pc := 4) hx0 fk_RX7_53 rfl dX7_isFog_4 ?_
  refine Wp.icmp_ge (pc := 7) 38 dX7_isFog_7 (by decide) (fun hc1 => ?_) (fun hc1 => ?_)
  · rw [if_pos hc1] at hf
    refine Wp.lo' (lo' := []) [] rfl ?_
    cases hf
    exact hk
  · rw [if_neg hc1] at hf
    refine Wp.aload_n (pc := 10) 0 rfl rfl dX7_isFog_10 ?_
    obtain ⟨a2, h3, hf⟩ := bnd hf
    refine Wp.getR (pc := 11) (gA_R h3) hx0 fk_RX7_31 rfl dX7_isFog_11 ?_
    refine Wp.iload_n (pc := 14) 2 rfl rfl dX7_isFog_14 ?_
    obtain ⟨v4, h5, hf⟩ := bnd hf
    refine Wp.iald (pc := 15) h5 (gA_T h3) dX7_isFog_15 ?_
    refine Wp.iload_n (pc := 16) 1 rfl rfl dX7_isFog_16 ?_
    refine Wp.icmp_gt (pc := 17) 32 dX7_isFog_17 (by decide) (fun hc6 => ?_) (fun hc6 => ?_)
    · rw [if_pos hc6] at hf
      exact w_X7_isFog_32 hX hx0 hf hk
    · rw [if_neg hc6] at hf
      refine Wp.iload_n (pc := 20) 1 rfl rfl dX7_isFog_20 ?_
      refine Wp.aload_n (pc := 21) 0 rfl rfl dX7_isFog_21 ?_
      obtain ⟨a7, h8, hf⟩ := bnd hf
      refine Wp.getR (pc := 22) (gA_R h8) hx0 fk_RX7_34 rfl dX7_isFog_22 ?_
      refine Wp.iload_n (pc := 25) 2 rfl rfl dX7_isFog_25 ?_
      obtain ⟨v9, h10, hf⟩ := bnd hf
      refine Wp.iald (pc := 26) h10 (gA_T h8) dX7_isFog_26 ?_
      refine Wp.icmp_gt (pc := 27) 32 dX7_isFog_27 (by decide) (fun hc11 => ?_) (fun hc11 => ?_)
      · rw [if_pos hc11] at hf
        exact w_X7_isFog_32 hX hx0 hf hk
      · rw [if_neg hc11] at hf
        refine Wp.lo' (lo' := []) [] rfl ?_
        cases hf
        exact hk
theorem wl_X7_isFog_2 {X : CX} {T : List Dsc} {n1 n2 : Nat} {x0 : Nat} {x1 : Int32} {x2 : Int32} {μ : Mem} {e : ((Mem) ⊕ (Mem))} (hX : XR X 1 n1 n2) (hx0 : T[x0]? = some (.inl 6)) (h : loop (g_X7_isFog_2 T x0 x1) (x2, μ) = some e) (he0 : ∀ e_, e = (Sum.inl e_) → Wp X cX7_isFog RX7 3 T e_ n1 n2 30 [] []) (he1 : ∀ e_, e = (Sum.inr e_) → Wp X cX7_isFog RX7 3 T e_ n1 n2 38 [] []) : Wp X cX7_isFog RX7 3 T μ n1 n2 2 [(0, .ref x0), (1, .int x1), (2, .int x2)] [] :=
  loop_ok (K := k_X7_isFog_2 X T n1 n2 x0 x1) (fun s r hf hk => w_X7_isFog_2 hX hx0 hf hk) h (by rcases e with e | e <;> first | exact he0 _ rfl | exact he1 _ rfl)
set_option maxHeartbeats 4000000 in
set_option maxRecDepth 100000 in
theorem w_X7_isFog {X : CX} {T : List Dsc} {n1 n2 : Nat} {x0 : Nat} {x1 : Int32} {μ : Mem} {r : (Int32 × Mem)} (hX : XR X 1 n1 n2) (hx0 : T[x0]? = some (.inl 6)) (hf : F_X7_isFog T x0 x1 μ = some r) (hk : FnZ X cX7_isFog RX7 3 T n1 n2 r) : Wp X cX7_isFog RX7 3 T μ n1 n2 0 [(0, .ref x0), (1, .int x1)] [] := by
  unfold F_X7_isFog at hf
  refine Wp.iconst (pc := 0) (0 : Int32) (by decide) dX7_isFog_0 ?_
  refine Wp.istore_n (pc := 1) (lo' := [(0, .ref x0), (1, .int x1), (2, .int (0 : Int32))]) [1, 2, 0] rfl (by decide) rfl dX7_isFog_1 ?_
  obtain ⟨e1, h2, hf⟩ := bnd hf
  refine wl_X7_isFog_2 hX hx0 h2 (fun e1_0 hq => ?_) (fun e1_1 hq => ?_)
  · rw [hq, Sum.elim_inl] at hf
    refine Wp.iconst (pc := 30) (1 : Int32) (by decide) dX7_isFog_30 ?_
    cases hf
    exact hk _ _ (Or.inr rfl) dX7_isFog_31
  · rw [hq, Sum.elim_inr] at hf
    refine Wp.iconst (pc := 38) (0 : Int32) (by decide) dX7_isFog_38 ?_
    cases hf
    exact hk _ _ (Or.inl rfl) dX7_isFog_39
theorem c_X7_isFog {T : List Dsc} {x0 : Nat} {x1 : Int32} {μ : Mem} {r : (Int32 × Mem)} (hx0 : T[x0]? = some (.inl 6)) (hf : F_X7_isFog T x0 x1 μ = some r) : Ct 1 yX7_isFog cX7_isFog 3 (some .boolean) T μ [.ref x0, .int x1] (some (.int r.1)) r.2 := Ct.ofZ (by decide +kernel) (Nat.le_of_ble_eq_true rfl) (fun X hX hk => w_X7_isFog hX hx0 hf hk)
theorem dX5_mostClashing_0 : decode cX5_mostClashing 0 = .ok (.aload_n 0, 1) := by decide +kernel
theorem dX5_mostClashing_1 : decode cX5_mostClashing 1 = .ok (.getfield 23, 3) := by decide +kernel
theorem dX5_mostClashing_4 : decode cX5_mostClashing 4 = .ok (.iconst 0, 1) := by decide +kernel
theorem dX5_mostClashing_5 : decode cX5_mostClashing 5 = .ok (.invokestatic 105, 3) := by decide +kernel
theorem dX5_mostClashing_8 : decode cX5_mostClashing 8 = .ok (.aload_n 1, 1) := by decide +kernel
theorem dX5_mostClashing_9 : decode cX5_mostClashing 9 = .ok (.getfield 111, 3) := by decide +kernel
theorem dX5_mostClashing_12 : decode cX5_mostClashing 12 = .ok (.lstore_n 3, 1) := by decide +kernel
theorem dX5_mostClashing_13 : decode cX5_mostClashing 13 = .ok (.iconst 0, 1) := by decide +kernel
theorem dX5_mostClashing_14 : decode cX5_mostClashing 14 = .ok (.istore 5, 2) := by decide +kernel
theorem dX5_mostClashing_16 : decode cX5_mostClashing 16 = .ok (.iload 5, 2) := by decide +kernel
theorem dX5_mostClashing_18 : decode cX5_mostClashing 18 = .ok (.iload_n 2, 1) := by decide +kernel
theorem dX5_mostClashing_19 : decode cX5_mostClashing 19 = .ok (.if_icmp .ge 82, 3) := by decide +kernel
theorem dX5_mostClashing_22 : decode cX5_mostClashing 22 = .ok (.aload_n 0, 1) := by decide +kernel
theorem dX5_mostClashing_23 : decode cX5_mostClashing 23 = .ok (.lload_n 3, 1) := by decide +kernel
theorem dX5_mostClashing_24 : decode cX5_mostClashing 24 = .ok (.aload_n 1, 1) := by decide +kernel
theorem dX5_mostClashing_25 : decode cX5_mostClashing 25 = .ok (.getfield 117, 3) := by decide +kernel
theorem dX5_mostClashing_28 : decode cX5_mostClashing 28 = .ok (.aload_n 1, 1) := by decide +kernel
theorem dX5_mostClashing_29 : decode cX5_mostClashing 29 = .ok (.getfield 119, 3) := by decide +kernel
theorem dX5_mostClashing_32 : decode cX5_mostClashing 32 = .ok (.aload_n 0, 1) := by decide +kernel
theorem dX5_mostClashing_33 : decode cX5_mostClashing 33 = .ok (.getfield 26, 3) := by decide +kernel
theorem dX5_mostClashing_36 : decode cX5_mostClashing 36 = .ok (.aload_n 1, 1) := by decide +kernel
theorem dX5_mostClashing_37 : decode cX5_mostClashing 37 = .ok (.getfield 122, 3) := by decide +kernel
theorem dX5_mostClashing_40 : decode cX5_mostClashing 40 = .ok (.iload 5, 2) := by decide +kernel
theorem dX5_mostClashing_42 : decode cX5_mostClashing 42 = .ok (.iadd, 1) := by decide +kernel
theorem dX5_mostClashing_43 : decode cX5_mostClashing 43 = .ok (.invokevirtual 125, 3) := by decide +kernel
theorem dX5_mostClashing_46 : decode cX5_mostClashing 46 = .ok (.invokevirtual 129, 3) := by decide +kernel
theorem dX5_mostClashing_49 : decode cX5_mostClashing 49 = .ok (.lstore_n 3, 1) := by decide +kernel
theorem dX5_mostClashing_50 : decode cX5_mostClashing 50 = .ok (.aload_n 0, 1) := by decide +kernel
theorem dX5_mostClashing_51 : decode cX5_mostClashing 51 = .ok (.lload_n 3, 1) := by decide +kernel
theorem dX5_mostClashing_52 : decode cX5_mostClashing 52 = .ok (.invokevirtual 132, 3) := by decide +kernel
theorem dX5_mostClashing_55 : decode cX5_mostClashing 55 = .ok (.istore 6, 2) := by decide +kernel
theorem dX5_mostClashing_57 : decode cX5_mostClashing 57 = .ok (.iconst 1, 1) := by decide +kernel
theorem dX5_mostClashing_58 : decode cX5_mostClashing 58 = .ok (.istore 7, 2) := by decide +kernel
theorem dX5_mostClashing_60 : decode cX5_mostClashing 60 = .ok (.iload 7, 2) := by decide +kernel
theorem dX5_mostClashing_62 : decode cX5_mostClashing 62 = .ok (.aload_n 0, 1) := by decide +kernel
theorem dX5_mostClashing_63 : decode cX5_mostClashing 63 = .ok (.getfield 26, 3) := by decide +kernel
theorem dX5_mostClashing_66 : decode cX5_mostClashing 66 = .ok (.getfield 43, 3) := by decide +kernel
theorem dX5_mostClashing_69 : decode cX5_mostClashing 69 = .ok (.if_icmp .ge 26, 3) := by decide +kernel
theorem dX5_mostClashing_72 : decode cX5_mostClashing 72 = .ok (.aload_n 0, 1) := by decide +kernel
theorem dX5_mostClashing_73 : decode cX5_mostClashing 73 = .ok (.getfield 23, 3) := by decide +kernel
theorem dX5_mostClashing_76 : decode cX5_mostClashing 76 = .ok (.iload 7, 2) := by decide +kernel
theorem dX5_mostClashing_78 : decode cX5_mostClashing 78 = .ok (.dup2, 1) := by decide +kernel
theorem dX5_mostClashing_79 : decode cX5_mostClashing 79 = .ok (.iaload, 1) := by decide +kernel
theorem dX5_mostClashing_80 : decode cX5_mostClashing 80 = .ok (.iload 6, 2) := by decide +kernel
theorem dX5_mostClashing_82 : decode cX5_mostClashing 82 = .ok (.iload 7, 2) := by decide +kernel
theorem dX5_mostClashing_84 : decode cX5_mostClashing 84 = .ok (.ishr, 1) := by decide +kernel
theorem dX5_mostClashing_85 : decode cX5_mostClashing 85 = .ok (.iconst 1, 1) := by decide +kernel
theorem dX5_mostClashing_86 : decode cX5_mostClashing 86 = .ok (.iand, 1) := by decide +kernel
theorem dX5_mostClashing_87 : decode cX5_mostClashing 87 = .ok (.iadd, 1) := by decide +kernel
theorem dX5_mostClashing_88 : decode cX5_mostClashing 88 = .ok (.iastore, 1) := by decide +kernel
theorem dX5_mostClashing_89 : decode cX5_mostClashing 89 = .ok (.iinc 7 1, 3) := by decide +kernel
theorem dX5_mostClashing_92 : decode cX5_mostClashing 92 = .ok (.goto (-32), 3) := by decide +kernel
theorem dX5_mostClashing_95 : decode cX5_mostClashing 95 = .ok (.iinc 5 1, 3) := by decide +kernel
theorem dX5_mostClashing_98 : decode cX5_mostClashing 98 = .ok (.goto (-82), 3) := by decide +kernel
theorem dX5_mostClashing_101 : decode cX5_mostClashing 101 = .ok (.iconst 0, 1) := by decide +kernel
theorem dX5_mostClashing_102 : decode cX5_mostClashing 102 = .ok (.istore 5, 2) := by decide +kernel
theorem dX5_mostClashing_104 : decode cX5_mostClashing 104 = .ok (.iconst 1, 1) := by decide +kernel
theorem dX5_mostClashing_105 : decode cX5_mostClashing 105 = .ok (.istore 6, 2) := by decide +kernel
theorem dX5_mostClashing_107 : decode cX5_mostClashing 107 = .ok (.iload 6, 2) := by decide +kernel
theorem dX5_mostClashing_109 : decode cX5_mostClashing 109 = .ok (.aload_n 0, 1) := by decide +kernel
theorem dX5_mostClashing_110 : decode cX5_mostClashing 110 = .ok (.getfield 26, 3) := by decide +kernel
theorem dX5_mostClashing_113 : decode cX5_mostClashing 113 = .ok (.getfield 43, 3) := by decide +kernel
theorem dX5_mostClashing_116 : decode cX5_mostClashing 116 = .ok (.if_icmp .ge 30, 3) := by decide +kernel
theorem dX5_mostClashing_119 : decode cX5_mostClashing 119 = .ok (.aload_n 0, 1) := by decide +kernel
theorem dX5_mostClashing_120 : decode cX5_mostClashing 120 = .ok (.getfield 23, 3) := by decide +kernel
theorem dX5_mostClashing_123 : decode cX5_mostClashing 123 = .ok (.iload 6, 2) := by decide +kernel
theorem dX5_mostClashing_125 : decode cX5_mostClashing 125 = .ok (.iaload, 1) := by decide +kernel
theorem dX5_mostClashing_126 : decode cX5_mostClashing 126 = .ok (.aload_n 0, 1) := by decide +kernel
theorem dX5_mostClashing_127 : decode cX5_mostClashing 127 = .ok (.getfield 23, 3) := by decide +kernel
theorem dX5_mostClashing_130 : decode cX5_mostClashing 130 = .ok (.iload 5, 2) := by decide +kernel
theorem dX5_mostClashing_132 : decode cX5_mostClashing 132 = .ok (.iaload, 1) := by decide +kernel
theorem dX5_mostClashing_133 : decode cX5_mostClashing 133 = .ok (.if_icmp .le 7, 3) := by decide +kernel
theorem dX5_mostClashing_136 : decode cX5_mostClashing 136 = .ok (.iload 6, 2) := by decide +kernel
theorem dX5_mostClashing_138 : decode cX5_mostClashing 138 = .ok (.istore 5, 2) := by decide +kernel
theorem dX5_mostClashing_140 : decode cX5_mostClashing 140 = .ok (.iinc 6 1, 3) := by decide +kernel
theorem dX5_mostClashing_143 : decode cX5_mostClashing 143 = .ok (.goto (-36), 3) := by decide +kernel
theorem dX5_mostClashing_146 : decode cX5_mostClashing 146 = .ok (.iload 5, 2) := by decide +kernel
theorem dX5_mostClashing_148 : decode cX5_mostClashing 148 = .ok (.ifCond .ne 8, 3) := by decide +kernel
theorem dX5_mostClashing_151 : decode cX5_mostClashing 151 = .ok (.bipush (-2), 2) := by decide +kernel
theorem dX5_mostClashing_153 : decode cX5_mostClashing 153 = .ok (.goto 5, 3) := by decide +kernel
theorem dX5_mostClashing_156 : decode cX5_mostClashing 156 = .ok (.iload 5, 2) := by decide +kernel
theorem dX5_mostClashing_158 : decode cX5_mostClashing 158 = .ok (.ireturn, 1) := by decide +kernel
def k_X5_mostClashing_60 (X : CX) (T : List Dsc) (n1 n2 : Nat) (x0 : Nat) (x1 : Nat) (x2 : Int32) (x3 : Int64) (x5 : Int32) (x6 : Int32) (r : ((Int32 × Mem) ⊕ ((Mem)))) : Prop := match r with
  | .inl s => Wp X cX5_mostClashing RX5 8 T s.2 n1 n2 60 [(0, .ref x0), (1, .ref x1), (2, .int x2), (3, .long x3), (5, .int x5), (6, .int x6), (7, .int s.1)] []
  | .inr e => Wp X cX5_mostClashing RX5 8 T e n1 n2 95 [(0, .ref x0), (1, .ref x1), (2, .int x2), (3, .long x3), (5, .int x5)] []
def k_X5_mostClashing_16 (X : CX) (T : List Dsc) (n1 n2 : Nat) (x0 : Nat) (x1 : Nat) (x2 : Int32) (r : ((Int64 × Int32 × Mem) ⊕ ((Mem)))) : Prop := match r with
  | .inl s => Wp X cX5_mostClashing RX5 8 T s.2.2 n1 n2 16 [(0, .ref x0), (1, .ref x1), (2, .int x2), (3, .long s.1), (5, .int s.2.1)] []
  | .inr e => Wp X cX5_mostClashing RX5 8 T e n1 n2 101 [(0, .ref x0)] []
def k_X5_mostClashing_107 (X : CX) (T : List Dsc) (n1 n2 : Nat) (x0 : Nat) (r : ((Int32 × Int32 × Mem) ⊕ ((Int32 × Mem)))) : Prop := match r with
  | .inl s => Wp X cX5_mostClashing RX5 8 T s.2.2 n1 n2 107 [(0, .ref x0), (5, .int s.1), (6, .int s.2.1)] []
  | .inr e => Wp X cX5_mostClashing RX5 8 T e.2 n1 n2 146 [(5, .int e.1)] []
set_option maxHeartbeats 4000000 in
set_option maxRecDepth 100000 in
theorem w_X5_mostClashing_60 {X : CX} {T : List Dsc} {n1 n2 : Nat} {x0 : Nat} {x1 : Nat} {x2 : Int32} {x3 : Int64} {x5 : Int32} {x6 : Int32} {x7 : Int32} {μ : Mem} {r : ((Int32 × Mem) ⊕ ((Mem)))} (hX : XR X 6 n1 n2) (hx0 : T[x0]? = some (.inl 4)) (hx1 : T[x1]? = some (.inl 1)) (hf : f_X5_mostClashing_60 T x0 x1 x2 x3 x5 x6 x7 μ = some r) (hk : k_X5_mostClashing_60 X T n1 n2 x0 x1 x2 x3 x5 x6 r) : Wp X cX5_mostClashing RX5 8 T μ n1 n2 60 [(0, .ref x0), (1, .ref x1), (2, .int x2), (3, .long x3), (5, .int x5), (6, .int x6), (7, .int x7)] [] := by
  unfold f_X5_mostClashing_60 at hf
  refine Wp.iload (pc := 60) 6 rfl dX5_mostClashing_60 ?_
  refine Wp.aload_n (pc := 62) 0 rfl rfl dX5_mostClashing_62 ?_
  obtain ⟨r1, h2, hf⟩ := bnd hf
  refine Wp.getR (pc := 63) (gO_R h2) hx0 fk_RX5_26 rfl dX5_mostClashing_63 ?_
  refine Wp.getI (pc := 66) (gO_T h2) fk_RX5_43 rfl dX5_mostClashing_66 ?_
  refine Wp.icmp_ge (pc := 69) 95 dX5_mostClashing_69 (by decide) (fun hc3 => ?_) (fun hc3 => ?_)
  · rw [if_pos hc3] at hf
    refine Wp.lo' (lo' := [(0, .ref x0), (1, .ref x1), (2, .int x2), (3, .long x3), (5, .int x5)]) [0, 1, 2, 3, 4] rfl ?_
    cases hf
    exact hk
  · rw [if_neg hc3] at hf
    refine Wp.aload_n (pc := 72) 0 rfl rfl dX5_mostClashing_72 ?_
    obtain ⟨a4, h5, hf⟩ := bnd hf
    refine Wp.getR (pc := 73) (gA_R h5) hx0 fk_RX5_23 rfl dX5_mostClashing_73 ?_
    refine Wp.iload (pc := 76) 6 rfl dX5_mostClashing_76 ?_
    refine Wp.dup2 (pc := 78) rfl rfl dX5_mostClashing_78 ?_
    obtain ⟨v6, h7, hf⟩ := bnd hf
    refine Wp.iald (pc := 79) h7 (gA_T h5) dX5_mostClashing_79 ?_
    refine Wp.iload (pc := 80) 5 rfl dX5_mostClashing_80 ?_
    refine Wp.iload (pc := 82) 6 rfl dX5_mostClashing_82 ?_
    refine Wp.ishr (pc := 84) dX5_mostClashing_84 ?_
    refine Wp.iconst (pc := 85) (1 : Int32) (by decide) dX5_mostClashing_85 ?_
    refine Wp.iand (pc := 86) dX5_mostClashing_86 ?_
    refine Wp.iadd (pc := 87) dX5_mostClashing_87 ?_
    obtain ⟨μ8, h9, hf⟩ := bnd hf
    refine Wp.iast (pc := 88) h9 (gA_T h5) dX5_mostClashing_88 ?_
    obtain ⟨v10, h11, hf⟩ := bnd hf
    refine Wp.iincN (pc := 89) (lo' := [(0, .ref x0), (1, .ref x1), (2, .int x2), (3, .long x3), (5, .int x5), (6, .int x6), (7, .int v10)]) (1 : Int32) (by decide) h11 6 rfl [1, 2, 3, 4, 5, 6, 0] rfl (by decide) dX5_mostClashing_89 ?_
    refine Wp.goto (pc := 92) 60 dX5_mostClashing_92 (by decide) ?_
    cases hf
    exact hk
theorem wl_X5_mostClashing_60 {X : CX} {T : List Dsc} {n1 n2 : Nat} {x0 : Nat} {x1 : Nat} {x2 : Int32} {x3 : Int64} {x5 : Int32} {x6 : Int32} {x7 : Int32} {μ : Mem} {e : ((Mem))} (hX : XR X 6 n1 n2) (hx0 : T[x0]? = some (.inl 4)) (hx1 : T[x1]? = some (.inl 1)) (h : loop (g_X5_mostClashing_60 T x0 x1 x2 x3 x5 x6) (x7, μ) = some e) (he : Wp X cX5_mostClashing RX5 8 T e n1 n2 95 [(0, .ref x0), (1, .ref x1), (2, .int x2), (3, .long x3), (5, .int x5)] []) : Wp X cX5_mostClashing RX5 8 T μ n1 n2 60 [(0, .ref x0), (1, .ref x1), (2, .int x2), (3, .long x3), (5, .int x5), (6, .int x6), (7, .int x7)] [] :=
  loop_ok (K := k_X5_mostClashing_60 X T n1 n2 x0 x1 x2 x3 x5 x6) (fun s r hf hk => w_X5_mostClashing_60 hX hx0 hx1 hf hk) h he
set_option maxHeartbeats 4000000 in
set_option maxRecDepth 100000 in
theorem w_X5_mostClashing_16 {X : CX} {T : List Dsc} {n1 n2 : Nat} {x0 : Nat} {x1 : Nat} {x2 : Int32} {x3 : Int64} {x5 : Int32} {μ : Mem} {r : ((Int64 × Int32 × Mem) ⊕ ((Mem)))} (hX : XR X 6 n1 n2) (hx0 : T[x0]? = some (.inl 4)) (hx1 : T[x1]? = some (.inl 1)) (hf : f_X5_mostClashing_16 T x0 x1 x2 x3 x5 μ = some r) (hk : k_X5_mostClashing_16 X T n1 n2 x0 x1 x2 r) : Wp X cX5_mostClashing RX5 8 T μ n1 n2 16 [(0, .ref x0), (1, .ref x1), (2, .int x2), (3, .long x3), (5, .int x5)] [] := by
  unfold f_X5_mostClashing_16 at hf
  refine Wp.iload (pc := 16) 4 rfl dX5_mostClashing_16 ?_
  refine Wp.iload_n (pc := 18) 2 rfl rfl dX5_mostClashing_18 ?_
  refine Wp.icmp_ge (pc := 19) 101 dX5_mostClashing_19 (by decide) (fun hc1 => ?_) (fun hc1 => ?_)
  · rw [if_pos hc1] at hf
    refine Wp.lo' (lo' := [(0, .ref x0)]) [0] rfl ?_
    cases hf
    exact hk
  · rw [if_neg hc1] at hf
    refine Wp.aload_n (pc := 22) 0 rfl rfl dX5_mostClashing_22 ?_
    refine Wp.lload_n (pc := 23) 3 rfl rfl dX5_mostClashing_23 ?_
    refine Wp.aload_n (pc := 24) 1 rfl rfl dX5_mostClashing_24 ?_
    obtain ⟨a2, h3, hf⟩ := bnd hf
    refine Wp.getR (pc := 25) (gA_R h3) hx1 fk_RX5_117 rfl dX5_mostClashing_25 ?_
    refine Wp.aload_n (pc := 28) 1 rfl rfl dX5_mostClashing_28 ?_
    refine Wp.getI (pc := 29) hx1 fk_RX5_119 rfl dX5_mostClashing_29 ?_
    refine Wp.aload_n (pc := 32) 0 rfl rfl dX5_mostClashing_32 ?_
    obtain ⟨r4, h5, hf⟩ := bnd hf
    refine Wp.getR (pc := 33) (gO_R h5) hx0 fk_RX5_26 rfl dX5_mostClashing_33 ?_
    refine Wp.aload_n (pc := 36) 1 rfl rfl dX5_mostClashing_36 ?_
    refine Wp.getI (pc := 37) hx1 fk_RX5_122 rfl dX5_mostClashing_37 ?_
    refine Wp.iload (pc := 40) 4 rfl dX5_mostClashing_40 ?_
    refine Wp.iadd (pc := 42) dX5_mostClashing_42 ?_
    obtain ⟨c6, h7, hf⟩ := bnd hf
    refine Wp.callVi (pc := 43) (st := [.int (gI μ x1 3), .ref a2.1, .long x3, .ref x0]) (as := [.int ((gI μ x1 4) + x5)]) (c_X7_isFog (gO_T h5) h7) ml_RX5_125 mv_X7_isFog mb_X7_isFog hX (Nat.le_of_ble_eq_true rfl) (by decide) rfl (gO_T h5) rfl (by simp [Value.category]) dX5_mostClashing_43 rfl ?_
    obtain ⟨c8, h9, hf⟩ := bnd hf
    refine Wp.callVl (pc := 46) (st := []) (as := [.long x3, .ref a2.1, .int (gI μ x1 3), .int c6.1]) (c_X5_stroke hx0 (gA_T h3) h9) ml_RX5_129 mv_X5_stroke mb_X5_stroke hX (Nat.le_of_ble_eq_true rfl) (by decide) rfl hx0 rfl (by simp) dX5_mostClashing_46 rfl ?_
    refine Wp.lstore_n (pc := 49) (lo' := [(0, .ref x0), (1, .ref x1), (2, .int x2), (3, .long c8.1), (5, .int x5)]) [1, 2, 3, 0, 4] rfl (by decide) rfl dX5_mostClashing_49 ?_
    refine Wp.aload_n (pc := 50) 0 rfl rfl dX5_mostClashing_50 ?_
    refine Wp.lload_n (pc := 51) 3 rfl rfl dX5_mostClashing_51 ?_
    obtain ⟨c10, h11, hf⟩ := bnd hf
    refine Wp.callVi (pc := 52) (st := []) (as := [.long c8.1]) (c_X5_clashBits hx0 h11) ml_RX5_132 mv_X5_clashBits mb_X5_clashBits hX (Nat.le_of_ble_eq_true rfl) (by decide) rfl hx0 rfl (by simp) dX5_mostClashing_52 rfl ?_
    refine Wp.istore (pc := 55) (lo' := [(0, .ref x0), (1, .ref x1), (2, .int x2), (3, .long c8.1), (5, .int x5), (6, .int c10.1)]) [1, 2, 3, 4, 5, 0] rfl (by decide) dX5_mostClashing_55 ?_
    refine Wp.iconst (pc := 57) (1 : Int32) (by decide) dX5_mostClashing_57 ?_
    refine Wp.istore (pc := 58) (lo' := [(0, .ref x0), (1, .ref x1), (2, .int x2), (3, .long c8.1), (5, .int x5), (6, .int c10.1), (7, .int (1 : Int32))]) [1, 2, 3, 4, 5, 6, 0] rfl (by decide) dX5_mostClashing_58 ?_
    obtain ⟨e12, h13, hf⟩ := bnd hf
    refine wl_X5_mostClashing_60 hX hx0 hx1 h13 ?_
    obtain ⟨v14, h15, hf⟩ := bnd hf
    refine Wp.iincN (pc := 95) (lo' := [(0, .ref x0), (1, .ref x1), (2, .int x2), (3, .long c8.1), (5, .int v14)]) (1 : Int32) (by decide) h15 4 rfl [1, 2, 3, 4, 0] rfl (by decide) dX5_mostClashing_95 ?_
    refine Wp.goto (pc := 98) 16 dX5_mostClashing_98 (by decide) ?_
    cases hf
    exact hk
theorem wl_X5_mostClashing_16 {X : CX} {T : List Dsc} {n1 n2 : Nat} {x0 : Nat} {x1 : Nat} {x2 : Int32} {x3 : Int64} {x5 : Int32} {μ : Mem} {e : ((Mem))} (hX : XR X 6 n1 n2) (hx0 : T[x0]? = some (.inl 4)) (hx1 : T[x1]? = some (.inl 1)) (h : loop (g_X5_mostClashing_16 T x0 x1 x2) (x3, x5, μ) = some e) (he : Wp X cX5_mostClashing RX5 8 T e n1 n2 101 [(0, .ref x0)] []) : Wp X cX5_mostClashing RX5 8 T μ n1 n2 16 [(0, .ref x0), (1, .ref x1), (2, .int x2), (3, .long x3), (5, .int x5)] [] :=
  loop_ok (K := k_X5_mostClashing_16 X T n1 n2 x0 x1 x2) (fun s r hf hk => w_X5_mostClashing_16 hX hx0 hx1 hf hk) h he
set_option maxHeartbeats 4000000 in
set_option maxRecDepth 100000 in
theorem w_X5_mostClashing_140 {X : CX} {T : List Dsc} {n1 n2 : Nat} {x0 : Nat} {x5 : Int32} {x6 : Int32} {μ : Mem} {r : ((Int32 × Int32 × Mem) ⊕ ((Int32 × Mem)))} (hX : XR X 6 n1 n2) (hx0 : T[x0]? = some (.inl 4)) (hf : f_X5_mostClashing_140 T x0 x5 x6 μ = some r) (hk : k_X5_mostClashing_107 X T n1 n2 x0 r) : Wp X cX5_mostClashing RX5 8 T μ n1 n2 140 [(0, .ref x0), (5, .int x5), (6, .int x6)] [] := by
  unfold f_X5_mostClashing_140 at hf
  obtain ⟨v1, h2, hf⟩ := bnd hf
  refine Wp.iincN (pc := 140) (lo' := [(0, .ref x0), (5, .int x5), (6, .int v1)]) (1 : Int32) (by decide) h2 2 rfl [1, 2, 0] rfl (by decide) dX5_mostClashing_140 ?_
  refine Wp.goto (pc := 143) 107 dX5_mostClashing_143 (by decide) ?_
  cases hf
  exact hk
set_option maxHeartbeats 4000000 in
set_option maxRecDepth 100000 in
theorem w_X5_mostClashing_107 {X : CX} {T : List Dsc} {n1 n2 : Nat} {x0 : Nat} {x5 : Int32} {x6 : Int32} {μ : Mem} {r : ((Int32 × Int32 × Mem) ⊕ ((Int32 × Mem)))} (hX : XR X 6 n1 n2) (hx0 : T[x0]? = some (.inl 4)) (hf : f_X5_mostClashing_107 T x0 x5 x6 μ = some r) (hk : k_X5_mostClashing_107 X T n1 n2 x0 r) : Wp X cX5_mostClashing RX5 8 T μ n1 n2 107 [(0, .ref x0), (5, .int x5), (6, .int x6)] [] := by
  unfold f_X5_mostClashing_107 at hf
  refine Wp.iload (pc := 107) 2 rfl dX5_mostClashing_107 ?_
  refine Wp.aload_n (pc := 109) 0 rfl rfl dX5_mostClashing_109 ?_
  obtain ⟨r1, h2, hf⟩ := bnd hf
  refine Wp.getR (pc := 110) (gO_R h2) hx0 fk_RX5_26 rfl dX5_mostClashing_110 ?_
  refine Wp.getI (pc := 113) (gO_T h2) fk_RX5_43 rfl dX5_mostClashing_113 ?_
  refine Wp.icmp_ge (pc := 116) 146 dX5_mostClashing_116 (by decide) (fun hc3 => ?_) (fun hc3 => ?_)
  · rw [if_pos hc3] at hf
    refine Wp.lo' (lo' := [(5, .int x5)]) [1] rfl ?_
    cases hf
    exact hk
  · rw [if_neg hc3] at hf
    refine Wp.aload_n (pc := 119) 0 rfl rfl dX5_mostClashing_119 ?_
    obtain ⟨a4, h5, hf⟩ := bnd hf
    refine Wp.getR (pc := 120) (gA_R h5) hx0 fk_RX5_23 rfl dX5_mostClashing_120 ?_
    refine Wp.iload (pc := 123) 2 rfl dX5_mostClashing_123 ?_
    obtain ⟨v6, h7, hf⟩ := bnd hf
    refine Wp.iald (pc := 125) h7 (gA_T h5) dX5_mostClashing_125 ?_
    refine Wp.aload_n (pc := 126) 0 rfl rfl dX5_mostClashing_126 ?_
    obtain ⟨a8, h9, hf⟩ := bnd hf
    refine Wp.getR (pc := 127) (gA_R h9) hx0 fk_RX5_23 rfl dX5_mostClashing_127 ?_
    refine Wp.iload (pc := 130) 1 rfl dX5_mostClashing_130 ?_
    obtain ⟨v10, h11, hf⟩ := bnd hf
    refine Wp.iald (pc := 132) h11 (gA_T h9) dX5_mostClashing_132 ?_
    refine Wp.icmp_le (pc := 133) 140 dX5_mostClashing_133 (by decide) (fun hc12 => ?_) (fun hc12 => ?_)
    · rw [if_pos hc12] at hf
      exact w_X5_mostClashing_140 hX hx0 hf hk
    · rw [if_neg hc12] at hf
      refine Wp.iload (pc := 136) 2 rfl dX5_mostClashing_136 ?_
      refine Wp.istore (pc := 138) (lo' := [(0, .ref x0), (5, .int x6), (6, .int x6)]) [1, 0, 2] rfl (by decide) dX5_mostClashing_138 ?_
      exact w_X5_mostClashing_140 hX hx0 hf hk
theorem wl_X5_mostClashing_107 {X : CX} {T : List Dsc} {n1 n2 : Nat} {x0 : Nat} {x5 : Int32} {x6 : Int32} {μ : Mem} {e : ((Int32 × Mem))} (hX : XR X 6 n1 n2) (hx0 : T[x0]? = some (.inl 4)) (h : loop (g_X5_mostClashing_107 T x0) (x5, x6, μ) = some e) (he : Wp X cX5_mostClashing RX5 8 T e.2 n1 n2 146 [(5, .int e.1)] []) : Wp X cX5_mostClashing RX5 8 T μ n1 n2 107 [(0, .ref x0), (5, .int x5), (6, .int x6)] [] :=
  loop_ok (K := k_X5_mostClashing_107 X T n1 n2 x0) (fun s r hf hk => w_X5_mostClashing_107 hX hx0 hf hk) h he
set_option maxHeartbeats 4000000 in
set_option maxRecDepth 100000 in
theorem w_X5_mostClashing_158 {X : CX} {T : List Dsc} {n1 n2 : Nat} {s0 : Int32} {μ : Mem} {r : (Int32 × Mem)} (hX : XR X 6 n1 n2) (hf : f_X5_mostClashing_158 T s0 μ = some r) (hk : FnI X cX5_mostClashing RX5 8 T n1 n2 r) : Wp X cX5_mostClashing RX5 8 T μ n1 n2 158 [] [.int s0] := by
  unfold f_X5_mostClashing_158 at hf
  cases hf
  exact hk _ _ dX5_mostClashing_158
set_option maxHeartbeats 4000000 in
set_option maxRecDepth 100000 in
theorem w_X5_mostClashing {X : CX} {T : List Dsc} {n1 n2 : Nat} {x0 : Nat} {x1 : Nat} {x2 : Int32} {μ : Mem} {r : (Int32 × Mem)} (hX : XR X 6 n1 n2) (hx0 : T[x0]? = some (.inl 4)) (hx1 : T[x1]? = some (.inl 1)) (hf : F_X5_mostClashing T x0 x1 x2 μ = some r) (hk : FnI X cX5_mostClashing RX5 8 T n1 n2 r) : Wp X cX5_mostClashing RX5 8 T μ n1 n2 0 [(0, .ref x0), (1, .ref x1), (2, .int x2)] [] := by
  unfold F_X5_mostClashing at hf
  refine Wp.aload_n (pc := 0) 0 rfl rfl dX5_mostClashing_0 ?_
  obtain ⟨a1, h2, hf⟩ := bnd hf
  refine Wp.getR (pc := 1) (gA_R h2) hx0 fk_RX5_23 rfl dX5_mostClashing_1 ?_
  refine Wp.iconst (pc := 4) (0 : Int32) (by decide) dX5_mostClashing_4 ?_
  obtain ⟨c3, h4, hf⟩ := bnd hf
  refine Wp.callSv (pc := 5) (st := []) (as := [.ref a1.1, .int (0 : Int32)]) (c_J7_fill_53178 (gA_T h2) h4) ml_RX5_105 ms_J7_fill_53178 mb_J7_fill_53178 hX (Nat.le_of_ble_eq_true rfl) (by decide) rfl (by simp) dX5_mostClashing_5 rfl ?_
  refine Wp.aload_n (pc := 8) 1 rfl rfl dX5_mostClashing_8 ?_
  refine Wp.getJ (pc := 9) hx1 fk_RX5_111 rfl dX5_mostClashing_9 ?_
  obtain ⟨v5, h6, hf⟩ := bnd hf
  refine Wp.nJ' h6 ?_
  refine Wp.lstore_n (pc := 12) (lo' := [(0, .ref x0), (1, .ref x1), (2, .int x2), (3, .long v5)]) [1, 2, 3, 0] rfl (by decide) rfl dX5_mostClashing_12 ?_
  refine Wp.iconst (pc := 13) (0 : Int32) (by decide) dX5_mostClashing_13 ?_
  refine Wp.istore (pc := 14) (lo' := [(0, .ref x0), (1, .ref x1), (2, .int x2), (3, .long v5), (5, .int (0 : Int32))]) [1, 2, 3, 4, 0] rfl (by decide) dX5_mostClashing_14 ?_
  obtain ⟨e7, h8, hf⟩ := bnd hf
  refine wl_X5_mostClashing_16 hX hx0 hx1 h8 ?_
  refine Wp.iconst (pc := 101) (0 : Int32) (by decide) dX5_mostClashing_101 ?_
  refine Wp.istore (pc := 102) (lo' := [(0, .ref x0), (5, .int (0 : Int32))]) [1, 0] rfl (by decide) dX5_mostClashing_102 ?_
  refine Wp.iconst (pc := 104) (1 : Int32) (by decide) dX5_mostClashing_104 ?_
  refine Wp.istore (pc := 105) (lo' := [(0, .ref x0), (5, .int (0 : Int32)), (6, .int (1 : Int32))]) [1, 2, 0] rfl (by decide) dX5_mostClashing_105 ?_
  obtain ⟨e9, h10, hf⟩ := bnd hf
  refine wl_X5_mostClashing_107 hX hx0 h10 ?_
  refine Wp.iload (pc := 146) 0 rfl dX5_mostClashing_146 ?_
  refine Wp.if_ne (pc := 148) 156 dX5_mostClashing_148 (by decide) (fun hc11 => ?_) (fun hc11 => ?_)
  · rw [if_neg hc11] at hf
    refine Wp.iload (pc := 156) 0 rfl dX5_mostClashing_156 ?_
    refine Wp.lo' (lo' := []) [] rfl ?_
    exact w_X5_mostClashing_158 hX hf hk
  · rw [if_pos hc11] at hf
    refine Wp.bipush (pc := 151) (-2 : Int32) (by decide) dX5_mostClashing_151 ?_
    refine Wp.goto (pc := 153) 158 dX5_mostClashing_153 (by decide) ?_
    refine Wp.lo' (lo' := []) [] rfl ?_
    exact w_X5_mostClashing_158 hX hf hk
theorem c_X5_mostClashing {T : List Dsc} {x0 : Nat} {x1 : Nat} {x2 : Int32} {μ : Mem} {r : (Int32 × Mem)} (hx0 : T[x0]? = some (.inl 4)) (hx1 : T[x1]? = some (.inl 1)) (hf : F_X5_mostClashing T x0 x1 x2 μ = some r) : Ct 6 yX5_mostClashing cX5_mostClashing 8 (some .int) T μ [.ref x0, .ref x1, .int x2] (some (.int r.1)) r.2 := Ct.ofI (by decide +kernel) (Nat.le_of_ble_eq_true rfl) (fun X hX hk => w_X5_mostClashing hX hx0 hx1 hf hk)
theorem dX6_isAim_0 : decode cX6_isAim 0 = .ok (.iload_n 0, 1) := by decide +kernel
theorem dX6_isAim_1 : decode cX6_isAim 1 = .ok (.ifCond .lt 23, 3) := by decide +kernel
theorem dX6_isAim_4 : decode cX6_isAim 4 = .ok (.iload_n 0, 1) := by decide +kernel
theorem dX6_isAim_5 : decode cX6_isAim 5 = .ok (.iconst 2, 1) := by decide +kernel
theorem dX6_isAim_6 : decode cX6_isAim 6 = .ok (.if_icmp .gt 18, 3) := by decide +kernel
theorem dX6_isAim_9 : decode cX6_isAim 9 = .ok (.iload_n 1, 1) := by decide +kernel
theorem dX6_isAim_10 : decode cX6_isAim 10 = .ok (.iconst 1, 1) := by decide +kernel
theorem dX6_isAim_11 : decode cX6_isAim 11 = .ok (.if_icmp .lt 13, 3) := by decide +kernel
theorem dX6_isAim_14 : decode cX6_isAim 14 = .ok (.iload_n 1, 1) := by decide +kernel
theorem dX6_isAim_15 : decode cX6_isAim 15 = .ok (.bipush 30, 2) := by decide +kernel
theorem dX6_isAim_17 : decode cX6_isAim 17 = .ok (.if_icmp .gt 7, 3) := by decide +kernel
theorem dX6_isAim_20 : decode cX6_isAim 20 = .ok (.iconst 1, 1) := by decide +kernel
theorem dX6_isAim_21 : decode cX6_isAim 21 = .ok (.goto 4, 3) := by decide +kernel
theorem dX6_isAim_24 : decode cX6_isAim 24 = .ok (.iconst 0, 1) := by decide +kernel
theorem dX6_isAim_25 : decode cX6_isAim 25 = .ok (.ireturn, 1) := by decide +kernel
set_option maxHeartbeats 4000000 in
set_option maxRecDepth 100000 in
theorem w_X6_isAim_25 {X : CX} {T : List Dsc} {n1 n2 : Nat} {s0 : Int32} {μ : Mem} {r : (Int32 × Mem)} (hX : XR X 1 n1 n2) (hf : f_X6_isAim_25 T s0 μ = some r) (hk : FnZ X cX6_isAim RX6 2 T n1 n2 r) : Wp X cX6_isAim RX6 2 T μ n1 n2 25 [] [.int s0] := by
  unfold f_X6_isAim_25 at hf
  obtain ⟨v1, h2, hf⟩ := bnd hf
  refine Wp.zb' h2 (fun h2 => ?_)
  cases hf
  exact hk _ _ h2 dX6_isAim_25
set_option maxHeartbeats 4000000 in
set_option maxRecDepth 100000 in
theorem w_X6_isAim_24 {X : CX} {T : List Dsc} {n1 n2 : Nat} {μ : Mem} {r : (Int32 × Mem)} (hX : XR X 1 n1 n2) (hf : f_X6_isAim_24 T μ = some r) (hk : FnZ X cX6_isAim RX6 2 T n1 n2 r) : Wp X cX6_isAim RX6 2 T μ n1 n2 24 [] [] := by
  unfold f_X6_isAim_24 at hf
  refine Wp.iconst (pc := 24) (0 : Int32) (by decide) dX6_isAim_24 ?_
  exact w_X6_isAim_25 hX hf hk
set_option maxHeartbeats 4000000 in
set_option maxRecDepth 100000 in
theorem w_X6_isAim {X : CX} {T : List Dsc} {n1 n2 : Nat} {x0 : Int32} {x1 : Int32} {μ : Mem} {r : (Int32 × Mem)} (hX : XR X 1 n1 n2) (hf : F_X6_isAim T x0 x1 μ = some r) (hk : FnZ X cX6_isAim RX6 2 T n1 n2 r) : Wp X cX6_isAim RX6 2 T μ n1 n2 0 [(0, .int x0), (1, .int x1)] [] := by
  unfold F_X6_isAim at hf
  refine Wp.iload_n (pc := 0) 0 rfl rfl dX6_isAim_0 ?_
  refine Wp.if_lt (pc := 1) 24 dX6_isAim_1 (by decide) (fun hc1 => ?_) (fun hc1 => ?_)
  · rw [if_pos hc1] at hf
    refine Wp.lo' (lo' := []) [] rfl ?_
    exact w_X6_isAim_24 hX hf hk
  · rw [if_neg hc1] at hf
    refine Wp.iload_n (pc := 4) 0 rfl rfl dX6_isAim_4 ?_
    refine Wp.iconst (pc := 5) (2 : Int32) (by decide) dX6_isAim_5 ?_
    refine Wp.icmp_gt (pc := 6) 24 dX6_isAim_6 (by decide) (fun hc2 => ?_) (fun hc2 => ?_)
    · rw [if_pos hc2] at hf
      refine Wp.lo' (lo' := []) [] rfl ?_
      exact w_X6_isAim_24 hX hf hk
    · rw [if_neg hc2] at hf
      refine Wp.iload_n (pc := 9) 1 rfl rfl dX6_isAim_9 ?_
      refine Wp.iconst (pc := 10) (1 : Int32) (by decide) dX6_isAim_10 ?_
      refine Wp.icmp_lt (pc := 11) 24 dX6_isAim_11 (by decide) (fun hc3 => ?_) (fun hc3 => ?_)
      · rw [if_pos hc3] at hf
        refine Wp.lo' (lo' := []) [] rfl ?_
        exact w_X6_isAim_24 hX hf hk
      · rw [if_neg hc3] at hf
        refine Wp.iload_n (pc := 14) 1 rfl rfl dX6_isAim_14 ?_
        refine Wp.bipush (pc := 15) (30 : Int32) (by decide) dX6_isAim_15 ?_
        refine Wp.icmp_gt (pc := 17) 24 dX6_isAim_17 (by decide) (fun hc4 => ?_) (fun hc4 => ?_)
        · rw [if_pos hc4] at hf
          refine Wp.lo' (lo' := []) [] rfl ?_
          exact w_X6_isAim_24 hX hf hk
        · rw [if_neg hc4] at hf
          refine Wp.iconst (pc := 20) (1 : Int32) (by decide) dX6_isAim_20 ?_
          refine Wp.goto (pc := 21) 25 dX6_isAim_21 (by decide) ?_
          refine Wp.lo' (lo' := []) [] rfl ?_
          exact w_X6_isAim_25 hX hf hk
theorem c_X6_isAim {T : List Dsc} {x0 : Int32} {x1 : Int32} {μ : Mem} {r : (Int32 × Mem)} (hf : F_X6_isAim T x0 x1 μ = some r) : Ct 1 yX6_isAim cX6_isAim 2 (some .boolean) T μ [.int x0, .int x1] (some (.int r.1)) r.2 := Ct.ofZ (by decide +kernel) (Nat.le_of_ble_eq_true rfl) (fun X hX hk => w_X6_isAim hX hf hk)
theorem dX6_sitAsNow_0 : decode cX6_sitAsNow 0 = .ok (.iconst 0, 1) := by decide +kernel
theorem dX6_sitAsNow_1 : decode cX6_sitAsNow 1 = .ok (.istore_n 1, 1) := by decide +kernel
theorem dX6_sitAsNow_2 : decode cX6_sitAsNow 2 = .ok (.iload_n 1, 1) := by decide +kernel
theorem dX6_sitAsNow_3 : decode cX6_sitAsNow 3 = .ok (.bipush 12, 2) := by decide +kernel
theorem dX6_sitAsNow_5 : decode cX6_sitAsNow 5 = .ok (.if_icmp .ge 16, 3) := by decide +kernel
theorem dX6_sitAsNow_8 : decode cX6_sitAsNow 8 = .ok (.aload_n 0, 1) := by decide +kernel
theorem dX6_sitAsNow_9 : decode cX6_sitAsNow 9 = .ok (.getfield 9, 3) := by decide +kernel
theorem dX6_sitAsNow_12 : decode cX6_sitAsNow 12 = .ok (.iload_n 1, 1) := by decide +kernel
theorem dX6_sitAsNow_13 : decode cX6_sitAsNow 13 = .ok (.iload_n 1, 1) := by decide +kernel
theorem dX6_sitAsNow_14 : decode cX6_sitAsNow 14 = .ok (.iastore, 1) := by decide +kernel
theorem dX6_sitAsNow_15 : decode cX6_sitAsNow 15 = .ok (.iinc 1 1, 3) := by decide +kernel
theorem dX6_sitAsNow_18 : decode cX6_sitAsNow 18 = .ok (.goto (-16), 3) := by decide +kernel
theorem dX6_sitAsNow_21 : decode cX6_sitAsNow 21 = .ok (.return_, 1) := by decide +kernel
def k_X6_sitAsNow_2 (X : CX) (T : List Dsc) (n1 n2 : Nat) (x0 : Nat) (r : ((Int32 × Mem) ⊕ ((Mem)))) : Prop := match r with
  | .inl s => Wp X cX6_sitAsNow RX6 2 T s.2 n1 n2 2 [(0, .ref x0), (1, .int s.1)] []
  | .inr e => Wp X cX6_sitAsNow RX6 2 T e n1 n2 21 [] []
set_option maxHeartbeats 4000000 in
set_option maxRecDepth 100000 in
theorem w_X6_sitAsNow_2 {X : CX} {T : List Dsc} {n1 n2 : Nat} {x0 : Nat} {x1 : Int32} {μ : Mem} {r : ((Int32 × Mem) ⊕ ((Mem)))} (hX : XR X 1 n1 n2) (hx0 : T[x0]? = some (.inl 5)) (hf : f_X6_sitAsNow_2 T x0 x1 μ = some r) (hk : k_X6_sitAsNow_2 X T n1 n2 x0 r) : Wp X cX6_sitAsNow RX6 2 T μ n1 n2 2 [(0, .ref x0), (1, .int x1)] [] := by
  unfold f_X6_sitAsNow_2 at hf
  refine Wp.iload_n (pc := 2) 1 rfl rfl dX6_sitAsNow_2 ?_
  refine Wp.bipush (pc := 3) (12 : Int32) (by decide) dX6_sitAsNow_3 ?_
  refine Wp.icmp_ge (pc := 5) 21 dX6_sitAsNow_5 (by decide) (fun hc1 => ?_) (fun hc1 => ?_)
  · rw [if_pos hc1] at hf
    refine Wp.lo' (lo' := []) [] rfl ?_
    cases hf
    exact hk
  · rw [if_neg hc1] at hf
    refine Wp.aload_n (pc := 8) 0 rfl rfl dX6_sitAsNow_8 ?_
    obtain ⟨a2, h3, hf⟩ := bnd hf
    refine Wp.getR (pc := 9) (gA_R h3) hx0 fk_RX6_9 rfl dX6_sitAsNow_9 ?_
    refine Wp.iload_n (pc := 12) 1 rfl rfl dX6_sitAsNow_12 ?_
    refine Wp.iload_n (pc := 13) 1 rfl rfl dX6_sitAsNow_13 ?_
    obtain ⟨μ4, h5, hf⟩ := bnd hf
    refine Wp.iast (pc := 14) h5 (gA_T h3) dX6_sitAsNow_14 ?_
    obtain ⟨v6, h7, hf⟩ := bnd hf
    refine Wp.iincN (pc := 15) (lo' := [(0, .ref x0), (1, .int v6)]) (1 : Int32) (by decide) h7 1 rfl [1, 0] rfl (by decide) dX6_sitAsNow_15 ?_
    refine Wp.goto (pc := 18) 2 dX6_sitAsNow_18 (by decide) ?_
    cases hf
    exact hk
theorem wl_X6_sitAsNow_2 {X : CX} {T : List Dsc} {n1 n2 : Nat} {x0 : Nat} {x1 : Int32} {μ : Mem} {e : ((Mem))} (hX : XR X 1 n1 n2) (hx0 : T[x0]? = some (.inl 5)) (h : loop (g_X6_sitAsNow_2 T x0) (x1, μ) = some e) (he : Wp X cX6_sitAsNow RX6 2 T e n1 n2 21 [] []) : Wp X cX6_sitAsNow RX6 2 T μ n1 n2 2 [(0, .ref x0), (1, .int x1)] [] :=
  loop_ok (K := k_X6_sitAsNow_2 X T n1 n2 x0) (fun s r hf hk => w_X6_sitAsNow_2 hX hx0 hf hk) h he
set_option maxHeartbeats 4000000 in
set_option maxRecDepth 100000 in
theorem w_X6_sitAsNow {X : CX} {T : List Dsc} {n1 n2 : Nat} {x0 : Nat} {μ : Mem} {r : Mem} (hX : XR X 1 n1 n2) (hx0 : T[x0]? = some (.inl 5)) (hf : F_X6_sitAsNow T x0 μ = some r) (hk : FnV X cX6_sitAsNow RX6 2 T n1 n2 r) : Wp X cX6_sitAsNow RX6 2 T μ n1 n2 0 [(0, .ref x0)] [] := by
  unfold F_X6_sitAsNow at hf
  refine Wp.iconst (pc := 0) (0 : Int32) (by decide) dX6_sitAsNow_0 ?_
  refine Wp.istore_n (pc := 1) (lo' := [(0, .ref x0), (1, .int (0 : Int32))]) [1, 0] rfl (by decide) rfl dX6_sitAsNow_1 ?_
  obtain ⟨e1, h2, hf⟩ := bnd hf
  refine wl_X6_sitAsNow_2 hX hx0 h2 ?_
  cases hf
  exact hk _ _ dX6_sitAsNow_21
theorem c_X6_sitAsNow {T : List Dsc} {x0 : Nat} {μ : Mem} {r : Mem} (hx0 : T[x0]? = some (.inl 5)) (hf : F_X6_sitAsNow T x0 μ = some r) : Ct 1 yX6_sitAsNow cX6_sitAsNow 2 none T μ [.ref x0] none r := Ct.ofV (by decide +kernel) (Nat.le_of_ble_eq_true rfl) (fun X hX hk => w_X6_sitAsNow hX hx0 hf hk)
theorem dJ6_bitCount_0f7a4_0 : decode cJ6_bitCount_0f7a4 0 = .ok (.iload_n 0, 1) := by decide +kernel
theorem dJ6_bitCount_0f7a4_1 : decode cJ6_bitCount_0f7a4 1 = .ok (.iload_n 0, 1) := by decide +kernel
theorem dJ6_bitCount_0f7a4_2 : decode cJ6_bitCount_0f7a4 2 = .ok (.iconst 1, 1) := by decide +kernel
theorem dJ6_bitCount_0f7a4_3 : decode cJ6_bitCount_0f7a4 3 = .ok (.iushr, 1) := by decide +kernel
theorem dJ6_bitCount_0f7a4_4 : decode cJ6_bitCount_0f7a4 4 = .ok (.ldc_w 265, 3) := by decide +kernel
theorem dJ6_bitCount_0f7a4_7 : decode cJ6_bitCount_0f7a4 7 = .ok (.iand, 1) := by decide +kernel
theorem dJ6_bitCount_0f7a4_8 : decode cJ6_bitCount_0f7a4 8 = .ok (.isub, 1) := by decide +kernel
theorem dJ6_bitCount_0f7a4_9 : decode cJ6_bitCount_0f7a4 9 = .ok (.istore_n 0, 1) := by decide +kernel
theorem dJ6_bitCount_0f7a4_10 : decode cJ6_bitCount_0f7a4 10 = .ok (.iload_n 0, 1) := by decide +kernel
theorem dJ6_bitCount_0f7a4_11 : decode cJ6_bitCount_0f7a4 11 = .ok (.ldc_w 266, 3) := by decide +kernel
theorem dJ6_bitCount_0f7a4_14 : decode cJ6_bitCount_0f7a4 14 = .ok (.iand, 1) := by decide +kernel
theorem dJ6_bitCount_0f7a4_15 : decode cJ6_bitCount_0f7a4 15 = .ok (.iload_n 0, 1) := by decide +kernel
theorem dJ6_bitCount_0f7a4_16 : decode cJ6_bitCount_0f7a4 16 = .ok (.iconst 2, 1) := by decide +kernel
theorem dJ6_bitCount_0f7a4_17 : decode cJ6_bitCount_0f7a4 17 = .ok (.iushr, 1) := by decide +kernel
theorem dJ6_bitCount_0f7a4_18 : decode cJ6_bitCount_0f7a4 18 = .ok (.ldc_w 266, 3) := by decide +kernel
theorem dJ6_bitCount_0f7a4_21 : decode cJ6_bitCount_0f7a4 21 = .ok (.iand, 1) := by decide +kernel
theorem dJ6_bitCount_0f7a4_22 : decode cJ6_bitCount_0f7a4 22 = .ok (.iadd, 1) := by decide +kernel
theorem dJ6_bitCount_0f7a4_23 : decode cJ6_bitCount_0f7a4 23 = .ok (.istore_n 0, 1) := by decide +kernel
theorem dJ6_bitCount_0f7a4_24 : decode cJ6_bitCount_0f7a4 24 = .ok (.iload_n 0, 1) := by decide +kernel
theorem dJ6_bitCount_0f7a4_25 : decode cJ6_bitCount_0f7a4 25 = .ok (.iload_n 0, 1) := by decide +kernel
theorem dJ6_bitCount_0f7a4_26 : decode cJ6_bitCount_0f7a4 26 = .ok (.iconst 4, 1) := by decide +kernel
theorem dJ6_bitCount_0f7a4_27 : decode cJ6_bitCount_0f7a4 27 = .ok (.iushr, 1) := by decide +kernel
theorem dJ6_bitCount_0f7a4_28 : decode cJ6_bitCount_0f7a4 28 = .ok (.iadd, 1) := by decide +kernel
theorem dJ6_bitCount_0f7a4_29 : decode cJ6_bitCount_0f7a4 29 = .ok (.ldc_w 267, 3) := by decide +kernel
theorem dJ6_bitCount_0f7a4_32 : decode cJ6_bitCount_0f7a4 32 = .ok (.iand, 1) := by decide +kernel
theorem dJ6_bitCount_0f7a4_33 : decode cJ6_bitCount_0f7a4 33 = .ok (.istore_n 0, 1) := by decide +kernel
theorem dJ6_bitCount_0f7a4_34 : decode cJ6_bitCount_0f7a4 34 = .ok (.iload_n 0, 1) := by decide +kernel
theorem dJ6_bitCount_0f7a4_35 : decode cJ6_bitCount_0f7a4 35 = .ok (.iload_n 0, 1) := by decide +kernel
theorem dJ6_bitCount_0f7a4_36 : decode cJ6_bitCount_0f7a4 36 = .ok (.bipush 8, 2) := by decide +kernel
theorem dJ6_bitCount_0f7a4_38 : decode cJ6_bitCount_0f7a4 38 = .ok (.iushr, 1) := by decide +kernel
theorem dJ6_bitCount_0f7a4_39 : decode cJ6_bitCount_0f7a4 39 = .ok (.iadd, 1) := by decide +kernel
theorem dJ6_bitCount_0f7a4_40 : decode cJ6_bitCount_0f7a4 40 = .ok (.istore_n 0, 1) := by decide +kernel
theorem dJ6_bitCount_0f7a4_41 : decode cJ6_bitCount_0f7a4 41 = .ok (.iload_n 0, 1) := by decide +kernel
theorem dJ6_bitCount_0f7a4_42 : decode cJ6_bitCount_0f7a4 42 = .ok (.iload_n 0, 1) := by decide +kernel
theorem dJ6_bitCount_0f7a4_43 : decode cJ6_bitCount_0f7a4 43 = .ok (.bipush 16, 2) := by decide +kernel
theorem dJ6_bitCount_0f7a4_45 : decode cJ6_bitCount_0f7a4 45 = .ok (.iushr, 1) := by decide +kernel
theorem dJ6_bitCount_0f7a4_46 : decode cJ6_bitCount_0f7a4 46 = .ok (.iadd, 1) := by decide +kernel
theorem dJ6_bitCount_0f7a4_47 : decode cJ6_bitCount_0f7a4 47 = .ok (.istore_n 0, 1) := by decide +kernel
theorem dJ6_bitCount_0f7a4_48 : decode cJ6_bitCount_0f7a4 48 = .ok (.iload_n 0, 1) := by decide +kernel
theorem dJ6_bitCount_0f7a4_49 : decode cJ6_bitCount_0f7a4 49 = .ok (.bipush 63, 2) := by decide +kernel
theorem dJ6_bitCount_0f7a4_51 : decode cJ6_bitCount_0f7a4 51 = .ok (.iand, 1) := by decide +kernel
theorem dJ6_bitCount_0f7a4_52 : decode cJ6_bitCount_0f7a4 52 = .ok (.ireturn, 1) := by decide +kernel
set_option maxHeartbeats 4000000 in
set_option maxRecDepth 100000 in
theorem w_J6_bitCount_0f7a4 {X : CX} {T : List Dsc} {n1 n2 : Nat} {x0 : Int32} {μ : Mem} {r : (Int32 × Mem)} (hX : XR X 1 n1 n2) (hf : F_J6_bitCount_0f7a4 T x0 μ = some r) (hk : FnI X cJ6_bitCount_0f7a4 RJ6 1 T n1 n2 r) : Wp X cJ6_bitCount_0f7a4 RJ6 1 T μ n1 n2 0 [(0, .int x0)] [] := by
  unfold F_J6_bitCount_0f7a4 at hf
  refine Wp.iload_n (pc := 0) 0 rfl rfl dJ6_bitCount_0f7a4_0 ?_
  refine Wp.iload_n (pc := 1) 0 rfl rfl dJ6_bitCount_0f7a4_1 ?_
  refine Wp.iconst (pc := 2) (1 : Int32) (by decide) dJ6_bitCount_0f7a4_2 ?_
  refine Wp.iushr (pc := 3) dJ6_bitCount_0f7a4_3 ?_
  refine Wp.ldcw (pc := 4) (v := (1431655765 : Int32)) (gw_tb 859 (by decide +kernel) rfl) dJ6_bitCount_0f7a4_4 ?_
  refine Wp.iand (pc := 7) dJ6_bitCount_0f7a4_7 ?_
  refine Wp.isub (pc := 8) dJ6_bitCount_0f7a4_8 ?_
  obtain ⟨v1, h2, hf⟩ := bnd hf
  refine Wp.nI' h2 ?_
  refine Wp.istore_n (pc := 9) (lo' := [(0, .int v1)]) [0] rfl (by decide) rfl dJ6_bitCount_0f7a4_9 ?_
  refine Wp.iload_n (pc := 10) 0 rfl rfl dJ6_bitCount_0f7a4_10 ?_
  refine Wp.ldcw (pc := 11) (v := (858993459 : Int32)) (gw_tb 860 (by decide +kernel) rfl) dJ6_bitCount_0f7a4_11 ?_
  refine Wp.iand (pc := 14) dJ6_bitCount_0f7a4_14 ?_
  refine Wp.iload_n (pc := 15) 0 rfl rfl dJ6_bitCount_0f7a4_15 ?_
  refine Wp.iconst (pc := 16) (2 : Int32) (by decide) dJ6_bitCount_0f7a4_16 ?_
  refine Wp.iushr (pc := 17) dJ6_bitCount_0f7a4_17 ?_
  refine Wp.ldcw (pc := 18) (v := (858993459 : Int32)) (gw_tb 860 (by decide +kernel) rfl) dJ6_bitCount_0f7a4_18 ?_
  refine Wp.iand (pc := 21) dJ6_bitCount_0f7a4_21 ?_
  refine Wp.iadd (pc := 22) dJ6_bitCount_0f7a4_22 ?_
  obtain ⟨v3, h4, hf⟩ := bnd hf
  refine Wp.nI' h4 ?_
  refine Wp.istore_n (pc := 23) (lo' := [(0, .int v3)]) [0] rfl (by decide) rfl dJ6_bitCount_0f7a4_23 ?_
  refine Wp.iload_n (pc := 24) 0 rfl rfl dJ6_bitCount_0f7a4_24 ?_
  refine Wp.iload_n (pc := 25) 0 rfl rfl dJ6_bitCount_0f7a4_25 ?_
  refine Wp.iconst (pc := 26) (4 : Int32) (by decide) dJ6_bitCount_0f7a4_26 ?_
  refine Wp.iushr (pc := 27) dJ6_bitCount_0f7a4_27 ?_
  refine Wp.iadd (pc := 28) dJ6_bitCount_0f7a4_28 ?_
  refine Wp.ldcw (pc := 29) (v := (252645135 : Int32)) (gw_tb 861 (by decide +kernel) rfl) dJ6_bitCount_0f7a4_29 ?_
  refine Wp.iand (pc := 32) dJ6_bitCount_0f7a4_32 ?_
  obtain ⟨v5, h6, hf⟩ := bnd hf
  refine Wp.nI' h6 ?_
  refine Wp.istore_n (pc := 33) (lo' := [(0, .int v5)]) [0] rfl (by decide) rfl dJ6_bitCount_0f7a4_33 ?_
  refine Wp.iload_n (pc := 34) 0 rfl rfl dJ6_bitCount_0f7a4_34 ?_
  refine Wp.iload_n (pc := 35) 0 rfl rfl dJ6_bitCount_0f7a4_35 ?_
  refine Wp.bipush (pc := 36) (8 : Int32) (by decide) dJ6_bitCount_0f7a4_36 ?_
  refine Wp.iushr (pc := 38) dJ6_bitCount_0f7a4_38 ?_
  refine Wp.iadd (pc := 39) dJ6_bitCount_0f7a4_39 ?_
  obtain ⟨v7, h8, hf⟩ := bnd hf
  refine Wp.nI' h8 ?_
  refine Wp.istore_n (pc := 40) (lo' := [(0, .int v7)]) [0] rfl (by decide) rfl dJ6_bitCount_0f7a4_40 ?_
  refine Wp.iload_n (pc := 41) 0 rfl rfl dJ6_bitCount_0f7a4_41 ?_
  refine Wp.iload_n (pc := 42) 0 rfl rfl dJ6_bitCount_0f7a4_42 ?_
  refine Wp.bipush (pc := 43) (16 : Int32) (by decide) dJ6_bitCount_0f7a4_43 ?_
  refine Wp.iushr (pc := 45) dJ6_bitCount_0f7a4_45 ?_
  refine Wp.iadd (pc := 46) dJ6_bitCount_0f7a4_46 ?_
  obtain ⟨v9, h10, hf⟩ := bnd hf
  refine Wp.nI' h10 ?_
  refine Wp.istore_n (pc := 47) (lo' := [(0, .int v9)]) [0] rfl (by decide) rfl dJ6_bitCount_0f7a4_47 ?_
  refine Wp.iload_n (pc := 48) 0 rfl rfl dJ6_bitCount_0f7a4_48 ?_
  refine Wp.bipush (pc := 49) (63 : Int32) (by decide) dJ6_bitCount_0f7a4_49 ?_
  refine Wp.iand (pc := 51) dJ6_bitCount_0f7a4_51 ?_
  cases hf
  exact hk _ _ dJ6_bitCount_0f7a4_52
theorem c_J6_bitCount_0f7a4 {T : List Dsc} {x0 : Int32} {μ : Mem} {r : (Int32 × Mem)} (hf : F_J6_bitCount_0f7a4 T x0 μ = some r) : Ct 1 yJ6_bitCount_0f7a4 cJ6_bitCount_0f7a4 1 (some .int) T μ [.int x0] (some (.int r.1)) r.2 := Ct.ofI (by decide +kernel) (Nat.le_of_ble_eq_true rfl) (fun X hX hk => w_J6_bitCount_0f7a4 hX hf hk)
theorem dX6_costOf_0 : decode cX6_costOf 0 = .ok (.iload_n 1, 1) := by decide +kernel
theorem dX6_costOf_1 : decode cX6_costOf 1 = .ok (.ifCond .ne 5, 3) := by decide +kernel
theorem dX6_costOf_4 : decode cX6_costOf 4 = .ok (.iconst 0, 1) := by decide +kernel
theorem dX6_costOf_5 : decode cX6_costOf 5 = .ok (.ireturn, 1) := by decide +kernel
theorem dX6_costOf_6 : decode cX6_costOf 6 = .ok (.iload_n 1, 1) := by decide +kernel
theorem dX6_costOf_7 : decode cX6_costOf 7 = .ok (.iconst 1, 1) := by decide +kernel
theorem dX6_costOf_8 : decode cX6_costOf 8 = .ok (.if_icmp .ne 17, 3) := by decide +kernel
theorem dX6_costOf_11 : decode cX6_costOf 11 = .ok (.aload_n 0, 1) := by decide +kernel
theorem dX6_costOf_12 : decode cX6_costOf 12 = .ok (.getfield 21, 3) := by decide +kernel
theorem dX6_costOf_15 : decode cX6_costOf 15 = .ok (.lload_n 2, 1) := by decide +kernel
theorem dX6_costOf_16 : decode cX6_costOf 16 = .ok (.invokevirtual 84, 3) := by decide +kernel
theorem dX6_costOf_19 : decode cX6_costOf 19 = .ok (.invokestatic 88, 3) := by decide +kernel
theorem dX6_costOf_22 : decode cX6_costOf 22 = .ok (.goto 12, 3) := by decide +kernel
theorem dX6_costOf_25 : decode cX6_costOf 25 = .ok (.aload_n 0, 1) := by decide +kernel
theorem dX6_costOf_26 : decode cX6_costOf 26 = .ok (.getfield 21, 3) := by decide +kernel
theorem dX6_costOf_29 : decode cX6_costOf 29 = .ok (.lload_n 2, 1) := by decide +kernel
theorem dX6_costOf_30 : decode cX6_costOf 30 = .ok (.invokevirtual 94, 3) := by decide +kernel
theorem dX6_costOf_33 : decode cX6_costOf 33 = .ok (.ineg, 1) := by decide +kernel
theorem dX6_costOf_34 : decode cX6_costOf 34 = .ok (.ireturn, 1) := by decide +kernel
set_option maxHeartbeats 4000000 in
set_option maxRecDepth 100000 in
theorem w_X6_costOf_34 {X : CX} {T : List Dsc} {n1 n2 : Nat} {s0 : Int32} {μ : Mem} {r : (Int32 × Mem)} (hX : XR X 4 n1 n2) (hf : f_X6_costOf_34 T s0 μ = some r) (hk : FnI X cX6_costOf RX6 4 T n1 n2 r) : Wp X cX6_costOf RX6 4 T μ n1 n2 34 [] [.int s0] := by
  unfold f_X6_costOf_34 at hf
  cases hf
  exact hk _ _ dX6_costOf_34
set_option maxHeartbeats 4000000 in
set_option maxRecDepth 100000 in
theorem w_X6_costOf {X : CX} {T : List Dsc} {n1 n2 : Nat} {x0 : Nat} {x1 : Int32} {x2 : Int64} {μ : Mem} {r : (Int32 × Mem)} (hX : XR X 4 n1 n2) (hx0 : T[x0]? = some (.inl 5)) (hf : F_X6_costOf T x0 x1 x2 μ = some r) (hk : FnI X cX6_costOf RX6 4 T n1 n2 r) : Wp X cX6_costOf RX6 4 T μ n1 n2 0 [(0, .ref x0), (1, .int x1), (2, .long x2)] [] := by
  unfold F_X6_costOf at hf
  refine Wp.iload_n (pc := 0) 1 rfl rfl dX6_costOf_0 ?_
  refine Wp.if_ne (pc := 1) 6 dX6_costOf_1 (by decide) (fun hc1 => ?_) (fun hc1 => ?_)
  · rw [if_neg hc1] at hf
    refine Wp.iload_n (pc := 6) 1 rfl rfl dX6_costOf_6 ?_
    refine Wp.iconst (pc := 7) (1 : Int32) (by decide) dX6_costOf_7 ?_
    refine Wp.icmp_ne (pc := 8) 25 dX6_costOf_8 (by decide) (fun hc2 => ?_) (fun hc2 => ?_)
    · rw [if_neg hc2] at hf
      refine Wp.aload_n (pc := 25) 0 rfl rfl dX6_costOf_25 ?_
      obtain ⟨r3, h4, hf⟩ := bnd hf
      refine Wp.getR (pc := 26) (gO_R h4) hx0 fk_RX6_21 rfl dX6_costOf_26 ?_
      refine Wp.lload_n (pc := 29) 2 rfl rfl dX6_costOf_29 ?_
      obtain ⟨c5, h6, hf⟩ := bnd hf
      refine Wp.callVi (pc := 30) (st := []) (as := [.long x2]) (c_X5_wayOf (gO_T h4) h6) ml_RX6_94 mv_X5_wayOf mb_X5_wayOf hX (Nat.le_of_ble_eq_true rfl) (by decide) rfl (gO_T h4) rfl (by simp) dX6_costOf_30 rfl ?_
      refine Wp.ineg (pc := 33) dX6_costOf_33 ?_
      refine Wp.lo' (lo' := []) [] rfl ?_
      exact w_X6_costOf_34 hX hf hk
    · rw [if_pos hc2] at hf
      refine Wp.aload_n (pc := 11) 0 rfl rfl dX6_costOf_11 ?_
      obtain ⟨r7, h8, hf⟩ := bnd hf
      refine Wp.getR (pc := 12) (gO_R h8) hx0 fk_RX6_21 rfl dX6_costOf_12 ?_
      refine Wp.lload_n (pc := 15) 2 rfl rfl dX6_costOf_15 ?_
      obtain ⟨c9, h10, hf⟩ := bnd hf
      refine Wp.callVi (pc := 16) (st := []) (as := [.long x2]) (c_X5_clashBits (gO_T h8) h10) ml_RX6_84 mv_X5_clashBits mb_X5_clashBits hX (Nat.le_of_ble_eq_true rfl) (by decide) rfl (gO_T h8) rfl (by simp) dX6_costOf_16 rfl ?_
      obtain ⟨c11, h12, hf⟩ := bnd hf
      refine Wp.callSi (pc := 19) (st := []) (as := [.int c9.1]) (c_J6_bitCount_0f7a4 h12) ml_RX6_88 ms_J6_bitCount_0f7a4 mb_J6_bitCount_0f7a4 hX (Nat.le_of_ble_eq_true rfl) (by decide) rfl (by simp) dX6_costOf_19 rfl ?_
      refine Wp.goto (pc := 22) 34 dX6_costOf_22 (by decide) ?_
      refine Wp.lo' (lo' := []) [] rfl ?_
      exact w_X6_costOf_34 hX hf hk
  · rw [if_pos hc1] at hf
    refine Wp.iconst (pc := 4) (0 : Int32) (by decide) dX6_costOf_4 ?_
    cases hf
    exact hk _ _ dX6_costOf_5
theorem c_X6_costOf {T : List Dsc} {x0 : Nat} {x1 : Int32} {x2 : Int64} {μ : Mem} {r : (Int32 × Mem)} (hx0 : T[x0]? = some (.inl 5)) (hf : F_X6_costOf T x0 x1 x2 μ = some r) : Ct 4 yX6_costOf cX6_costOf 4 (some .int) T μ [.ref x0, .int x1, .long x2] (some (.int r.1)) r.2 := Ct.ofI (by decide +kernel) (Nat.le_of_ble_eq_true rfl) (fun X hX hk => w_X6_costOf hX hx0 hf hk)
