theorem dX4_emit_0 : decode cX4_emit 0 = .ok (.aload_n 0, 1) := by decide +kernel
theorem dX4_emit_1 : decode cX4_emit 1 = .ok (.getfield 35, 3) := by decide +kernel
theorem dX4_emit_4 : decode cX4_emit 4 = .ok (.getfield 138, 3) := by decide +kernel
theorem dX4_emit_7 : decode cX4_emit 7 = .ok (.istore_n 3, 1) := by decide +kernel
theorem dX4_emit_8 : decode cX4_emit 8 = .ok (.aload_n 0, 1) := by decide +kernel
theorem dX4_emit_9 : decode cX4_emit 9 = .ok (.getfield 43, 3) := by decide +kernel
theorem dX4_emit_12 : decode cX4_emit 12 = .ok (.ifCond .ne 10, 3) := by decide +kernel
theorem dX4_emit_15 : decode cX4_emit 15 = .ok (.iload_n 3, 1) := by decide +kernel
theorem dX4_emit_16 : decode cX4_emit 16 = .ok (.sipush 400, 3) := by decide +kernel
theorem dX4_emit_19 : decode cX4_emit 19 = .ok (.if_icmp .lt 5, 3) := by decide +kernel
theorem dX4_emit_22 : decode cX4_emit 22 = .ok (.iconst (-1), 1) := by decide +kernel
theorem dX4_emit_23 : decode cX4_emit 23 = .ok (.ireturn, 1) := by decide +kernel
theorem dX4_emit_24 : decode cX4_emit 24 = .ok (.aload_n 0, 1) := by decide +kernel
theorem dX4_emit_25 : decode cX4_emit 25 = .ok (.getfield 35, 3) := by decide +kernel
theorem dX4_emit_28 : decode cX4_emit 28 = .ok (.getfield 211, 3) := by decide +kernel
theorem dX4_emit_31 : decode cX4_emit 31 = .ok (.iload_n 3, 1) := by decide +kernel
theorem dX4_emit_32 : decode cX4_emit 32 = .ok (.iload_n 2, 1) := by decide +kernel
theorem dX4_emit_33 : decode cX4_emit 33 = .ok (.bipush 6, 2) := by decide +kernel
theorem dX4_emit_35 : decode cX4_emit 35 = .ok (.ishl, 1) := by decide +kernel
theorem dX4_emit_36 : decode cX4_emit 36 = .ok (.iload_n 1, 1) := by decide +kernel
theorem dX4_emit_37 : decode cX4_emit 37 = .ok (.ior, 1) := by decide +kernel
theorem dX4_emit_38 : decode cX4_emit 38 = .ok (.iastore, 1) := by decide +kernel
theorem dX4_emit_39 : decode cX4_emit 39 = .ok (.aload_n 0, 1) := by decide +kernel
theorem dX4_emit_40 : decode cX4_emit 40 = .ok (.getfield 35, 3) := by decide +kernel
theorem dX4_emit_43 : decode cX4_emit 43 = .ok (.dup, 1) := by decide +kernel
theorem dX4_emit_44 : decode cX4_emit 44 = .ok (.getfield 138, 3) := by decide +kernel
theorem dX4_emit_47 : decode cX4_emit 47 = .ok (.iconst 1, 1) := by decide +kernel
theorem dX4_emit_48 : decode cX4_emit 48 = .ok (.iadd, 1) := by decide +kernel
theorem dX4_emit_49 : decode cX4_emit 49 = .ok (.putfield 138, 3) := by decide +kernel
theorem dX4_emit_52 : decode cX4_emit 52 = .ok (.iload_n 3, 1) := by decide +kernel
theorem dX4_emit_53 : decode cX4_emit 53 = .ok (.ireturn, 1) := by decide +kernel
set_option maxHeartbeats 4000000 in
set_option maxRecDepth 100000 in
theorem w_X4_emit_22 {X : CX} {T : List Dsc} {n1 n2 : Nat} {μ : Mem} {r : (Int32 × Mem)} (hX : XR X 1 n1 n2) (hf : f_X4_emit_22 T μ = some r) (hk : FnI X cX4_emit RX4 4 T n1 n2 r) : Wp X cX4_emit RX4 4 T μ n1 n2 22 [] [] := by
  unfold f_X4_emit_22 at hf
  refine Wp.iconst (pc := 22) (-1 : Int32) (by decide) dX4_emit_22 ?_
  cases hf
  exact hk _ _ dX4_emit_23
set_option maxHeartbeats 4000000 in
set_option maxRecDepth 100000 in
theorem w_X4_emit {X : CX} {T : List Dsc} {n1 n2 : Nat} {x0 : Nat} {x1 : Int32} {x2 : Int32} {μ : Mem} {r : (Int32 × Mem)} (hX : XR X 1 n1 n2) (hx0 : T[x0]? = some (.inl 3)) (hf : F_X4_emit T x0 x1 x2 μ = some r) (hk : FnI X cX4_emit RX4 4 T n1 n2 r) : Wp X cX4_emit RX4 4 T μ n1 n2 0 [(0, .ref x0), (1, .int x1), (2, .int x2)] [] := by
  unfold F_X4_emit at hf
  refine Wp.aload_n (pc := 0) 0 rfl rfl dX4_emit_0 ?_
  obtain ⟨r1, h2, hf⟩ := bnd hf
  refine Wp.getR (pc := 1) (gO_R h2) hx0 fk_RX4_35 rfl dX4_emit_1 ?_
  refine Wp.getI (pc := 4) (gO_T h2) fk_RX4_138 rfl dX4_emit_4 ?_
  obtain ⟨v3, h4, hf⟩ := bnd hf
  refine Wp.nI' h4 ?_
  refine Wp.istore_n (pc := 7) (lo' := [(0, .ref x0), (1, .int x1), (2, .int x2), (3, .int v3)]) [1, 2, 3, 0] rfl (by decide) rfl dX4_emit_7 ?_
  refine Wp.aload_n (pc := 8) 0 rfl rfl dX4_emit_8 ?_
  refine Wp.getI (pc := 9) hx0 fk_RX4_43 rfl dX4_emit_9 ?_
  refine Wp.if_ne (pc := 12) 22 dX4_emit_12 (by decide) (fun hc5 => ?_) (fun hc5 => ?_)
  · rw [if_neg hc5] at hf
    refine Wp.lo' (lo' := []) [] rfl ?_
    exact w_X4_emit_22 hX hf hk
  · rw [if_pos hc5] at hf
    refine Wp.iload_n (pc := 15) 3 rfl rfl dX4_emit_15 ?_
    refine Wp.sipush (pc := 16) (400 : Int32) (by decide) dX4_emit_16 ?_
    refine Wp.icmp_lt (pc := 19) 24 dX4_emit_19 (by decide) (fun hc6 => ?_) (fun hc6 => ?_)
    · rw [if_pos hc6] at hf
      refine Wp.aload_n (pc := 24) 0 rfl rfl dX4_emit_24 ?_
      obtain ⟨r7, h8, hf⟩ := bnd hf
      refine Wp.getR (pc := 25) (gO_R h8) hx0 fk_RX4_35 rfl dX4_emit_25 ?_
      obtain ⟨a9, h10, hf⟩ := bnd hf
      refine Wp.getR (pc := 28) (gA_R h10) (gO_T h8) fk_RX4_211 rfl dX4_emit_28 ?_
      refine Wp.iload_n (pc := 31) 3 rfl rfl dX4_emit_31 ?_
      refine Wp.iload_n (pc := 32) 2 rfl rfl dX4_emit_32 ?_
      refine Wp.bipush (pc := 33) (6 : Int32) (by decide) dX4_emit_33 ?_
      refine Wp.ishl (pc := 35) dX4_emit_35 ?_
      refine Wp.iload_n (pc := 36) 1 rfl rfl dX4_emit_36 ?_
      refine Wp.ior (pc := 37) dX4_emit_37 ?_
      obtain ⟨μ11, h12, hf⟩ := bnd hf
      refine Wp.iast (pc := 38) h12 (gA_T h10) dX4_emit_38 ?_
      refine Wp.aload_n (pc := 39) 0 rfl rfl dX4_emit_39 ?_
      obtain ⟨r13, h14, hf⟩ := bnd hf
      refine Wp.getR (pc := 40) (gO_R h14) hx0 fk_RX4_35 rfl dX4_emit_40 ?_
      refine Wp.dup (pc := 43) rfl dX4_emit_43 ?_
      refine Wp.getI (pc := 44) (gO_T h14) fk_RX4_138 rfl dX4_emit_44 ?_
      refine Wp.iconst (pc := 47) (1 : Int32) (by decide) dX4_emit_47 ?_
      refine Wp.iadd (pc := 48) dX4_emit_48 ?_
      obtain ⟨μ15, h16, hf⟩ := bnd hf
      refine Wp.ptI (pc := 49) h16 (gO_T h14) fk_RX4_138 ff_RX4_6_4 rfl dX4_emit_49 ?_
      refine Wp.iload_n (pc := 52) 3 rfl rfl dX4_emit_52 ?_
      cases hf
      exact hk _ _ dX4_emit_53
    · rw [if_neg hc6] at hf
      refine Wp.lo' (lo' := []) [] rfl ?_
      exact w_X4_emit_22 hX hf hk
theorem c_X4_emit {T : List Dsc} {x0 : Nat} {x1 : Int32} {x2 : Int32} {μ : Mem} {r : (Int32 × Mem)} (hx0 : T[x0]? = some (.inl 3)) (hf : F_X4_emit T x0 x1 x2 μ = some r) : Ct 1 yX4_emit cX4_emit 4 (some .int) T μ [.ref x0, .int x1, .int x2] (some (.int r.1)) r.2 := Ct.ofI (by decide +kernel) (Nat.le_of_ble_eq_true rfl) (fun X hX hk => w_X4_emit hX hx0 hf hk)
theorem dX4_readUnit_0 : decode cX4_readUnit 0 = .ok (.aload_n 0, 1) := by decide +kernel
theorem dX4_readUnit_1 : decode cX4_readUnit 1 = .ok (.getfield 46, 3) := by decide +kernel
theorem dX4_readUnit_4 : decode cX4_readUnit 4 = .ok (.istore_n 2, 1) := by decide +kernel
theorem dX4_readUnit_5 : decode cX4_readUnit 5 = .ok (.iload_n 2, 1) := by decide +kernel
theorem dX4_readUnit_6 : decode cX4_readUnit 6 = .ok (.iconst 3, 1) := by decide +kernel
theorem dX4_readUnit_7 : decode cX4_readUnit 7 = .ok (.if_icmp .ne 21, 3) := by decide +kernel
theorem dX4_readUnit_10 : decode cX4_readUnit 10 = .ok (.aload_n 0, 1) := by decide +kernel
theorem dX4_readUnit_11 : decode cX4_readUnit 11 = .ok (.iconst 3, 1) := by decide +kernel
theorem dX4_readUnit_12 : decode cX4_readUnit 12 = .ok (.invokevirtual 114, 3) := by decide +kernel
theorem dX4_readUnit_15 : decode cX4_readUnit 15 = .ok (.pop, 1) := by decide +kernel
theorem dX4_readUnit_16 : decode cX4_readUnit 16 = .ok (.aload_n 0, 1) := by decide +kernel
theorem dX4_readUnit_17 : decode cX4_readUnit 17 = .ok (.iconst 3, 1) := by decide +kernel
theorem dX4_readUnit_18 : decode cX4_readUnit 18 = .ok (.aload_n 0, 1) := by decide +kernel
theorem dX4_readUnit_19 : decode cX4_readUnit 19 = .ok (.invokevirtual 118, 3) := by decide +kernel
theorem dX4_readUnit_22 : decode cX4_readUnit 22 = .ok (.l2i, 1) := by decide +kernel
theorem dX4_readUnit_23 : decode cX4_readUnit 23 = .ok (.invokevirtual 144, 3) := by decide +kernel
theorem dX4_readUnit_26 : decode cX4_readUnit 26 = .ok (.pop, 1) := by decide +kernel
theorem dX4_readUnit_27 : decode cX4_readUnit 27 = .ok (.return_, 1) := by decide +kernel
theorem dX4_readUnit_28 : decode cX4_readUnit 28 = .ok (.iload_n 2, 1) := by decide +kernel
theorem dX4_readUnit_29 : decode cX4_readUnit 29 = .ok (.bipush 28, 2) := by decide +kernel
theorem dX4_readUnit_31 : decode cX4_readUnit 31 = .ok (.if_icmp .lt 23, 3) := by decide +kernel
theorem dX4_readUnit_34 : decode cX4_readUnit 34 = .ok (.iload_n 2, 1) := by decide +kernel
theorem dX4_readUnit_35 : decode cX4_readUnit 35 = .ok (.bipush 33, 2) := by decide +kernel
theorem dX4_readUnit_37 : decode cX4_readUnit 37 = .ok (.if_icmp .gt 17, 3) := by decide +kernel
theorem dX4_readUnit_40 : decode cX4_readUnit 40 = .ok (.aload_n 0, 1) := by decide +kernel
theorem dX4_readUnit_41 : decode cX4_readUnit 41 = .ok (.iload_n 2, 1) := by decide +kernel
theorem dX4_readUnit_42 : decode cX4_readUnit 42 = .ok (.invokevirtual 114, 3) := by decide +kernel
theorem dX4_readUnit_45 : decode cX4_readUnit 45 = .ok (.pop, 1) := by decide +kernel
theorem dX4_readUnit_46 : decode cX4_readUnit 46 = .ok (.aload_n 0, 1) := by decide +kernel
theorem dX4_readUnit_47 : decode cX4_readUnit 47 = .ok (.iload_n 2, 1) := by decide +kernel
theorem dX4_readUnit_48 : decode cX4_readUnit 48 = .ok (.iconst 0, 1) := by decide +kernel
theorem dX4_readUnit_49 : decode cX4_readUnit 49 = .ok (.invokevirtual 144, 3) := by decide +kernel
theorem dX4_readUnit_52 : decode cX4_readUnit 52 = .ok (.pop, 1) := by decide +kernel
theorem dX4_readUnit_53 : decode cX4_readUnit 53 = .ok (.return_, 1) := by decide +kernel
theorem dX4_readUnit_54 : decode cX4_readUnit 54 = .ok (.iload_n 2, 1) := by decide +kernel
theorem dX4_readUnit_55 : decode cX4_readUnit 55 = .ok (.bipush 27, 2) := by decide +kernel
theorem dX4_readUnit_57 : decode cX4_readUnit 57 = .ok (.if_icmp .ne 10, 3) := by decide +kernel
theorem dX4_readUnit_60 : decode cX4_readUnit 60 = .ok (.aload_n 0, 1) := by decide +kernel
theorem dX4_readUnit_61 : decode cX4_readUnit 61 = .ok (.bipush 27, 2) := by decide +kernel
theorem dX4_readUnit_63 : decode cX4_readUnit 63 = .ok (.invokevirtual 114, 3) := by decide +kernel
theorem dX4_readUnit_66 : decode cX4_readUnit 66 = .ok (.pop, 1) := by decide +kernel
theorem dX4_readUnit_67 : decode cX4_readUnit 67 = .ok (.aload_n 0, 1) := by decide +kernel
theorem dX4_readUnit_68 : decode cX4_readUnit 68 = .ok (.getfield 46, 3) := by decide +kernel
theorem dX4_readUnit_71 : decode cX4_readUnit 71 = .ok (.bipush 15, 2) := by decide +kernel
theorem dX4_readUnit_73 : decode cX4_readUnit 73 = .ok (.if_icmp .ne 14, 3) := by decide +kernel
theorem dX4_readUnit_76 : decode cX4_readUnit 76 = .ok (.iload_n 1, 1) := by decide +kernel
theorem dX4_readUnit_77 : decode cX4_readUnit 77 = .ok (.bipush 6, 2) := by decide +kernel
theorem dX4_readUnit_79 : decode cX4_readUnit 79 = .ok (.if_icmp .lt 8, 3) := by decide +kernel
theorem dX4_readUnit_82 : decode cX4_readUnit 82 = .ok (.aload_n 0, 1) := by decide +kernel
theorem dX4_readUnit_83 : decode cX4_readUnit 83 = .ok (.iconst 2, 1) := by decide +kernel
theorem dX4_readUnit_84 : decode cX4_readUnit 84 = .ok (.invokevirtual 67, 3) := by decide +kernel
theorem dX4_readUnit_87 : decode cX4_readUnit 87 = .ok (.aload_n 0, 1) := by decide +kernel
theorem dX4_readUnit_88 : decode cX4_readUnit 88 = .ok (.bipush 15, 2) := by decide +kernel
theorem dX4_readUnit_90 : decode cX4_readUnit 90 = .ok (.invokevirtual 114, 3) := by decide +kernel
theorem dX4_readUnit_93 : decode cX4_readUnit 93 = .ok (.pop, 1) := by decide +kernel
theorem dX4_readUnit_94 : decode cX4_readUnit 94 = .ok (.aload_n 0, 1) := by decide +kernel
theorem dX4_readUnit_95 : decode cX4_readUnit 95 = .ok (.iconst 0, 1) := by decide +kernel
theorem dX4_readUnit_96 : decode cX4_readUnit 96 = .ok (.iload_n 1, 1) := by decide +kernel
theorem dX4_readUnit_97 : decode cX4_readUnit 97 = .ok (.iconst 1, 1) := by decide +kernel
theorem dX4_readUnit_98 : decode cX4_readUnit 98 = .ok (.iadd, 1) := by decide +kernel
theorem dX4_readUnit_99 : decode cX4_readUnit 99 = .ok (.invokevirtual 148, 3) := by decide +kernel
theorem dX4_readUnit_102 : decode cX4_readUnit 102 = .ok (.iload_n 2, 1) := by decide +kernel
theorem dX4_readUnit_103 : decode cX4_readUnit 103 = .ok (.bipush 27, 2) := by decide +kernel
theorem dX4_readUnit_105 : decode cX4_readUnit 105 = .ok (.if_icmp .ne 26, 3) := by decide +kernel
theorem dX4_readUnit_108 : decode cX4_readUnit 108 = .ok (.aload_n 0, 1) := by decide +kernel
theorem dX4_readUnit_109 : decode cX4_readUnit 109 = .ok (.bipush 6, 2) := by decide +kernel
theorem dX4_readUnit_111 : decode cX4_readUnit 111 = .ok (.invokevirtual 114, 3) := by decide +kernel
theorem dX4_readUnit_114 : decode cX4_readUnit 114 = .ok (.pop, 1) := by decide +kernel
theorem dX4_readUnit_115 : decode cX4_readUnit 115 = .ok (.aload_n 0, 1) := by decide +kernel
theorem dX4_readUnit_116 : decode cX4_readUnit 116 = .ok (.iconst 0, 1) := by decide +kernel
theorem dX4_readUnit_117 : decode cX4_readUnit 117 = .ok (.iload_n 1, 1) := by decide +kernel
theorem dX4_readUnit_118 : decode cX4_readUnit 118 = .ok (.iconst 1, 1) := by decide +kernel
theorem dX4_readUnit_119 : decode cX4_readUnit 119 = .ok (.iadd, 1) := by decide +kernel
theorem dX4_readUnit_120 : decode cX4_readUnit 120 = .ok (.invokevirtual 148, 3) := by decide +kernel
theorem dX4_readUnit_123 : decode cX4_readUnit 123 = .ok (.aload_n 0, 1) := by decide +kernel
theorem dX4_readUnit_124 : decode cX4_readUnit 124 = .ok (.bipush 27, 2) := by decide +kernel
theorem dX4_readUnit_126 : decode cX4_readUnit 126 = .ok (.iconst 0, 1) := by decide +kernel
theorem dX4_readUnit_127 : decode cX4_readUnit 127 = .ok (.invokevirtual 144, 3) := by decide +kernel
theorem dX4_readUnit_130 : decode cX4_readUnit 130 = .ok (.pop, 1) := by decide +kernel
theorem dX4_readUnit_131 : decode cX4_readUnit 131 = .ok (.aload_n 0, 1) := by decide +kernel
theorem dX4_readUnit_132 : decode cX4_readUnit 132 = .ok (.bipush 16, 2) := by decide +kernel
theorem dX4_readUnit_134 : decode cX4_readUnit 134 = .ok (.invokevirtual 114, 3) := by decide +kernel
theorem dX4_readUnit_137 : decode cX4_readUnit 137 = .ok (.pop, 1) := by decide +kernel
theorem dX4_readUnit_138 : decode cX4_readUnit 138 = .ok (.return_, 1) := by decide +kernel
set_option maxHeartbeats 4000000 in
set_option maxRecDepth 100000 in
theorem w_X4_readUnit_131 {E : List Dsc → Nat → Int32 → Int32 → Mem → Option Mem} {dE : Nat} {X : CX} {T : List Dsc} {n1 n2 : Nat} {x0 : Nat} {μ : Mem} {r : Mem} (hX : XR X (dE + 1) n1 n2) (hdE : 10 ≤ dE) (hE : ∀ {T : List Dsc} {x0 : Nat} {x1 : Int32} {x2 : Int32} {μ : Mem} {r : Mem}, T[x0]? = some (.inl 3) → E T x0 x1 x2 μ = some r → Ct dE yX4_readExpression cX4_readExpression 5 none T μ [.ref x0, .int x1, .int x2] none r) (hx0 : T[x0]? = some (.inl 3)) (hf : f_X4_readUnit_131 E T x0 μ = some r) (hk : FnV X cX4_readUnit RX4 3 T n1 n2 r) : Wp X cX4_readUnit RX4 3 T μ n1 n2 131 [(0, .ref x0)] [] := by
  unfold f_X4_readUnit_131 at hf
  refine Wp.aload_n (pc := 131) 0 rfl rfl dX4_readUnit_131 ?_
  refine Wp.bipush (pc := 132) (16 : Int32) (by decide) dX4_readUnit_132 ?_
  obtain ⟨c1, h2, hf⟩ := bnd hf
  refine Wp.callVi (pc := 134) (st := []) (as := [.int (16 : Int32)]) (c_X4_take hx0 h2) ml_RX4_114 mv_X4_take mb_X4_take hX (by omega) (by decide) rfl hx0 rfl (by simp) dX4_readUnit_134 rfl ?_
  refine Wp.pop (pc := 137) rfl dX4_readUnit_137 ?_
  cases hf
  exact hk _ _ dX4_readUnit_138
set_option maxHeartbeats 4000000 in
set_option maxRecDepth 100000 in
theorem w_X4_readUnit_87 {E : List Dsc → Nat → Int32 → Int32 → Mem → Option Mem} {dE : Nat} {X : CX} {T : List Dsc} {n1 n2 : Nat} {x0 : Nat} {x1 : Int32} {x2 : Int32} {μ : Mem} {r : Mem} (hX : XR X (dE + 1) n1 n2) (hdE : 10 ≤ dE) (hE : ∀ {T : List Dsc} {x0 : Nat} {x1 : Int32} {x2 : Int32} {μ : Mem} {r : Mem}, T[x0]? = some (.inl 3) → E T x0 x1 x2 μ = some r → Ct dE yX4_readExpression cX4_readExpression 5 none T μ [.ref x0, .int x1, .int x2] none r) (hx0 : T[x0]? = some (.inl 3)) (hf : f_X4_readUnit_87 E T x0 x1 x2 μ = some r) (hk : FnV X cX4_readUnit RX4 3 T n1 n2 r) : Wp X cX4_readUnit RX4 3 T μ n1 n2 87 [(0, .ref x0), (1, .int x1), (2, .int x2)] [] := by
  unfold f_X4_readUnit_87 at hf
  refine Wp.aload_n (pc := 87) 0 rfl rfl dX4_readUnit_87 ?_
  refine Wp.bipush (pc := 88) (15 : Int32) (by decide) dX4_readUnit_88 ?_
  obtain ⟨c1, h2, hf⟩ := bnd hf
  refine Wp.callVi (pc := 90) (st := []) (as := [.int (15 : Int32)]) (c_X4_take hx0 h2) ml_RX4_114 mv_X4_take mb_X4_take hX (by omega) (by decide) rfl hx0 rfl (by simp) dX4_readUnit_90 rfl ?_
  refine Wp.pop (pc := 93) rfl dX4_readUnit_93 ?_
  refine Wp.aload_n (pc := 94) 0 rfl rfl dX4_readUnit_94 ?_
  refine Wp.iconst (pc := 95) (0 : Int32) (by decide) dX4_readUnit_95 ?_
  refine Wp.iload_n (pc := 96) 1 rfl rfl dX4_readUnit_96 ?_
  refine Wp.iconst (pc := 97) (1 : Int32) (by decide) dX4_readUnit_97 ?_
  refine Wp.iadd (pc := 98) dX4_readUnit_98 ?_
  obtain ⟨c3, h4, hf⟩ := bnd hf
  refine Wp.callVv (pc := 99) (st := []) (as := [.int (0 : Int32), .int (x1 + (1 : Int32))]) (hE hx0 h4) ml_RX4_148 mv_X4_readExpression mb_X4_readExpression hX (by omega) (by decide) rfl hx0 rfl (by simp) dX4_readUnit_99 rfl ?_
  refine Wp.iload_n (pc := 102) 2 rfl rfl dX4_readUnit_102 ?_
  refine Wp.bipush (pc := 103) (27 : Int32) (by decide) dX4_readUnit_103 ?_
  refine Wp.icmp_ne (pc := 105) 131 dX4_readUnit_105 (by decide) (fun hc5 => ?_) (fun hc5 => ?_)
  · rw [if_neg hc5] at hf
    refine Wp.lo' (lo' := [(0, .ref x0)]) [0] rfl ?_
    exact w_X4_readUnit_131 hX hdE hE hx0 hf hk
  · rw [if_pos hc5] at hf
    refine Wp.aload_n (pc := 108) 0 rfl rfl dX4_readUnit_108 ?_
    refine Wp.bipush (pc := 109) (6 : Int32) (by decide) dX4_readUnit_109 ?_
    obtain ⟨c6, h7, hf⟩ := bnd hf
    refine Wp.callVi (pc := 111) (st := []) (as := [.int (6 : Int32)]) (c_X4_take hx0 h7) ml_RX4_114 mv_X4_take mb_X4_take hX (by omega) (by decide) rfl hx0 rfl (by simp) dX4_readUnit_111 rfl ?_
    refine Wp.pop (pc := 114) rfl dX4_readUnit_114 ?_
    refine Wp.aload_n (pc := 115) 0 rfl rfl dX4_readUnit_115 ?_
    refine Wp.iconst (pc := 116) (0 : Int32) (by decide) dX4_readUnit_116 ?_
    refine Wp.iload_n (pc := 117) 1 rfl rfl dX4_readUnit_117 ?_
    refine Wp.iconst (pc := 118) (1 : Int32) (by decide) dX4_readUnit_118 ?_
    refine Wp.iadd (pc := 119) dX4_readUnit_119 ?_
    obtain ⟨c8, h9, hf⟩ := bnd hf
    refine Wp.callVv (pc := 120) (st := []) (as := [.int (0 : Int32), .int (x1 + (1 : Int32))]) (hE hx0 h9) ml_RX4_148 mv_X4_readExpression mb_X4_readExpression hX (by omega) (by decide) rfl hx0 rfl (by simp) dX4_readUnit_120 rfl ?_
    refine Wp.aload_n (pc := 123) 0 rfl rfl dX4_readUnit_123 ?_
    refine Wp.bipush (pc := 124) (27 : Int32) (by decide) dX4_readUnit_124 ?_
    refine Wp.iconst (pc := 126) (0 : Int32) (by decide) dX4_readUnit_126 ?_
    obtain ⟨c10, h11, hf⟩ := bnd hf
    refine Wp.callVi (pc := 127) (st := []) (as := [.int (27 : Int32), .int (0 : Int32)]) (c_X4_emit hx0 h11) ml_RX4_144 mv_X4_emit mb_X4_emit hX (by omega) (by decide) rfl hx0 rfl (by simp) dX4_readUnit_127 rfl ?_
    refine Wp.pop (pc := 130) rfl dX4_readUnit_130 ?_
    refine Wp.lo' (lo' := [(0, .ref x0)]) [0] rfl ?_
    exact w_X4_readUnit_131 hX hdE hE hx0 hf hk
set_option maxHeartbeats 4000000 in
set_option maxRecDepth 100000 in
theorem w_X4_readUnit_67 {E : List Dsc → Nat → Int32 → Int32 → Mem → Option Mem} {dE : Nat} {X : CX} {T : List Dsc} {n1 n2 : Nat} {x0 : Nat} {x1 : Int32} {x2 : Int32} {μ : Mem} {r : Mem} (hX : XR X (dE + 1) n1 n2) (hdE : 10 ≤ dE) (hE : ∀ {T : List Dsc} {x0 : Nat} {x1 : Int32} {x2 : Int32} {μ : Mem} {r : Mem}, T[x0]? = some (.inl 3) → E T x0 x1 x2 μ = some r → Ct dE yX4_readExpression cX4_readExpression 5 none T μ [.ref x0, .int x1, .int x2] none r) (hx0 : T[x0]? = some (.inl 3)) (hf : f_X4_readUnit_67 E T x0 x1 x2 μ = some r) (hk : FnV X cX4_readUnit RX4 3 T n1 n2 r) : Wp X cX4_readUnit RX4 3 T μ n1 n2 67 [(0, .ref x0), (1, .int x1), (2, .int x2)] [] := by
  unfold f_X4_readUnit_67 at hf
  refine Wp.aload_n (pc := 67) 0 rfl rfl dX4_readUnit_67 ?_
  refine Wp.getI (pc := 68) hx0 fk_RX4_46 rfl dX4_readUnit_68 ?_
  refine Wp.bipush (pc := 71) (15 : Int32) (by decide) dX4_readUnit_71 ?_
  refine Wp.icmp_ne (pc := 73) 87 dX4_readUnit_73 (by decide) (fun hc1 => ?_) (fun hc1 => ?_)
  · rw [if_neg hc1] at hf
    exact w_X4_readUnit_87 hX hdE hE hx0 hf hk
  · rw [if_pos hc1] at hf
    refine Wp.iload_n (pc := 76) 1 rfl rfl dX4_readUnit_76 ?_
    refine Wp.bipush (pc := 77) (6 : Int32) (by decide) dX4_readUnit_77 ?_
    refine Wp.icmp_lt (pc := 79) 87 dX4_readUnit_79 (by decide) (fun hc2 => ?_) (fun hc2 => ?_)
    · rw [if_pos hc2] at hf
      exact w_X4_readUnit_87 hX hdE hE hx0 hf hk
    · rw [if_neg hc2] at hf
      refine Wp.aload_n (pc := 82) 0 rfl rfl dX4_readUnit_82 ?_
      refine Wp.iconst (pc := 83) (2 : Int32) (by decide) dX4_readUnit_83 ?_
      obtain ⟨c3, h4, hf⟩ := bnd hf
      refine Wp.callVv (pc := 84) (st := []) (as := [.int (2 : Int32)]) (c_X4_fail hx0 h4) ml_RX4_67 mv_X4_fail mb_X4_fail hX (by omega) (by decide) rfl hx0 rfl (by simp) dX4_readUnit_84 rfl ?_
      exact w_X4_readUnit_87 hX hdE hE hx0 hf hk
set_option maxHeartbeats 4000000 in
set_option maxRecDepth 100000 in
theorem w_X4_readUnit_54 {E : List Dsc → Nat → Int32 → Int32 → Mem → Option Mem} {dE : Nat} {X : CX} {T : List Dsc} {n1 n2 : Nat} {x0 : Nat} {x1 : Int32} {x2 : Int32} {μ : Mem} {r : Mem} (hX : XR X (dE + 1) n1 n2) (hdE : 10 ≤ dE) (hE : ∀ {T : List Dsc} {x0 : Nat} {x1 : Int32} {x2 : Int32} {μ : Mem} {r : Mem}, T[x0]? = some (.inl 3) → E T x0 x1 x2 μ = some r → Ct dE yX4_readExpression cX4_readExpression 5 none T μ [.ref x0, .int x1, .int x2] none r) (hx0 : T[x0]? = some (.inl 3)) (hf : f_X4_readUnit_54 E T x0 x1 x2 μ = some r) (hk : FnV X cX4_readUnit RX4 3 T n1 n2 r) : Wp X cX4_readUnit RX4 3 T μ n1 n2 54 [(0, .ref x0), (1, .int x1), (2, .int x2)] [] := by
  unfold f_X4_readUnit_54 at hf
  refine Wp.iload_n (pc := 54) 2 rfl rfl dX4_readUnit_54 ?_
  refine Wp.bipush (pc := 55) (27 : Int32) (by decide) dX4_readUnit_55 ?_
  refine Wp.icmp_ne (pc := 57) 67 dX4_readUnit_57 (by decide) (fun hc1 => ?_) (fun hc1 => ?_)
  · rw [if_neg hc1] at hf
    exact w_X4_readUnit_67 hX hdE hE hx0 hf hk
  · rw [if_pos hc1] at hf
    refine Wp.aload_n (pc := 60) 0 rfl rfl dX4_readUnit_60 ?_
    refine Wp.bipush (pc := 61) (27 : Int32) (by decide) dX4_readUnit_61 ?_
    obtain ⟨c2, h3, hf⟩ := bnd hf
    refine Wp.callVi (pc := 63) (st := []) (as := [.int (27 : Int32)]) (c_X4_take hx0 h3) ml_RX4_114 mv_X4_take mb_X4_take hX (by omega) (by decide) rfl hx0 rfl (by simp) dX4_readUnit_63 rfl ?_
    refine Wp.pop (pc := 66) rfl dX4_readUnit_66 ?_
    exact w_X4_readUnit_67 hX hdE hE hx0 hf hk
set_option maxHeartbeats 4000000 in
set_option maxRecDepth 100000 in
theorem w_X4_readUnit {E : List Dsc → Nat → Int32 → Int32 → Mem → Option Mem} {dE : Nat} {X : CX} {T : List Dsc} {n1 n2 : Nat} {x0 : Nat} {x1 : Int32} {μ : Mem} {r : Mem} (hX : XR X (dE + 1) n1 n2) (hdE : 10 ≤ dE) (hE : ∀ {T : List Dsc} {x0 : Nat} {x1 : Int32} {x2 : Int32} {μ : Mem} {r : Mem}, T[x0]? = some (.inl 3) → E T x0 x1 x2 μ = some r → Ct dE yX4_readExpression cX4_readExpression 5 none T μ [.ref x0, .int x1, .int x2] none r) (hx0 : T[x0]? = some (.inl 3)) (hf : F_X4_readUnit E T x0 x1 μ = some r) (hk : FnV X cX4_readUnit RX4 3 T n1 n2 r) : Wp X cX4_readUnit RX4 3 T μ n1 n2 0 [(0, .ref x0), (1, .int x1)] [] := by
  unfold F_X4_readUnit at hf
  refine Wp.aload_n (pc := 0) 0 rfl rfl dX4_readUnit_0 ?_
  refine Wp.getI (pc := 1) hx0 fk_RX4_46 rfl dX4_readUnit_1 ?_
  obtain ⟨v1, h2, hf⟩ := bnd hf
  refine Wp.nI' h2 ?_
  refine Wp.istore_n (pc := 4) (lo' := [(0, .ref x0), (1, .int x1), (2, .int v1)]) [1, 2, 0] rfl (by decide) rfl dX4_readUnit_4 ?_
  refine Wp.iload_n (pc := 5) 2 rfl rfl dX4_readUnit_5 ?_
  refine Wp.iconst (pc := 6) (3 : Int32) (by decide) dX4_readUnit_6 ?_
  refine Wp.icmp_ne (pc := 7) 28 dX4_readUnit_7 (by decide) (fun hc3 => ?_) (fun hc3 => ?_)
  · rw [if_neg hc3] at hf
    refine Wp.iload_n (pc := 28) 2 rfl rfl dX4_readUnit_28 ?_
    refine Wp.bipush (pc := 29) (28 : Int32) (by decide) dX4_readUnit_29 ?_
    refine Wp.icmp_lt (pc := 31) 54 dX4_readUnit_31 (by decide) (fun hc4 => ?_) (fun hc4 => ?_)
    · rw [if_pos hc4] at hf
      exact w_X4_readUnit_54 hX hdE hE hx0 hf hk
    · rw [if_neg hc4] at hf
      refine Wp.iload_n (pc := 34) 2 rfl rfl dX4_readUnit_34 ?_
      refine Wp.bipush (pc := 35) (33 : Int32) (by decide) dX4_readUnit_35 ?_
      refine Wp.icmp_gt (pc := 37) 54 dX4_readUnit_37 (by decide) (fun hc5 => ?_) (fun hc5 => ?_)
      · rw [if_pos hc5] at hf
        exact w_X4_readUnit_54 hX hdE hE hx0 hf hk
      · rw [if_neg hc5] at hf
        refine Wp.aload_n (pc := 40) 0 rfl rfl dX4_readUnit_40 ?_
        refine Wp.iload_n (pc := 41) 2 rfl rfl dX4_readUnit_41 ?_
        obtain ⟨c6, h7, hf⟩ := bnd hf
        refine Wp.callVi (pc := 42) (st := []) (as := [.int v1]) (c_X4_take hx0 h7) ml_RX4_114 mv_X4_take mb_X4_take hX (by omega) (by decide) rfl hx0 rfl (by simp) dX4_readUnit_42 rfl ?_
        refine Wp.pop (pc := 45) rfl dX4_readUnit_45 ?_
        refine Wp.aload_n (pc := 46) 0 rfl rfl dX4_readUnit_46 ?_
        refine Wp.iload_n (pc := 47) 2 rfl rfl dX4_readUnit_47 ?_
        refine Wp.iconst (pc := 48) (0 : Int32) (by decide) dX4_readUnit_48 ?_
        obtain ⟨c8, h9, hf⟩ := bnd hf
        refine Wp.callVi (pc := 49) (st := []) (as := [.int v1, .int (0 : Int32)]) (c_X4_emit hx0 h9) ml_RX4_144 mv_X4_emit mb_X4_emit hX (by omega) (by decide) rfl hx0 rfl (by simp) dX4_readUnit_49 rfl ?_
        refine Wp.pop (pc := 52) rfl dX4_readUnit_52 ?_
        cases hf
        exact hk _ _ dX4_readUnit_53
  · rw [if_pos hc3] at hf
    refine Wp.aload_n (pc := 10) 0 rfl rfl dX4_readUnit_10 ?_
    refine Wp.iconst (pc := 11) (3 : Int32) (by decide) dX4_readUnit_11 ?_
    obtain ⟨c10, h11, hf⟩ := bnd hf
    refine Wp.callVi (pc := 12) (st := []) (as := [.int (3 : Int32)]) (c_X4_take hx0 h11) ml_RX4_114 mv_X4_take mb_X4_take hX (by omega) (by decide) rfl hx0 rfl (by simp) dX4_readUnit_12 rfl ?_
    refine Wp.pop (pc := 15) rfl dX4_readUnit_15 ?_
    refine Wp.aload_n (pc := 16) 0 rfl rfl dX4_readUnit_16 ?_
    refine Wp.iconst (pc := 17) (3 : Int32) (by decide) dX4_readUnit_17 ?_
    refine Wp.aload_n (pc := 18) 0 rfl rfl dX4_readUnit_18 ?_
    obtain ⟨c12, h13, hf⟩ := bnd hf
    refine Wp.callVl (pc := 19) (st := [.int (3 : Int32), .ref x0]) (as := []) (c_X4_taken hx0 h13) ml_RX4_118 mv_X4_taken mb_X4_taken hX (by omega) (by decide) rfl hx0 rfl (by simp [Value.category]) dX4_readUnit_19 rfl ?_
    refine Wp.l2i (pc := 22) dX4_readUnit_22 ?_
    obtain ⟨c14, h15, hf⟩ := bnd hf
    refine Wp.callVi (pc := 23) (st := []) (as := [.int (3 : Int32), .int c12.1.toInt32]) (c_X4_emit hx0 h15) ml_RX4_144 mv_X4_emit mb_X4_emit hX (by omega) (by decide) rfl hx0 rfl (by simp) dX4_readUnit_23 rfl ?_
    refine Wp.pop (pc := 26) rfl dX4_readUnit_26 ?_
    cases hf
    exact hk _ _ dX4_readUnit_27
theorem c_X4_readUnit {E : List Dsc → Nat → Int32 → Int32 → Mem → Option Mem} {dE : Nat} {T : List Dsc} {x0 : Nat} {x1 : Int32} {μ : Mem} {r : Mem} (hdE : 10 ≤ dE) (hE : ∀ {T : List Dsc} {x0 : Nat} {x1 : Int32} {x2 : Int32} {μ : Mem} {r : Mem}, T[x0]? = some (.inl 3) → E T x0 x1 x2 μ = some r → Ct dE yX4_readExpression cX4_readExpression 5 none T μ [.ref x0, .int x1, .int x2] none r) (hx0 : T[x0]? = some (.inl 3)) (hf : F_X4_readUnit E T x0 x1 μ = some r) : Ct (dE + 1) yX4_readUnit cX4_readUnit 3 none T μ [.ref x0, .int x1] none r := Ct.ofV (by decide +kernel) (Nat.le_of_ble_eq_true rfl) (fun X hX hk => w_X4_readUnit hX hdE hE hx0 hf hk)
theorem dX4_readExpression_0 : decode cX4_readExpression 0 = .ok (.aload_n 0, 1) := by decide +kernel
theorem dX4_readExpression_1 : decode cX4_readExpression 1 = .ok (.getfield 43, 3) := by decide +kernel
theorem dX4_readExpression_4 : decode cX4_readExpression 4 = .ok (.ifCond .eq 4, 3) := by decide +kernel
theorem dX4_readExpression_7 : decode cX4_readExpression 7 = .ok (.return_, 1) := by decide +kernel
theorem dX4_readExpression_8 : decode cX4_readExpression 8 = .ok (.iload_n 1, 1) := by decide +kernel
theorem dX4_readExpression_9 : decode cX4_readExpression 9 = .ok (.iconst 2, 1) := by decide +kernel
theorem dX4_readExpression_10 : decode cX4_readExpression 10 = .ok (.if_icmp .lt 9, 3) := by decide +kernel
theorem dX4_readExpression_13 : decode cX4_readExpression 13 = .ok (.aload_n 0, 1) := by decide +kernel
theorem dX4_readExpression_14 : decode cX4_readExpression 14 = .ok (.iload_n 2, 1) := by decide +kernel
theorem dX4_readExpression_15 : decode cX4_readExpression 15 = .ok (.invokevirtual 204, 3) := by decide +kernel
theorem dX4_readExpression_18 : decode cX4_readExpression 18 = .ok (.return_, 1) := by decide +kernel
theorem dX4_readExpression_19 : decode cX4_readExpression 19 = .ok (.aload_n 0, 1) := by decide +kernel
theorem dX4_readExpression_20 : decode cX4_readExpression 20 = .ok (.iload_n 1, 1) := by decide +kernel
theorem dX4_readExpression_21 : decode cX4_readExpression 21 = .ok (.iconst 1, 1) := by decide +kernel
theorem dX4_readExpression_22 : decode cX4_readExpression 22 = .ok (.iadd, 1) := by decide +kernel
theorem dX4_readExpression_23 : decode cX4_readExpression 23 = .ok (.iload_n 2, 1) := by decide +kernel
theorem dX4_readExpression_24 : decode cX4_readExpression 24 = .ok (.invokevirtual 148, 3) := by decide +kernel
theorem dX4_readExpression_27 : decode cX4_readExpression 27 = .ok (.iconst 0, 1) := by decide +kernel
theorem dX4_readExpression_28 : decode cX4_readExpression 28 = .ok (.istore_n 3, 1) := by decide +kernel
theorem dX4_readExpression_29 : decode cX4_readExpression 29 = .ok (.iload_n 3, 1) := by decide +kernel
theorem dX4_readExpression_30 : decode cX4_readExpression 30 = .ok (.sipush 400, 3) := by decide +kernel
theorem dX4_readExpression_33 : decode cX4_readExpression 33 = .ok (.if_icmp .ge 56, 3) := by decide +kernel
theorem dX4_readExpression_36 : decode cX4_readExpression 36 = .ok (.aload_n 0, 1) := by decide +kernel
theorem dX4_readExpression_37 : decode cX4_readExpression 37 = .ok (.getfield 43, 3) := by decide +kernel
theorem dX4_readExpression_40 : decode cX4_readExpression 40 = .ok (.ifCond .ne 49, 3) := by decide +kernel
theorem dX4_readExpression_43 : decode cX4_readExpression 43 = .ok (.iload_n 1, 1) := by decide +kernel
theorem dX4_readExpression_44 : decode cX4_readExpression 44 = .ok (.aload_n 0, 1) := by decide +kernel
theorem dX4_readExpression_45 : decode cX4_readExpression 45 = .ok (.getfield 46, 3) := by decide +kernel
theorem dX4_readExpression_48 : decode cX4_readExpression 48 = .ok (.invokestatic 207, 3) := by decide +kernel
theorem dX4_readExpression_51 : decode cX4_readExpression 51 = .ok (.ifCond .eq 38, 3) := by decide +kernel
theorem dX4_readExpression_54 : decode cX4_readExpression 54 = .ok (.aload_n 0, 1) := by decide +kernel
theorem dX4_readExpression_55 : decode cX4_readExpression 55 = .ok (.getfield 46, 3) := by decide +kernel
theorem dX4_readExpression_58 : decode cX4_readExpression 58 = .ok (.istore 4, 2) := by decide +kernel
theorem dX4_readExpression_60 : decode cX4_readExpression 60 = .ok (.aload_n 0, 1) := by decide +kernel
theorem dX4_readExpression_61 : decode cX4_readExpression 61 = .ok (.iload 4, 2) := by decide +kernel
theorem dX4_readExpression_63 : decode cX4_readExpression 63 = .ok (.invokevirtual 114, 3) := by decide +kernel
theorem dX4_readExpression_66 : decode cX4_readExpression 66 = .ok (.pop, 1) := by decide +kernel
theorem dX4_readExpression_67 : decode cX4_readExpression 67 = .ok (.aload_n 0, 1) := by decide +kernel
theorem dX4_readExpression_68 : decode cX4_readExpression 68 = .ok (.iload_n 1, 1) := by decide +kernel
theorem dX4_readExpression_69 : decode cX4_readExpression 69 = .ok (.iconst 1, 1) := by decide +kernel
theorem dX4_readExpression_70 : decode cX4_readExpression 70 = .ok (.iadd, 1) := by decide +kernel
theorem dX4_readExpression_71 : decode cX4_readExpression 71 = .ok (.iload_n 2, 1) := by decide +kernel
theorem dX4_readExpression_72 : decode cX4_readExpression 72 = .ok (.invokevirtual 148, 3) := by decide +kernel
theorem dX4_readExpression_75 : decode cX4_readExpression 75 = .ok (.aload_n 0, 1) := by decide +kernel
theorem dX4_readExpression_76 : decode cX4_readExpression 76 = .ok (.iload 4, 2) := by decide +kernel
theorem dX4_readExpression_78 : decode cX4_readExpression 78 = .ok (.iconst 0, 1) := by decide +kernel
theorem dX4_readExpression_79 : decode cX4_readExpression 79 = .ok (.invokevirtual 144, 3) := by decide +kernel
theorem dX4_readExpression_82 : decode cX4_readExpression 82 = .ok (.pop, 1) := by decide +kernel
theorem dX4_readExpression_83 : decode cX4_readExpression 83 = .ok (.iinc 3 1, 3) := by decide +kernel
theorem dX4_readExpression_86 : decode cX4_readExpression 86 = .ok (.goto (-57), 3) := by decide +kernel
theorem dX4_readExpression_89 : decode cX4_readExpression 89 = .ok (.return_, 1) := by decide +kernel
def k_X4_readExpression_29 (X : CX) (T : List Dsc) (n1 n2 : Nat) (x0 : Nat) (x1 : Int32) (x2 : Int32) (r : ((Int32 × Mem) ⊕ ((Mem)))) : Prop := match r with
  | .inl s => Wp X cX4_readExpression RX4 5 T s.2 n1 n2 29 [(0, .ref x0), (1, .int x1), (2, .int x2), (3, .int s.1)] []
  | .inr e => Wp X cX4_readExpression RX4 5 T e n1 n2 89 [] []
set_option maxHeartbeats 4000000 in
set_option maxRecDepth 100000 in
theorem w_X4_readExpression_29 {E : List Dsc → Nat → Int32 → Int32 → Mem → Option Mem} {dE : Nat} {X : CX} {T : List Dsc} {n1 n2 : Nat} {x0 : Nat} {x1 : Int32} {x2 : Int32} {x3 : Int32} {μ : Mem} {r : ((Int32 × Mem) ⊕ ((Mem)))} (hX : XR X (dE + 2) n1 n2) (hdE : 10 ≤ dE) (hE : ∀ {T : List Dsc} {x0 : Nat} {x1 : Int32} {x2 : Int32} {μ : Mem} {r : Mem}, T[x0]? = some (.inl 3) → E T x0 x1 x2 μ = some r → Ct dE yX4_readExpression cX4_readExpression 5 none T μ [.ref x0, .int x1, .int x2] none r) (hx0 : T[x0]? = some (.inl 3)) (hf : f_X4_readExpression_29 E T x0 x1 x2 x3 μ = some r) (hk : k_X4_readExpression_29 X T n1 n2 x0 x1 x2 r) : Wp X cX4_readExpression RX4 5 T μ n1 n2 29 [(0, .ref x0), (1, .int x1), (2, .int x2), (3, .int x3)] [] := by
  unfold f_X4_readExpression_29 at hf
  refine Wp.iload_n (pc := 29) 3 rfl rfl dX4_readExpression_29 ?_
  refine Wp.sipush (pc := 30) (400 : Int32) (by decide) dX4_readExpression_30 ?_
  refine Wp.icmp_ge (pc := 33) 89 dX4_readExpression_33 (by decide) (fun hc1 => ?_) (fun hc1 => ?_)
  · rw [if_pos hc1] at hf
    refine Wp.lo' (lo' := []) [] rfl ?_
    cases hf
    exact hk
  · rw [if_neg hc1] at hf
    refine Wp.aload_n (pc := 36) 0 rfl rfl dX4_readExpression_36 ?_
    refine Wp.getI (pc := 37) hx0 fk_RX4_43 rfl dX4_readExpression_37 ?_
    refine Wp.if_ne (pc := 40) 89 dX4_readExpression_40 (by decide) (fun hc2 => ?_) (fun hc2 => ?_)
    · rw [if_neg hc2] at hf
      refine Wp.lo' (lo' := []) [] rfl ?_
      cases hf
      exact hk
    · rw [if_pos hc2] at hf
      refine Wp.iload_n (pc := 43) 1 rfl rfl dX4_readExpression_43 ?_
      refine Wp.aload_n (pc := 44) 0 rfl rfl dX4_readExpression_44 ?_
      refine Wp.getI (pc := 45) hx0 fk_RX4_46 rfl dX4_readExpression_45 ?_
      obtain ⟨c3, h4, hf⟩ := bnd hf
      refine Wp.callSi (pc := 48) (st := []) (as := [.int x1, .int (gI μ x0 2)]) (c_X4_joinsAt h4) ml_RX4_207 ms_X4_joinsAt mb_X4_joinsAt hX (by omega) (by decide) rfl (by simp) dX4_readExpression_48 rfl ?_
      refine Wp.if_eq (pc := 51) 89 dX4_readExpression_51 (by decide) (fun hc5 => ?_) (fun hc5 => ?_)
      · rw [if_pos hc5] at hf
        refine Wp.lo' (lo' := []) [] rfl ?_
        cases hf
        exact hk
      · rw [if_neg hc5] at hf
        refine Wp.aload_n (pc := 54) 0 rfl rfl dX4_readExpression_54 ?_
        refine Wp.getI (pc := 55) hx0 fk_RX4_46 rfl dX4_readExpression_55 ?_
        obtain ⟨v6, h7, hf⟩ := bnd hf
        refine Wp.nI' h7 ?_
        refine Wp.istore (pc := 58) (lo' := [(0, .ref x0), (1, .int x1), (2, .int x2), (3, .int x3), (4, .int v6)]) [1, 2, 3, 4, 0] rfl (by decide) dX4_readExpression_58 ?_
        refine Wp.aload_n (pc := 60) 0 rfl rfl dX4_readExpression_60 ?_
        refine Wp.iload (pc := 61) 4 rfl dX4_readExpression_61 ?_
        obtain ⟨c8, h9, hf⟩ := bnd hf
        refine Wp.callVi (pc := 63) (st := []) (as := [.int v6]) (c_X4_take hx0 h9) ml_RX4_114 mv_X4_take mb_X4_take hX (by omega) (by decide) rfl hx0 rfl (by simp) dX4_readExpression_63 rfl ?_
        refine Wp.pop (pc := 66) rfl dX4_readExpression_66 ?_
        refine Wp.aload_n (pc := 67) 0 rfl rfl dX4_readExpression_67 ?_
        refine Wp.iload_n (pc := 68) 1 rfl rfl dX4_readExpression_68 ?_
        refine Wp.iconst (pc := 69) (1 : Int32) (by decide) dX4_readExpression_69 ?_
        refine Wp.iadd (pc := 70) dX4_readExpression_70 ?_
        refine Wp.iload_n (pc := 71) 2 rfl rfl dX4_readExpression_71 ?_
        obtain ⟨c10, h11, hf⟩ := bnd hf
        refine Wp.callVv (pc := 72) (st := []) (as := [.int (x1 + (1 : Int32)), .int x2]) (hE hx0 h11) ml_RX4_148 mv_X4_readExpression mb_X4_readExpression hX (by omega) (by decide) rfl hx0 rfl (by simp) dX4_readExpression_72 rfl ?_
        refine Wp.aload_n (pc := 75) 0 rfl rfl dX4_readExpression_75 ?_
        refine Wp.iload (pc := 76) 4 rfl dX4_readExpression_76 ?_
        refine Wp.iconst (pc := 78) (0 : Int32) (by decide) dX4_readExpression_78 ?_
        obtain ⟨c12, h13, hf⟩ := bnd hf
        refine Wp.callVi (pc := 79) (st := []) (as := [.int v6, .int (0 : Int32)]) (c_X4_emit hx0 h13) ml_RX4_144 mv_X4_emit mb_X4_emit hX (by omega) (by decide) rfl hx0 rfl (by simp) dX4_readExpression_79 rfl ?_
        refine Wp.pop (pc := 82) rfl dX4_readExpression_82 ?_
        obtain ⟨v14, h15, hf⟩ := bnd hf
        refine Wp.iincN (pc := 83) (lo' := [(0, .ref x0), (1, .int x1), (2, .int x2), (3, .int v14)]) (1 : Int32) (by decide) h15 3 rfl [1, 2, 3, 0] rfl (by decide) dX4_readExpression_83 ?_
        refine Wp.goto (pc := 86) 29 dX4_readExpression_86 (by decide) ?_
        cases hf
        exact hk
theorem wl_X4_readExpression_29 {E : List Dsc → Nat → Int32 → Int32 → Mem → Option Mem} {dE : Nat} {X : CX} {T : List Dsc} {n1 n2 : Nat} {x0 : Nat} {x1 : Int32} {x2 : Int32} {x3 : Int32} {μ : Mem} {e : ((Mem))} (hX : XR X (dE + 2) n1 n2) (hdE : 10 ≤ dE) (hE : ∀ {T : List Dsc} {x0 : Nat} {x1 : Int32} {x2 : Int32} {μ : Mem} {r : Mem}, T[x0]? = some (.inl 3) → E T x0 x1 x2 μ = some r → Ct dE yX4_readExpression cX4_readExpression 5 none T μ [.ref x0, .int x1, .int x2] none r) (hx0 : T[x0]? = some (.inl 3)) (h : loop (g_X4_readExpression_29 E T x0 x1 x2) (x3, μ) = some e) (he : Wp X cX4_readExpression RX4 5 T e n1 n2 89 [] []) : Wp X cX4_readExpression RX4 5 T μ n1 n2 29 [(0, .ref x0), (1, .int x1), (2, .int x2), (3, .int x3)] [] :=
  loop_ok (K := k_X4_readExpression_29 X T n1 n2 x0 x1 x2) (fun s r hf hk => w_X4_readExpression_29 hX hdE hE hx0 hf hk) h he
set_option maxHeartbeats 4000000 in
set_option maxRecDepth 100000 in
theorem w_X4_readExpression_89 {E : List Dsc → Nat → Int32 → Int32 → Mem → Option Mem} {dE : Nat} {X : CX} {T : List Dsc} {n1 n2 : Nat} {μ : Mem} {r : Mem} (hX : XR X (dE + 2) n1 n2) (hdE : 10 ≤ dE) (hE : ∀ {T : List Dsc} {x0 : Nat} {x1 : Int32} {x2 : Int32} {μ : Mem} {r : Mem}, T[x0]? = some (.inl 3) → E T x0 x1 x2 μ = some r → Ct dE yX4_readExpression cX4_readExpression 5 none T μ [.ref x0, .int x1, .int x2] none r) (hf : f_X4_readExpression_89 E T μ = some r) (hk : FnV X cX4_readExpression RX4 5 T n1 n2 r) : Wp X cX4_readExpression RX4 5 T μ n1 n2 89 [] [] := by
  unfold f_X4_readExpression_89 at hf
  cases hf
  exact hk _ _ dX4_readExpression_89
set_option maxHeartbeats 4000000 in
set_option maxRecDepth 100000 in
theorem w_X4_readExpression {E : List Dsc → Nat → Int32 → Int32 → Mem → Option Mem} {dE : Nat} {X : CX} {T : List Dsc} {n1 n2 : Nat} {x0 : Nat} {x1 : Int32} {x2 : Int32} {μ : Mem} {r : Mem} (hX : XR X (dE + 2) n1 n2) (hdE : 10 ≤ dE) (hE : ∀ {T : List Dsc} {x0 : Nat} {x1 : Int32} {x2 : Int32} {μ : Mem} {r : Mem}, T[x0]? = some (.inl 3) → E T x0 x1 x2 μ = some r → Ct dE yX4_readExpression cX4_readExpression 5 none T μ [.ref x0, .int x1, .int x2] none r) (hx0 : T[x0]? = some (.inl 3)) (hf : B_X4_readExpression E T x0 x1 x2 μ = some r) (hk : FnV X cX4_readExpression RX4 5 T n1 n2 r) : Wp X cX4_readExpression RX4 5 T μ n1 n2 0 [(0, .ref x0), (1, .int x1), (2, .int x2)] [] := by
  unfold B_X4_readExpression at hf
  refine Wp.aload_n (pc := 0) 0 rfl rfl dX4_readExpression_0 ?_
  refine Wp.getI (pc := 1) hx0 fk_RX4_43 rfl dX4_readExpression_1 ?_
  refine Wp.if_eq (pc := 4) 8 dX4_readExpression_4 (by decide) (fun hc1 => ?_) (fun hc1 => ?_)
  · rw [if_pos hc1] at hf
    refine Wp.iload_n (pc := 8) 1 rfl rfl dX4_readExpression_8 ?_
    refine Wp.iconst (pc := 9) (2 : Int32) (by decide) dX4_readExpression_9 ?_
    refine Wp.icmp_lt (pc := 10) 19 dX4_readExpression_10 (by decide) (fun hc2 => ?_) (fun hc2 => ?_)
    · rw [if_pos hc2] at hf
      refine Wp.aload_n (pc := 19) 0 rfl rfl dX4_readExpression_19 ?_
      refine Wp.iload_n (pc := 20) 1 rfl rfl dX4_readExpression_20 ?_
      refine Wp.iconst (pc := 21) (1 : Int32) (by decide) dX4_readExpression_21 ?_
      refine Wp.iadd (pc := 22) dX4_readExpression_22 ?_
      refine Wp.iload_n (pc := 23) 2 rfl rfl dX4_readExpression_23 ?_
      obtain ⟨c3, h4, hf⟩ := bnd hf
      refine Wp.callVv (pc := 24) (st := []) (as := [.int (x1 + (1 : Int32)), .int x2]) (hE hx0 h4) ml_RX4_148 mv_X4_readExpression mb_X4_readExpression hX (by omega) (by decide) rfl hx0 rfl (by simp) dX4_readExpression_24 rfl ?_
      refine Wp.iconst (pc := 27) (0 : Int32) (by decide) dX4_readExpression_27 ?_
      refine Wp.istore_n (pc := 28) (lo' := [(0, .ref x0), (1, .int x1), (2, .int x2), (3, .int (0 : Int32))]) [1, 2, 3, 0] rfl (by decide) rfl dX4_readExpression_28 ?_
      obtain ⟨e5, h6, hf⟩ := bnd hf
      refine wl_X4_readExpression_29 hX hdE hE hx0 h6 ?_
      exact w_X4_readExpression_89 hX hdE hE hf hk
    · rw [if_neg hc2] at hf
      refine Wp.aload_n (pc := 13) 0 rfl rfl dX4_readExpression_13 ?_
      refine Wp.iload_n (pc := 14) 2 rfl rfl dX4_readExpression_14 ?_
      obtain ⟨c7, h8, hf⟩ := bnd hf
      refine Wp.callVv (pc := 15) (st := []) (as := [.int x2]) (c_X4_readUnit hdE hE hx0 h8) ml_RX4_204 mv_X4_readUnit mb_X4_readUnit hX (by omega) (by decide) rfl hx0 rfl (by simp) dX4_readExpression_15 rfl ?_
      cases hf
      exact hk _ _ dX4_readExpression_18
  · rw [if_neg hc1] at hf
    cases hf
    exact hk _ _ dX4_readExpression_7
theorem b_X4_readExpression {E : List Dsc → Nat → Int32 → Int32 → Mem → Option Mem} {dE : Nat} {T : List Dsc} {x0 : Nat} {x1 : Int32} {x2 : Int32} {μ : Mem} {r : Mem} (hdE : 10 ≤ dE) (hE : ∀ {T : List Dsc} {x0 : Nat} {x1 : Int32} {x2 : Int32} {μ : Mem} {r : Mem}, T[x0]? = some (.inl 3) → E T x0 x1 x2 μ = some r → Ct dE yX4_readExpression cX4_readExpression 5 none T μ [.ref x0, .int x1, .int x2] none r) (hx0 : T[x0]? = some (.inl 3)) (hf : B_X4_readExpression E T x0 x1 x2 μ = some r) : Ct (dE + 2) yX4_readExpression cX4_readExpression 5 none T μ [.ref x0, .int x1, .int x2] none r := Ct.ofV (by decide +kernel) (Nat.le_of_ble_eq_true rfl) (fun X hX hk => w_X4_readExpression hX hdE hE hx0 hf hk)
theorem c_X4_readExpression : ∀ {n : Nat}, ∀ {T : List Dsc} {x0 : Nat} {x1 : Int32} {x2 : Int32} {μ : Mem} {r : Mem}, T[x0]? = some (.inl 3) → F_X4_readExpression n T x0 x1 x2 μ = some r → Ct (20 + 2 * n) yX4_readExpression cX4_readExpression 5 none T μ [.ref x0, .int x1, .int x2] none r := by
  intro n
  induction n with
  | zero => intro T x0 x1 x2 μ r hx0 hf; cases hf
  | succ n ih => intro T x0 x1 x2 μ r hx0 hf; exact b_X4_readExpression (E := F_X4_readExpression n) (dE := 20 + 2 * n) (by omega) ih hx0 hf
theorem dX4_readRelation_0 : decode cX4_readRelation 0 = .ok (.iconst 0, 1) := by decide +kernel
theorem dX4_readRelation_1 : decode cX4_readRelation 1 = .ok (.istore_n 1, 1) := by decide +kernel
theorem dX4_readRelation_2 : decode cX4_readRelation 2 = .ok (.iconst 0, 1) := by decide +kernel
theorem dX4_readRelation_3 : decode cX4_readRelation 3 = .ok (.istore_n 2, 1) := by decide +kernel
theorem dX4_readRelation_4 : decode cX4_readRelation 4 = .ok (.iload_n 2, 1) := by decide +kernel
theorem dX4_readRelation_5 : decode cX4_readRelation 5 = .ok (.sipush 400, 3) := by decide +kernel
theorem dX4_readRelation_8 : decode cX4_readRelation 8 = .ok (.if_icmp .ge 42, 3) := by decide +kernel
theorem dX4_readRelation_11 : decode cX4_readRelation 11 = .ok (.aload_n 0, 1) := by decide +kernel
theorem dX4_readRelation_12 : decode cX4_readRelation 12 = .ok (.getfield 43, 3) := by decide +kernel
theorem dX4_readRelation_15 : decode cX4_readRelation 15 = .ok (.ifCond .ne 35, 3) := by decide +kernel
theorem dX4_readRelation_18 : decode cX4_readRelation 18 = .ok (.aload_n 0, 1) := by decide +kernel
theorem dX4_readRelation_19 : decode cX4_readRelation 19 = .ok (.getfield 46, 3) := by decide +kernel
theorem dX4_readRelation_22 : decode cX4_readRelation 22 = .ok (.bipush 26, 2) := by decide +kernel
theorem dX4_readRelation_24 : decode cX4_readRelation 24 = .ok (.if_icmp .ne 26, 3) := by decide +kernel
theorem dX4_readRelation_27 : decode cX4_readRelation 27 = .ok (.aload_n 0, 1) := by decide +kernel
theorem dX4_readRelation_28 : decode cX4_readRelation 28 = .ok (.bipush 26, 2) := by decide +kernel
theorem dX4_readRelation_30 : decode cX4_readRelation 30 = .ok (.invokevirtual 114, 3) := by decide +kernel
theorem dX4_readRelation_33 : decode cX4_readRelation 33 = .ok (.pop, 1) := by decide +kernel
theorem dX4_readRelation_34 : decode cX4_readRelation 34 = .ok (.iload_n 1, 1) := by decide +kernel
theorem dX4_readRelation_35 : decode cX4_readRelation 35 = .ok (.ifCond .ne 7, 3) := by decide +kernel
theorem dX4_readRelation_38 : decode cX4_readRelation 38 = .ok (.iconst 1, 1) := by decide +kernel
theorem dX4_readRelation_39 : decode cX4_readRelation 39 = .ok (.goto 4, 3) := by decide +kernel
theorem dX4_readRelation_42 : decode cX4_readRelation 42 = .ok (.iconst 0, 1) := by decide +kernel
theorem dX4_readRelation_43 : decode cX4_readRelation 43 = .ok (.istore_n 1, 1) := by decide +kernel
theorem dX4_readRelation_44 : decode cX4_readRelation 44 = .ok (.iinc 2 1, 3) := by decide +kernel
theorem dX4_readRelation_47 : decode cX4_readRelation 47 = .ok (.goto (-43), 3) := by decide +kernel
theorem dX4_readRelation_50 : decode cX4_readRelation 50 = .ok (.aload_n 0, 1) := by decide +kernel
theorem dX4_readRelation_51 : decode cX4_readRelation 51 = .ok (.iconst 0, 1) := by decide +kernel
theorem dX4_readRelation_52 : decode cX4_readRelation 52 = .ok (.iconst 0, 1) := by decide +kernel
theorem dX4_readRelation_53 : decode cX4_readRelation 53 = .ok (.invokevirtual 148, 3) := by decide +kernel
theorem dX4_readRelation_56 : decode cX4_readRelation 56 = .ok (.aload_n 0, 1) := by decide +kernel
theorem dX4_readRelation_57 : decode cX4_readRelation 57 = .ok (.getfield 46, 3) := by decide +kernel
theorem dX4_readRelation_60 : decode cX4_readRelation 60 = .ok (.istore_n 2, 1) := by decide +kernel
theorem dX4_readRelation_61 : decode cX4_readRelation 61 = .ok (.iload_n 2, 1) := by decide +kernel
theorem dX4_readRelation_62 : decode cX4_readRelation 62 = .ok (.bipush 11, 2) := by decide +kernel
theorem dX4_readRelation_64 : decode cX4_readRelation 64 = .ok (.if_icmp .lt 9, 3) := by decide +kernel
theorem dX4_readRelation_67 : decode cX4_readRelation 67 = .ok (.iload_n 2, 1) := by decide +kernel
theorem dX4_readRelation_68 : decode cX4_readRelation 68 = .ok (.bipush 14, 2) := by decide +kernel
theorem dX4_readRelation_70 : decode cX4_readRelation 70 = .ok (.if_icmp .le 8, 3) := by decide +kernel
theorem dX4_readRelation_73 : decode cX4_readRelation 73 = .ok (.aload_n 0, 1) := by decide +kernel
theorem dX4_readRelation_74 : decode cX4_readRelation 74 = .ok (.iconst 1, 1) := by decide +kernel
theorem dX4_readRelation_75 : decode cX4_readRelation 75 = .ok (.invokevirtual 67, 3) := by decide +kernel
theorem dX4_readRelation_78 : decode cX4_readRelation 78 = .ok (.aload_n 0, 1) := by decide +kernel
theorem dX4_readRelation_79 : decode cX4_readRelation 79 = .ok (.iload_n 2, 1) := by decide +kernel
theorem dX4_readRelation_80 : decode cX4_readRelation 80 = .ok (.invokevirtual 114, 3) := by decide +kernel
theorem dX4_readRelation_83 : decode cX4_readRelation 83 = .ok (.pop, 1) := by decide +kernel
theorem dX4_readRelation_84 : decode cX4_readRelation 84 = .ok (.aload_n 0, 1) := by decide +kernel
theorem dX4_readRelation_85 : decode cX4_readRelation 85 = .ok (.iconst 0, 1) := by decide +kernel
theorem dX4_readRelation_86 : decode cX4_readRelation 86 = .ok (.iconst 0, 1) := by decide +kernel
theorem dX4_readRelation_87 : decode cX4_readRelation 87 = .ok (.invokevirtual 148, 3) := by decide +kernel
theorem dX4_readRelation_90 : decode cX4_readRelation 90 = .ok (.aload_n 0, 1) := by decide +kernel
theorem dX4_readRelation_91 : decode cX4_readRelation 91 = .ok (.iload_n 2, 1) := by decide +kernel
theorem dX4_readRelation_92 : decode cX4_readRelation 92 = .ok (.iconst 0, 1) := by decide +kernel
theorem dX4_readRelation_93 : decode cX4_readRelation 93 = .ok (.invokevirtual 144, 3) := by decide +kernel
theorem dX4_readRelation_96 : decode cX4_readRelation 96 = .ok (.pop, 1) := by decide +kernel
theorem dX4_readRelation_97 : decode cX4_readRelation 97 = .ok (.iload_n 1, 1) := by decide +kernel
theorem dX4_readRelation_98 : decode cX4_readRelation 98 = .ok (.ifCond .eq 11, 3) := by decide +kernel
theorem dX4_readRelation_101 : decode cX4_readRelation 101 = .ok (.aload_n 0, 1) := by decide +kernel
theorem dX4_readRelation_102 : decode cX4_readRelation 102 = .ok (.bipush 26, 2) := by decide +kernel
theorem dX4_readRelation_104 : decode cX4_readRelation 104 = .ok (.iconst 0, 1) := by decide +kernel
theorem dX4_readRelation_105 : decode cX4_readRelation 105 = .ok (.invokevirtual 144, 3) := by decide +kernel
theorem dX4_readRelation_108 : decode cX4_readRelation 108 = .ok (.pop, 1) := by decide +kernel
theorem dX4_readRelation_109 : decode cX4_readRelation 109 = .ok (.return_, 1) := by decide +kernel
def k_X4_readRelation_4 (X : CX) (T : List Dsc) (n1 n2 : Nat) (x0 : Nat) (r : ((Int32 × Int32 × Mem) ⊕ ((Int32 × Mem)))) : Prop := match r with
  | .inl s => Wp X cX4_readRelation RX4 3 T s.2.2 n1 n2 4 [(0, .ref x0), (1, .int s.1), (2, .int s.2.1)] []
  | .inr e => Wp X cX4_readRelation RX4 3 T e.2 n1 n2 50 [(0, .ref x0), (1, .int e.1)] []
set_option maxHeartbeats 4000000 in
set_option maxRecDepth 100000 in
theorem w_X4_readRelation_43 {X : CX} {T : List Dsc} {n1 n2 : Nat} {x0 : Nat} {x2 : Int32} {s0 : Int32} {μ : Mem} {r : ((Int32 × Int32 × Mem) ⊕ ((Int32 × Mem)))} (hX : XR X 71 n1 n2) (hx0 : T[x0]? = some (.inl 3)) (hf : f_X4_readRelation_43 T x0 x2 s0 μ = some r) (hk : k_X4_readRelation_4 X T n1 n2 x0 r) : Wp X cX4_readRelation RX4 3 T μ n1 n2 43 [(0, .ref x0), (2, .int x2)] [.int s0] := by
  unfold f_X4_readRelation_43 at hf
  refine Wp.istore_n (pc := 43) (lo' := [(0, .ref x0), (1, .int s0), (2, .int x2)]) [1, 0, 2] rfl (by decide) rfl dX4_readRelation_43 ?_
  obtain ⟨v1, h2, hf⟩ := bnd hf
  refine Wp.iincN (pc := 44) (lo' := [(0, .ref x0), (1, .int s0), (2, .int v1)]) (1 : Int32) (by decide) h2 2 rfl [1, 2, 0] rfl (by decide) dX4_readRelation_44 ?_
  refine Wp.goto (pc := 47) 4 dX4_readRelation_47 (by decide) ?_
  cases hf
  exact hk
set_option maxHeartbeats 4000000 in
set_option maxRecDepth 100000 in
theorem w_X4_readRelation_4 {X : CX} {T : List Dsc} {n1 n2 : Nat} {x0 : Nat} {x1 : Int32} {x2 : Int32} {μ : Mem} {r : ((Int32 × Int32 × Mem) ⊕ ((Int32 × Mem)))} (hX : XR X 71 n1 n2) (hx0 : T[x0]? = some (.inl 3)) (hf : f_X4_readRelation_4 T x0 x1 x2 μ = some r) (hk : k_X4_readRelation_4 X T n1 n2 x0 r) : Wp X cX4_readRelation RX4 3 T μ n1 n2 4 [(0, .ref x0), (1, .int x1), (2, .int x2)] [] := by
  unfold f_X4_readRelation_4 at hf
  refine Wp.iload_n (pc := 4) 2 rfl rfl dX4_readRelation_4 ?_
  refine Wp.sipush (pc := 5) (400 : Int32) (by decide) dX4_readRelation_5 ?_
  refine Wp.icmp_ge (pc := 8) 50 dX4_readRelation_8 (by decide) (fun hc1 => ?_) (fun hc1 => ?_)
  · rw [if_pos hc1] at hf
    refine Wp.lo' (lo' := [(0, .ref x0), (1, .int x1)]) [0, 1] rfl ?_
    cases hf
    exact hk
  · rw [if_neg hc1] at hf
    refine Wp.aload_n (pc := 11) 0 rfl rfl dX4_readRelation_11 ?_
    refine Wp.getI (pc := 12) hx0 fk_RX4_43 rfl dX4_readRelation_12 ?_
    refine Wp.if_ne (pc := 15) 50 dX4_readRelation_15 (by decide) (fun hc2 => ?_) (fun hc2 => ?_)
    · rw [if_neg hc2] at hf
      refine Wp.lo' (lo' := [(0, .ref x0), (1, .int x1)]) [0, 1] rfl ?_
      cases hf
      exact hk
    · rw [if_pos hc2] at hf
      refine Wp.aload_n (pc := 18) 0 rfl rfl dX4_readRelation_18 ?_
      refine Wp.getI (pc := 19) hx0 fk_RX4_46 rfl dX4_readRelation_19 ?_
      refine Wp.bipush (pc := 22) (26 : Int32) (by decide) dX4_readRelation_22 ?_
      refine Wp.icmp_ne (pc := 24) 50 dX4_readRelation_24 (by decide) (fun hc3 => ?_) (fun hc3 => ?_)
      · rw [if_neg hc3] at hf
        refine Wp.lo' (lo' := [(0, .ref x0), (1, .int x1)]) [0, 1] rfl ?_
        cases hf
        exact hk
      · rw [if_pos hc3] at hf
        refine Wp.aload_n (pc := 27) 0 rfl rfl dX4_readRelation_27 ?_
        refine Wp.bipush (pc := 28) (26 : Int32) (by decide) dX4_readRelation_28 ?_
        obtain ⟨c4, h5, hf⟩ := bnd hf
        refine Wp.callVi (pc := 30) (st := []) (as := [.int (26 : Int32)]) (c_X4_take hx0 h5) ml_RX4_114 mv_X4_take mb_X4_take hX (Nat.le_of_ble_eq_true rfl) (by decide) rfl hx0 rfl (by simp) dX4_readRelation_30 rfl ?_
        refine Wp.pop (pc := 33) rfl dX4_readRelation_33 ?_
        refine Wp.iload_n (pc := 34) 1 rfl rfl dX4_readRelation_34 ?_
        refine Wp.if_ne (pc := 35) 42 dX4_readRelation_35 (by decide) (fun hc6 => ?_) (fun hc6 => ?_)
        · rw [if_neg hc6] at hf
          refine Wp.iconst (pc := 42) (0 : Int32) (by decide) dX4_readRelation_42 ?_
          refine Wp.lo' (lo' := [(0, .ref x0), (2, .int x2)]) [0, 2] rfl ?_
          exact w_X4_readRelation_43 hX hx0 hf hk
        · rw [if_pos hc6] at hf
          refine Wp.iconst (pc := 38) (1 : Int32) (by decide) dX4_readRelation_38 ?_
          refine Wp.goto (pc := 39) 43 dX4_readRelation_39 (by decide) ?_
          refine Wp.lo' (lo' := [(0, .ref x0), (2, .int x2)]) [0, 2] rfl ?_
          exact w_X4_readRelation_43 hX hx0 hf hk
theorem wl_X4_readRelation_4 {X : CX} {T : List Dsc} {n1 n2 : Nat} {x0 : Nat} {x1 : Int32} {x2 : Int32} {μ : Mem} {e : ((Int32 × Mem))} (hX : XR X 71 n1 n2) (hx0 : T[x0]? = some (.inl 3)) (h : loop (g_X4_readRelation_4 T x0) (x1, x2, μ) = some e) (he : Wp X cX4_readRelation RX4 3 T e.2 n1 n2 50 [(0, .ref x0), (1, .int e.1)] []) : Wp X cX4_readRelation RX4 3 T μ n1 n2 4 [(0, .ref x0), (1, .int x1), (2, .int x2)] [] :=
  loop_ok (K := k_X4_readRelation_4 X T n1 n2 x0) (fun s r hf hk => w_X4_readRelation_4 hX hx0 hf hk) h he
set_option maxHeartbeats 4000000 in
set_option maxRecDepth 100000 in
theorem w_X4_readRelation_109 {X : CX} {T : List Dsc} {n1 n2 : Nat} {μ : Mem} {r : Mem} (hX : XR X 71 n1 n2) (hf : f_X4_readRelation_109 T μ = some r) (hk : FnV X cX4_readRelation RX4 3 T n1 n2 r) : Wp X cX4_readRelation RX4 3 T μ n1 n2 109 [] [] := by
  unfold f_X4_readRelation_109 at hf
  cases hf
  exact hk _ _ dX4_readRelation_109
set_option maxHeartbeats 4000000 in
set_option maxRecDepth 100000 in
theorem w_X4_readRelation_78 {X : CX} {T : List Dsc} {n1 n2 : Nat} {x0 : Nat} {x1 : Int32} {x2 : Int32} {μ : Mem} {r : Mem} (hX : XR X 71 n1 n2) (hx0 : T[x0]? = some (.inl 3)) (hf : f_X4_readRelation_78 T x0 x1 x2 μ = some r) (hk : FnV X cX4_readRelation RX4 3 T n1 n2 r) : Wp X cX4_readRelation RX4 3 T μ n1 n2 78 [(0, .ref x0), (1, .int x1), (2, .int x2)] [] := by
  unfold f_X4_readRelation_78 at hf
  refine Wp.aload_n (pc := 78) 0 rfl rfl dX4_readRelation_78 ?_
  refine Wp.iload_n (pc := 79) 2 rfl rfl dX4_readRelation_79 ?_
  obtain ⟨c1, h2, hf⟩ := bnd hf
  refine Wp.callVi (pc := 80) (st := []) (as := [.int x2]) (c_X4_take hx0 h2) ml_RX4_114 mv_X4_take mb_X4_take hX (Nat.le_of_ble_eq_true rfl) (by decide) rfl hx0 rfl (by simp) dX4_readRelation_80 rfl ?_
  refine Wp.pop (pc := 83) rfl dX4_readRelation_83 ?_
  refine Wp.aload_n (pc := 84) 0 rfl rfl dX4_readRelation_84 ?_
  refine Wp.iconst (pc := 85) (0 : Int32) (by decide) dX4_readRelation_85 ?_
  refine Wp.iconst (pc := 86) (0 : Int32) (by decide) dX4_readRelation_86 ?_
  obtain ⟨c3, h4, hf⟩ := bnd hf
  refine Wp.callVv (pc := 87) (st := []) (as := [.int (0 : Int32), .int (0 : Int32)]) (c_X4_readExpression hx0 h4) ml_RX4_148 mv_X4_readExpression mb_X4_readExpression hX (Nat.le_of_ble_eq_true rfl) (by decide) rfl hx0 rfl (by simp) dX4_readRelation_87 rfl ?_
  refine Wp.aload_n (pc := 90) 0 rfl rfl dX4_readRelation_90 ?_
  refine Wp.iload_n (pc := 91) 2 rfl rfl dX4_readRelation_91 ?_
  refine Wp.iconst (pc := 92) (0 : Int32) (by decide) dX4_readRelation_92 ?_
  obtain ⟨c5, h6, hf⟩ := bnd hf
  refine Wp.callVi (pc := 93) (st := []) (as := [.int x2, .int (0 : Int32)]) (c_X4_emit hx0 h6) ml_RX4_144 mv_X4_emit mb_X4_emit hX (Nat.le_of_ble_eq_true rfl) (by decide) rfl hx0 rfl (by simp) dX4_readRelation_93 rfl ?_
  refine Wp.pop (pc := 96) rfl dX4_readRelation_96 ?_
  refine Wp.iload_n (pc := 97) 1 rfl rfl dX4_readRelation_97 ?_
  refine Wp.if_eq (pc := 98) 109 dX4_readRelation_98 (by decide) (fun hc7 => ?_) (fun hc7 => ?_)
  · rw [if_pos hc7] at hf
    refine Wp.lo' (lo' := []) [] rfl ?_
    exact w_X4_readRelation_109 hX hf hk
  · rw [if_neg hc7] at hf
    refine Wp.aload_n (pc := 101) 0 rfl rfl dX4_readRelation_101 ?_
    refine Wp.bipush (pc := 102) (26 : Int32) (by decide) dX4_readRelation_102 ?_
    refine Wp.iconst (pc := 104) (0 : Int32) (by decide) dX4_readRelation_104 ?_
    obtain ⟨c8, h9, hf⟩ := bnd hf
    refine Wp.callVi (pc := 105) (st := []) (as := [.int (26 : Int32), .int (0 : Int32)]) (c_X4_emit hx0 h9) ml_RX4_144 mv_X4_emit mb_X4_emit hX (Nat.le_of_ble_eq_true rfl) (by decide) rfl hx0 rfl (by simp) dX4_readRelation_105 rfl ?_
    refine Wp.pop (pc := 108) rfl dX4_readRelation_108 ?_
    refine Wp.lo' (lo' := []) [] rfl ?_
    exact w_X4_readRelation_109 hX hf hk
set_option maxHeartbeats 4000000 in
set_option maxRecDepth 100000 in
theorem w_X4_readRelation_73 {X : CX} {T : List Dsc} {n1 n2 : Nat} {x0 : Nat} {x1 : Int32} {x2 : Int32} {μ : Mem} {r : Mem} (hX : XR X 71 n1 n2) (hx0 : T[x0]? = some (.inl 3)) (hf : f_X4_readRelation_73 T x0 x1 x2 μ = some r) (hk : FnV X cX4_readRelation RX4 3 T n1 n2 r) : Wp X cX4_readRelation RX4 3 T μ n1 n2 73 [(0, .ref x0), (1, .int x1), (2, .int x2)] [] := by
  unfold f_X4_readRelation_73 at hf
  refine Wp.aload_n (pc := 73) 0 rfl rfl dX4_readRelation_73 ?_
  refine Wp.iconst (pc := 74) (1 : Int32) (by decide) dX4_readRelation_74 ?_
  obtain ⟨c1, h2, hf⟩ := bnd hf
  refine Wp.callVv (pc := 75) (st := []) (as := [.int (1 : Int32)]) (c_X4_fail hx0 h2) ml_RX4_67 mv_X4_fail mb_X4_fail hX (Nat.le_of_ble_eq_true rfl) (by decide) rfl hx0 rfl (by simp) dX4_readRelation_75 rfl ?_
  exact w_X4_readRelation_78 hX hx0 hf hk
set_option maxHeartbeats 4000000 in
set_option maxRecDepth 100000 in
theorem w_X4_readRelation_50 {X : CX} {T : List Dsc} {n1 n2 : Nat} {x0 : Nat} {x1 : Int32} {μ : Mem} {r : Mem} (hX : XR X 71 n1 n2) (hx0 : T[x0]? = some (.inl 3)) (hf : f_X4_readRelation_50 T x0 x1 μ = some r) (hk : FnV X cX4_readRelation RX4 3 T n1 n2 r) : Wp X cX4_readRelation RX4 3 T μ n1 n2 50 [(0, .ref x0), (1, .int x1)] [] := by
  unfold f_X4_readRelation_50 at hf
  refine Wp.aload_n (pc := 50) 0 rfl rfl dX4_readRelation_50 ?_
  refine Wp.iconst (pc := 51) (0 : Int32) (by decide) dX4_readRelation_51 ?_
  refine Wp.iconst (pc := 52) (0 : Int32) (by decide) dX4_readRelation_52 ?_
  obtain ⟨c1, h2, hf⟩ := bnd hf
  refine Wp.callVv (pc := 53) (st := []) (as := [.int (0 : Int32), .int (0 : Int32)]) (c_X4_readExpression hx0 h2) ml_RX4_148 mv_X4_readExpression mb_X4_readExpression hX (Nat.le_of_ble_eq_true rfl) (by decide) rfl hx0 rfl (by simp) dX4_readRelation_53 rfl ?_
  refine Wp.aload_n (pc := 56) 0 rfl rfl dX4_readRelation_56 ?_
  refine Wp.getI (pc := 57) hx0 fk_RX4_46 rfl dX4_readRelation_57 ?_
  obtain ⟨v3, h4, hf⟩ := bnd hf
  refine Wp.nI' h4 ?_
  refine Wp.istore_n (pc := 60) (lo' := [(0, .ref x0), (1, .int x1), (2, .int v3)]) [1, 2, 0] rfl (by decide) rfl dX4_readRelation_60 ?_
  refine Wp.iload_n (pc := 61) 2 rfl rfl dX4_readRelation_61 ?_
  refine Wp.bipush (pc := 62) (11 : Int32) (by decide) dX4_readRelation_62 ?_
  refine Wp.icmp_lt (pc := 64) 73 dX4_readRelation_64 (by decide) (fun hc5 => ?_) (fun hc5 => ?_)
  · rw [if_pos hc5] at hf
    exact w_X4_readRelation_73 hX hx0 hf hk
  · rw [if_neg hc5] at hf
    refine Wp.iload_n (pc := 67) 2 rfl rfl dX4_readRelation_67 ?_
    refine Wp.bipush (pc := 68) (14 : Int32) (by decide) dX4_readRelation_68 ?_
    refine Wp.icmp_le (pc := 70) 78 dX4_readRelation_70 (by decide) (fun hc6 => ?_) (fun hc6 => ?_)
    · rw [if_pos hc6] at hf
      exact w_X4_readRelation_78 hX hx0 hf hk
    · rw [if_neg hc6] at hf
      exact w_X4_readRelation_73 hX hx0 hf hk
set_option maxHeartbeats 4000000 in
set_option maxRecDepth 100000 in
theorem w_X4_readRelation {X : CX} {T : List Dsc} {n1 n2 : Nat} {x0 : Nat} {μ : Mem} {r : Mem} (hX : XR X 71 n1 n2) (hx0 : T[x0]? = some (.inl 3)) (hf : F_X4_readRelation T x0 μ = some r) (hk : FnV X cX4_readRelation RX4 3 T n1 n2 r) : Wp X cX4_readRelation RX4 3 T μ n1 n2 0 [(0, .ref x0)] [] := by
  unfold F_X4_readRelation at hf
  refine Wp.iconst (pc := 0) (0 : Int32) (by decide) dX4_readRelation_0 ?_
  refine Wp.istore_n (pc := 1) (lo' := [(0, .ref x0), (1, .int (0 : Int32))]) [1, 0] rfl (by decide) rfl dX4_readRelation_1 ?_
  refine Wp.iconst (pc := 2) (0 : Int32) (by decide) dX4_readRelation_2 ?_
  refine Wp.istore_n (pc := 3) (lo' := [(0, .ref x0), (1, .int (0 : Int32)), (2, .int (0 : Int32))]) [1, 2, 0] rfl (by decide) rfl dX4_readRelation_3 ?_
  obtain ⟨e1, h2, hf⟩ := bnd hf
  refine wl_X4_readRelation_4 hX hx0 h2 ?_
  exact w_X4_readRelation_50 hX hx0 hf hk
theorem c_X4_readRelation {T : List Dsc} {x0 : Nat} {μ : Mem} {r : Mem} (hx0 : T[x0]? = some (.inl 3)) (hf : F_X4_readRelation T x0 μ = some r) : Ct 71 yX4_readRelation cX4_readRelation 3 none T μ [.ref x0] none r := Ct.ofV (by decide +kernel) (Nat.le_of_ble_eq_true rfl) (fun X hX hk => w_X4_readRelation hX hx0 hf hk)
theorem dX4_land_0 : decode cX4_land 0 = .ok (.iload_n 1, 1) := by decide +kernel
theorem dX4_land_1 : decode cX4_land 1 = .ok (.iconst (-1), 1) := by decide +kernel
theorem dX4_land_2 : decode cX4_land 2 = .ok (.if_icmp .eq 35, 3) := by decide +kernel
theorem dX4_land_5 : decode cX4_land 5 = .ok (.aload_n 0, 1) := by decide +kernel
theorem dX4_land_6 : decode cX4_land 6 = .ok (.getfield 35, 3) := by decide +kernel
theorem dX4_land_9 : decode cX4_land 9 = .ok (.getfield 211, 3) := by decide +kernel
theorem dX4_land_12 : decode cX4_land 12 = .ok (.iload_n 1, 1) := by decide +kernel
theorem dX4_land_13 : decode cX4_land 13 = .ok (.aload_n 0, 1) := by decide +kernel
theorem dX4_land_14 : decode cX4_land 14 = .ok (.getfield 35, 3) := by decide +kernel
theorem dX4_land_17 : decode cX4_land 17 = .ok (.getfield 138, 3) := by decide +kernel
theorem dX4_land_20 : decode cX4_land 20 = .ok (.bipush 6, 2) := by decide +kernel
theorem dX4_land_22 : decode cX4_land 22 = .ok (.ishl, 1) := by decide +kernel
theorem dX4_land_23 : decode cX4_land 23 = .ok (.aload_n 0, 1) := by decide +kernel
theorem dX4_land_24 : decode cX4_land 24 = .ok (.getfield 35, 3) := by decide +kernel
theorem dX4_land_27 : decode cX4_land 27 = .ok (.getfield 211, 3) := by decide +kernel
theorem dX4_land_30 : decode cX4_land 30 = .ok (.iload_n 1, 1) := by decide +kernel
theorem dX4_land_31 : decode cX4_land 31 = .ok (.iaload, 1) := by decide +kernel
theorem dX4_land_32 : decode cX4_land 32 = .ok (.bipush 63, 2) := by decide +kernel
theorem dX4_land_34 : decode cX4_land 34 = .ok (.iand, 1) := by decide +kernel
theorem dX4_land_35 : decode cX4_land 35 = .ok (.ior, 1) := by decide +kernel
theorem dX4_land_36 : decode cX4_land 36 = .ok (.iastore, 1) := by decide +kernel
theorem dX4_land_37 : decode cX4_land 37 = .ok (.return_, 1) := by decide +kernel
set_option maxHeartbeats 4000000 in
set_option maxRecDepth 100000 in
theorem w_X4_land_37 {X : CX} {T : List Dsc} {n1 n2 : Nat} {μ : Mem} {r : Mem} (hX : XR X 1 n1 n2) (hf : f_X4_land_37 T μ = some r) (hk : FnV X cX4_land RX4 2 T n1 n2 r) : Wp X cX4_land RX4 2 T μ n1 n2 37 [] [] := by
  unfold f_X4_land_37 at hf
  cases hf
  exact hk _ _ dX4_land_37
set_option maxHeartbeats 4000000 in
set_option maxRecDepth 100000 in
theorem w_X4_land {X : CX} {T : List Dsc} {n1 n2 : Nat} {x0 : Nat} {x1 : Int32} {μ : Mem} {r : Mem} (hX : XR X 1 n1 n2) (hx0 : T[x0]? = some (.inl 3)) (hf : F_X4_land T x0 x1 μ = some r) (hk : FnV X cX4_land RX4 2 T n1 n2 r) : Wp X cX4_land RX4 2 T μ n1 n2 0 [(0, .ref x0), (1, .int x1)] [] := by
  unfold F_X4_land at hf
  refine Wp.iload_n (pc := 0) 1 rfl rfl dX4_land_0 ?_
  refine Wp.iconst (pc := 1) (-1 : Int32) (by decide) dX4_land_1 ?_
  refine Wp.icmp_eq (pc := 2) 37 dX4_land_2 (by decide) (fun hc1 => ?_) (fun hc1 => ?_)
  · rw [if_pos hc1] at hf
    refine Wp.lo' (lo' := []) [] rfl ?_
    exact w_X4_land_37 hX hf hk
  · rw [if_neg hc1] at hf
    refine Wp.aload_n (pc := 5) 0 rfl rfl dX4_land_5 ?_
    obtain ⟨r2, h3, hf⟩ := bnd hf
    refine Wp.getR (pc := 6) (gO_R h3) hx0 fk_RX4_35 rfl dX4_land_6 ?_
    obtain ⟨a4, h5, hf⟩ := bnd hf
    refine Wp.getR (pc := 9) (gA_R h5) (gO_T h3) fk_RX4_211 rfl dX4_land_9 ?_
    refine Wp.iload_n (pc := 12) 1 rfl rfl dX4_land_12 ?_
    refine Wp.aload_n (pc := 13) 0 rfl rfl dX4_land_13 ?_
    obtain ⟨r6, h7, hf⟩ := bnd hf
    refine Wp.getR (pc := 14) (gO_R h7) hx0 fk_RX4_35 rfl dX4_land_14 ?_
    refine Wp.getI (pc := 17) (gO_T h7) fk_RX4_138 rfl dX4_land_17 ?_
    refine Wp.bipush (pc := 20) (6 : Int32) (by decide) dX4_land_20 ?_
    refine Wp.ishl (pc := 22) dX4_land_22 ?_
    refine Wp.aload_n (pc := 23) 0 rfl rfl dX4_land_23 ?_
    obtain ⟨r8, h9, hf⟩ := bnd hf
    refine Wp.getR (pc := 24) (gO_R h9) hx0 fk_RX4_35 rfl dX4_land_24 ?_
    obtain ⟨a10, h11, hf⟩ := bnd hf
    refine Wp.getR (pc := 27) (gA_R h11) (gO_T h9) fk_RX4_211 rfl dX4_land_27 ?_
    refine Wp.iload_n (pc := 30) 1 rfl rfl dX4_land_30 ?_
    obtain ⟨v12, h13, hf⟩ := bnd hf
    refine Wp.iald (pc := 31) h13 (gA_T h11) dX4_land_31 ?_
    refine Wp.bipush (pc := 32) (63 : Int32) (by decide) dX4_land_32 ?_
    refine Wp.iand (pc := 34) dX4_land_34 ?_
    refine Wp.ior (pc := 35) dX4_land_35 ?_
    obtain ⟨μ14, h15, hf⟩ := bnd hf
    refine Wp.iast (pc := 36) h15 (gA_T h5) dX4_land_36 ?_
    refine Wp.lo' (lo' := []) [] rfl ?_
    exact w_X4_land_37 hX hf hk
theorem c_X4_land {T : List Dsc} {x0 : Nat} {x1 : Int32} {μ : Mem} {r : Mem} (hx0 : T[x0]? = some (.inl 3)) (hf : F_X4_land T x0 x1 μ = some r) : Ct 1 yX4_land cX4_land 2 none T μ [.ref x0, .int x1] none r := Ct.ofV (by decide +kernel) (Nat.le_of_ble_eq_true rfl) (fun X hX hk => w_X4_land hX hx0 hf hk)
theorem dX4_landChain_0 : decode cX4_landChain 0 = .ok (.iload_n 1, 1) := by decide +kernel
theorem dX4_landChain_1 : decode cX4_landChain 1 = .ok (.istore_n 2, 1) := by decide +kernel
theorem dX4_landChain_2 : decode cX4_landChain 2 = .ok (.iconst 0, 1) := by decide +kernel
theorem dX4_landChain_3 : decode cX4_landChain 3 = .ok (.istore_n 3, 1) := by decide +kernel
theorem dX4_landChain_4 : decode cX4_landChain 4 = .ok (.iload_n 3, 1) := by decide +kernel
theorem dX4_landChain_5 : decode cX4_landChain 5 = .ok (.sipush 400, 3) := by decide +kernel
theorem dX4_landChain_8 : decode cX4_landChain 8 = .ok (.if_icmp .ge 38, 3) := by decide +kernel
theorem dX4_landChain_11 : decode cX4_landChain 11 = .ok (.iload_n 2, 1) := by decide +kernel
theorem dX4_landChain_12 : decode cX4_landChain 12 = .ok (.iconst (-1), 1) := by decide +kernel
theorem dX4_landChain_13 : decode cX4_landChain 13 = .ok (.if_icmp .eq 33, 3) := by decide +kernel
theorem dX4_landChain_16 : decode cX4_landChain 16 = .ok (.aload_n 0, 1) := by decide +kernel
theorem dX4_landChain_17 : decode cX4_landChain 17 = .ok (.getfield 35, 3) := by decide +kernel
theorem dX4_landChain_20 : decode cX4_landChain 20 = .ok (.getfield 211, 3) := by decide +kernel
theorem dX4_landChain_23 : decode cX4_landChain 23 = .ok (.iload_n 2, 1) := by decide +kernel
theorem dX4_landChain_24 : decode cX4_landChain 24 = .ok (.iaload, 1) := by decide +kernel
theorem dX4_landChain_25 : decode cX4_landChain 25 = .ok (.bipush 6, 2) := by decide +kernel
theorem dX4_landChain_27 : decode cX4_landChain 27 = .ok (.ishr, 1) := by decide +kernel
theorem dX4_landChain_28 : decode cX4_landChain 28 = .ok (.iconst 1, 1) := by decide +kernel
theorem dX4_landChain_29 : decode cX4_landChain 29 = .ok (.isub, 1) := by decide +kernel
theorem dX4_landChain_30 : decode cX4_landChain 30 = .ok (.istore 4, 2) := by decide +kernel
theorem dX4_landChain_32 : decode cX4_landChain 32 = .ok (.aload_n 0, 1) := by decide +kernel
theorem dX4_landChain_33 : decode cX4_landChain 33 = .ok (.iload_n 2, 1) := by decide +kernel
theorem dX4_landChain_34 : decode cX4_landChain 34 = .ok (.invokevirtual 152, 3) := by decide +kernel
theorem dX4_landChain_37 : decode cX4_landChain 37 = .ok (.iload 4, 2) := by decide +kernel
theorem dX4_landChain_39 : decode cX4_landChain 39 = .ok (.istore_n 2, 1) := by decide +kernel
theorem dX4_landChain_40 : decode cX4_landChain 40 = .ok (.iinc 3 1, 3) := by decide +kernel
theorem dX4_landChain_43 : decode cX4_landChain 43 = .ok (.goto (-39), 3) := by decide +kernel
theorem dX4_landChain_46 : decode cX4_landChain 46 = .ok (.return_, 1) := by decide +kernel
def k_X4_landChain_4 (X : CX) (T : List Dsc) (n1 n2 : Nat) (x0 : Nat) (r : ((Int32 × Int32 × Mem) ⊕ ((Mem)))) : Prop := match r with
  | .inl s => Wp X cX4_landChain RX4 5 T s.2.2 n1 n2 4 [(0, .ref x0), (2, .int s.1), (3, .int s.2.1)] []
  | .inr e => Wp X cX4_landChain RX4 5 T e n1 n2 46 [] []
set_option maxHeartbeats 4000000 in
set_option maxRecDepth 100000 in
theorem w_X4_landChain_4 {X : CX} {T : List Dsc} {n1 n2 : Nat} {x0 : Nat} {x2 : Int32} {x3 : Int32} {μ : Mem} {r : ((Int32 × Int32 × Mem) ⊕ ((Mem)))} (hX : XR X 2 n1 n2) (hx0 : T[x0]? = some (.inl 3)) (hf : f_X4_landChain_4 T x0 x2 x3 μ = some r) (hk : k_X4_landChain_4 X T n1 n2 x0 r) : Wp X cX4_landChain RX4 5 T μ n1 n2 4 [(0, .ref x0), (2, .int x2), (3, .int x3)] [] := by
  unfold f_X4_landChain_4 at hf
  refine Wp.iload_n (pc := 4) 2 rfl rfl dX4_landChain_4 ?_
  refine Wp.sipush (pc := 5) (400 : Int32) (by decide) dX4_landChain_5 ?_
  refine Wp.icmp_ge (pc := 8) 46 dX4_landChain_8 (by decide) (fun hc1 => ?_) (fun hc1 => ?_)
  · rw [if_pos hc1] at hf
    refine Wp.lo' (lo' := []) [] rfl ?_
    cases hf
    exact hk
  · rw [if_neg hc1] at hf
    refine Wp.iload_n (pc := 11) 1 rfl rfl dX4_landChain_11 ?_
    refine Wp.iconst (pc := 12) (-1 : Int32) (by decide) dX4_landChain_12 ?_
    refine Wp.icmp_eq (pc := 13) 46 dX4_landChain_13 (by decide) (fun hc2 => ?_) (fun hc2 => ?_)
    · rw [if_pos hc2] at hf
      refine Wp.lo' (lo' := []) [] rfl ?_
      cases hf
      exact hk
    · rw [if_neg hc2] at hf
      refine Wp.aload_n (pc := 16) 0 rfl rfl dX4_landChain_16 ?_
      obtain ⟨r3, h4, hf⟩ := bnd hf
      refine Wp.getR (pc := 17) (gO_R h4) hx0 fk_RX4_35 rfl dX4_landChain_17 ?_
      obtain ⟨a5, h6, hf⟩ := bnd hf
      refine Wp.getR (pc := 20) (gA_R h6) (gO_T h4) fk_RX4_211 rfl dX4_landChain_20 ?_
      refine Wp.iload_n (pc := 23) 1 rfl rfl dX4_landChain_23 ?_
      obtain ⟨v7, h8, hf⟩ := bnd hf
      refine Wp.iald (pc := 24) h8 (gA_T h6) dX4_landChain_24 ?_
      refine Wp.bipush (pc := 25) (6 : Int32) (by decide) dX4_landChain_25 ?_
      refine Wp.ishr (pc := 27) dX4_landChain_27 ?_
      refine Wp.iconst (pc := 28) (1 : Int32) (by decide) dX4_landChain_28 ?_
      refine Wp.isub (pc := 29) dX4_landChain_29 ?_
      obtain ⟨v9, h10, hf⟩ := bnd hf
      refine Wp.nI' h10 ?_
      refine Wp.istore (pc := 30) (lo' := [(0, .ref x0), (2, .int x2), (3, .int x3), (4, .int v9)]) [1, 2, 3, 0] rfl (by decide) dX4_landChain_30 ?_
      refine Wp.aload_n (pc := 32) 0 rfl rfl dX4_landChain_32 ?_
      refine Wp.iload_n (pc := 33) 1 rfl rfl dX4_landChain_33 ?_
      obtain ⟨c11, h12, hf⟩ := bnd hf
      refine Wp.callVv (pc := 34) (st := []) (as := [.int x2]) (c_X4_land hx0 h12) ml_RX4_152 mv_X4_land mb_X4_land hX (Nat.le_of_ble_eq_true rfl) (by decide) rfl hx0 rfl (by simp) dX4_landChain_34 rfl ?_
      refine Wp.iload (pc := 37) 3 rfl dX4_landChain_37 ?_
      refine Wp.istore_n (pc := 39) (lo' := [(0, .ref x0), (2, .int v9), (3, .int x3)]) [1, 0, 2] rfl (by decide) rfl dX4_landChain_39 ?_
      obtain ⟨v13, h14, hf⟩ := bnd hf
      refine Wp.iincN (pc := 40) (lo' := [(0, .ref x0), (2, .int v9), (3, .int v13)]) (1 : Int32) (by decide) h14 2 rfl [1, 2, 0] rfl (by decide) dX4_landChain_40 ?_
      refine Wp.goto (pc := 43) 4 dX4_landChain_43 (by decide) ?_
      cases hf
      exact hk
theorem wl_X4_landChain_4 {X : CX} {T : List Dsc} {n1 n2 : Nat} {x0 : Nat} {x2 : Int32} {x3 : Int32} {μ : Mem} {e : ((Mem))} (hX : XR X 2 n1 n2) (hx0 : T[x0]? = some (.inl 3)) (h : loop (g_X4_landChain_4 T x0) (x2, x3, μ) = some e) (he : Wp X cX4_landChain RX4 5 T e n1 n2 46 [] []) : Wp X cX4_landChain RX4 5 T μ n1 n2 4 [(0, .ref x0), (2, .int x2), (3, .int x3)] [] :=
  loop_ok (K := k_X4_landChain_4 X T n1 n2 x0) (fun s r hf hk => w_X4_landChain_4 hX hx0 hf hk) h he
set_option maxHeartbeats 4000000 in
set_option maxRecDepth 100000 in
theorem w_X4_landChain_46 {X : CX} {T : List Dsc} {n1 n2 : Nat} {μ : Mem} {r : Mem} (hX : XR X 2 n1 n2) (hf : f_X4_landChain_46 T μ = some r) (hk : FnV X cX4_landChain RX4 5 T n1 n2 r) : Wp X cX4_landChain RX4 5 T μ n1 n2 46 [] [] := by
  unfold f_X4_landChain_46 at hf
  cases hf
  exact hk _ _ dX4_landChain_46
set_option maxHeartbeats 4000000 in
set_option maxRecDepth 100000 in
theorem w_X4_landChain {X : CX} {T : List Dsc} {n1 n2 : Nat} {x0 : Nat} {x1 : Int32} {μ : Mem} {r : Mem} (hX : XR X 2 n1 n2) (hx0 : T[x0]? = some (.inl 3)) (hf : F_X4_landChain T x0 x1 μ = some r) (hk : FnV X cX4_landChain RX4 5 T n1 n2 r) : Wp X cX4_landChain RX4 5 T μ n1 n2 0 [(0, .ref x0), (1, .int x1)] [] := by
  unfold F_X4_landChain at hf
  refine Wp.iload_n (pc := 0) 1 rfl rfl dX4_landChain_0 ?_
  refine Wp.istore_n (pc := 1) (lo' := [(0, .ref x0), (2, .int x1)]) [1, 0] rfl (by decide) rfl dX4_landChain_1 ?_
  refine Wp.iconst (pc := 2) (0 : Int32) (by decide) dX4_landChain_2 ?_
  refine Wp.istore_n (pc := 3) (lo' := [(0, .ref x0), (2, .int x1), (3, .int (0 : Int32))]) [1, 2, 0] rfl (by decide) rfl dX4_landChain_3 ?_
  obtain ⟨e1, h2, hf⟩ := bnd hf
  refine wl_X4_landChain_4 hX hx0 h2 ?_
  exact w_X4_landChain_46 hX hf hk
theorem c_X4_landChain {T : List Dsc} {x0 : Nat} {x1 : Int32} {μ : Mem} {r : Mem} (hx0 : T[x0]? = some (.inl 3)) (hf : F_X4_landChain T x0 x1 μ = some r) : Ct 2 yX4_landChain cX4_landChain 5 none T μ [.ref x0, .int x1] none r := Ct.ofV (by decide +kernel) (Nat.le_of_ble_eq_true rfl) (fun X hX hk => w_X4_landChain hX hx0 hf hk)
theorem dX4_readCondition_0 : decode cX4_readCondition 0 = .ok (.iconst (-1), 1) := by decide +kernel
theorem dX4_readCondition_1 : decode cX4_readCondition 1 = .ok (.istore_n 1, 1) := by decide +kernel
theorem dX4_readCondition_2 : decode cX4_readCondition 2 = .ok (.iconst (-1), 1) := by decide +kernel
theorem dX4_readCondition_3 : decode cX4_readCondition 3 = .ok (.istore_n 2, 1) := by decide +kernel
theorem dX4_readCondition_4 : decode cX4_readCondition 4 = .ok (.aload_n 0, 1) := by decide +kernel
theorem dX4_readCondition_5 : decode cX4_readCondition 5 = .ok (.invokevirtual 198, 3) := by decide +kernel
theorem dX4_readCondition_8 : decode cX4_readCondition 8 = .ok (.iconst 0, 1) := by decide +kernel
theorem dX4_readCondition_9 : decode cX4_readCondition 9 = .ok (.istore_n 3, 1) := by decide +kernel
theorem dX4_readCondition_10 : decode cX4_readCondition 10 = .ok (.iload_n 3, 1) := by decide +kernel
theorem dX4_readCondition_11 : decode cX4_readCondition 11 = .ok (.sipush 400, 3) := by decide +kernel
theorem dX4_readCondition_14 : decode cX4_readCondition 14 = .ok (.if_icmp .ge 91, 3) := by decide +kernel
theorem dX4_readCondition_17 : decode cX4_readCondition 17 = .ok (.aload_n 0, 1) := by decide +kernel
theorem dX4_readCondition_18 : decode cX4_readCondition 18 = .ok (.getfield 43, 3) := by decide +kernel
theorem dX4_readCondition_21 : decode cX4_readCondition 21 = .ok (.ifCond .ne 84, 3) := by decide +kernel
theorem dX4_readCondition_24 : decode cX4_readCondition 24 = .ok (.aload_n 0, 1) := by decide +kernel
theorem dX4_readCondition_25 : decode cX4_readCondition 25 = .ok (.getfield 46, 3) := by decide +kernel
theorem dX4_readCondition_28 : decode cX4_readCondition 28 = .ok (.bipush 25, 2) := by decide +kernel
theorem dX4_readCondition_30 : decode cX4_readCondition 30 = .ok (.if_icmp .eq 12, 3) := by decide +kernel
theorem dX4_readCondition_33 : decode cX4_readCondition 33 = .ok (.aload_n 0, 1) := by decide +kernel
theorem dX4_readCondition_34 : decode cX4_readCondition 34 = .ok (.getfield 46, 3) := by decide +kernel
theorem dX4_readCondition_37 : decode cX4_readCondition 37 = .ok (.bipush 24, 2) := by decide +kernel
theorem dX4_readCondition_39 : decode cX4_readCondition 39 = .ok (.if_icmp .ne 66, 3) := by decide +kernel
theorem dX4_readCondition_42 : decode cX4_readCondition 42 = .ok (.aload_n 0, 1) := by decide +kernel
theorem dX4_readCondition_43 : decode cX4_readCondition 43 = .ok (.getfield 46, 3) := by decide +kernel
theorem dX4_readCondition_46 : decode cX4_readCondition 46 = .ok (.bipush 25, 2) := by decide +kernel
theorem dX4_readCondition_48 : decode cX4_readCondition 48 = .ok (.if_icmp .ne 23, 3) := by decide +kernel
theorem dX4_readCondition_51 : decode cX4_readCondition 51 = .ok (.aload_n 0, 1) := by decide +kernel
theorem dX4_readCondition_52 : decode cX4_readCondition 52 = .ok (.bipush 25, 2) := by decide +kernel
theorem dX4_readCondition_54 : decode cX4_readCondition 54 = .ok (.invokevirtual 114, 3) := by decide +kernel
theorem dX4_readCondition_57 : decode cX4_readCondition 57 = .ok (.pop, 1) := by decide +kernel
theorem dX4_readCondition_58 : decode cX4_readCondition 58 = .ok (.aload_n 0, 1) := by decide +kernel
theorem dX4_readCondition_59 : decode cX4_readCondition 59 = .ok (.bipush 25, 2) := by decide +kernel
theorem dX4_readCondition_61 : decode cX4_readCondition 61 = .ok (.iload_n 1, 1) := by decide +kernel
theorem dX4_readCondition_62 : decode cX4_readCondition 62 = .ok (.iconst 1, 1) := by decide +kernel
theorem dX4_readCondition_63 : decode cX4_readCondition 63 = .ok (.iadd, 1) := by decide +kernel
theorem dX4_readCondition_64 : decode cX4_readCondition 64 = .ok (.invokevirtual 144, 3) := by decide +kernel
theorem dX4_readCondition_67 : decode cX4_readCondition 67 = .ok (.istore_n 1, 1) := by decide +kernel
theorem dX4_readCondition_68 : decode cX4_readCondition 68 = .ok (.goto 27, 3) := by decide +kernel
theorem dX4_readCondition_71 : decode cX4_readCondition 71 = .ok (.aload_n 0, 1) := by decide +kernel
theorem dX4_readCondition_72 : decode cX4_readCondition 72 = .ok (.bipush 24, 2) := by decide +kernel
theorem dX4_readCondition_74 : decode cX4_readCondition 74 = .ok (.invokevirtual 114, 3) := by decide +kernel
theorem dX4_readCondition_77 : decode cX4_readCondition 77 = .ok (.pop, 1) := by decide +kernel
theorem dX4_readCondition_78 : decode cX4_readCondition 78 = .ok (.aload_n 0, 1) := by decide +kernel
theorem dX4_readCondition_79 : decode cX4_readCondition 79 = .ok (.iload_n 1, 1) := by decide +kernel
theorem dX4_readCondition_80 : decode cX4_readCondition 80 = .ok (.invokevirtual 201, 3) := by decide +kernel
theorem dX4_readCondition_83 : decode cX4_readCondition 83 = .ok (.iconst (-1), 1) := by decide +kernel
theorem dX4_readCondition_84 : decode cX4_readCondition 84 = .ok (.istore_n 1, 1) := by decide +kernel
theorem dX4_readCondition_85 : decode cX4_readCondition 85 = .ok (.aload_n 0, 1) := by decide +kernel
theorem dX4_readCondition_86 : decode cX4_readCondition 86 = .ok (.bipush 24, 2) := by decide +kernel
theorem dX4_readCondition_88 : decode cX4_readCondition 88 = .ok (.iload_n 2, 1) := by decide +kernel
theorem dX4_readCondition_89 : decode cX4_readCondition 89 = .ok (.iconst 1, 1) := by decide +kernel
theorem dX4_readCondition_90 : decode cX4_readCondition 90 = .ok (.iadd, 1) := by decide +kernel
theorem dX4_readCondition_91 : decode cX4_readCondition 91 = .ok (.invokevirtual 144, 3) := by decide +kernel
theorem dX4_readCondition_94 : decode cX4_readCondition 94 = .ok (.istore_n 2, 1) := by decide +kernel
theorem dX4_readCondition_95 : decode cX4_readCondition 95 = .ok (.aload_n 0, 1) := by decide +kernel
theorem dX4_readCondition_96 : decode cX4_readCondition 96 = .ok (.invokevirtual 198, 3) := by decide +kernel
theorem dX4_readCondition_99 : decode cX4_readCondition 99 = .ok (.iinc 3 1, 3) := by decide +kernel
theorem dX4_readCondition_102 : decode cX4_readCondition 102 = .ok (.goto (-92), 3) := by decide +kernel
theorem dX4_readCondition_105 : decode cX4_readCondition 105 = .ok (.aload_n 0, 1) := by decide +kernel
theorem dX4_readCondition_106 : decode cX4_readCondition 106 = .ok (.iload_n 1, 1) := by decide +kernel
theorem dX4_readCondition_107 : decode cX4_readCondition 107 = .ok (.invokevirtual 201, 3) := by decide +kernel
theorem dX4_readCondition_110 : decode cX4_readCondition 110 = .ok (.aload_n 0, 1) := by decide +kernel
theorem dX4_readCondition_111 : decode cX4_readCondition 111 = .ok (.iload_n 2, 1) := by decide +kernel
theorem dX4_readCondition_112 : decode cX4_readCondition 112 = .ok (.invokevirtual 201, 3) := by decide +kernel
theorem dX4_readCondition_115 : decode cX4_readCondition 115 = .ok (.return_, 1) := by decide +kernel
def k_X4_readCondition_10 (X : CX) (T : List Dsc) (n1 n2 : Nat) (x0 : Nat) (r : ((Int32 × Int32 × Int32 × Mem) ⊕ ((Int32 × Int32 × Mem)))) : Prop := match r with
  | .inl s => Wp X cX4_readCondition RX4 4 T s.2.2.2 n1 n2 10 [(0, .ref x0), (1, .int s.1), (2, .int s.2.1), (3, .int s.2.2.1)] []
  | .inr e => Wp X cX4_readCondition RX4 4 T e.2.2 n1 n2 105 [(0, .ref x0), (1, .int e.1), (2, .int e.2.1)] []
set_option maxHeartbeats 4000000 in
set_option maxRecDepth 100000 in
theorem w_X4_readCondition_95 {X : CX} {T : List Dsc} {n1 n2 : Nat} {x0 : Nat} {x1 : Int32} {x2 : Int32} {x3 : Int32} {μ : Mem} {r : ((Int32 × Int32 × Int32 × Mem) ⊕ ((Int32 × Int32 × Mem)))} (hX : XR X 72 n1 n2) (hx0 : T[x0]? = some (.inl 3)) (hf : f_X4_readCondition_95 T x0 x1 x2 x3 μ = some r) (hk : k_X4_readCondition_10 X T n1 n2 x0 r) : Wp X cX4_readCondition RX4 4 T μ n1 n2 95 [(0, .ref x0), (1, .int x1), (2, .int x2), (3, .int x3)] [] := by
  unfold f_X4_readCondition_95 at hf
  refine Wp.aload_n (pc := 95) 0 rfl rfl dX4_readCondition_95 ?_
  obtain ⟨c1, h2, hf⟩ := bnd hf
  refine Wp.callVv (pc := 96) (st := []) (as := []) (c_X4_readRelation hx0 h2) ml_RX4_198 mv_X4_readRelation mb_X4_readRelation hX (Nat.le_of_ble_eq_true rfl) (by decide) rfl hx0 rfl (by simp) dX4_readCondition_96 rfl ?_
  obtain ⟨v3, h4, hf⟩ := bnd hf
  refine Wp.iincN (pc := 99) (lo' := [(0, .ref x0), (1, .int x1), (2, .int x2), (3, .int v3)]) (1 : Int32) (by decide) h4 3 rfl [1, 2, 3, 0] rfl (by decide) dX4_readCondition_99 ?_
  refine Wp.goto (pc := 102) 10 dX4_readCondition_102 (by decide) ?_
  cases hf
  exact hk
set_option maxHeartbeats 4000000 in
set_option maxRecDepth 100000 in
theorem w_X4_readCondition_42 {X : CX} {T : List Dsc} {n1 n2 : Nat} {x0 : Nat} {x1 : Int32} {x2 : Int32} {x3 : Int32} {μ : Mem} {r : ((Int32 × Int32 × Int32 × Mem) ⊕ ((Int32 × Int32 × Mem)))} (hX : XR X 72 n1 n2) (hx0 : T[x0]? = some (.inl 3)) (hf : f_X4_readCondition_42 T x0 x1 x2 x3 μ = some r) (hk : k_X4_readCondition_10 X T n1 n2 x0 r) : Wp X cX4_readCondition RX4 4 T μ n1 n2 42 [(0, .ref x0), (1, .int x1), (2, .int x2), (3, .int x3)] [] := by
  unfold f_X4_readCondition_42 at hf
  refine Wp.aload_n (pc := 42) 0 rfl rfl dX4_readCondition_42 ?_
  refine Wp.getI (pc := 43) hx0 fk_RX4_46 rfl dX4_readCondition_43 ?_
  refine Wp.bipush (pc := 46) (25 : Int32) (by decide) dX4_readCondition_46 ?_
  refine Wp.icmp_ne (pc := 48) 71 dX4_readCondition_48 (by decide) (fun hc1 => ?_) (fun hc1 => ?_)
  · rw [if_neg hc1] at hf
    refine Wp.aload_n (pc := 71) 0 rfl rfl dX4_readCondition_71 ?_
    refine Wp.bipush (pc := 72) (24 : Int32) (by decide) dX4_readCondition_72 ?_
    obtain ⟨c2, h3, hf⟩ := bnd hf
    refine Wp.callVi (pc := 74) (st := []) (as := [.int (24 : Int32)]) (c_X4_take hx0 h3) ml_RX4_114 mv_X4_take mb_X4_take hX (Nat.le_of_ble_eq_true rfl) (by decide) rfl hx0 rfl (by simp) dX4_readCondition_74 rfl ?_
    refine Wp.pop (pc := 77) rfl dX4_readCondition_77 ?_
    refine Wp.aload_n (pc := 78) 0 rfl rfl dX4_readCondition_78 ?_
    refine Wp.iload_n (pc := 79) 1 rfl rfl dX4_readCondition_79 ?_
    obtain ⟨c4, h5, hf⟩ := bnd hf
    refine Wp.callVv (pc := 80) (st := []) (as := [.int x1]) (c_X4_landChain hx0 h5) ml_RX4_201 mv_X4_landChain mb_X4_landChain hX (Nat.le_of_ble_eq_true rfl) (by decide) rfl hx0 rfl (by simp) dX4_readCondition_80 rfl ?_
    refine Wp.iconst (pc := 83) (-1 : Int32) (by decide) dX4_readCondition_83 ?_
    refine Wp.istore_n (pc := 84) (lo' := [(0, .ref x0), (1, .int (-1 : Int32)), (2, .int x2), (3, .int x3)]) [1, 0, 2, 3] rfl (by decide) rfl dX4_readCondition_84 ?_
    refine Wp.aload_n (pc := 85) 0 rfl rfl dX4_readCondition_85 ?_
    refine Wp.bipush (pc := 86) (24 : Int32) (by decide) dX4_readCondition_86 ?_
    refine Wp.iload_n (pc := 88) 2 rfl rfl dX4_readCondition_88 ?_
    refine Wp.iconst (pc := 89) (1 : Int32) (by decide) dX4_readCondition_89 ?_
    refine Wp.iadd (pc := 90) dX4_readCondition_90 ?_
    obtain ⟨c6, h7, hf⟩ := bnd hf
    refine Wp.callVi (pc := 91) (st := []) (as := [.int (24 : Int32), .int (x2 + (1 : Int32))]) (c_X4_emit hx0 h7) ml_RX4_144 mv_X4_emit mb_X4_emit hX (Nat.le_of_ble_eq_true rfl) (by decide) rfl hx0 rfl (by simp) dX4_readCondition_91 rfl ?_
    refine Wp.istore_n (pc := 94) (lo' := [(0, .ref x0), (1, .int (-1 : Int32)), (2, .int c6.1), (3, .int x3)]) [1, 2, 0, 3] rfl (by decide) rfl dX4_readCondition_94 ?_
    exact w_X4_readCondition_95 hX hx0 hf hk
  · rw [if_pos hc1] at hf
    refine Wp.aload_n (pc := 51) 0 rfl rfl dX4_readCondition_51 ?_
    refine Wp.bipush (pc := 52) (25 : Int32) (by decide) dX4_readCondition_52 ?_
    obtain ⟨c8, h9, hf⟩ := bnd hf
    refine Wp.callVi (pc := 54) (st := []) (as := [.int (25 : Int32)]) (c_X4_take hx0 h9) ml_RX4_114 mv_X4_take mb_X4_take hX (Nat.le_of_ble_eq_true rfl) (by decide) rfl hx0 rfl (by simp) dX4_readCondition_54 rfl ?_
    refine Wp.pop (pc := 57) rfl dX4_readCondition_57 ?_
    refine Wp.aload_n (pc := 58) 0 rfl rfl dX4_readCondition_58 ?_
    refine Wp.bipush (pc := 59) (25 : Int32) (by decide) dX4_readCondition_59 ?_
    refine Wp.iload_n (pc := 61) 1 rfl rfl dX4_readCondition_61 ?_
    refine Wp.iconst (pc := 62) (1 : Int32) (by decide) dX4_readCondition_62 ?_
    refine Wp.iadd (pc := 63) dX4_readCondition_63 ?_
    obtain ⟨c10, h11, hf⟩ := bnd hf
    refine Wp.callVi (pc := 64) (st := []) (as := [.int (25 : Int32), .int (x1 + (1 : Int32))]) (c_X4_emit hx0 h11) ml_RX4_144 mv_X4_emit mb_X4_emit hX (Nat.le_of_ble_eq_true rfl) (by decide) rfl hx0 rfl (by simp) dX4_readCondition_64 rfl ?_
    refine Wp.istore_n (pc := 67) (lo' := [(0, .ref x0), (1, .int c10.1), (2, .int x2), (3, .int x3)]) [1, 0, 2, 3] rfl (by decide) rfl dX4_readCondition_67 ?_
    refine Wp.goto (pc := 68) 95 dX4_readCondition_68 (by decide) ?_
    exact w_X4_readCondition_95 hX hx0 hf hk
set_option maxHeartbeats 4000000 in
set_option maxRecDepth 100000 in
theorem w_X4_readCondition_10 {X : CX} {T : List Dsc} {n1 n2 : Nat} {x0 : Nat} {x1 : Int32} {x2 : Int32} {x3 : Int32} {μ : Mem} {r : ((Int32 × Int32 × Int32 × Mem) ⊕ ((Int32 × Int32 × Mem)))} (hX : XR X 72 n1 n2) (hx0 : T[x0]? = some (.inl 3)) (hf : f_X4_readCondition_10 T x0 x1 x2 x3 μ = some r) (hk : k_X4_readCondition_10 X T n1 n2 x0 r) : Wp X cX4_readCondition RX4 4 T μ n1 n2 10 [(0, .ref x0), (1, .int x1), (2, .int x2), (3, .int x3)] [] := by
  unfold f_X4_readCondition_10 at hf
  refine Wp.iload_n (pc := 10) 3 rfl rfl dX4_readCondition_10 ?_
  refine Wp.sipush (pc := 11) (400 : Int32) (by decide) dX4_readCondition_11 ?_
  refine Wp.icmp_ge (pc := 14) 105 dX4_readCondition_14 (by decide) (fun hc1 => ?_) (fun hc1 => ?_)
  · rw [if_pos hc1] at hf
    refine Wp.lo' (lo' := [(0, .ref x0), (1, .int x1), (2, .int x2)]) [0, 1, 2] rfl ?_
    cases hf
    exact hk
  · rw [if_neg hc1] at hf
    refine Wp.aload_n (pc := 17) 0 rfl rfl dX4_readCondition_17 ?_
    refine Wp.getI (pc := 18) hx0 fk_RX4_43 rfl dX4_readCondition_18 ?_
    refine Wp.if_ne (pc := 21) 105 dX4_readCondition_21 (by decide) (fun hc2 => ?_) (fun hc2 => ?_)
    · rw [if_neg hc2] at hf
      refine Wp.lo' (lo' := [(0, .ref x0), (1, .int x1), (2, .int x2)]) [0, 1, 2] rfl ?_
      cases hf
      exact hk
    · rw [if_pos hc2] at hf
      refine Wp.aload_n (pc := 24) 0 rfl rfl dX4_readCondition_24 ?_
      refine Wp.getI (pc := 25) hx0 fk_RX4_46 rfl dX4_readCondition_25 ?_
      refine Wp.bipush (pc := 28) (25 : Int32) (by decide) dX4_readCondition_28 ?_
      refine Wp.icmp_eq (pc := 30) 42 dX4_readCondition_30 (by decide) (fun hc3 => ?_) (fun hc3 => ?_)
      · rw [if_pos hc3] at hf
        exact w_X4_readCondition_42 hX hx0 hf hk
      · rw [if_neg hc3] at hf
        refine Wp.aload_n (pc := 33) 0 rfl rfl dX4_readCondition_33 ?_
        refine Wp.getI (pc := 34) hx0 fk_RX4_46 rfl dX4_readCondition_34 ?_
        refine Wp.bipush (pc := 37) (24 : Int32) (by decide) dX4_readCondition_37 ?_
        refine Wp.icmp_ne (pc := 39) 105 dX4_readCondition_39 (by decide) (fun hc4 => ?_) (fun hc4 => ?_)
        · rw [if_neg hc4] at hf
          refine Wp.lo' (lo' := [(0, .ref x0), (1, .int x1), (2, .int x2)]) [0, 1, 2] rfl ?_
          cases hf
          exact hk
        · rw [if_pos hc4] at hf
          exact w_X4_readCondition_42 hX hx0 hf hk
theorem wl_X4_readCondition_10 {X : CX} {T : List Dsc} {n1 n2 : Nat} {x0 : Nat} {x1 : Int32} {x2 : Int32} {x3 : Int32} {μ : Mem} {e : ((Int32 × Int32 × Mem))} (hX : XR X 72 n1 n2) (hx0 : T[x0]? = some (.inl 3)) (h : loop (g_X4_readCondition_10 T x0) (x1, x2, x3, μ) = some e) (he : Wp X cX4_readCondition RX4 4 T e.2.2 n1 n2 105 [(0, .ref x0), (1, .int e.1), (2, .int e.2.1)] []) : Wp X cX4_readCondition RX4 4 T μ n1 n2 10 [(0, .ref x0), (1, .int x1), (2, .int x2), (3, .int x3)] [] :=
  loop_ok (K := k_X4_readCondition_10 X T n1 n2 x0) (fun s r hf hk => w_X4_readCondition_10 hX hx0 hf hk) h he
set_option maxHeartbeats 4000000 in
set_option maxRecDepth 100000 in
theorem w_X4_readCondition_105 {X : CX} {T : List Dsc} {n1 n2 : Nat} {x0 : Nat} {x1 : Int32} {x2 : Int32} {μ : Mem} {r : Mem} (hX : XR X 72 n1 n2) (hx0 : T[x0]? = some (.inl 3)) (hf : f_X4_readCondition_105 T x0 x1 x2 μ = some r) (hk : FnV X cX4_readCondition RX4 4 T n1 n2 r) : Wp X cX4_readCondition RX4 4 T μ n1 n2 105 [(0, .ref x0), (1, .int x1), (2, .int x2)] [] := by
  unfold f_X4_readCondition_105 at hf
  refine Wp.aload_n (pc := 105) 0 rfl rfl dX4_readCondition_105 ?_
  refine Wp.iload_n (pc := 106) 1 rfl rfl dX4_readCondition_106 ?_
  obtain ⟨c1, h2, hf⟩ := bnd hf
  refine Wp.callVv (pc := 107) (st := []) (as := [.int x1]) (c_X4_landChain hx0 h2) ml_RX4_201 mv_X4_landChain mb_X4_landChain hX (Nat.le_of_ble_eq_true rfl) (by decide) rfl hx0 rfl (by simp) dX4_readCondition_107 rfl ?_
  refine Wp.aload_n (pc := 110) 0 rfl rfl dX4_readCondition_110 ?_
  refine Wp.iload_n (pc := 111) 2 rfl rfl dX4_readCondition_111 ?_
  obtain ⟨c3, h4, hf⟩ := bnd hf
  refine Wp.callVv (pc := 112) (st := []) (as := [.int x2]) (c_X4_landChain hx0 h4) ml_RX4_201 mv_X4_landChain mb_X4_landChain hX (Nat.le_of_ble_eq_true rfl) (by decide) rfl hx0 rfl (by simp) dX4_readCondition_112 rfl ?_
  cases hf
  exact hk _ _ dX4_readCondition_115
set_option maxHeartbeats 4000000 in
set_option maxRecDepth 100000 in
theorem w_X4_readCondition {X : CX} {T : List Dsc} {n1 n2 : Nat} {x0 : Nat} {μ : Mem} {r : Mem} (hX : XR X 72 n1 n2) (hx0 : T[x0]? = some (.inl 3)) (hf : F_X4_readCondition T x0 μ = some r) (hk : FnV X cX4_readCondition RX4 4 T n1 n2 r) : Wp X cX4_readCondition RX4 4 T μ n1 n2 0 [(0, .ref x0)] [] := by
  unfold F_X4_readCondition at hf
  refine Wp.iconst (pc := 0) (-1 : Int32) (by decide) dX4_readCondition_0 ?_
  refine Wp.istore_n (pc := 1) (lo' := [(0, .ref x0), (1, .int (-1 : Int32))]) [1, 0] rfl (by decide) rfl dX4_readCondition_1 ?_
  refine Wp.iconst (pc := 2) (-1 : Int32) (by decide) dX4_readCondition_2 ?_
  refine Wp.istore_n (pc := 3) (lo' := [(0, .ref x0), (1, .int (-1 : Int32)), (2, .int (-1 : Int32))]) [1, 2, 0] rfl (by decide) rfl dX4_readCondition_3 ?_
  refine Wp.aload_n (pc := 4) 0 rfl rfl dX4_readCondition_4 ?_
  obtain ⟨c1, h2, hf⟩ := bnd hf
  refine Wp.callVv (pc := 5) (st := []) (as := []) (c_X4_readRelation hx0 h2) ml_RX4_198 mv_X4_readRelation mb_X4_readRelation hX (Nat.le_of_ble_eq_true rfl) (by decide) rfl hx0 rfl (by simp) dX4_readCondition_5 rfl ?_
  refine Wp.iconst (pc := 8) (0 : Int32) (by decide) dX4_readCondition_8 ?_
  refine Wp.istore_n (pc := 9) (lo' := [(0, .ref x0), (1, .int (-1 : Int32)), (2, .int (-1 : Int32)), (3, .int (0 : Int32))]) [1, 2, 3, 0] rfl (by decide) rfl dX4_readCondition_9 ?_
  obtain ⟨e3, h4, hf⟩ := bnd hf
  refine wl_X4_readCondition_10 hX hx0 h4 ?_
  exact w_X4_readCondition_105 hX hx0 hf hk
theorem c_X4_readCondition {T : List Dsc} {x0 : Nat} {μ : Mem} {r : Mem} (hx0 : T[x0]? = some (.inl 3)) (hf : F_X4_readCondition T x0 μ = some r) : Ct 72 yX4_readCondition cX4_readCondition 4 none T μ [.ref x0] none r := Ct.ofV (by decide +kernel) (Nat.le_of_ble_eq_true rfl) (fun X hX hk => w_X4_readCondition hX hx0 hf hk)
theorem dX4_readLaw_0 : decode cX4_readLaw 0 = .ok (.aload_n 0, 1) := by decide +kernel
theorem dX4_readLaw_1 : decode cX4_readLaw 1 = .ok (.getfield 35, 3) := by decide +kernel
theorem dX4_readLaw_4 : decode cX4_readLaw 4 = .ok (.getfield 129, 3) := by decide +kernel
theorem dX4_readLaw_7 : decode cX4_readLaw 7 = .ok (.bipush 6, 2) := by decide +kernel
theorem dX4_readLaw_9 : decode cX4_readLaw 9 = .ok (.if_icmp .lt 9, 3) := by decide +kernel
theorem dX4_readLaw_12 : decode cX4_readLaw 12 = .ok (.aload_n 0, 1) := by decide +kernel
theorem dX4_readLaw_13 : decode cX4_readLaw 13 = .ok (.iconst 2, 1) := by decide +kernel
theorem dX4_readLaw_14 : decode cX4_readLaw 14 = .ok (.invokevirtual 67, 3) := by decide +kernel
theorem dX4_readLaw_17 : decode cX4_readLaw 17 = .ok (.return_, 1) := by decide +kernel
theorem dX4_readLaw_18 : decode cX4_readLaw 18 = .ok (.aload_n 0, 1) := by decide +kernel
theorem dX4_readLaw_19 : decode cX4_readLaw 19 = .ok (.bipush 18, 2) := by decide +kernel
theorem dX4_readLaw_21 : decode cX4_readLaw 21 = .ok (.invokevirtual 114, 3) := by decide +kernel
theorem dX4_readLaw_24 : decode cX4_readLaw 24 = .ok (.pop, 1) := by decide +kernel
theorem dX4_readLaw_25 : decode cX4_readLaw 25 = .ok (.aload_n 0, 1) := by decide +kernel
theorem dX4_readLaw_26 : decode cX4_readLaw 26 = .ok (.iconst 2, 1) := by decide +kernel
theorem dX4_readLaw_27 : decode cX4_readLaw 27 = .ok (.invokevirtual 114, 3) := by decide +kernel
theorem dX4_readLaw_30 : decode cX4_readLaw 30 = .ok (.ifCond .eq 14, 3) := by decide +kernel
theorem dX4_readLaw_33 : decode cX4_readLaw 33 = .ok (.aload_n 0, 1) := by decide +kernel
theorem dX4_readLaw_34 : decode cX4_readLaw 34 = .ok (.aload_n 0, 1) := by decide +kernel
theorem dX4_readLaw_35 : decode cX4_readLaw 35 = .ok (.getfield 35, 3) := by decide +kernel
theorem dX4_readLaw_38 : decode cX4_readLaw 38 = .ok (.getfield 129, 3) := by decide +kernel
theorem dX4_readLaw_41 : decode cX4_readLaw 41 = .ok (.invokevirtual 132, 3) := by decide +kernel
theorem dX4_readLaw_44 : decode cX4_readLaw 44 = .ok (.aload_n 0, 1) := by decide +kernel
theorem dX4_readLaw_45 : decode cX4_readLaw 45 = .ok (.iconst 5, 1) := by decide +kernel
theorem dX4_readLaw_46 : decode cX4_readLaw 46 = .ok (.invokevirtual 114, 3) := by decide +kernel
theorem dX4_readLaw_49 : decode cX4_readLaw 49 = .ok (.pop, 1) := by decide +kernel
theorem dX4_readLaw_50 : decode cX4_readLaw 50 = .ok (.aload_n 0, 1) := by decide +kernel
theorem dX4_readLaw_51 : decode cX4_readLaw 51 = .ok (.getfield 35, 3) := by decide +kernel
theorem dX4_readLaw_54 : decode cX4_readLaw 54 = .ok (.getfield 135, 3) := by decide +kernel
theorem dX4_readLaw_57 : decode cX4_readLaw 57 = .ok (.aload_n 0, 1) := by decide +kernel
theorem dX4_readLaw_58 : decode cX4_readLaw 58 = .ok (.getfield 35, 3) := by decide +kernel
theorem dX4_readLaw_61 : decode cX4_readLaw 61 = .ok (.getfield 129, 3) := by decide +kernel
theorem dX4_readLaw_64 : decode cX4_readLaw 64 = .ok (.aload_n 0, 1) := by decide +kernel
theorem dX4_readLaw_65 : decode cX4_readLaw 65 = .ok (.getfield 35, 3) := by decide +kernel
theorem dX4_readLaw_68 : decode cX4_readLaw 68 = .ok (.getfield 138, 3) := by decide +kernel
theorem dX4_readLaw_71 : decode cX4_readLaw 71 = .ok (.iastore, 1) := by decide +kernel
theorem dX4_readLaw_72 : decode cX4_readLaw 72 = .ok (.iconst 0, 1) := by decide +kernel
theorem dX4_readLaw_73 : decode cX4_readLaw 73 = .ok (.istore_n 1, 1) := by decide +kernel
theorem dX4_readLaw_74 : decode cX4_readLaw 74 = .ok (.iload_n 1, 1) := by decide +kernel
theorem dX4_readLaw_75 : decode cX4_readLaw 75 = .ok (.bipush 8, 2) := by decide +kernel
theorem dX4_readLaw_77 : decode cX4_readLaw 77 = .ok (.if_icmp .gt 88, 3) := by decide +kernel
theorem dX4_readLaw_80 : decode cX4_readLaw 80 = .ok (.aload_n 0, 1) := by decide +kernel
theorem dX4_readLaw_81 : decode cX4_readLaw 81 = .ok (.getfield 43, 3) := by decide +kernel
theorem dX4_readLaw_84 : decode cX4_readLaw 84 = .ok (.ifCond .ne 81, 3) := by decide +kernel
theorem dX4_readLaw_87 : decode cX4_readLaw 87 = .ok (.aload_n 0, 1) := by decide +kernel
theorem dX4_readLaw_88 : decode cX4_readLaw 88 = .ok (.getfield 46, 3) := by decide +kernel
theorem dX4_readLaw_91 : decode cX4_readLaw 91 = .ok (.bipush 21, 2) := by decide +kernel
theorem dX4_readLaw_93 : decode cX4_readLaw 93 = .ok (.if_icmp .ne 72, 3) := by decide +kernel
theorem dX4_readLaw_96 : decode cX4_readLaw 96 = .ok (.iload_n 1, 1) := by decide +kernel
theorem dX4_readLaw_97 : decode cX4_readLaw 97 = .ok (.bipush 8, 2) := by decide +kernel
theorem dX4_readLaw_99 : decode cX4_readLaw 99 = .ok (.if_icmp .ne 8, 3) := by decide +kernel
theorem dX4_readLaw_102 : decode cX4_readLaw 102 = .ok (.aload_n 0, 1) := by decide +kernel
theorem dX4_readLaw_103 : decode cX4_readLaw 103 = .ok (.iconst 2, 1) := by decide +kernel
theorem dX4_readLaw_104 : decode cX4_readLaw 104 = .ok (.invokevirtual 67, 3) := by decide +kernel
theorem dX4_readLaw_107 : decode cX4_readLaw 107 = .ok (.aload_n 0, 1) := by decide +kernel
theorem dX4_readLaw_108 : decode cX4_readLaw 108 = .ok (.bipush 21, 2) := by decide +kernel
theorem dX4_readLaw_110 : decode cX4_readLaw 110 = .ok (.invokevirtual 114, 3) := by decide +kernel
theorem dX4_readLaw_113 : decode cX4_readLaw 113 = .ok (.pop, 1) := by decide +kernel
theorem dX4_readLaw_114 : decode cX4_readLaw 114 = .ok (.aload_n 0, 1) := by decide +kernel
theorem dX4_readLaw_115 : decode cX4_readLaw 115 = .ok (.invokevirtual 141, 3) := by decide +kernel
theorem dX4_readLaw_118 : decode cX4_readLaw 118 = .ok (.aload_n 0, 1) := by decide +kernel
theorem dX4_readLaw_119 : decode cX4_readLaw 119 = .ok (.bipush 22, 2) := by decide +kernel
theorem dX4_readLaw_121 : decode cX4_readLaw 121 = .ok (.invokevirtual 114, 3) := by decide +kernel
theorem dX4_readLaw_124 : decode cX4_readLaw 124 = .ok (.pop, 1) := by decide +kernel
theorem dX4_readLaw_125 : decode cX4_readLaw 125 = .ok (.aload_n 0, 1) := by decide +kernel
theorem dX4_readLaw_126 : decode cX4_readLaw 126 = .ok (.bipush 21, 2) := by decide +kernel
theorem dX4_readLaw_128 : decode cX4_readLaw 128 = .ok (.iconst 0, 1) := by decide +kernel
theorem dX4_readLaw_129 : decode cX4_readLaw 129 = .ok (.invokevirtual 144, 3) := by decide +kernel
theorem dX4_readLaw_132 : decode cX4_readLaw 132 = .ok (.istore_n 2, 1) := by decide +kernel
theorem dX4_readLaw_133 : decode cX4_readLaw 133 = .ok (.aload_n 0, 1) := by decide +kernel
theorem dX4_readLaw_134 : decode cX4_readLaw 134 = .ok (.iconst 0, 1) := by decide +kernel
theorem dX4_readLaw_135 : decode cX4_readLaw 135 = .ok (.iconst 0, 1) := by decide +kernel
theorem dX4_readLaw_136 : decode cX4_readLaw 136 = .ok (.invokevirtual 148, 3) := by decide +kernel
theorem dX4_readLaw_139 : decode cX4_readLaw 139 = .ok (.aload_n 0, 1) := by decide +kernel
theorem dX4_readLaw_140 : decode cX4_readLaw 140 = .ok (.bipush 23, 2) := by decide +kernel
theorem dX4_readLaw_142 : decode cX4_readLaw 142 = .ok (.invokevirtual 114, 3) := by decide +kernel
theorem dX4_readLaw_145 : decode cX4_readLaw 145 = .ok (.pop, 1) := by decide +kernel
theorem dX4_readLaw_146 : decode cX4_readLaw 146 = .ok (.aload_n 0, 1) := by decide +kernel
theorem dX4_readLaw_147 : decode cX4_readLaw 147 = .ok (.bipush 23, 2) := by decide +kernel
theorem dX4_readLaw_149 : decode cX4_readLaw 149 = .ok (.iconst 0, 1) := by decide +kernel
theorem dX4_readLaw_150 : decode cX4_readLaw 150 = .ok (.invokevirtual 144, 3) := by decide +kernel
theorem dX4_readLaw_153 : decode cX4_readLaw 153 = .ok (.pop, 1) := by decide +kernel
theorem dX4_readLaw_154 : decode cX4_readLaw 154 = .ok (.aload_n 0, 1) := by decide +kernel
theorem dX4_readLaw_155 : decode cX4_readLaw 155 = .ok (.iload_n 2, 1) := by decide +kernel
theorem dX4_readLaw_156 : decode cX4_readLaw 156 = .ok (.invokevirtual 152, 3) := by decide +kernel
theorem dX4_readLaw_159 : decode cX4_readLaw 159 = .ok (.iinc 1 1, 3) := by decide +kernel
theorem dX4_readLaw_162 : decode cX4_readLaw 162 = .ok (.goto (-88), 3) := by decide +kernel
theorem dX4_readLaw_165 : decode cX4_readLaw 165 = .ok (.aload_n 0, 1) := by decide +kernel
theorem dX4_readLaw_166 : decode cX4_readLaw 166 = .ok (.iconst 0, 1) := by decide +kernel
theorem dX4_readLaw_167 : decode cX4_readLaw 167 = .ok (.iconst 0, 1) := by decide +kernel
theorem dX4_readLaw_168 : decode cX4_readLaw 168 = .ok (.invokevirtual 148, 3) := by decide +kernel
theorem dX4_readLaw_171 : decode cX4_readLaw 171 = .ok (.aload_n 0, 1) := by decide +kernel
theorem dX4_readLaw_172 : decode cX4_readLaw 172 = .ok (.iconst 4, 1) := by decide +kernel
theorem dX4_readLaw_173 : decode cX4_readLaw 173 = .ok (.invokevirtual 114, 3) := by decide +kernel
theorem dX4_readLaw_176 : decode cX4_readLaw 176 = .ok (.pop, 1) := by decide +kernel
theorem dX4_readLaw_177 : decode cX4_readLaw 177 = .ok (.aload_n 0, 1) := by decide +kernel
theorem dX4_readLaw_178 : decode cX4_readLaw 178 = .ok (.bipush 23, 2) := by decide +kernel
theorem dX4_readLaw_180 : decode cX4_readLaw 180 = .ok (.iconst 0, 1) := by decide +kernel
theorem dX4_readLaw_181 : decode cX4_readLaw 181 = .ok (.invokevirtual 144, 3) := by decide +kernel
theorem dX4_readLaw_184 : decode cX4_readLaw 184 = .ok (.pop, 1) := by decide +kernel
theorem dX4_readLaw_185 : decode cX4_readLaw 185 = .ok (.aload_n 0, 1) := by decide +kernel
theorem dX4_readLaw_186 : decode cX4_readLaw 186 = .ok (.getfield 35, 3) := by decide +kernel
theorem dX4_readLaw_189 : decode cX4_readLaw 189 = .ok (.dup, 1) := by decide +kernel
theorem dX4_readLaw_190 : decode cX4_readLaw 190 = .ok (.getfield 129, 3) := by decide +kernel
theorem dX4_readLaw_193 : decode cX4_readLaw 193 = .ok (.iconst 1, 1) := by decide +kernel
theorem dX4_readLaw_194 : decode cX4_readLaw 194 = .ok (.iadd, 1) := by decide +kernel
theorem dX4_readLaw_195 : decode cX4_readLaw 195 = .ok (.putfield 129, 3) := by decide +kernel
theorem dX4_readLaw_198 : decode cX4_readLaw 198 = .ok (.return_, 1) := by decide +kernel
def k_X4_readLaw_74 (X : CX) (T : List Dsc) (n1 n2 : Nat) (x0 : Nat) (r : ((Int32 × Mem) ⊕ ((Mem)))) : Prop := match r with
  | .inl s => Wp X cX4_readLaw RX4 3 T s.2 n1 n2 74 [(0, .ref x0), (1, .int s.1)] []
  | .inr e => Wp X cX4_readLaw RX4 3 T e n1 n2 165 [(0, .ref x0)] []
set_option maxHeartbeats 4000000 in
set_option maxRecDepth 100000 in
theorem w_X4_readLaw_107 {X : CX} {T : List Dsc} {n1 n2 : Nat} {x0 : Nat} {x1 : Int32} {μ : Mem} {r : ((Int32 × Mem) ⊕ ((Mem)))} (hX : XR X 73 n1 n2) (hx0 : T[x0]? = some (.inl 3)) (hf : f_X4_readLaw_107 T x0 x1 μ = some r) (hk : k_X4_readLaw_74 X T n1 n2 x0 r) : Wp X cX4_readLaw RX4 3 T μ n1 n2 107 [(0, .ref x0), (1, .int x1)] [] := by
  unfold f_X4_readLaw_107 at hf
  refine Wp.aload_n (pc := 107) 0 rfl rfl dX4_readLaw_107 ?_
  refine Wp.bipush (pc := 108) (21 : Int32) (by decide) dX4_readLaw_108 ?_
  obtain ⟨c1, h2, hf⟩ := bnd hf
  refine Wp.callVi (pc := 110) (st := []) (as := [.int (21 : Int32)]) (c_X4_take hx0 h2) ml_RX4_114 mv_X4_take mb_X4_take hX (Nat.le_of_ble_eq_true rfl) (by decide) rfl hx0 rfl (by simp) dX4_readLaw_110 rfl ?_
  refine Wp.pop (pc := 113) rfl dX4_readLaw_113 ?_
  refine Wp.aload_n (pc := 114) 0 rfl rfl dX4_readLaw_114 ?_
  obtain ⟨c3, h4, hf⟩ := bnd hf
  refine Wp.callVv (pc := 115) (st := []) (as := []) (c_X4_readCondition hx0 h4) ml_RX4_141 mv_X4_readCondition mb_X4_readCondition hX (Nat.le_of_ble_eq_true rfl) (by decide) rfl hx0 rfl (by simp) dX4_readLaw_115 rfl ?_
  refine Wp.aload_n (pc := 118) 0 rfl rfl dX4_readLaw_118 ?_
  refine Wp.bipush (pc := 119) (22 : Int32) (by decide) dX4_readLaw_119 ?_
  obtain ⟨c5, h6, hf⟩ := bnd hf
  refine Wp.callVi (pc := 121) (st := []) (as := [.int (22 : Int32)]) (c_X4_take hx0 h6) ml_RX4_114 mv_X4_take mb_X4_take hX (Nat.le_of_ble_eq_true rfl) (by decide) rfl hx0 rfl (by simp) dX4_readLaw_121 rfl ?_
  refine Wp.pop (pc := 124) rfl dX4_readLaw_124 ?_
  refine Wp.aload_n (pc := 125) 0 rfl rfl dX4_readLaw_125 ?_
  refine Wp.bipush (pc := 126) (21 : Int32) (by decide) dX4_readLaw_126 ?_
  refine Wp.iconst (pc := 128) (0 : Int32) (by decide) dX4_readLaw_128 ?_
  obtain ⟨c7, h8, hf⟩ := bnd hf
  refine Wp.callVi (pc := 129) (st := []) (as := [.int (21 : Int32), .int (0 : Int32)]) (c_X4_emit hx0 h8) ml_RX4_144 mv_X4_emit mb_X4_emit hX (Nat.le_of_ble_eq_true rfl) (by decide) rfl hx0 rfl (by simp) dX4_readLaw_129 rfl ?_
  refine Wp.istore_n (pc := 132) (lo' := [(0, .ref x0), (1, .int x1), (2, .int c7.1)]) [1, 2, 0] rfl (by decide) rfl dX4_readLaw_132 ?_
  refine Wp.aload_n (pc := 133) 0 rfl rfl dX4_readLaw_133 ?_
  refine Wp.iconst (pc := 134) (0 : Int32) (by decide) dX4_readLaw_134 ?_
  refine Wp.iconst (pc := 135) (0 : Int32) (by decide) dX4_readLaw_135 ?_
  obtain ⟨c9, h10, hf⟩ := bnd hf
  refine Wp.callVv (pc := 136) (st := []) (as := [.int (0 : Int32), .int (0 : Int32)]) (c_X4_readExpression hx0 h10) ml_RX4_148 mv_X4_readExpression mb_X4_readExpression hX (Nat.le_of_ble_eq_true rfl) (by decide) rfl hx0 rfl (by simp) dX4_readLaw_136 rfl ?_
  refine Wp.aload_n (pc := 139) 0 rfl rfl dX4_readLaw_139 ?_
  refine Wp.bipush (pc := 140) (23 : Int32) (by decide) dX4_readLaw_140 ?_
  obtain ⟨c11, h12, hf⟩ := bnd hf
  refine Wp.callVi (pc := 142) (st := []) (as := [.int (23 : Int32)]) (c_X4_take hx0 h12) ml_RX4_114 mv_X4_take mb_X4_take hX (Nat.le_of_ble_eq_true rfl) (by decide) rfl hx0 rfl (by simp) dX4_readLaw_142 rfl ?_
  refine Wp.pop (pc := 145) rfl dX4_readLaw_145 ?_
  refine Wp.aload_n (pc := 146) 0 rfl rfl dX4_readLaw_146 ?_
  refine Wp.bipush (pc := 147) (23 : Int32) (by decide) dX4_readLaw_147 ?_
  refine Wp.iconst (pc := 149) (0 : Int32) (by decide) dX4_readLaw_149 ?_
  obtain ⟨c13, h14, hf⟩ := bnd hf
  refine Wp.callVi (pc := 150) (st := []) (as := [.int (23 : Int32), .int (0 : Int32)]) (c_X4_emit hx0 h14) ml_RX4_144 mv_X4_emit mb_X4_emit hX (Nat.le_of_ble_eq_true rfl) (by decide) rfl hx0 rfl (by simp) dX4_readLaw_150 rfl ?_
  refine Wp.pop (pc := 153) rfl dX4_readLaw_153 ?_
  refine Wp.aload_n (pc := 154) 0 rfl rfl dX4_readLaw_154 ?_
  refine Wp.iload_n (pc := 155) 2 rfl rfl dX4_readLaw_155 ?_
  obtain ⟨c15, h16, hf⟩ := bnd hf
  refine Wp.callVv (pc := 156) (st := []) (as := [.int c7.1]) (c_X4_land hx0 h16) ml_RX4_152 mv_X4_land mb_X4_land hX (Nat.le_of_ble_eq_true rfl) (by decide) rfl hx0 rfl (by simp) dX4_readLaw_156 rfl ?_
  obtain ⟨v17, h18, hf⟩ := bnd hf
  refine Wp.iincN (pc := 159) (lo' := [(0, .ref x0), (1, .int v17)]) (1 : Int32) (by decide) h18 1 rfl [1, 0] rfl (by decide) dX4_readLaw_159 ?_
  refine Wp.goto (pc := 162) 74 dX4_readLaw_162 (by decide) ?_
  cases hf
  exact hk
set_option maxHeartbeats 4000000 in
set_option maxRecDepth 100000 in
theorem w_X4_readLaw_74 {X : CX} {T : List Dsc} {n1 n2 : Nat} {x0 : Nat} {x1 : Int32} {μ : Mem} {r : ((Int32 × Mem) ⊕ ((Mem)))} (hX : XR X 73 n1 n2) (hx0 : T[x0]? = some (.inl 3)) (hf : f_X4_readLaw_74 T x0 x1 μ = some r) (hk : k_X4_readLaw_74 X T n1 n2 x0 r) : Wp X cX4_readLaw RX4 3 T μ n1 n2 74 [(0, .ref x0), (1, .int x1)] [] := by
  unfold f_X4_readLaw_74 at hf
  refine Wp.iload_n (pc := 74) 1 rfl rfl dX4_readLaw_74 ?_
  refine Wp.bipush (pc := 75) (8 : Int32) (by decide) dX4_readLaw_75 ?_
  refine Wp.icmp_gt (pc := 77) 165 dX4_readLaw_77 (by decide) (fun hc1 => ?_) (fun hc1 => ?_)
  · rw [if_pos hc1] at hf
    refine Wp.lo' (lo' := [(0, .ref x0)]) [0] rfl ?_
    cases hf
    exact hk
  · rw [if_neg hc1] at hf
    refine Wp.aload_n (pc := 80) 0 rfl rfl dX4_readLaw_80 ?_
    refine Wp.getI (pc := 81) hx0 fk_RX4_43 rfl dX4_readLaw_81 ?_
    refine Wp.if_ne (pc := 84) 165 dX4_readLaw_84 (by decide) (fun hc2 => ?_) (fun hc2 => ?_)
    · rw [if_neg hc2] at hf
      refine Wp.lo' (lo' := [(0, .ref x0)]) [0] rfl ?_
      cases hf
      exact hk
    · rw [if_pos hc2] at hf
      refine Wp.aload_n (pc := 87) 0 rfl rfl dX4_readLaw_87 ?_
      refine Wp.getI (pc := 88) hx0 fk_RX4_46 rfl dX4_readLaw_88 ?_
      refine Wp.bipush (pc := 91) (21 : Int32) (by decide) dX4_readLaw_91 ?_
      refine Wp.icmp_ne (pc := 93) 165 dX4_readLaw_93 (by decide) (fun hc3 => ?_) (fun hc3 => ?_)
      · rw [if_neg hc3] at hf
        refine Wp.lo' (lo' := [(0, .ref x0)]) [0] rfl ?_
        cases hf
        exact hk
      · rw [if_pos hc3] at hf
        refine Wp.iload_n (pc := 96) 1 rfl rfl dX4_readLaw_96 ?_
        refine Wp.bipush (pc := 97) (8 : Int32) (by decide) dX4_readLaw_97 ?_
        refine Wp.icmp_ne (pc := 99) 107 dX4_readLaw_99 (by decide) (fun hc4 => ?_) (fun hc4 => ?_)
        · rw [if_neg hc4] at hf
          exact w_X4_readLaw_107 hX hx0 hf hk
        · rw [if_pos hc4] at hf
          refine Wp.aload_n (pc := 102) 0 rfl rfl dX4_readLaw_102 ?_
          refine Wp.iconst (pc := 103) (2 : Int32) (by decide) dX4_readLaw_103 ?_
          obtain ⟨c5, h6, hf⟩ := bnd hf
          refine Wp.callVv (pc := 104) (st := []) (as := [.int (2 : Int32)]) (c_X4_fail hx0 h6) ml_RX4_67 mv_X4_fail mb_X4_fail hX (Nat.le_of_ble_eq_true rfl) (by decide) rfl hx0 rfl (by simp) dX4_readLaw_104 rfl ?_
          exact w_X4_readLaw_107 hX hx0 hf hk
theorem wl_X4_readLaw_74 {X : CX} {T : List Dsc} {n1 n2 : Nat} {x0 : Nat} {x1 : Int32} {μ : Mem} {e : ((Mem))} (hX : XR X 73 n1 n2) (hx0 : T[x0]? = some (.inl 3)) (h : loop (g_X4_readLaw_74 T x0) (x1, μ) = some e) (he : Wp X cX4_readLaw RX4 3 T e n1 n2 165 [(0, .ref x0)] []) : Wp X cX4_readLaw RX4 3 T μ n1 n2 74 [(0, .ref x0), (1, .int x1)] [] :=
  loop_ok (K := k_X4_readLaw_74 X T n1 n2 x0) (fun s r hf hk => w_X4_readLaw_74 hX hx0 hf hk) h he
set_option maxHeartbeats 4000000 in
set_option maxRecDepth 100000 in
theorem w_X4_readLaw_165 {X : CX} {T : List Dsc} {n1 n2 : Nat} {x0 : Nat} {μ : Mem} {r : Mem} (hX : XR X 73 n1 n2) (hx0 : T[x0]? = some (.inl 3)) (hf : f_X4_readLaw_165 T x0 μ = some r) (hk : FnV X cX4_readLaw RX4 3 T n1 n2 r) : Wp X cX4_readLaw RX4 3 T μ n1 n2 165 [(0, .ref x0)] [] := by
  unfold f_X4_readLaw_165 at hf
  refine Wp.aload_n (pc := 165) 0 rfl rfl dX4_readLaw_165 ?_
  refine Wp.iconst (pc := 166) (0 : Int32) (by decide) dX4_readLaw_166 ?_
  refine Wp.iconst (pc := 167) (0 : Int32) (by decide) dX4_readLaw_167 ?_
  obtain ⟨c1, h2, hf⟩ := bnd hf
  refine Wp.callVv (pc := 168) (st := []) (as := [.int (0 : Int32), .int (0 : Int32)]) (c_X4_readExpression hx0 h2) ml_RX4_148 mv_X4_readExpression mb_X4_readExpression hX (Nat.le_of_ble_eq_true rfl) (by decide) rfl hx0 rfl (by simp) dX4_readLaw_168 rfl ?_
  refine Wp.aload_n (pc := 171) 0 rfl rfl dX4_readLaw_171 ?_
  refine Wp.iconst (pc := 172) (4 : Int32) (by decide) dX4_readLaw_172 ?_
  obtain ⟨c3, h4, hf⟩ := bnd hf
  refine Wp.callVi (pc := 173) (st := []) (as := [.int (4 : Int32)]) (c_X4_take hx0 h4) ml_RX4_114 mv_X4_take mb_X4_take hX (Nat.le_of_ble_eq_true rfl) (by decide) rfl hx0 rfl (by simp) dX4_readLaw_173 rfl ?_
  refine Wp.pop (pc := 176) rfl dX4_readLaw_176 ?_
  refine Wp.aload_n (pc := 177) 0 rfl rfl dX4_readLaw_177 ?_
  refine Wp.bipush (pc := 178) (23 : Int32) (by decide) dX4_readLaw_178 ?_
  refine Wp.iconst (pc := 180) (0 : Int32) (by decide) dX4_readLaw_180 ?_
  obtain ⟨c5, h6, hf⟩ := bnd hf
  refine Wp.callVi (pc := 181) (st := []) (as := [.int (23 : Int32), .int (0 : Int32)]) (c_X4_emit hx0 h6) ml_RX4_144 mv_X4_emit mb_X4_emit hX (Nat.le_of_ble_eq_true rfl) (by decide) rfl hx0 rfl (by simp) dX4_readLaw_181 rfl ?_
  refine Wp.pop (pc := 184) rfl dX4_readLaw_184 ?_
  refine Wp.aload_n (pc := 185) 0 rfl rfl dX4_readLaw_185 ?_
  obtain ⟨r7, h8, hf⟩ := bnd hf
  refine Wp.getR (pc := 186) (gO_R h8) hx0 fk_RX4_35 rfl dX4_readLaw_186 ?_
  refine Wp.dup (pc := 189) rfl dX4_readLaw_189 ?_
  refine Wp.getI (pc := 190) (gO_T h8) fk_RX4_129 rfl dX4_readLaw_190 ?_
  refine Wp.iconst (pc := 193) (1 : Int32) (by decide) dX4_readLaw_193 ?_
  refine Wp.iadd (pc := 194) dX4_readLaw_194 ?_
  obtain ⟨μ9, h10, hf⟩ := bnd hf
  refine Wp.ptI (pc := 195) h10 (gO_T h8) fk_RX4_129 ff_RX4_6_1 rfl dX4_readLaw_195 ?_
  cases hf
  exact hk _ _ dX4_readLaw_198
set_option maxHeartbeats 4000000 in
set_option maxRecDepth 100000 in
theorem w_X4_readLaw_44 {X : CX} {T : List Dsc} {n1 n2 : Nat} {x0 : Nat} {μ : Mem} {r : Mem} (hX : XR X 73 n1 n2) (hx0 : T[x0]? = some (.inl 3)) (hf : f_X4_readLaw_44 T x0 μ = some r) (hk : FnV X cX4_readLaw RX4 3 T n1 n2 r) : Wp X cX4_readLaw RX4 3 T μ n1 n2 44 [(0, .ref x0)] [] := by
  unfold f_X4_readLaw_44 at hf
  refine Wp.aload_n (pc := 44) 0 rfl rfl dX4_readLaw_44 ?_
  refine Wp.iconst (pc := 45) (5 : Int32) (by decide) dX4_readLaw_45 ?_
  obtain ⟨c1, h2, hf⟩ := bnd hf
  refine Wp.callVi (pc := 46) (st := []) (as := [.int (5 : Int32)]) (c_X4_take hx0 h2) ml_RX4_114 mv_X4_take mb_X4_take hX (Nat.le_of_ble_eq_true rfl) (by decide) rfl hx0 rfl (by simp) dX4_readLaw_46 rfl ?_
  refine Wp.pop (pc := 49) rfl dX4_readLaw_49 ?_
  refine Wp.aload_n (pc := 50) 0 rfl rfl dX4_readLaw_50 ?_
  obtain ⟨r3, h4, hf⟩ := bnd hf
  refine Wp.getR (pc := 51) (gO_R h4) hx0 fk_RX4_35 rfl dX4_readLaw_51 ?_
  obtain ⟨a5, h6, hf⟩ := bnd hf
  refine Wp.getR (pc := 54) (gA_R h6) (gO_T h4) fk_RX4_135 rfl dX4_readLaw_54 ?_
  refine Wp.aload_n (pc := 57) 0 rfl rfl dX4_readLaw_57 ?_
  obtain ⟨r7, h8, hf⟩ := bnd hf
  refine Wp.getR (pc := 58) (gO_R h8) hx0 fk_RX4_35 rfl dX4_readLaw_58 ?_
  refine Wp.getI (pc := 61) (gO_T h8) fk_RX4_129 rfl dX4_readLaw_61 ?_
  refine Wp.aload_n (pc := 64) 0 rfl rfl dX4_readLaw_64 ?_
  obtain ⟨r9, h10, hf⟩ := bnd hf
  refine Wp.getR (pc := 65) (gO_R h10) hx0 fk_RX4_35 rfl dX4_readLaw_65 ?_
  refine Wp.getI (pc := 68) (gO_T h10) fk_RX4_138 rfl dX4_readLaw_68 ?_
  obtain ⟨μ11, h12, hf⟩ := bnd hf
  refine Wp.iast (pc := 71) h12 (gA_T h6) dX4_readLaw_71 ?_
  refine Wp.iconst (pc := 72) (0 : Int32) (by decide) dX4_readLaw_72 ?_
  refine Wp.istore_n (pc := 73) (lo' := [(0, .ref x0), (1, .int (0 : Int32))]) [1, 0] rfl (by decide) rfl dX4_readLaw_73 ?_
  obtain ⟨e13, h14, hf⟩ := bnd hf
  refine wl_X4_readLaw_74 hX hx0 h14 ?_
  exact w_X4_readLaw_165 hX hx0 hf hk
set_option maxHeartbeats 4000000 in
set_option maxRecDepth 100000 in
theorem w_X4_readLaw {X : CX} {T : List Dsc} {n1 n2 : Nat} {x0 : Nat} {μ : Mem} {r : Mem} (hX : XR X 73 n1 n2) (hx0 : T[x0]? = some (.inl 3)) (hf : F_X4_readLaw T x0 μ = some r) (hk : FnV X cX4_readLaw RX4 3 T n1 n2 r) : Wp X cX4_readLaw RX4 3 T μ n1 n2 0 [(0, .ref x0)] [] := by
  unfold F_X4_readLaw at hf
  refine Wp.aload_n (pc := 0) 0 rfl rfl dX4_readLaw_0 ?_
  obtain ⟨r1, h2, hf⟩ := bnd hf
  refine Wp.getR (pc := 1) (gO_R h2) hx0 fk_RX4_35 rfl dX4_readLaw_1 ?_
  refine Wp.getI (pc := 4) (gO_T h2) fk_RX4_129 rfl dX4_readLaw_4 ?_
  refine Wp.bipush (pc := 7) (6 : Int32) (by decide) dX4_readLaw_7 ?_
  refine Wp.icmp_lt (pc := 9) 18 dX4_readLaw_9 (by decide) (fun hc3 => ?_) (fun hc3 => ?_)
  · rw [if_pos hc3] at hf
    refine Wp.aload_n (pc := 18) 0 rfl rfl dX4_readLaw_18 ?_
    refine Wp.bipush (pc := 19) (18 : Int32) (by decide) dX4_readLaw_19 ?_
    obtain ⟨c4, h5, hf⟩ := bnd hf
    refine Wp.callVi (pc := 21) (st := []) (as := [.int (18 : Int32)]) (c_X4_take hx0 h5) ml_RX4_114 mv_X4_take mb_X4_take hX (Nat.le_of_ble_eq_true rfl) (by decide) rfl hx0 rfl (by simp) dX4_readLaw_21 rfl ?_
    refine Wp.pop (pc := 24) rfl dX4_readLaw_24 ?_
    refine Wp.aload_n (pc := 25) 0 rfl rfl dX4_readLaw_25 ?_
    refine Wp.iconst (pc := 26) (2 : Int32) (by decide) dX4_readLaw_26 ?_
    obtain ⟨c6, h7, hf⟩ := bnd hf
    refine Wp.callVi (pc := 27) (st := []) (as := [.int (2 : Int32)]) (c_X4_take hx0 h7) ml_RX4_114 mv_X4_take mb_X4_take hX (Nat.le_of_ble_eq_true rfl) (by decide) rfl hx0 rfl (by simp) dX4_readLaw_27 rfl ?_
    refine Wp.if_eq (pc := 30) 44 dX4_readLaw_30 (by decide) (fun hc8 => ?_) (fun hc8 => ?_)
    · rw [if_pos hc8] at hf
      exact w_X4_readLaw_44 hX hx0 hf hk
    · rw [if_neg hc8] at hf
      refine Wp.aload_n (pc := 33) 0 rfl rfl dX4_readLaw_33 ?_
      refine Wp.aload_n (pc := 34) 0 rfl rfl dX4_readLaw_34 ?_
      obtain ⟨r9, h10, hf⟩ := bnd hf
      refine Wp.getR (pc := 35) (gO_R h10) hx0 fk_RX4_35 rfl dX4_readLaw_35 ?_
      refine Wp.getI (pc := 38) (gO_T h10) fk_RX4_129 rfl dX4_readLaw_38 ?_
      obtain ⟨c11, h12, hf⟩ := bnd hf
      refine Wp.callVv (pc := 41) (st := []) (as := [.int (gI c6.2 r9 1)]) (c_X4_noteName hx0 h12) ml_RX4_132 mv_X4_noteName mb_X4_noteName hX (Nat.le_of_ble_eq_true rfl) (by decide) rfl hx0 rfl (by simp) dX4_readLaw_41 rfl ?_
      exact w_X4_readLaw_44 hX hx0 hf hk
  · rw [if_neg hc3] at hf
    refine Wp.aload_n (pc := 12) 0 rfl rfl dX4_readLaw_12 ?_
    refine Wp.iconst (pc := 13) (2 : Int32) (by decide) dX4_readLaw_13 ?_
    obtain ⟨c13, h14, hf⟩ := bnd hf
    refine Wp.callVv (pc := 14) (st := []) (as := [.int (2 : Int32)]) (c_X4_fail hx0 h14) ml_RX4_67 mv_X4_fail mb_X4_fail hX (Nat.le_of_ble_eq_true rfl) (by decide) rfl hx0 rfl (by simp) dX4_readLaw_14 rfl ?_
    cases hf
    exact hk _ _ dX4_readLaw_17
theorem c_X4_readLaw {T : List Dsc} {x0 : Nat} {μ : Mem} {r : Mem} (hx0 : T[x0]? = some (.inl 3)) (hf : F_X4_readLaw T x0 μ = some r) : Ct 73 yX4_readLaw cX4_readLaw 3 none T μ [.ref x0] none r := Ct.ofV (by decide +kernel) (Nat.le_of_ble_eq_true rfl) (fun X hX hk => w_X4_readLaw hX hx0 hf hk)
theorem dX4_lawNamed_0 : decode cX4_lawNamed 0 = .ok (.iconst 0, 1) := by decide +kernel
theorem dX4_lawNamed_1 : decode cX4_lawNamed 1 = .ok (.istore_n 3, 1) := by decide +kernel
theorem dX4_lawNamed_2 : decode cX4_lawNamed 2 = .ok (.iload_n 3, 1) := by decide +kernel
theorem dX4_lawNamed_3 : decode cX4_lawNamed 3 = .ok (.aload_n 0, 1) := by decide +kernel
theorem dX4_lawNamed_4 : decode cX4_lawNamed 4 = .ok (.getfield 91, 3) := by decide +kernel
theorem dX4_lawNamed_7 : decode cX4_lawNamed 7 = .ok (.if_icmp .ge 37, 3) := by decide +kernel
theorem dX4_lawNamed_10 : decode cX4_lawNamed 10 = .ok (.aload_n 0, 1) := by decide +kernel
theorem dX4_lawNamed_11 : decode cX4_lawNamed 11 = .ok (.getfield 19, 3) := by decide +kernel
theorem dX4_lawNamed_14 : decode cX4_lawNamed 14 = .ok (.iload_n 3, 1) := by decide +kernel
theorem dX4_lawNamed_15 : decode cX4_lawNamed 15 = .ok (.laload, 1) := by decide +kernel
theorem dX4_lawNamed_16 : decode cX4_lawNamed 16 = .ok (.lload_n 1, 1) := by decide +kernel
theorem dX4_lawNamed_17 : decode cX4_lawNamed 17 = .ok (.lcmp, 1) := by decide +kernel
theorem dX4_lawNamed_18 : decode cX4_lawNamed 18 = .ok (.ifCond .ne 20, 3) := by decide +kernel
theorem dX4_lawNamed_21 : decode cX4_lawNamed 21 = .ok (.aload_n 0, 1) := by decide +kernel
theorem dX4_lawNamed_22 : decode cX4_lawNamed 22 = .ok (.getfield 23, 3) := by decide +kernel
theorem dX4_lawNamed_25 : decode cX4_lawNamed 25 = .ok (.iload_n 3, 1) := by decide +kernel
theorem dX4_lawNamed_26 : decode cX4_lawNamed 26 = .ok (.iaload, 1) := by decide +kernel
theorem dX4_lawNamed_27 : decode cX4_lawNamed 27 = .ok (.iconst (-1), 1) := by decide +kernel
theorem dX4_lawNamed_28 : decode cX4_lawNamed 28 = .ok (.if_icmp .eq 10, 3) := by decide +kernel
theorem dX4_lawNamed_31 : decode cX4_lawNamed 31 = .ok (.aload_n 0, 1) := by decide +kernel
theorem dX4_lawNamed_32 : decode cX4_lawNamed 32 = .ok (.getfield 23, 3) := by decide +kernel
theorem dX4_lawNamed_35 : decode cX4_lawNamed 35 = .ok (.iload_n 3, 1) := by decide +kernel
theorem dX4_lawNamed_36 : decode cX4_lawNamed 36 = .ok (.iaload, 1) := by decide +kernel
theorem dX4_lawNamed_37 : decode cX4_lawNamed 37 = .ok (.ireturn, 1) := by decide +kernel
theorem dX4_lawNamed_38 : decode cX4_lawNamed 38 = .ok (.iinc 3 1, 3) := by decide +kernel
theorem dX4_lawNamed_41 : decode cX4_lawNamed 41 = .ok (.goto (-39), 3) := by decide +kernel
theorem dX4_lawNamed_44 : decode cX4_lawNamed 44 = .ok (.iconst (-1), 1) := by decide +kernel
theorem dX4_lawNamed_45 : decode cX4_lawNamed 45 = .ok (.ireturn, 1) := by decide +kernel
def k_X4_lawNamed_2 (X : CX) (T : List Dsc) (n1 n2 : Nat) (x0 : Nat) (x1 : Int64) (r : ((Int32 × Mem) ⊕ ((Int32 × Mem) ⊕ (Mem)))) : Prop := match r with
  | .inl s => Wp X cX4_lawNamed RX4 4 T s.2 n1 n2 2 [(0, .ref x0), (1, .long x1), (3, .int s.1)] []
  | .inr (.inl e) => Wp X cX4_lawNamed RX4 4 T e.2 n1 n2 31 [(0, .ref x0), (3, .int e.1)] []
  | .inr (.inr e) => Wp X cX4_lawNamed RX4 4 T e n1 n2 44 [] []
set_option maxHeartbeats 4000000 in
set_option maxRecDepth 100000 in
theorem w_X4_lawNamed_38 {X : CX} {T : List Dsc} {n1 n2 : Nat} {x0 : Nat} {x1 : Int64} {x3 : Int32} {μ : Mem} {r : ((Int32 × Mem) ⊕ ((Int32 × Mem) ⊕ (Mem)))} (hX : XR X 1 n1 n2) (hx0 : T[x0]? = some (.inl 3)) (hf : f_X4_lawNamed_38 T x0 x1 x3 μ = some r) (hk : k_X4_lawNamed_2 X T n1 n2 x0 x1 r) : Wp X cX4_lawNamed RX4 4 T μ n1 n2 38 [(0, .ref x0), (1, .long x1), (3, .int x3)] [] := by
  unfold f_X4_lawNamed_38 at hf
  obtain ⟨v1, h2, hf⟩ := bnd hf
  refine Wp.iincN (pc := 38) (lo' := [(0, .ref x0), (1, .long x1), (3, .int v1)]) (1 : Int32) (by decide) h2 2 rfl [1, 2, 0] rfl (by decide) dX4_lawNamed_38 ?_
  refine Wp.goto (pc := 41) 2 dX4_lawNamed_41 (by decide) ?_
  cases hf
  exact hk
set_option maxHeartbeats 4000000 in
set_option maxRecDepth 100000 in
theorem w_X4_lawNamed_2 {X : CX} {T : List Dsc} {n1 n2 : Nat} {x0 : Nat} {x1 : Int64} {x3 : Int32} {μ : Mem} {r : ((Int32 × Mem) ⊕ ((Int32 × Mem) ⊕ (Mem)))} (hX : XR X 1 n1 n2) (hx0 : T[x0]? = some (.inl 3)) (hf : f_X4_lawNamed_2 T x0 x1 x3 μ = some r) (hk : k_X4_lawNamed_2 X T n1 n2 x0 x1 r) : Wp X cX4_lawNamed RX4 4 T μ n1 n2 2 [(0, .ref x0), (1, .long x1), (3, .int x3)] [] := by
  unfold f_X4_lawNamed_2 at hf
  refine Wp.iload_n (pc := 2) 2 rfl rfl dX4_lawNamed_2 ?_
  refine Wp.aload_n (pc := 3) 0 rfl rfl dX4_lawNamed_3 ?_
  refine Wp.getI (pc := 4) hx0 fk_RX4_91 rfl dX4_lawNamed_4 ?_
  refine Wp.icmp_ge (pc := 7) 44 dX4_lawNamed_7 (by decide) (fun hc1 => ?_) (fun hc1 => ?_)
  · rw [if_pos hc1] at hf
    refine Wp.lo' (lo' := []) [] rfl ?_
    cases hf
    exact hk
  · rw [if_neg hc1] at hf
    refine Wp.aload_n (pc := 10) 0 rfl rfl dX4_lawNamed_10 ?_
    obtain ⟨a2, h3, hf⟩ := bnd hf
    refine Wp.getR (pc := 11) (gA_R h3) hx0 fk_RX4_19 rfl dX4_lawNamed_11 ?_
    refine Wp.iload_n (pc := 14) 2 rfl rfl dX4_lawNamed_14 ?_
    obtain ⟨v4, h5, hf⟩ := bnd hf
    refine Wp.lald (pc := 15) h5 (gA_T h3) dX4_lawNamed_15 ?_
    refine Wp.lload_n (pc := 16) 1 rfl rfl dX4_lawNamed_16 ?_
    refine Wp.lcmp (pc := 17) dX4_lawNamed_17 ?_
    refine Wp.if_ne (pc := 18) 38 dX4_lawNamed_18 (by decide) (fun hc6 => ?_) (fun hc6 => ?_)
    · rw [if_neg hc6] at hf
      exact w_X4_lawNamed_38 hX hx0 hf hk
    · rw [if_pos hc6] at hf
      refine Wp.aload_n (pc := 21) 0 rfl rfl dX4_lawNamed_21 ?_
      obtain ⟨a7, h8, hf⟩ := bnd hf
      refine Wp.getR (pc := 22) (gA_R h8) hx0 fk_RX4_23 rfl dX4_lawNamed_22 ?_
      refine Wp.iload_n (pc := 25) 2 rfl rfl dX4_lawNamed_25 ?_
      obtain ⟨v9, h10, hf⟩ := bnd hf
      refine Wp.iald (pc := 26) h10 (gA_T h8) dX4_lawNamed_26 ?_
      refine Wp.iconst (pc := 27) (-1 : Int32) (by decide) dX4_lawNamed_27 ?_
      refine Wp.icmp_eq (pc := 28) 38 dX4_lawNamed_28 (by decide) (fun hc11 => ?_) (fun hc11 => ?_)
      · rw [if_pos hc11] at hf
        exact w_X4_lawNamed_38 hX hx0 hf hk
      · rw [if_neg hc11] at hf
        refine Wp.lo' (lo' := [(0, .ref x0), (3, .int x3)]) [0, 2] rfl ?_
        cases hf
        exact hk
theorem wl_X4_lawNamed_2 {X : CX} {T : List Dsc} {n1 n2 : Nat} {x0 : Nat} {x1 : Int64} {x3 : Int32} {μ : Mem} {e : ((Int32 × Mem) ⊕ (Mem))} (hX : XR X 1 n1 n2) (hx0 : T[x0]? = some (.inl 3)) (h : loop (g_X4_lawNamed_2 T x0 x1) (x3, μ) = some e) (he0 : ∀ e_, e = (Sum.inl e_) → Wp X cX4_lawNamed RX4 4 T e_.2 n1 n2 31 [(0, .ref x0), (3, .int e_.1)] []) (he1 : ∀ e_, e = (Sum.inr e_) → Wp X cX4_lawNamed RX4 4 T e_ n1 n2 44 [] []) : Wp X cX4_lawNamed RX4 4 T μ n1 n2 2 [(0, .ref x0), (1, .long x1), (3, .int x3)] [] :=
  loop_ok (K := k_X4_lawNamed_2 X T n1 n2 x0 x1) (fun s r hf hk => w_X4_lawNamed_2 hX hx0 hf hk) h (by rcases e with e | e <;> first | exact he0 _ rfl | exact he1 _ rfl)
set_option maxHeartbeats 4000000 in
set_option maxRecDepth 100000 in
theorem w_X4_lawNamed {X : CX} {T : List Dsc} {n1 n2 : Nat} {x0 : Nat} {x1 : Int64} {μ : Mem} {r : (Int32 × Mem)} (hX : XR X 1 n1 n2) (hx0 : T[x0]? = some (.inl 3)) (hf : F_X4_lawNamed T x0 x1 μ = some r) (hk : FnI X cX4_lawNamed RX4 4 T n1 n2 r) : Wp X cX4_lawNamed RX4 4 T μ n1 n2 0 [(0, .ref x0), (1, .long x1)] [] := by
  unfold F_X4_lawNamed at hf
  refine Wp.iconst (pc := 0) (0 : Int32) (by decide) dX4_lawNamed_0 ?_
  refine Wp.istore_n (pc := 1) (lo' := [(0, .ref x0), (1, .long x1), (3, .int (0 : Int32))]) [1, 2, 0] rfl (by decide) rfl dX4_lawNamed_1 ?_
  obtain ⟨e1, h2, hf⟩ := bnd hf
  refine wl_X4_lawNamed_2 hX hx0 h2 (fun e1_0 hq => ?_) (fun e1_1 hq => ?_)
  · rw [hq, Sum.elim_inl] at hf
    refine Wp.aload_n (pc := 31) 0 rfl rfl dX4_lawNamed_31 ?_
    obtain ⟨a3, h4, hf⟩ := bnd hf
    refine Wp.getR (pc := 32) (gA_R h4) hx0 fk_RX4_23 rfl dX4_lawNamed_32 ?_
    refine Wp.iload_n (pc := 35) 1 rfl rfl dX4_lawNamed_35 ?_
    obtain ⟨v5, h6, hf⟩ := bnd hf
    refine Wp.iald (pc := 36) h6 (gA_T h4) dX4_lawNamed_36 ?_
    cases hf
    exact hk _ _ dX4_lawNamed_37
  · rw [hq, Sum.elim_inr] at hf
    refine Wp.iconst (pc := 44) (-1 : Int32) (by decide) dX4_lawNamed_44 ?_
    cases hf
    exact hk _ _ dX4_lawNamed_45
theorem c_X4_lawNamed {T : List Dsc} {x0 : Nat} {x1 : Int64} {μ : Mem} {r : (Int32 × Mem)} (hx0 : T[x0]? = some (.inl 3)) (hf : F_X4_lawNamed T x0 x1 μ = some r) : Ct 1 yX4_lawNamed cX4_lawNamed 4 (some .int) T μ [.ref x0, .long x1] (some (.int r.1)) r.2 := Ct.ofI (by decide +kernel) (Nat.le_of_ble_eq_true rfl) (fun X hX hk => w_X4_lawNamed hX hx0 hf hk)
theorem dX4_noteBeyond_0 : decode cX4_noteBeyond 0 = .ok (.iconst 3, 1) := by decide +kernel
theorem dX4_noteBeyond_1 : decode cX4_noteBeyond 1 = .ok (.istore_n 1, 1) := by decide +kernel
theorem dX4_noteBeyond_2 : decode cX4_noteBeyond 2 = .ok (.iload_n 1, 1) := by decide +kernel
theorem dX4_noteBeyond_3 : decode cX4_noteBeyond 3 = .ok (.bipush 24, 2) := by decide +kernel
theorem dX4_noteBeyond_5 : decode cX4_noteBeyond 5 = .ok (.if_icmp .gt 56, 3) := by decide +kernel
theorem dX4_noteBeyond_8 : decode cX4_noteBeyond 8 = .ok (.aload_n 0, 1) := by decide +kernel
theorem dX4_noteBeyond_9 : decode cX4_noteBeyond 9 = .ok (.getfield 82, 3) := by decide +kernel
theorem dX4_noteBeyond_12 : decode cX4_noteBeyond 12 = .ok (.ifCond .le 43, 3) := by decide +kernel
theorem dX4_noteBeyond_15 : decode cX4_noteBeyond 15 = .ok (.aload_n 0, 1) := by decide +kernel
theorem dX4_noteBeyond_16 : decode cX4_noteBeyond 16 = .ok (.invokevirtual 118, 3) := by decide +kernel
theorem dX4_noteBeyond_19 : decode cX4_noteBeyond 19 = .ok (.iload_n 1, 1) := by decide +kernel
theorem dX4_noteBeyond_20 : decode cX4_noteBeyond 20 = .ok (.i2l, 1) := by decide +kernel
theorem dX4_noteBeyond_21 : decode cX4_noteBeyond 21 = .ok (.lcmp, 1) := by decide +kernel
theorem dX4_noteBeyond_22 : decode cX4_noteBeyond 22 = .ok (.ifCond .lt 33, 3) := by decide +kernel
theorem dX4_noteBeyond_25 : decode cX4_noteBeyond 25 = .ok (.aload_n 0, 1) := by decide +kernel
theorem dX4_noteBeyond_26 : decode cX4_noteBeyond 26 = .ok (.getfield 15, 3) := by decide +kernel
theorem dX4_noteBeyond_29 : decode cX4_noteBeyond 29 = .ok (.iload_n 1, 1) := by decide +kernel
theorem dX4_noteBeyond_30 : decode cX4_noteBeyond 30 = .ok (.iaload, 1) := by decide +kernel
theorem dX4_noteBeyond_31 : decode cX4_noteBeyond 31 = .ok (.iconst (-1), 1) := by decide +kernel
theorem dX4_noteBeyond_32 : decode cX4_noteBeyond 32 = .ok (.if_icmp .ne 23, 3) := by decide +kernel
theorem dX4_noteBeyond_35 : decode cX4_noteBeyond 35 = .ok (.aload_n 0, 1) := by decide +kernel
theorem dX4_noteBeyond_36 : decode cX4_noteBeyond 36 = .ok (.getfield 15, 3) := by decide +kernel
theorem dX4_noteBeyond_39 : decode cX4_noteBeyond 39 = .ok (.iload_n 1, 1) := by decide +kernel
theorem dX4_noteBeyond_40 : decode cX4_noteBeyond 40 = .ok (.aload_n 0, 1) := by decide +kernel
theorem dX4_noteBeyond_41 : decode cX4_noteBeyond 41 = .ok (.getfield 31, 3) := by decide +kernel
theorem dX4_noteBeyond_44 : decode cX4_noteBeyond 44 = .ok (.getfield 106, 3) := by decide +kernel
theorem dX4_noteBeyond_47 : decode cX4_noteBeyond 47 = .ok (.aload_n 0, 1) := by decide +kernel
theorem dX4_noteBeyond_48 : decode cX4_noteBeyond 48 = .ok (.getfield 82, 3) := by decide +kernel
theorem dX4_noteBeyond_51 : decode cX4_noteBeyond 51 = .ok (.iconst 1, 1) := by decide +kernel
theorem dX4_noteBeyond_52 : decode cX4_noteBeyond 52 = .ok (.isub, 1) := by decide +kernel
theorem dX4_noteBeyond_53 : decode cX4_noteBeyond 53 = .ok (.iaload, 1) := by decide +kernel
theorem dX4_noteBeyond_54 : decode cX4_noteBeyond 54 = .ok (.iastore, 1) := by decide +kernel
theorem dX4_noteBeyond_55 : decode cX4_noteBeyond 55 = .ok (.iinc 1 1, 3) := by decide +kernel
theorem dX4_noteBeyond_58 : decode cX4_noteBeyond 58 = .ok (.goto (-56), 3) := by decide +kernel
theorem dX4_noteBeyond_61 : decode cX4_noteBeyond 61 = .ok (.return_, 1) := by decide +kernel
def k_X4_noteBeyond_2 (X : CX) (T : List Dsc) (n1 n2 : Nat) (x0 : Nat) (r : ((Int32 × Mem) ⊕ ((Mem)))) : Prop := match r with
  | .inl s => Wp X cX4_noteBeyond RX4 2 T s.2 n1 n2 2 [(0, .ref x0), (1, .int s.1)] []
  | .inr e => Wp X cX4_noteBeyond RX4 2 T e n1 n2 61 [] []
set_option maxHeartbeats 4000000 in
set_option maxRecDepth 100000 in
theorem w_X4_noteBeyond_55 {X : CX} {T : List Dsc} {n1 n2 : Nat} {x0 : Nat} {x1 : Int32} {μ : Mem} {r : ((Int32 × Mem) ⊕ ((Mem)))} (hX : XR X 2 n1 n2) (hx0 : T[x0]? = some (.inl 3)) (hf : f_X4_noteBeyond_55 T x0 x1 μ = some r) (hk : k_X4_noteBeyond_2 X T n1 n2 x0 r) : Wp X cX4_noteBeyond RX4 2 T μ n1 n2 55 [(0, .ref x0), (1, .int x1)] [] := by
  unfold f_X4_noteBeyond_55 at hf
  obtain ⟨v1, h2, hf⟩ := bnd hf
  refine Wp.iincN (pc := 55) (lo' := [(0, .ref x0), (1, .int v1)]) (1 : Int32) (by decide) h2 1 rfl [1, 0] rfl (by decide) dX4_noteBeyond_55 ?_
  refine Wp.goto (pc := 58) 2 dX4_noteBeyond_58 (by decide) ?_
  cases hf
  exact hk
set_option maxHeartbeats 4000000 in
set_option maxRecDepth 100000 in
theorem w_X4_noteBeyond_2 {X : CX} {T : List Dsc} {n1 n2 : Nat} {x0 : Nat} {x1 : Int32} {μ : Mem} {r : ((Int32 × Mem) ⊕ ((Mem)))} (hX : XR X 2 n1 n2) (hx0 : T[x0]? = some (.inl 3)) (hf : f_X4_noteBeyond_2 T x0 x1 μ = some r) (hk : k_X4_noteBeyond_2 X T n1 n2 x0 r) : Wp X cX4_noteBeyond RX4 2 T μ n1 n2 2 [(0, .ref x0), (1, .int x1)] [] := by
  unfold f_X4_noteBeyond_2 at hf
  refine Wp.iload_n (pc := 2) 1 rfl rfl dX4_noteBeyond_2 ?_
  refine Wp.bipush (pc := 3) (24 : Int32) (by decide) dX4_noteBeyond_3 ?_
  refine Wp.icmp_gt (pc := 5) 61 dX4_noteBeyond_5 (by decide) (fun hc1 => ?_) (fun hc1 => ?_)
  · rw [if_pos hc1] at hf
    refine Wp.lo' (lo' := []) [] rfl ?_
    cases hf
    exact hk
  · rw [if_neg hc1] at hf
    refine Wp.aload_n (pc := 8) 0 rfl rfl dX4_noteBeyond_8 ?_
    refine Wp.getI (pc := 9) hx0 fk_RX4_82 rfl dX4_noteBeyond_9 ?_
    refine Wp.if_le (pc := 12) 55 dX4_noteBeyond_12 (by decide) (fun hc2 => ?_) (fun hc2 => ?_)
    · rw [if_pos hc2] at hf
      exact w_X4_noteBeyond_55 hX hx0 hf hk
    · rw [if_neg hc2] at hf
      refine Wp.aload_n (pc := 15) 0 rfl rfl dX4_noteBeyond_15 ?_
      obtain ⟨c3, h4, hf⟩ := bnd hf
      refine Wp.callVl (pc := 16) (st := []) (as := []) (c_X4_taken hx0 h4) ml_RX4_118 mv_X4_taken mb_X4_taken hX (Nat.le_of_ble_eq_true rfl) (by decide) rfl hx0 rfl (by simp) dX4_noteBeyond_16 rfl ?_
      refine Wp.iload_n (pc := 19) 1 rfl rfl dX4_noteBeyond_19 ?_
      refine Wp.i2l (pc := 20) dX4_noteBeyond_20 ?_
      refine Wp.lcmp (pc := 21) dX4_noteBeyond_21 ?_
      refine Wp.if_lt (pc := 22) 55 dX4_noteBeyond_22 (by decide) (fun hc5 => ?_) (fun hc5 => ?_)
      · rw [if_pos hc5] at hf
        exact w_X4_noteBeyond_55 hX hx0 hf hk
      · rw [if_neg hc5] at hf
        refine Wp.aload_n (pc := 25) 0 rfl rfl dX4_noteBeyond_25 ?_
        obtain ⟨a6, h7, hf⟩ := bnd hf
        refine Wp.getR (pc := 26) (gA_R h7) hx0 fk_RX4_15 rfl dX4_noteBeyond_26 ?_
        refine Wp.iload_n (pc := 29) 1 rfl rfl dX4_noteBeyond_29 ?_
        obtain ⟨v8, h9, hf⟩ := bnd hf
        refine Wp.iald (pc := 30) h9 (gA_T h7) dX4_noteBeyond_30 ?_
        refine Wp.iconst (pc := 31) (-1 : Int32) (by decide) dX4_noteBeyond_31 ?_
        refine Wp.icmp_ne (pc := 32) 55 dX4_noteBeyond_32 (by decide) (fun hc10 => ?_) (fun hc10 => ?_)
        · rw [if_neg hc10] at hf
          exact w_X4_noteBeyond_55 hX hx0 hf hk
        · rw [if_pos hc10] at hf
          refine Wp.aload_n (pc := 35) 0 rfl rfl dX4_noteBeyond_35 ?_
          obtain ⟨a11, h12, hf⟩ := bnd hf
          refine Wp.getR (pc := 36) (gA_R h12) hx0 fk_RX4_15 rfl dX4_noteBeyond_36 ?_
          refine Wp.iload_n (pc := 39) 1 rfl rfl dX4_noteBeyond_39 ?_
          refine Wp.aload_n (pc := 40) 0 rfl rfl dX4_noteBeyond_40 ?_
          obtain ⟨r13, h14, hf⟩ := bnd hf
          refine Wp.getR (pc := 41) (gO_R h14) hx0 fk_RX4_31 rfl dX4_noteBeyond_41 ?_
          obtain ⟨a15, h16, hf⟩ := bnd hf
          refine Wp.getR (pc := 44) (gA_R h16) (gO_T h14) fk_RX4_106 rfl dX4_noteBeyond_44 ?_
          refine Wp.aload_n (pc := 47) 0 rfl rfl dX4_noteBeyond_47 ?_
          refine Wp.getI (pc := 48) hx0 fk_RX4_82 rfl dX4_noteBeyond_48 ?_
          refine Wp.iconst (pc := 51) (1 : Int32) (by decide) dX4_noteBeyond_51 ?_
          refine Wp.isub (pc := 52) dX4_noteBeyond_52 ?_
          obtain ⟨v17, h18, hf⟩ := bnd hf
          refine Wp.iald (pc := 53) h18 (gA_T h16) dX4_noteBeyond_53 ?_
          obtain ⟨μ19, h20, hf⟩ := bnd hf
          refine Wp.iast (pc := 54) h20 (gA_T h12) dX4_noteBeyond_54 ?_
          exact w_X4_noteBeyond_55 hX hx0 hf hk
theorem wl_X4_noteBeyond_2 {X : CX} {T : List Dsc} {n1 n2 : Nat} {x0 : Nat} {x1 : Int32} {μ : Mem} {e : ((Mem))} (hX : XR X 2 n1 n2) (hx0 : T[x0]? = some (.inl 3)) (h : loop (g_X4_noteBeyond_2 T x0) (x1, μ) = some e) (he : Wp X cX4_noteBeyond RX4 2 T e n1 n2 61 [] []) : Wp X cX4_noteBeyond RX4 2 T μ n1 n2 2 [(0, .ref x0), (1, .int x1)] [] :=
  loop_ok (K := k_X4_noteBeyond_2 X T n1 n2 x0) (fun s r hf hk => w_X4_noteBeyond_2 hX hx0 hf hk) h he
set_option maxHeartbeats 4000000 in
set_option maxRecDepth 100000 in
theorem w_X4_noteBeyond {X : CX} {T : List Dsc} {n1 n2 : Nat} {x0 : Nat} {μ : Mem} {r : Mem} (hX : XR X 2 n1 n2) (hx0 : T[x0]? = some (.inl 3)) (hf : F_X4_noteBeyond T x0 μ = some r) (hk : FnV X cX4_noteBeyond RX4 2 T n1 n2 r) : Wp X cX4_noteBeyond RX4 2 T μ n1 n2 0 [(0, .ref x0)] [] := by
  unfold F_X4_noteBeyond at hf
  refine Wp.iconst (pc := 0) (3 : Int32) (by decide) dX4_noteBeyond_0 ?_
  refine Wp.istore_n (pc := 1) (lo' := [(0, .ref x0), (1, .int (3 : Int32))]) [1, 0] rfl (by decide) rfl dX4_noteBeyond_1 ?_
  obtain ⟨e1, h2, hf⟩ := bnd hf
  refine wl_X4_noteBeyond_2 hX hx0 h2 ?_
  cases hf
  exact hk _ _ dX4_noteBeyond_61
theorem c_X4_noteBeyond {T : List Dsc} {x0 : Nat} {μ : Mem} {r : Mem} (hx0 : T[x0]? = some (.inl 3)) (hf : F_X4_noteBeyond T x0 μ = some r) : Ct 2 yX4_noteBeyond cX4_noteBeyond 2 none T μ [.ref x0] none r := Ct.ofV (by decide +kernel) (Nat.le_of_ble_eq_true rfl) (fun X hX hk => w_X4_noteBeyond hX hx0 hf hk)
theorem dX4_readMan_0 : decode cX4_readMan 0 = .ok (.aload_n 0, 1) := by decide +kernel
theorem dX4_readMan_1 : decode cX4_readMan 1 = .ok (.getfield 35, 3) := by decide +kernel
theorem dX4_readMan_4 : decode cX4_readMan 4 = .ok (.getfield 155, 3) := by decide +kernel
theorem dX4_readMan_7 : decode cX4_readMan 7 = .ok (.bipush 12, 2) := by decide +kernel
theorem dX4_readMan_9 : decode cX4_readMan 9 = .ok (.if_icmp .lt 9, 3) := by decide +kernel
theorem dX4_readMan_12 : decode cX4_readMan 12 = .ok (.aload_n 0, 1) := by decide +kernel
theorem dX4_readMan_13 : decode cX4_readMan 13 = .ok (.iconst 2, 1) := by decide +kernel
theorem dX4_readMan_14 : decode cX4_readMan 14 = .ok (.invokevirtual 67, 3) := by decide +kernel
theorem dX4_readMan_17 : decode cX4_readMan 17 = .ok (.return_, 1) := by decide +kernel
theorem dX4_readMan_18 : decode cX4_readMan 18 = .ok (.aload_n 0, 1) := by decide +kernel
theorem dX4_readMan_19 : decode cX4_readMan 19 = .ok (.bipush 19, 2) := by decide +kernel
theorem dX4_readMan_21 : decode cX4_readMan 21 = .ok (.invokevirtual 114, 3) := by decide +kernel
theorem dX4_readMan_24 : decode cX4_readMan 24 = .ok (.pop, 1) := by decide +kernel
theorem dX4_readMan_25 : decode cX4_readMan 25 = .ok (.aload_n 0, 1) := by decide +kernel
theorem dX4_readMan_26 : decode cX4_readMan 26 = .ok (.iconst 2, 1) := by decide +kernel
theorem dX4_readMan_27 : decode cX4_readMan 27 = .ok (.invokevirtual 114, 3) := by decide +kernel
theorem dX4_readMan_30 : decode cX4_readMan 30 = .ok (.ifCond .eq 8, 3) := by decide +kernel
theorem dX4_readMan_33 : decode cX4_readMan 33 = .ok (.aload_n 0, 1) := by decide +kernel
theorem dX4_readMan_34 : decode cX4_readMan 34 = .ok (.iconst (-1), 1) := by decide +kernel
theorem dX4_readMan_35 : decode cX4_readMan 35 = .ok (.invokevirtual 132, 3) := by decide +kernel
theorem dX4_readMan_38 : decode cX4_readMan 38 = .ok (.aload_n 0, 1) := by decide +kernel
theorem dX4_readMan_39 : decode cX4_readMan 39 = .ok (.iconst 2, 1) := by decide +kernel
theorem dX4_readMan_40 : decode cX4_readMan 40 = .ok (.invokevirtual 114, 3) := by decide +kernel
theorem dX4_readMan_43 : decode cX4_readMan 43 = .ok (.ifCond .eq 50, 3) := by decide +kernel
theorem dX4_readMan_46 : decode cX4_readMan 46 = .ok (.aload_n 0, 1) := by decide +kernel
theorem dX4_readMan_47 : decode cX4_readMan 47 = .ok (.getfield 35, 3) := by decide +kernel
theorem dX4_readMan_50 : decode cX4_readMan 50 = .ok (.getfield 158, 3) := by decide +kernel
theorem dX4_readMan_53 : decode cX4_readMan 53 = .ok (.aload_n 0, 1) := by decide +kernel
theorem dX4_readMan_54 : decode cX4_readMan 54 = .ok (.getfield 35, 3) := by decide +kernel
theorem dX4_readMan_57 : decode cX4_readMan 57 = .ok (.getfield 155, 3) := by decide +kernel
theorem dX4_readMan_60 : decode cX4_readMan 60 = .ok (.aload_n 0, 1) := by decide +kernel
theorem dX4_readMan_61 : decode cX4_readMan 61 = .ok (.aload_n 0, 1) := by decide +kernel
theorem dX4_readMan_62 : decode cX4_readMan 62 = .ok (.invokevirtual 118, 3) := by decide +kernel
theorem dX4_readMan_65 : decode cX4_readMan 65 = .ok (.invokevirtual 161, 3) := by decide +kernel
theorem dX4_readMan_68 : decode cX4_readMan 68 = .ok (.iastore, 1) := by decide +kernel
theorem dX4_readMan_69 : decode cX4_readMan 69 = .ok (.aload_n 0, 1) := by decide +kernel
theorem dX4_readMan_70 : decode cX4_readMan 70 = .ok (.getfield 35, 3) := by decide +kernel
theorem dX4_readMan_73 : decode cX4_readMan 73 = .ok (.getfield 158, 3) := by decide +kernel
theorem dX4_readMan_76 : decode cX4_readMan 76 = .ok (.aload_n 0, 1) := by decide +kernel
theorem dX4_readMan_77 : decode cX4_readMan 77 = .ok (.getfield 35, 3) := by decide +kernel
theorem dX4_readMan_80 : decode cX4_readMan 80 = .ok (.getfield 155, 3) := by decide +kernel
theorem dX4_readMan_83 : decode cX4_readMan 83 = .ok (.iaload, 1) := by decide +kernel
theorem dX4_readMan_84 : decode cX4_readMan 84 = .ok (.iconst (-1), 1) := by decide +kernel
theorem dX4_readMan_85 : decode cX4_readMan 85 = .ok (.if_icmp .ne 8, 3) := by decide +kernel
theorem dX4_readMan_88 : decode cX4_readMan 88 = .ok (.aload_n 0, 1) := by decide +kernel
theorem dX4_readMan_89 : decode cX4_readMan 89 = .ok (.iconst 4, 1) := by decide +kernel
theorem dX4_readMan_90 : decode cX4_readMan 90 = .ok (.invokevirtual 126, 3) := by decide +kernel
theorem dX4_readMan_93 : decode cX4_readMan 93 = .ok (.aload_n 0, 1) := by decide +kernel
theorem dX4_readMan_94 : decode cX4_readMan 94 = .ok (.iconst 3, 1) := by decide +kernel
theorem dX4_readMan_95 : decode cX4_readMan 95 = .ok (.invokevirtual 114, 3) := by decide +kernel
theorem dX4_readMan_98 : decode cX4_readMan 98 = .ok (.ifCond .eq 36, 3) := by decide +kernel
theorem dX4_readMan_101 : decode cX4_readMan 101 = .ok (.aload_n 0, 1) := by decide +kernel
theorem dX4_readMan_102 : decode cX4_readMan 102 = .ok (.invokevirtual 165, 3) := by decide +kernel
theorem dX4_readMan_105 : decode cX4_readMan 105 = .ok (.aload_n 0, 1) := by decide +kernel
theorem dX4_readMan_106 : decode cX4_readMan 106 = .ok (.getfield 35, 3) := by decide +kernel
theorem dX4_readMan_109 : decode cX4_readMan 109 = .ok (.aload_n 0, 1) := by decide +kernel
theorem dX4_readMan_110 : decode cX4_readMan 110 = .ok (.getfield 35, 3) := by decide +kernel
theorem dX4_readMan_113 : decode cX4_readMan 113 = .ok (.getfield 168, 3) := by decide +kernel
theorem dX4_readMan_116 : decode cX4_readMan 116 = .ok (.aload_n 0, 1) := by decide +kernel
theorem dX4_readMan_117 : decode cX4_readMan 117 = .ok (.getfield 35, 3) := by decide +kernel
theorem dX4_readMan_120 : decode cX4_readMan 120 = .ok (.getfield 155, 3) := by decide +kernel
theorem dX4_readMan_123 : decode cX4_readMan 123 = .ok (.aload_n 0, 1) := by decide +kernel
theorem dX4_readMan_124 : decode cX4_readMan 124 = .ok (.invokevirtual 118, 3) := by decide +kernel
theorem dX4_readMan_127 : decode cX4_readMan 127 = .ok (.l2i, 1) := by decide +kernel
theorem dX4_readMan_128 : decode cX4_readMan 128 = .ok (.invokestatic 172, 3) := by decide +kernel
theorem dX4_readMan_131 : decode cX4_readMan 131 = .ok (.putfield 168, 3) := by decide +kernel
theorem dX4_readMan_134 : decode cX4_readMan 134 = .ok (.aload_n 0, 1) := by decide +kernel
theorem dX4_readMan_135 : decode cX4_readMan 135 = .ok (.iconst 4, 1) := by decide +kernel
theorem dX4_readMan_136 : decode cX4_readMan 136 = .ok (.invokevirtual 114, 3) := by decide +kernel
theorem dX4_readMan_139 : decode cX4_readMan 139 = .ok (.pop, 1) := by decide +kernel
theorem dX4_readMan_140 : decode cX4_readMan 140 = .ok (.aload_n 0, 1) := by decide +kernel
theorem dX4_readMan_141 : decode cX4_readMan 141 = .ok (.getfield 35, 3) := by decide +kernel
theorem dX4_readMan_144 : decode cX4_readMan 144 = .ok (.dup, 1) := by decide +kernel
theorem dX4_readMan_145 : decode cX4_readMan 145 = .ok (.getfield 155, 3) := by decide +kernel
theorem dX4_readMan_148 : decode cX4_readMan 148 = .ok (.iconst 1, 1) := by decide +kernel
theorem dX4_readMan_149 : decode cX4_readMan 149 = .ok (.iadd, 1) := by decide +kernel
theorem dX4_readMan_150 : decode cX4_readMan 150 = .ok (.putfield 155, 3) := by decide +kernel
theorem dX4_readMan_153 : decode cX4_readMan 153 = .ok (.return_, 1) := by decide +kernel
set_option maxHeartbeats 4000000 in
set_option maxRecDepth 100000 in
theorem w_X4_readMan_134 {X : CX} {T : List Dsc} {n1 n2 : Nat} {x0 : Nat} {μ : Mem} {r : Mem} (hX : XR X 3 n1 n2) (hx0 : T[x0]? = some (.inl 3)) (hf : f_X4_readMan_134 T x0 μ = some r) (hk : FnV X cX4_readMan RX4 1 T n1 n2 r) : Wp X cX4_readMan RX4 1 T μ n1 n2 134 [(0, .ref x0)] [] := by
  unfold f_X4_readMan_134 at hf
  refine Wp.aload_n (pc := 134) 0 rfl rfl dX4_readMan_134 ?_
  refine Wp.iconst (pc := 135) (4 : Int32) (by decide) dX4_readMan_135 ?_
  obtain ⟨c1, h2, hf⟩ := bnd hf
  refine Wp.callVi (pc := 136) (st := []) (as := [.int (4 : Int32)]) (c_X4_take hx0 h2) ml_RX4_114 mv_X4_take mb_X4_take hX (Nat.le_of_ble_eq_true rfl) (by decide) rfl hx0 rfl (by simp) dX4_readMan_136 rfl ?_
  refine Wp.pop (pc := 139) rfl dX4_readMan_139 ?_
  refine Wp.aload_n (pc := 140) 0 rfl rfl dX4_readMan_140 ?_
  obtain ⟨r3, h4, hf⟩ := bnd hf
  refine Wp.getR (pc := 141) (gO_R h4) hx0 fk_RX4_35 rfl dX4_readMan_141 ?_
  refine Wp.dup (pc := 144) rfl dX4_readMan_144 ?_
  refine Wp.getI (pc := 145) (gO_T h4) fk_RX4_155 rfl dX4_readMan_145 ?_
  refine Wp.iconst (pc := 148) (1 : Int32) (by decide) dX4_readMan_148 ?_
  refine Wp.iadd (pc := 149) dX4_readMan_149 ?_
  obtain ⟨μ5, h6, hf⟩ := bnd hf
  refine Wp.ptI (pc := 150) h6 (gO_T h4) fk_RX4_155 ff_RX4_6_5 rfl dX4_readMan_150 ?_
  cases hf
  exact hk _ _ dX4_readMan_153
set_option maxHeartbeats 4000000 in
set_option maxRecDepth 100000 in
theorem w_X4_readMan_93 {X : CX} {T : List Dsc} {n1 n2 : Nat} {x0 : Nat} {μ : Mem} {r : Mem} (hX : XR X 3 n1 n2) (hx0 : T[x0]? = some (.inl 3)) (hf : f_X4_readMan_93 T x0 μ = some r) (hk : FnV X cX4_readMan RX4 1 T n1 n2 r) : Wp X cX4_readMan RX4 1 T μ n1 n2 93 [(0, .ref x0)] [] := by
  unfold f_X4_readMan_93 at hf
  refine Wp.aload_n (pc := 93) 0 rfl rfl dX4_readMan_93 ?_
  refine Wp.iconst (pc := 94) (3 : Int32) (by decide) dX4_readMan_94 ?_
  obtain ⟨c1, h2, hf⟩ := bnd hf
  refine Wp.callVi (pc := 95) (st := []) (as := [.int (3 : Int32)]) (c_X4_take hx0 h2) ml_RX4_114 mv_X4_take mb_X4_take hX (Nat.le_of_ble_eq_true rfl) (by decide) rfl hx0 rfl (by simp) dX4_readMan_95 rfl ?_
  refine Wp.if_eq (pc := 98) 134 dX4_readMan_98 (by decide) (fun hc3 => ?_) (fun hc3 => ?_)
  · rw [if_pos hc3] at hf
    exact w_X4_readMan_134 hX hx0 hf hk
  · rw [if_neg hc3] at hf
    refine Wp.aload_n (pc := 101) 0 rfl rfl dX4_readMan_101 ?_
    obtain ⟨c4, h5, hf⟩ := bnd hf
    refine Wp.callVv (pc := 102) (st := []) (as := []) (c_X4_noteBeyond hx0 h5) ml_RX4_165 mv_X4_noteBeyond mb_X4_noteBeyond hX (Nat.le_of_ble_eq_true rfl) (by decide) rfl hx0 rfl (by simp) dX4_readMan_102 rfl ?_
    refine Wp.aload_n (pc := 105) 0 rfl rfl dX4_readMan_105 ?_
    obtain ⟨r6, h7, hf⟩ := bnd hf
    refine Wp.getR (pc := 106) (gO_R h7) hx0 fk_RX4_35 rfl dX4_readMan_106 ?_
    refine Wp.aload_n (pc := 109) 0 rfl rfl dX4_readMan_109 ?_
    obtain ⟨r8, h9, hf⟩ := bnd hf
    refine Wp.getR (pc := 110) (gO_R h9) hx0 fk_RX4_35 rfl dX4_readMan_110 ?_
    refine Wp.getJ (pc := 113) (gO_T h9) fk_RX4_168 rfl dX4_readMan_113 ?_
    refine Wp.aload_n (pc := 116) 0 rfl rfl dX4_readMan_116 ?_
    obtain ⟨r10, h11, hf⟩ := bnd hf
    refine Wp.getR (pc := 117) (gO_R h11) hx0 fk_RX4_35 rfl dX4_readMan_117 ?_
    refine Wp.getI (pc := 120) (gO_T h11) fk_RX4_155 rfl dX4_readMan_120 ?_
    refine Wp.aload_n (pc := 123) 0 rfl rfl dX4_readMan_123 ?_
    obtain ⟨c12, h13, hf⟩ := bnd hf
    refine Wp.callVl (pc := 124) (st := [.int (gI c4 r10 5), .long (gJ c4 r8 7), .ref r6]) (as := []) (c_X4_taken hx0 h13) ml_RX4_118 mv_X4_taken mb_X4_taken hX (Nat.le_of_ble_eq_true rfl) (by decide) rfl hx0 rfl (by simp [Value.category]) dX4_readMan_124 rfl ?_
    refine Wp.l2i (pc := 127) dX4_readMan_127 ?_
    obtain ⟨c14, h15, hf⟩ := bnd hf
    refine Wp.callSNl (pc := 128) (st := [.ref r6]) (as := [.long (gJ c4 r8 7), .int (gI c4 r10 5), .int c12.1.toInt32]) (c_X11_withTime h15) ml_RX4_172 ms_X11_withTime mb_X11_withTime hX (Nat.le_of_ble_eq_true rfl) (by decide) rfl (by simp [Value.category]) dX4_readMan_128 rfl ?_
    obtain ⟨μ16, h17, hf⟩ := bnd hf
    refine Wp.ptJ (pc := 131) h17 (gO_T h7) fk_RX4_168 ff_RX4_6_7 rfl dX4_readMan_131 ?_
    exact w_X4_readMan_134 hX hx0 hf hk
set_option maxHeartbeats 4000000 in
set_option maxRecDepth 100000 in
theorem w_X4_readMan_38 {X : CX} {T : List Dsc} {n1 n2 : Nat} {x0 : Nat} {μ : Mem} {r : Mem} (hX : XR X 3 n1 n2) (hx0 : T[x0]? = some (.inl 3)) (hf : f_X4_readMan_38 T x0 μ = some r) (hk : FnV X cX4_readMan RX4 1 T n1 n2 r) : Wp X cX4_readMan RX4 1 T μ n1 n2 38 [(0, .ref x0)] [] := by
  unfold f_X4_readMan_38 at hf
  refine Wp.aload_n (pc := 38) 0 rfl rfl dX4_readMan_38 ?_
  refine Wp.iconst (pc := 39) (2 : Int32) (by decide) dX4_readMan_39 ?_
  obtain ⟨c1, h2, hf⟩ := bnd hf
  refine Wp.callVi (pc := 40) (st := []) (as := [.int (2 : Int32)]) (c_X4_take hx0 h2) ml_RX4_114 mv_X4_take mb_X4_take hX (Nat.le_of_ble_eq_true rfl) (by decide) rfl hx0 rfl (by simp) dX4_readMan_40 rfl ?_
  refine Wp.if_eq (pc := 43) 93 dX4_readMan_43 (by decide) (fun hc3 => ?_) (fun hc3 => ?_)
  · rw [if_pos hc3] at hf
    exact w_X4_readMan_93 hX hx0 hf hk
  · rw [if_neg hc3] at hf
    refine Wp.aload_n (pc := 46) 0 rfl rfl dX4_readMan_46 ?_
    obtain ⟨r4, h5, hf⟩ := bnd hf
    refine Wp.getR (pc := 47) (gO_R h5) hx0 fk_RX4_35 rfl dX4_readMan_47 ?_
    obtain ⟨a6, h7, hf⟩ := bnd hf
    refine Wp.getR (pc := 50) (gA_R h7) (gO_T h5) fk_RX4_158 rfl dX4_readMan_50 ?_
    refine Wp.aload_n (pc := 53) 0 rfl rfl dX4_readMan_53 ?_
    obtain ⟨r8, h9, hf⟩ := bnd hf
    refine Wp.getR (pc := 54) (gO_R h9) hx0 fk_RX4_35 rfl dX4_readMan_54 ?_
    refine Wp.getI (pc := 57) (gO_T h9) fk_RX4_155 rfl dX4_readMan_57 ?_
    refine Wp.aload_n (pc := 60) 0 rfl rfl dX4_readMan_60 ?_
    refine Wp.aload_n (pc := 61) 0 rfl rfl dX4_readMan_61 ?_
    obtain ⟨c10, h11, hf⟩ := bnd hf
    refine Wp.callVl (pc := 62) (st := [.ref x0, .int (gI c1.2 r8 5), .ref a6.1]) (as := []) (c_X4_taken hx0 h11) ml_RX4_118 mv_X4_taken mb_X4_taken hX (Nat.le_of_ble_eq_true rfl) (by decide) rfl hx0 rfl (by simp [Value.category]) dX4_readMan_62 rfl ?_
    obtain ⟨c12, h13, hf⟩ := bnd hf
    refine Wp.callVi (pc := 65) (st := [.int (gI c1.2 r8 5), .ref a6.1]) (as := [.long c10.1]) (c_X4_lawNamed hx0 h13) ml_RX4_161 mv_X4_lawNamed mb_X4_lawNamed hX (Nat.le_of_ble_eq_true rfl) (by decide) rfl hx0 rfl (by simp [Value.category]) dX4_readMan_65 rfl ?_
    obtain ⟨μ14, h15, hf⟩ := bnd hf
    refine Wp.iast (pc := 68) h15 (gA_T h7) dX4_readMan_68 ?_
    refine Wp.aload_n (pc := 69) 0 rfl rfl dX4_readMan_69 ?_
    obtain ⟨r16, h17, hf⟩ := bnd hf
    refine Wp.getR (pc := 70) (gO_R h17) hx0 fk_RX4_35 rfl dX4_readMan_70 ?_
    obtain ⟨a18, h19, hf⟩ := bnd hf
    refine Wp.getR (pc := 73) (gA_R h19) (gO_T h17) fk_RX4_158 rfl dX4_readMan_73 ?_
    refine Wp.aload_n (pc := 76) 0 rfl rfl dX4_readMan_76 ?_
    obtain ⟨r20, h21, hf⟩ := bnd hf
    refine Wp.getR (pc := 77) (gO_R h21) hx0 fk_RX4_35 rfl dX4_readMan_77 ?_
    refine Wp.getI (pc := 80) (gO_T h21) fk_RX4_155 rfl dX4_readMan_80 ?_
    obtain ⟨v22, h23, hf⟩ := bnd hf
    refine Wp.iald (pc := 83) h23 (gA_T h19) dX4_readMan_83 ?_
    refine Wp.iconst (pc := 84) (-1 : Int32) (by decide) dX4_readMan_84 ?_
    refine Wp.icmp_ne (pc := 85) 93 dX4_readMan_85 (by decide) (fun hc24 => ?_) (fun hc24 => ?_)
    · rw [if_neg hc24] at hf
      exact w_X4_readMan_93 hX hx0 hf hk
    · rw [if_pos hc24] at hf
      refine Wp.aload_n (pc := 88) 0 rfl rfl dX4_readMan_88 ?_
      refine Wp.iconst (pc := 89) (4 : Int32) (by decide) dX4_readMan_89 ?_
      obtain ⟨c25, h26, hf⟩ := bnd hf
      refine Wp.callVv (pc := 90) (st := []) (as := [.int (4 : Int32)]) (c_X4_slipAtTaken hx0 h26) ml_RX4_126 mv_X4_slipAtTaken mb_X4_slipAtTaken hX (Nat.le_of_ble_eq_true rfl) (by decide) rfl hx0 rfl (by simp) dX4_readMan_90 rfl ?_
      exact w_X4_readMan_93 hX hx0 hf hk
set_option maxHeartbeats 4000000 in
set_option maxRecDepth 100000 in
theorem w_X4_readMan {X : CX} {T : List Dsc} {n1 n2 : Nat} {x0 : Nat} {μ : Mem} {r : Mem} (hX : XR X 3 n1 n2) (hx0 : T[x0]? = some (.inl 3)) (hf : F_X4_readMan T x0 μ = some r) (hk : FnV X cX4_readMan RX4 1 T n1 n2 r) : Wp X cX4_readMan RX4 1 T μ n1 n2 0 [(0, .ref x0)] [] := by
  unfold F_X4_readMan at hf
  refine Wp.aload_n (pc := 0) 0 rfl rfl dX4_readMan_0 ?_
  obtain ⟨r1, h2, hf⟩ := bnd hf
  refine Wp.getR (pc := 1) (gO_R h2) hx0 fk_RX4_35 rfl dX4_readMan_1 ?_
  refine Wp.getI (pc := 4) (gO_T h2) fk_RX4_155 rfl dX4_readMan_4 ?_
  refine Wp.bipush (pc := 7) (12 : Int32) (by decide) dX4_readMan_7 ?_
  refine Wp.icmp_lt (pc := 9) 18 dX4_readMan_9 (by decide) (fun hc3 => ?_) (fun hc3 => ?_)
  · rw [if_pos hc3] at hf
    refine Wp.aload_n (pc := 18) 0 rfl rfl dX4_readMan_18 ?_
    refine Wp.bipush (pc := 19) (19 : Int32) (by decide) dX4_readMan_19 ?_
    obtain ⟨c4, h5, hf⟩ := bnd hf
    refine Wp.callVi (pc := 21) (st := []) (as := [.int (19 : Int32)]) (c_X4_take hx0 h5) ml_RX4_114 mv_X4_take mb_X4_take hX (Nat.le_of_ble_eq_true rfl) (by decide) rfl hx0 rfl (by simp) dX4_readMan_21 rfl ?_
    refine Wp.pop (pc := 24) rfl dX4_readMan_24 ?_
    refine Wp.aload_n (pc := 25) 0 rfl rfl dX4_readMan_25 ?_
    refine Wp.iconst (pc := 26) (2 : Int32) (by decide) dX4_readMan_26 ?_
    obtain ⟨c6, h7, hf⟩ := bnd hf
    refine Wp.callVi (pc := 27) (st := []) (as := [.int (2 : Int32)]) (c_X4_take hx0 h7) ml_RX4_114 mv_X4_take mb_X4_take hX (Nat.le_of_ble_eq_true rfl) (by decide) rfl hx0 rfl (by simp) dX4_readMan_27 rfl ?_
    refine Wp.if_eq (pc := 30) 38 dX4_readMan_30 (by decide) (fun hc8 => ?_) (fun hc8 => ?_)
    · rw [if_pos hc8] at hf
      exact w_X4_readMan_38 hX hx0 hf hk
    · rw [if_neg hc8] at hf
      refine Wp.aload_n (pc := 33) 0 rfl rfl dX4_readMan_33 ?_
      refine Wp.iconst (pc := 34) (-1 : Int32) (by decide) dX4_readMan_34 ?_
      obtain ⟨c9, h10, hf⟩ := bnd hf
      refine Wp.callVv (pc := 35) (st := []) (as := [.int (-1 : Int32)]) (c_X4_noteName hx0 h10) ml_RX4_132 mv_X4_noteName mb_X4_noteName hX (Nat.le_of_ble_eq_true rfl) (by decide) rfl hx0 rfl (by simp) dX4_readMan_35 rfl ?_
      exact w_X4_readMan_38 hX hx0 hf hk
  · rw [if_neg hc3] at hf
    refine Wp.aload_n (pc := 12) 0 rfl rfl dX4_readMan_12 ?_
    refine Wp.iconst (pc := 13) (2 : Int32) (by decide) dX4_readMan_13 ?_
    obtain ⟨c11, h12, hf⟩ := bnd hf
    refine Wp.callVv (pc := 14) (st := []) (as := [.int (2 : Int32)]) (c_X4_fail hx0 h12) ml_RX4_67 mv_X4_fail mb_X4_fail hX (Nat.le_of_ble_eq_true rfl) (by decide) rfl hx0 rfl (by simp) dX4_readMan_14 rfl ?_
    cases hf
    exact hk _ _ dX4_readMan_17
theorem c_X4_readMan {T : List Dsc} {x0 : Nat} {μ : Mem} {r : Mem} (hx0 : T[x0]? = some (.inl 3)) (hf : F_X4_readMan T x0 μ = some r) : Ct 3 yX4_readMan cX4_readMan 1 none T μ [.ref x0] none r := Ct.ofV (by decide +kernel) (Nat.le_of_ble_eq_true rfl) (fun X hX hk => w_X4_readMan hX hx0 hf hk)
theorem dX4_readDrum_0 : decode cX4_readDrum 0 = .ok (.aload_n 0, 1) := by decide +kernel
theorem dX4_readDrum_1 : decode cX4_readDrum 1 = .ok (.bipush 31, 2) := by decide +kernel
theorem dX4_readDrum_3 : decode cX4_readDrum 3 = .ok (.invokevirtual 114, 3) := by decide +kernel
theorem dX4_readDrum_6 : decode cX4_readDrum 6 = .ok (.pop, 1) := by decide +kernel
theorem dX4_readDrum_7 : decode cX4_readDrum 7 = .ok (.aload_n 0, 1) := by decide +kernel
theorem dX4_readDrum_8 : decode cX4_readDrum 8 = .ok (.iconst 3, 1) := by decide +kernel
theorem dX4_readDrum_9 : decode cX4_readDrum 9 = .ok (.invokevirtual 114, 3) := by decide +kernel
theorem dX4_readDrum_12 : decode cX4_readDrum 12 = .ok (.ifCond .eq 19, 3) := by decide +kernel
theorem dX4_readDrum_15 : decode cX4_readDrum 15 = .ok (.aload_n 0, 1) := by decide +kernel
theorem dX4_readDrum_16 : decode cX4_readDrum 16 = .ok (.invokevirtual 165, 3) := by decide +kernel
theorem dX4_readDrum_19 : decode cX4_readDrum 19 = .ok (.aload_n 0, 1) := by decide +kernel
theorem dX4_readDrum_20 : decode cX4_readDrum 20 = .ok (.getfield 35, 3) := by decide +kernel
theorem dX4_readDrum_23 : decode cX4_readDrum 23 = .ok (.aload_n 0, 1) := by decide +kernel
theorem dX4_readDrum_24 : decode cX4_readDrum 24 = .ok (.invokevirtual 118, 3) := by decide +kernel
theorem dX4_readDrum_27 : decode cX4_readDrum 27 = .ok (.l2i, 1) := by decide +kernel
theorem dX4_readDrum_28 : decode cX4_readDrum 28 = .ok (.putfield 176, 3) := by decide +kernel
theorem dX4_readDrum_31 : decode cX4_readDrum 31 = .ok (.aload_n 0, 1) := by decide +kernel
theorem dX4_readDrum_32 : decode cX4_readDrum 32 = .ok (.iconst 3, 1) := by decide +kernel
theorem dX4_readDrum_33 : decode cX4_readDrum 33 = .ok (.invokevirtual 114, 3) := by decide +kernel
theorem dX4_readDrum_36 : decode cX4_readDrum 36 = .ok (.ifCond .eq 31, 3) := by decide +kernel
theorem dX4_readDrum_39 : decode cX4_readDrum 39 = .ok (.aload_n 0, 1) := by decide +kernel
theorem dX4_readDrum_40 : decode cX4_readDrum 40 = .ok (.invokevirtual 118, 3) := by decide +kernel
theorem dX4_readDrum_43 : decode cX4_readDrum 43 = .ok (.ldc2_w 179, 3) := by decide +kernel
theorem dX4_readDrum_46 : decode cX4_readDrum 46 = .ok (.lcmp, 1) := by decide +kernel
theorem dX4_readDrum_47 : decode cX4_readDrum 47 = .ok (.ifCond .le 8, 3) := by decide +kernel
theorem dX4_readDrum_50 : decode cX4_readDrum 50 = .ok (.aload_n 0, 1) := by decide +kernel
theorem dX4_readDrum_51 : decode cX4_readDrum 51 = .ok (.iconst 5, 1) := by decide +kernel
theorem dX4_readDrum_52 : decode cX4_readDrum 52 = .ok (.invokevirtual 126, 3) := by decide +kernel
theorem dX4_readDrum_55 : decode cX4_readDrum 55 = .ok (.aload_n 0, 1) := by decide +kernel
theorem dX4_readDrum_56 : decode cX4_readDrum 56 = .ok (.getfield 35, 3) := by decide +kernel
theorem dX4_readDrum_59 : decode cX4_readDrum 59 = .ok (.aload_n 0, 1) := by decide +kernel
theorem dX4_readDrum_60 : decode cX4_readDrum 60 = .ok (.invokevirtual 118, 3) := by decide +kernel
theorem dX4_readDrum_63 : decode cX4_readDrum 63 = .ok (.l2i, 1) := by decide +kernel
theorem dX4_readDrum_64 : decode cX4_readDrum 64 = .ok (.putfield 181, 3) := by decide +kernel
theorem dX4_readDrum_67 : decode cX4_readDrum 67 = .ok (.aload_n 0, 1) := by decide +kernel
theorem dX4_readDrum_68 : decode cX4_readDrum 68 = .ok (.iconst 4, 1) := by decide +kernel
theorem dX4_readDrum_69 : decode cX4_readDrum 69 = .ok (.invokevirtual 114, 3) := by decide +kernel
theorem dX4_readDrum_72 : decode cX4_readDrum 72 = .ok (.pop, 1) := by decide +kernel
theorem dX4_readDrum_73 : decode cX4_readDrum 73 = .ok (.return_, 1) := by decide +kernel
set_option maxHeartbeats 4000000 in
set_option maxRecDepth 100000 in
theorem w_X4_readDrum_67 {X : CX} {T : List Dsc} {n1 n2 : Nat} {x0 : Nat} {μ : Mem} {r : Mem} (hX : XR X 3 n1 n2) (hx0 : T[x0]? = some (.inl 3)) (hf : f_X4_readDrum_67 T x0 μ = some r) (hk : FnV X cX4_readDrum RX4 1 T n1 n2 r) : Wp X cX4_readDrum RX4 1 T μ n1 n2 67 [(0, .ref x0)] [] := by
  unfold f_X4_readDrum_67 at hf
  refine Wp.aload_n (pc := 67) 0 rfl rfl dX4_readDrum_67 ?_
  refine Wp.iconst (pc := 68) (4 : Int32) (by decide) dX4_readDrum_68 ?_
  obtain ⟨c1, h2, hf⟩ := bnd hf
  refine Wp.callVi (pc := 69) (st := []) (as := [.int (4 : Int32)]) (c_X4_take hx0 h2) ml_RX4_114 mv_X4_take mb_X4_take hX (Nat.le_of_ble_eq_true rfl) (by decide) rfl hx0 rfl (by simp) dX4_readDrum_69 rfl ?_
  refine Wp.pop (pc := 72) rfl dX4_readDrum_72 ?_
  cases hf
  exact hk _ _ dX4_readDrum_73
set_option maxHeartbeats 4000000 in
set_option maxRecDepth 100000 in
theorem w_X4_readDrum_55 {X : CX} {T : List Dsc} {n1 n2 : Nat} {x0 : Nat} {μ : Mem} {r : Mem} (hX : XR X 3 n1 n2) (hx0 : T[x0]? = some (.inl 3)) (hf : f_X4_readDrum_55 T x0 μ = some r) (hk : FnV X cX4_readDrum RX4 1 T n1 n2 r) : Wp X cX4_readDrum RX4 1 T μ n1 n2 55 [(0, .ref x0)] [] := by
  unfold f_X4_readDrum_55 at hf
  refine Wp.aload_n (pc := 55) 0 rfl rfl dX4_readDrum_55 ?_
  obtain ⟨r1, h2, hf⟩ := bnd hf
  refine Wp.getR (pc := 56) (gO_R h2) hx0 fk_RX4_35 rfl dX4_readDrum_56 ?_
  refine Wp.aload_n (pc := 59) 0 rfl rfl dX4_readDrum_59 ?_
  obtain ⟨c3, h4, hf⟩ := bnd hf
  refine Wp.callVl (pc := 60) (st := [.ref r1]) (as := []) (c_X4_taken hx0 h4) ml_RX4_118 mv_X4_taken mb_X4_taken hX (Nat.le_of_ble_eq_true rfl) (by decide) rfl hx0 rfl (by simp [Value.category]) dX4_readDrum_60 rfl ?_
  refine Wp.l2i (pc := 63) dX4_readDrum_63 ?_
  obtain ⟨μ5, h6, hf⟩ := bnd hf
  refine Wp.ptI (pc := 64) h6 (gO_T h2) fk_RX4_181 ff_RX4_6_9 rfl dX4_readDrum_64 ?_
  exact w_X4_readDrum_67 hX hx0 hf hk
set_option maxHeartbeats 4000000 in
set_option maxRecDepth 100000 in
theorem w_X4_readDrum_31 {X : CX} {T : List Dsc} {n1 n2 : Nat} {x0 : Nat} {μ : Mem} {r : Mem} (hX : XR X 3 n1 n2) (hx0 : T[x0]? = some (.inl 3)) (hf : f_X4_readDrum_31 T x0 μ = some r) (hk : FnV X cX4_readDrum RX4 1 T n1 n2 r) : Wp X cX4_readDrum RX4 1 T μ n1 n2 31 [(0, .ref x0)] [] := by
  unfold f_X4_readDrum_31 at hf
  refine Wp.aload_n (pc := 31) 0 rfl rfl dX4_readDrum_31 ?_
  refine Wp.iconst (pc := 32) (3 : Int32) (by decide) dX4_readDrum_32 ?_
  obtain ⟨c1, h2, hf⟩ := bnd hf
  refine Wp.callVi (pc := 33) (st := []) (as := [.int (3 : Int32)]) (c_X4_take hx0 h2) ml_RX4_114 mv_X4_take mb_X4_take hX (Nat.le_of_ble_eq_true rfl) (by decide) rfl hx0 rfl (by simp) dX4_readDrum_33 rfl ?_
  refine Wp.if_eq (pc := 36) 67 dX4_readDrum_36 (by decide) (fun hc3 => ?_) (fun hc3 => ?_)
  · rw [if_pos hc3] at hf
    exact w_X4_readDrum_67 hX hx0 hf hk
  · rw [if_neg hc3] at hf
    refine Wp.aload_n (pc := 39) 0 rfl rfl dX4_readDrum_39 ?_
    obtain ⟨c4, h5, hf⟩ := bnd hf
    refine Wp.callVl (pc := 40) (st := []) (as := []) (c_X4_taken hx0 h5) ml_RX4_118 mv_X4_taken mb_X4_taken hX (Nat.le_of_ble_eq_true rfl) (by decide) rfl hx0 rfl (by simp) dX4_readDrum_40 rfl ?_
    refine Wp.ldc2 (pc := 43) (v := (23 : Int64)) (gw_tb 641 (by decide +kernel) rfl) dX4_readDrum_43 ?_
    refine Wp.lcmp (pc := 46) dX4_readDrum_46 ?_
    refine Wp.if_le (pc := 47) 55 dX4_readDrum_47 (by decide) (fun hc6 => ?_) (fun hc6 => ?_)
    · rw [if_pos hc6] at hf
      exact w_X4_readDrum_55 hX hx0 hf hk
    · rw [if_neg hc6] at hf
      refine Wp.aload_n (pc := 50) 0 rfl rfl dX4_readDrum_50 ?_
      refine Wp.iconst (pc := 51) (5 : Int32) (by decide) dX4_readDrum_51 ?_
      obtain ⟨c7, h8, hf⟩ := bnd hf
      refine Wp.callVv (pc := 52) (st := []) (as := [.int (5 : Int32)]) (c_X4_slipAtTaken hx0 h8) ml_RX4_126 mv_X4_slipAtTaken mb_X4_slipAtTaken hX (Nat.le_of_ble_eq_true rfl) (by decide) rfl hx0 rfl (by simp) dX4_readDrum_52 rfl ?_
      exact w_X4_readDrum_55 hX hx0 hf hk
set_option maxHeartbeats 4000000 in
set_option maxRecDepth 100000 in
theorem w_X4_readDrum {X : CX} {T : List Dsc} {n1 n2 : Nat} {x0 : Nat} {μ : Mem} {r : Mem} (hX : XR X 3 n1 n2) (hx0 : T[x0]? = some (.inl 3)) (hf : F_X4_readDrum T x0 μ = some r) (hk : FnV X cX4_readDrum RX4 1 T n1 n2 r) : Wp X cX4_readDrum RX4 1 T μ n1 n2 0 [(0, .ref x0)] [] := by
  unfold F_X4_readDrum at hf
  refine Wp.aload_n (pc := 0) 0 rfl rfl dX4_readDrum_0 ?_
  refine Wp.bipush (pc := 1) (31 : Int32) (by decide) dX4_readDrum_1 ?_
  obtain ⟨c1, h2, hf⟩ := bnd hf
  refine Wp.callVi (pc := 3) (st := []) (as := [.int (31 : Int32)]) (c_X4_take hx0 h2) ml_RX4_114 mv_X4_take mb_X4_take hX (Nat.le_of_ble_eq_true rfl) (by decide) rfl hx0 rfl (by simp) dX4_readDrum_3 rfl ?_
  refine Wp.pop (pc := 6) rfl dX4_readDrum_6 ?_
  refine Wp.aload_n (pc := 7) 0 rfl rfl dX4_readDrum_7 ?_
  refine Wp.iconst (pc := 8) (3 : Int32) (by decide) dX4_readDrum_8 ?_
  obtain ⟨c3, h4, hf⟩ := bnd hf
  refine Wp.callVi (pc := 9) (st := []) (as := [.int (3 : Int32)]) (c_X4_take hx0 h4) ml_RX4_114 mv_X4_take mb_X4_take hX (Nat.le_of_ble_eq_true rfl) (by decide) rfl hx0 rfl (by simp) dX4_readDrum_9 rfl ?_
  refine Wp.if_eq (pc := 12) 31 dX4_readDrum_12 (by decide) (fun hc5 => ?_) (fun hc5 => ?_)
  · rw [if_pos hc5] at hf
    exact w_X4_readDrum_31 hX hx0 hf hk
  · rw [if_neg hc5] at hf
    refine Wp.aload_n (pc := 15) 0 rfl rfl dX4_readDrum_15 ?_
    obtain ⟨c6, h7, hf⟩ := bnd hf
    refine Wp.callVv (pc := 16) (st := []) (as := []) (c_X4_noteBeyond hx0 h7) ml_RX4_165 mv_X4_noteBeyond mb_X4_noteBeyond hX (Nat.le_of_ble_eq_true rfl) (by decide) rfl hx0 rfl (by simp) dX4_readDrum_16 rfl ?_
    refine Wp.aload_n (pc := 19) 0 rfl rfl dX4_readDrum_19 ?_
    obtain ⟨r8, h9, hf⟩ := bnd hf
    refine Wp.getR (pc := 20) (gO_R h9) hx0 fk_RX4_35 rfl dX4_readDrum_20 ?_
    refine Wp.aload_n (pc := 23) 0 rfl rfl dX4_readDrum_23 ?_
    obtain ⟨c10, h11, hf⟩ := bnd hf
    refine Wp.callVl (pc := 24) (st := [.ref r8]) (as := []) (c_X4_taken hx0 h11) ml_RX4_118 mv_X4_taken mb_X4_taken hX (Nat.le_of_ble_eq_true rfl) (by decide) rfl hx0 rfl (by simp [Value.category]) dX4_readDrum_24 rfl ?_
    refine Wp.l2i (pc := 27) dX4_readDrum_27 ?_
    obtain ⟨μ12, h13, hf⟩ := bnd hf
    refine Wp.ptI (pc := 28) h13 (gO_T h9) fk_RX4_176 ff_RX4_6_8 rfl dX4_readDrum_28 ?_
    exact w_X4_readDrum_31 hX hx0 hf hk
theorem c_X4_readDrum {T : List Dsc} {x0 : Nat} {μ : Mem} {r : Mem} (hx0 : T[x0]? = some (.inl 3)) (hf : F_X4_readDrum T x0 μ = some r) : Ct 3 yX4_readDrum cX4_readDrum 1 none T μ [.ref x0] none r := Ct.ofV (by decide +kernel) (Nat.le_of_ble_eq_true rfl) (fun X hX hk => w_X4_readDrum hX hx0 hf hk)
theorem dX4_readSong_0 : decode cX4_readSong 0 = .ok (.aload_n 0, 1) := by decide +kernel
theorem dX4_readSong_1 : decode cX4_readSong 1 = .ok (.bipush 33, 2) := by decide +kernel
theorem dX4_readSong_3 : decode cX4_readSong 3 = .ok (.invokevirtual 114, 3) := by decide +kernel
theorem dX4_readSong_6 : decode cX4_readSong 6 = .ok (.pop, 1) := by decide +kernel
theorem dX4_readSong_7 : decode cX4_readSong 7 = .ok (.aload_n 0, 1) := by decide +kernel
theorem dX4_readSong_8 : decode cX4_readSong 8 = .ok (.iconst 3, 1) := by decide +kernel
theorem dX4_readSong_9 : decode cX4_readSong 9 = .ok (.invokevirtual 114, 3) := by decide +kernel
theorem dX4_readSong_12 : decode cX4_readSong 12 = .ok (.ifCond .eq 19, 3) := by decide +kernel
theorem dX4_readSong_15 : decode cX4_readSong 15 = .ok (.aload_n 0, 1) := by decide +kernel
theorem dX4_readSong_16 : decode cX4_readSong 16 = .ok (.invokevirtual 165, 3) := by decide +kernel
theorem dX4_readSong_19 : decode cX4_readSong 19 = .ok (.aload_n 0, 1) := by decide +kernel
theorem dX4_readSong_20 : decode cX4_readSong 20 = .ok (.getfield 35, 3) := by decide +kernel
theorem dX4_readSong_23 : decode cX4_readSong 23 = .ok (.aload_n 0, 1) := by decide +kernel
theorem dX4_readSong_24 : decode cX4_readSong 24 = .ok (.invokevirtual 118, 3) := by decide +kernel
theorem dX4_readSong_27 : decode cX4_readSong 27 = .ok (.l2i, 1) := by decide +kernel
theorem dX4_readSong_28 : decode cX4_readSong 28 = .ok (.putfield 184, 3) := by decide +kernel
theorem dX4_readSong_31 : decode cX4_readSong 31 = .ok (.aload_n 0, 1) := by decide +kernel
theorem dX4_readSong_32 : decode cX4_readSong 32 = .ok (.iconst 4, 1) := by decide +kernel
theorem dX4_readSong_33 : decode cX4_readSong 33 = .ok (.invokevirtual 114, 3) := by decide +kernel
theorem dX4_readSong_36 : decode cX4_readSong 36 = .ok (.pop, 1) := by decide +kernel
theorem dX4_readSong_37 : decode cX4_readSong 37 = .ok (.return_, 1) := by decide +kernel
set_option maxHeartbeats 4000000 in
set_option maxRecDepth 100000 in
theorem w_X4_readSong_31 {X : CX} {T : List Dsc} {n1 n2 : Nat} {x0 : Nat} {μ : Mem} {r : Mem} (hX : XR X 3 n1 n2) (hx0 : T[x0]? = some (.inl 3)) (hf : f_X4_readSong_31 T x0 μ = some r) (hk : FnV X cX4_readSong RX4 1 T n1 n2 r) : Wp X cX4_readSong RX4 1 T μ n1 n2 31 [(0, .ref x0)] [] := by
  unfold f_X4_readSong_31 at hf
  refine Wp.aload_n (pc := 31) 0 rfl rfl dX4_readSong_31 ?_
  refine Wp.iconst (pc := 32) (4 : Int32) (by decide) dX4_readSong_32 ?_
  obtain ⟨c1, h2, hf⟩ := bnd hf
  refine Wp.callVi (pc := 33) (st := []) (as := [.int (4 : Int32)]) (c_X4_take hx0 h2) ml_RX4_114 mv_X4_take mb_X4_take hX (Nat.le_of_ble_eq_true rfl) (by decide) rfl hx0 rfl (by simp) dX4_readSong_33 rfl ?_
  refine Wp.pop (pc := 36) rfl dX4_readSong_36 ?_
  cases hf
  exact hk _ _ dX4_readSong_37
set_option maxHeartbeats 4000000 in
set_option maxRecDepth 100000 in
theorem w_X4_readSong {X : CX} {T : List Dsc} {n1 n2 : Nat} {x0 : Nat} {μ : Mem} {r : Mem} (hX : XR X 3 n1 n2) (hx0 : T[x0]? = some (.inl 3)) (hf : F_X4_readSong T x0 μ = some r) (hk : FnV X cX4_readSong RX4 1 T n1 n2 r) : Wp X cX4_readSong RX4 1 T μ n1 n2 0 [(0, .ref x0)] [] := by
  unfold F_X4_readSong at hf
  refine Wp.aload_n (pc := 0) 0 rfl rfl dX4_readSong_0 ?_
  refine Wp.bipush (pc := 1) (33 : Int32) (by decide) dX4_readSong_1 ?_
  obtain ⟨c1, h2, hf⟩ := bnd hf
  refine Wp.callVi (pc := 3) (st := []) (as := [.int (33 : Int32)]) (c_X4_take hx0 h2) ml_RX4_114 mv_X4_take mb_X4_take hX (Nat.le_of_ble_eq_true rfl) (by decide) rfl hx0 rfl (by simp) dX4_readSong_3 rfl ?_
  refine Wp.pop (pc := 6) rfl dX4_readSong_6 ?_
  refine Wp.aload_n (pc := 7) 0 rfl rfl dX4_readSong_7 ?_
  refine Wp.iconst (pc := 8) (3 : Int32) (by decide) dX4_readSong_8 ?_
  obtain ⟨c3, h4, hf⟩ := bnd hf
  refine Wp.callVi (pc := 9) (st := []) (as := [.int (3 : Int32)]) (c_X4_take hx0 h4) ml_RX4_114 mv_X4_take mb_X4_take hX (Nat.le_of_ble_eq_true rfl) (by decide) rfl hx0 rfl (by simp) dX4_readSong_9 rfl ?_
  refine Wp.if_eq (pc := 12) 31 dX4_readSong_12 (by decide) (fun hc5 => ?_) (fun hc5 => ?_)
  · rw [if_pos hc5] at hf
    exact w_X4_readSong_31 hX hx0 hf hk
  · rw [if_neg hc5] at hf
    refine Wp.aload_n (pc := 15) 0 rfl rfl dX4_readSong_15 ?_
    obtain ⟨c6, h7, hf⟩ := bnd hf
    refine Wp.callVv (pc := 16) (st := []) (as := []) (c_X4_noteBeyond hx0 h7) ml_RX4_165 mv_X4_noteBeyond mb_X4_noteBeyond hX (Nat.le_of_ble_eq_true rfl) (by decide) rfl hx0 rfl (by simp) dX4_readSong_16 rfl ?_
    refine Wp.aload_n (pc := 19) 0 rfl rfl dX4_readSong_19 ?_
    obtain ⟨r8, h9, hf⟩ := bnd hf
    refine Wp.getR (pc := 20) (gO_R h9) hx0 fk_RX4_35 rfl dX4_readSong_20 ?_
    refine Wp.aload_n (pc := 23) 0 rfl rfl dX4_readSong_23 ?_
    obtain ⟨c10, h11, hf⟩ := bnd hf
    refine Wp.callVl (pc := 24) (st := [.ref r8]) (as := []) (c_X4_taken hx0 h11) ml_RX4_118 mv_X4_taken mb_X4_taken hX (Nat.le_of_ble_eq_true rfl) (by decide) rfl hx0 rfl (by simp [Value.category]) dX4_readSong_24 rfl ?_
    refine Wp.l2i (pc := 27) dX4_readSong_27 ?_
    obtain ⟨μ12, h13, hf⟩ := bnd hf
    refine Wp.ptI (pc := 28) h13 (gO_T h9) fk_RX4_184 ff_RX4_6_10 rfl dX4_readSong_28 ?_
    exact w_X4_readSong_31 hX hx0 hf hk
theorem c_X4_readSong {T : List Dsc} {x0 : Nat} {μ : Mem} {r : Mem} (hx0 : T[x0]? = some (.inl 3)) (hf : F_X4_readSong T x0 μ = some r) : Ct 3 yX4_readSong cX4_readSong 1 none T μ [.ref x0] none r := Ct.ofV (by decide +kernel) (Nat.le_of_ble_eq_true rfl) (fun X hX hk => w_X4_readSong hX hx0 hf hk)
