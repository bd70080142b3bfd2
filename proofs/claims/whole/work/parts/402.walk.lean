theorem dX4_readUnit_0 : decode cX4_readUnit 0 = .ok (.aload_n 0, 1) := by decide +kernel
theorem dX4_readUnit_1 : decode cX4_readUnit 1 = .ok (.getfield 46, 3) := by decide +kernel
theorem dX4_readUnit_4 : decode cX4_readUnit 4 = .ok (.istore_n 2, 1) := by decide +kernel
theorem dX4_readUnit_5 : decode cX4_readUnit 5 = .ok (.iload_n 2, 1) := by decide +kernel
theorem dX4_readUnit_6 : decode cX4_readUnit 6 = .ok (.iconst 3, 1) := by decide +kernel
theorem dX4_readUnit_7 : decode cX4_readUnit 7 = .ok (.if_icmp .ne 21, 3) := by decide +kernel
theorem dX4_readUnit_10 : decode cX4_readUnit 10 = .ok (.aload_n 0, 1) := by decide +kernel
theorem dX4_readUnit_11 : decode cX4_readUnit 11 = .ok (.iconst 3, 1) := by decide +kernel
theorem dX4_readUnit_12 : decode cX4_readUnit 12 = .ok (.invokevirtual 114, 3) := by decide +kernel
theorem dX4_readUnit_15 : decode cX4_readUnit 15 = .ok (.pop, 1) := by decide +kernel
theorem dX4_readUnit_16 : decode cX4_readUnit 16 = .ok (.aload_n 0, 1) := by decide +kernel
theorem dX4_readUnit_17 : decode cX4_readUnit 17 = .ok (.iconst 3, 1) := by decide +kernel
theorem dX4_readUnit_18 : decode cX4_readUnit 18 = .ok (.aload_n 0, 1) := by decide +kernel
theorem dX4_readUnit_19 : decode cX4_readUnit 19 = .ok (.invokevirtual 118, 3) := by decide +kernel
theorem dX4_readUnit_22 : decode cX4_readUnit 22 = .ok (.l2i, 1) := by decide +kernel
theorem dX4_readUnit_23 : decode cX4_readUnit 23 = .ok (.invokevirtual 144, 3) := by decide +kernel
theorem dX4_readUnit_26 : decode cX4_readUnit 26 = .ok (.pop, 1) := by decide +kernel
theorem dX4_readUnit_27 : decode cX4_readUnit 27 = .ok (.return_, 1) := by decide +kernel
theorem dX4_readUnit_28 : decode cX4_readUnit 28 = .ok (.iload_n 2, 1) := by decide +kernel
theorem dX4_readUnit_29 : decode cX4_readUnit 29 = .ok (.bipush 28, 2) := by decide +kernel
theorem dX4_readUnit_31 : decode cX4_readUnit 31 = .ok (.if_icmp .lt 23, 3) := by decide +kernel
theorem dX4_readUnit_34 : decode cX4_readUnit 34 = .ok (.iload_n 2, 1) := by decide +kernel
theorem dX4_readUnit_35 : decode cX4_readUnit 35 = .ok (.bipush 33, 2) := by decide +kernel
theorem dX4_readUnit_37 : decode cX4_readUnit 37 = .ok (.if_icmp .gt 17, 3) := by decide +kernel
theorem dX4_readUnit_40 : decode cX4_readUnit 40 = .ok (.aload_n 0, 1) := by decide +kernel
theorem dX4_readUnit_41 : decode cX4_readUnit 41 = .ok (.iload_n 2, 1) := by decide +kernel
theorem dX4_readUnit_42 : decode cX4_readUnit 42 = .ok (.invokevirtual 114, 3) := by decide +kernel
theorem dX4_readUnit_45 : decode cX4_readUnit 45 = .ok (.pop, 1) := by decide +kernel
theorem dX4_readUnit_46 : decode cX4_readUnit 46 = .ok (.aload_n 0, 1) := by decide +kernel
theorem dX4_readUnit_47 : decode cX4_readUnit 47 = .ok (.iload_n 2, 1) := by decide +kernel
theorem dX4_readUnit_48 : decode cX4_readUnit 48 = .ok (.iconst 0, 1) := by decide +kernel
theorem dX4_readUnit_49 : decode cX4_readUnit 49 = .ok (.invokevirtual 144, 3) := by decide +kernel
theorem dX4_readUnit_52 : decode cX4_readUnit 52 = .ok (.pop, 1) := by decide +kernel
theorem dX4_readUnit_53 : decode cX4_readUnit 53 = .ok (.return_, 1) := by decide +kernel
theorem dX4_readUnit_54 : decode cX4_readUnit 54 = .ok (.iload_n 2, 1) := by decide +kernel
theorem dX4_readUnit_55 : decode cX4_readUnit 55 = .ok (.bipush 27, 2) := by decide +kernel
theorem dX4_readUnit_57 : decode cX4_readUnit 57 = .ok (.if_icmp .ne 10, 3) := by decide +kernel
theorem dX4_readUnit_60 : decode cX4_readUnit 60 = .ok (.aload_n 0, 1) := by decide +kernel
theorem dX4_readUnit_61 : decode cX4_readUnit 61 = .ok (.bipush 27, 2) := by decide +kernel
theorem dX4_readUnit_63 : decode cX4_readUnit 63 = .ok (.invokevirtual 114, 3) := by decide +kernel
theorem dX4_readUnit_66 : decode cX4_readUnit 66 = .ok (.pop, 1) := by decide +kernel
theorem dX4_readUnit_67 : decode cX4_readUnit 67 = .ok (.aload_n 0, 1) := by decide +kernel
theorem dX4_readUnit_68 : decode cX4_readUnit 68 = .ok (.getfield 46, 3) := by decide +kernel
theorem dX4_readUnit_71 : decode cX4_readUnit 71 = .ok (.bipush 15, 2) := by decide +kernel
theorem dX4_readUnit_73 : decode cX4_readUnit 73 = .ok (.if_icmp .ne 14, 3) := by decide +kernel
theorem dX4_readUnit_76 : decode cX4_readUnit 76 = .ok (.iload_n 1, 1) := by decide +kernel
theorem dX4_readUnit_77 : decode cX4_readUnit 77 = .ok (.bipush 6, 2) := by decide +kernel
theorem dX4_readUnit_79 : decode cX4_readUnit 79 = .ok (.if_icmp .lt 8, 3) := by decide +kernel
theorem dX4_readUnit_82 : decode cX4_readUnit 82 = .ok (.aload_n 0, 1) := by decide +kernel
theorem dX4_readUnit_83 : decode cX4_readUnit 83 = .ok (.iconst 2, 1) := by decide +kernel
theorem dX4_readUnit_84 : decode cX4_readUnit 84 = .ok (.invokevirtual 67, 3) := by decide +kernel
theorem dX4_readUnit_87 : decode cX4_readUnit 87 = .ok (.aload_n 0, 1) := by decide +kernel
theorem dX4_readUnit_88 : decode cX4_readUnit 88 = .ok (.bipush 15, 2) := by decide +kernel
theorem dX4_readUnit_90 : decode cX4_readUnit 90 = .ok (.invokevirtual 114, 3) := by decide +kernel
theorem dX4_readUnit_93 : decode cX4_readUnit 93 = .ok (.pop, 1) := by decide +kernel
theorem dX4_readUnit_94 : decode cX4_readUnit 94 = .ok (.aload_n 0, 1) := by decide +kernel
theorem dX4_readUnit_95 : decode cX4_readUnit 95 = .ok (.iconst 0, 1) := by decide +kernel
theorem dX4_readUnit_96 : decode cX4_readUnit 96 = .ok (.iload_n 1, 1) := by decide +kernel
theorem dX4_readUnit_97 : decode cX4_readUnit 97 = .ok (.iconst 1, 1) := by decide +kernel
theorem dX4_readUnit_98 : decode cX4_readUnit 98 = .ok (.iadd, 1) := by decide +kernel
theorem dX4_readUnit_99 : decode cX4_readUnit 99 = .ok (.invokevirtual 148, 3) := by decide +kernel
theorem dX4_readUnit_102 : decode cX4_readUnit 102 = .ok (.iload_n 2, 1) := by decide +kernel
theorem dX4_readUnit_103 : decode cX4_readUnit 103 = .ok (.bipush 27, 2) := by decide +kernel
theorem dX4_readUnit_105 : decode cX4_readUnit 105 = .ok (.if_icmp .ne 26, 3) := by decide +kernel
theorem dX4_readUnit_108 : decode cX4_readUnit 108 = .ok (.aload_n 0, 1) := by decide +kernel
theorem dX4_readUnit_109 : decode cX4_readUnit 109 = .ok (.bipush 6, 2) := by decide +kernel
theorem dX4_readUnit_111 : decode cX4_readUnit 111 = .ok (.invokevirtual 114, 3) := by decide +kernel
theorem dX4_readUnit_114 : decode cX4_readUnit 114 = .ok (.pop, 1) := by decide +kernel
theorem dX4_readUnit_115 : decode cX4_readUnit 115 = .ok (.aload_n 0, 1) := by decide +kernel
theorem dX4_readUnit_116 : decode cX4_readUnit 116 = .ok (.iconst 0, 1) := by decide +kernel
theorem dX4_readUnit_117 : decode cX4_readUnit 117 = .ok (.iload_n 1, 1) := by decide +kernel
theorem dX4_readUnit_118 : decode cX4_readUnit 118 = .ok (.iconst 1, 1) := by decide +kernel
theorem dX4_readUnit_119 : decode cX4_readUnit 119 = .ok (.iadd, 1) := by decide +kernel
theorem dX4_readUnit_120 : decode cX4_readUnit 120 = .ok (.invokevirtual 148, 3) := by decide +kernel
theorem dX4_readUnit_123 : decode cX4_readUnit 123 = .ok (.aload_n 0, 1) := by decide +kernel
theorem dX4_readUnit_124 : decode cX4_readUnit 124 = .ok (.bipush 27, 2) := by decide +kernel
theorem dX4_readUnit_126 : decode cX4_readUnit 126 = .ok (.iconst 0, 1) := by decide +kernel
theorem dX4_readUnit_127 : decode cX4_readUnit 127 = .ok (.invokevirtual 144, 3) := by decide +kernel
theorem dX4_readUnit_130 : decode cX4_readUnit 130 = .ok (.pop, 1) := by decide +kernel
theorem dX4_readUnit_131 : decode cX4_readUnit 131 = .ok (.aload_n 0, 1) := by decide +kernel
theorem dX4_readUnit_132 : decode cX4_readUnit 132 = .ok (.bipush 16, 2) := by decide +kernel
theorem dX4_readUnit_134 : decode cX4_readUnit 134 = .ok (.invokevirtual 114, 3) := by decide +kernel
theorem dX4_readUnit_137 : decode cX4_readUnit 137 = .ok (.pop, 1) := by decide +kernel
theorem dX4_readUnit_138 : decode cX4_readUnit 138 = .ok (.return_, 1) := by decide +kernel
set_option maxHeartbeats 4000000 in
set_option maxRecDepth 100000 in
theorem w_X4_readUnit_131 {E : Nat → Int32 → Int32 → M2 → Option M2} {dE : Nat} {X : CX} {T : List Dsc} {R : RM} {c e : Nat} {n1 n2 : Nat} {m : M2} {r : M2} (hX : XR X (dE + 1) n1 n2) (hG : Geo T R c e) (hdE : 10 ≤ dE) (hE : ∀ {T : List Dsc} {R : RM} {c e : Nat} {x1 : Int32} {x2 : Int32} {m : M2} {r : M2}, Geo T R c e → E e x1 x2 m = some r → Ct dE yX4_readExpression cX4_readExpression 5 none T (mk m R) [.ref 14, .int x1, .int x2] none (mk r R)) (hf : f_X4_readUnit_131 E e m = some r) (hk : FnV X cX4_readUnit RX4 3 T n1 n2 (mk r R)) : Wp X cX4_readUnit RX4 3 T (mk m R) n1 n2 131 [(0, .ref 14)] [] := by
  unfold f_X4_readUnit_131 at hf
  refine Wp.aload_n (pc := 131) 0 rfl rfl dX4_readUnit_131 ?_
  refine Wp.bipush (pc := 132) (16 : Int32) (by decide) dX4_readUnit_132 ?_
  obtain ⟨c1, h2, hf⟩ := bnd hf
  refine Wp.callVi (pc := 134) (st := []) (as := [.int (16 : Int32)]) (c_X4_take hG h2) ml_RX4_114 mv_X4_take mb_X4_take hX (by omega) (by decide) rfl (hG.t 14 rfl) rfl (by simp) dX4_readUnit_134 rfl ?_
  refine Wp.pop (pc := 137) rfl dX4_readUnit_137 ?_
  cases hf
  exact hk _ _ dX4_readUnit_138
set_option maxHeartbeats 4000000 in
set_option maxRecDepth 100000 in
theorem w_X4_readUnit_87 {E : Nat → Int32 → Int32 → M2 → Option M2} {dE : Nat} {X : CX} {T : List Dsc} {R : RM} {c e : Nat} {n1 n2 : Nat} {x1 : Int32} {x2 : Int32} {m : M2} {r : M2} (hX : XR X (dE + 1) n1 n2) (hG : Geo T R c e) (hdE : 10 ≤ dE) (hE : ∀ {T : List Dsc} {R : RM} {c e : Nat} {x1 : Int32} {x2 : Int32} {m : M2} {r : M2}, Geo T R c e → E e x1 x2 m = some r → Ct dE yX4_readExpression cX4_readExpression 5 none T (mk m R) [.ref 14, .int x1, .int x2] none (mk r R)) (hf : f_X4_readUnit_87 E e x1 x2 m = some r) (hk : FnV X cX4_readUnit RX4 3 T n1 n2 (mk r R)) : Wp X cX4_readUnit RX4 3 T (mk m R) n1 n2 87 [(0, .ref 14), (1, .int x1), (2, .int x2)] [] := by
  unfold f_X4_readUnit_87 at hf
  refine Wp.aload_n (pc := 87) 0 rfl rfl dX4_readUnit_87 ?_
  refine Wp.bipush (pc := 88) (15 : Int32) (by decide) dX4_readUnit_88 ?_
  obtain ⟨c1, h2, hf⟩ := bnd hf
  refine Wp.callVi (pc := 90) (st := []) (as := [.int (15 : Int32)]) (c_X4_take hG h2) ml_RX4_114 mv_X4_take mb_X4_take hX (by omega) (by decide) rfl (hG.t 14 rfl) rfl (by simp) dX4_readUnit_90 rfl ?_
  refine Wp.pop (pc := 93) rfl dX4_readUnit_93 ?_
  refine Wp.aload_n (pc := 94) 0 rfl rfl dX4_readUnit_94 ?_
  refine Wp.iconst (pc := 95) (0 : Int32) (by decide) dX4_readUnit_95 ?_
  refine Wp.iload_n (pc := 96) 1 rfl rfl dX4_readUnit_96 ?_
  refine Wp.iconst (pc := 97) (1 : Int32) (by decide) dX4_readUnit_97 ?_
  refine Wp.iadd (pc := 98) dX4_readUnit_98 ?_
  obtain ⟨c3, h4, hf⟩ := bnd hf
  refine Wp.callVv (pc := 99) (st := []) (as := [.int (0 : Int32), .int (x1 + (1 : Int32))]) (hE hG h4) ml_RX4_148 mv_X4_readExpression mb_X4_readExpression hX (by omega) (by decide) rfl (hG.t 14 rfl) rfl (by simp) dX4_readUnit_99 rfl ?_
  refine Wp.iload_n (pc := 102) 2 rfl rfl dX4_readUnit_102 ?_
  refine Wp.bipush (pc := 103) (27 : Int32) (by decide) dX4_readUnit_103 ?_
  refine Wp.icmp_ne (pc := 105) 131 dX4_readUnit_105 (by decide) (fun hc5 => ?_) (fun hc5 => ?_)
  · rw [if_neg hc5] at hf
    refine Wp.lo' (lo' := [(0, .ref 14)]) [0] rfl ?_
    exact w_X4_readUnit_131 hX hG hdE hE hf hk
  · rw [if_pos hc5] at hf
    refine Wp.aload_n (pc := 108) 0 rfl rfl dX4_readUnit_108 ?_
    refine Wp.bipush (pc := 109) (6 : Int32) (by decide) dX4_readUnit_109 ?_
    obtain ⟨c6, h7, hf⟩ := bnd hf
    refine Wp.callVi (pc := 111) (st := []) (as := [.int (6 : Int32)]) (c_X4_take hG h7) ml_RX4_114 mv_X4_take mb_X4_take hX (by omega) (by decide) rfl (hG.t 14 rfl) rfl (by simp) dX4_readUnit_111 rfl ?_
    refine Wp.pop (pc := 114) rfl dX4_readUnit_114 ?_
    refine Wp.aload_n (pc := 115) 0 rfl rfl dX4_readUnit_115 ?_
    refine Wp.iconst (pc := 116) (0 : Int32) (by decide) dX4_readUnit_116 ?_
    refine Wp.iload_n (pc := 117) 1 rfl rfl dX4_readUnit_117 ?_
    refine Wp.iconst (pc := 118) (1 : Int32) (by decide) dX4_readUnit_118 ?_
    refine Wp.iadd (pc := 119) dX4_readUnit_119 ?_
    obtain ⟨c8, h9, hf⟩ := bnd hf
    refine Wp.callVv (pc := 120) (st := []) (as := [.int (0 : Int32), .int (x1 + (1 : Int32))]) (hE hG h9) ml_RX4_148 mv_X4_readExpression mb_X4_readExpression hX (by omega) (by decide) rfl (hG.t 14 rfl) rfl (by simp) dX4_readUnit_120 rfl ?_
    refine Wp.aload_n (pc := 123) 0 rfl rfl dX4_readUnit_123 ?_
    refine Wp.bipush (pc := 124) (27 : Int32) (by decide) dX4_readUnit_124 ?_
    refine Wp.iconst (pc := 126) (0 : Int32) (by decide) dX4_readUnit_126 ?_
    obtain ⟨c10, h11, hf⟩ := bnd hf
    refine Wp.callVi (pc := 127) (st := []) (as := [.int (27 : Int32), .int (0 : Int32)]) (c_X4_emit hG h11) ml_RX4_144 mv_X4_emit mb_X4_emit hX (by omega) (by decide) rfl (hG.t 14 rfl) rfl (by simp) dX4_readUnit_127 rfl ?_
    refine Wp.pop (pc := 130) rfl dX4_readUnit_130 ?_
    refine Wp.lo' (lo' := [(0, .ref 14)]) [0] rfl ?_
    exact w_X4_readUnit_131 hX hG hdE hE hf hk
set_option maxHeartbeats 4000000 in
set_option maxRecDepth 100000 in
theorem w_X4_readUnit_67 {E : Nat → Int32 → Int32 → M2 → Option M2} {dE : Nat} {X : CX} {T : List Dsc} {R : RM} {c e : Nat} {n1 n2 : Nat} {x1 : Int32} {x2 : Int32} {m : M2} {r : M2} (hX : XR X (dE + 1) n1 n2) (hG : Geo T R c e) (hdE : 10 ≤ dE) (hE : ∀ {T : List Dsc} {R : RM} {c e : Nat} {x1 : Int32} {x2 : Int32} {m : M2} {r : M2}, Geo T R c e → E e x1 x2 m = some r → Ct dE yX4_readExpression cX4_readExpression 5 none T (mk m R) [.ref 14, .int x1, .int x2] none (mk r R)) (hf : f_X4_readUnit_67 E e x1 x2 m = some r) (hk : FnV X cX4_readUnit RX4 3 T n1 n2 (mk r R)) : Wp X cX4_readUnit RX4 3 T (mk m R) n1 n2 67 [(0, .ref 14), (1, .int x1), (2, .int x2)] [] := by
  unfold f_X4_readUnit_67 at hf
  refine Wp.aload_n (pc := 67) 0 rfl rfl dX4_readUnit_67 ?_
  refine Wp.getI2 (pc := 68) (hG.t 14 rfl) fk_RX4_46 rfl dX4_readUnit_68 ?_
  refine Wp.bipush (pc := 71) (15 : Int32) (by decide) dX4_readUnit_71 ?_
  refine Wp.icmp_ne (pc := 73) 87 dX4_readUnit_73 (by decide) (fun hc1 => ?_) (fun hc1 => ?_)
  · rw [if_neg hc1] at hf
    exact w_X4_readUnit_87 hX hG hdE hE hf hk
  · rw [if_pos hc1] at hf
    refine Wp.iload_n (pc := 76) 1 rfl rfl dX4_readUnit_76 ?_
    refine Wp.bipush (pc := 77) (6 : Int32) (by decide) dX4_readUnit_77 ?_
    refine Wp.icmp_lt (pc := 79) 87 dX4_readUnit_79 (by decide) (fun hc2 => ?_) (fun hc2 => ?_)
    · rw [if_pos hc2] at hf
      exact w_X4_readUnit_87 hX hG hdE hE hf hk
    · rw [if_neg hc2] at hf
      refine Wp.aload_n (pc := 82) 0 rfl rfl dX4_readUnit_82 ?_
      refine Wp.iconst (pc := 83) (2 : Int32) (by decide) dX4_readUnit_83 ?_
      obtain ⟨c3, h4, hf⟩ := bnd hf
      refine Wp.callVv (pc := 84) (st := []) (as := [.int (2 : Int32)]) (c_X4_fail hG h4) ml_RX4_67 mv_X4_fail mb_X4_fail hX (by omega) (by decide) rfl (hG.t 14 rfl) rfl (by simp) dX4_readUnit_84 rfl ?_
      exact w_X4_readUnit_87 hX hG hdE hE hf hk
set_option maxHeartbeats 4000000 in
set_option maxRecDepth 100000 in
theorem w_X4_readUnit_54 {E : Nat → Int32 → Int32 → M2 → Option M2} {dE : Nat} {X : CX} {T : List Dsc} {R : RM} {c e : Nat} {n1 n2 : Nat} {x1 : Int32} {x2 : Int32} {m : M2} {r : M2} (hX : XR X (dE + 1) n1 n2) (hG : Geo T R c e) (hdE : 10 ≤ dE) (hE : ∀ {T : List Dsc} {R : RM} {c e : Nat} {x1 : Int32} {x2 : Int32} {m : M2} {r : M2}, Geo T R c e → E e x1 x2 m = some r → Ct dE yX4_readExpression cX4_readExpression 5 none T (mk m R) [.ref 14, .int x1, .int x2] none (mk r R)) (hf : f_X4_readUnit_54 E e x1 x2 m = some r) (hk : FnV X cX4_readUnit RX4 3 T n1 n2 (mk r R)) : Wp X cX4_readUnit RX4 3 T (mk m R) n1 n2 54 [(0, .ref 14), (1, .int x1), (2, .int x2)] [] := by
  unfold f_X4_readUnit_54 at hf
  refine Wp.iload_n (pc := 54) 2 rfl rfl dX4_readUnit_54 ?_
  refine Wp.bipush (pc := 55) (27 : Int32) (by decide) dX4_readUnit_55 ?_
  refine Wp.icmp_ne (pc := 57) 67 dX4_readUnit_57 (by decide) (fun hc1 => ?_) (fun hc1 => ?_)
  · rw [if_neg hc1] at hf
    exact w_X4_readUnit_67 hX hG hdE hE hf hk
  · rw [if_pos hc1] at hf
    refine Wp.aload_n (pc := 60) 0 rfl rfl dX4_readUnit_60 ?_
    refine Wp.bipush (pc := 61) (27 : Int32) (by decide) dX4_readUnit_61 ?_
    obtain ⟨c2, h3, hf⟩ := bnd hf
    refine Wp.callVi (pc := 63) (st := []) (as := [.int (27 : Int32)]) (c_X4_take hG h3) ml_RX4_114 mv_X4_take mb_X4_take hX (by omega) (by decide) rfl (hG.t 14 rfl) rfl (by simp) dX4_readUnit_63 rfl ?_
    refine Wp.pop (pc := 66) rfl dX4_readUnit_66 ?_
    exact w_X4_readUnit_67 hX hG hdE hE hf hk
set_option maxHeartbeats 4000000 in
set_option maxRecDepth 100000 in
theorem w_X4_readUnit {E : Nat → Int32 → Int32 → M2 → Option M2} {dE : Nat} {X : CX} {T : List Dsc} {R : RM} {c e : Nat} {n1 n2 : Nat} {x1 : Int32} {m : M2} {r : M2} (hX : XR X (dE + 1) n1 n2) (hG : Geo T R c e) (hdE : 10 ≤ dE) (hE : ∀ {T : List Dsc} {R : RM} {c e : Nat} {x1 : Int32} {x2 : Int32} {m : M2} {r : M2}, Geo T R c e → E e x1 x2 m = some r → Ct dE yX4_readExpression cX4_readExpression 5 none T (mk m R) [.ref 14, .int x1, .int x2] none (mk r R)) (hf : F_X4_readUnit E e x1 m = some r) (hk : FnV X cX4_readUnit RX4 3 T n1 n2 (mk r R)) : Wp X cX4_readUnit RX4 3 T (mk m R) n1 n2 0 [(0, .ref 14), (1, .int x1)] [] := by
  unfold F_X4_readUnit at hf
  refine Wp.aload_n (pc := 0) 0 rfl rfl dX4_readUnit_0 ?_
  refine Wp.getI2 (pc := 1) (hG.t 14 rfl) fk_RX4_46 rfl dX4_readUnit_1 ?_
  obtain ⟨v1, h2, hf⟩ := bnd hf
  refine Wp.nI' h2 ?_
  refine Wp.istore_n (pc := 4) (lo' := [(0, .ref 14), (1, .int x1), (2, .int v1)]) [1, 2, 0] rfl (by decide) rfl dX4_readUnit_4 ?_
  refine Wp.iload_n (pc := 5) 2 rfl rfl dX4_readUnit_5 ?_
  refine Wp.iconst (pc := 6) (3 : Int32) (by decide) dX4_readUnit_6 ?_
  refine Wp.icmp_ne (pc := 7) 28 dX4_readUnit_7 (by decide) (fun hc3 => ?_) (fun hc3 => ?_)
  · rw [if_neg hc3] at hf
    refine Wp.iload_n (pc := 28) 2 rfl rfl dX4_readUnit_28 ?_
    refine Wp.bipush (pc := 29) (28 : Int32) (by decide) dX4_readUnit_29 ?_
    refine Wp.icmp_lt (pc := 31) 54 dX4_readUnit_31 (by decide) (fun hc4 => ?_) (fun hc4 => ?_)
    · rw [if_pos hc4] at hf
      exact w_X4_readUnit_54 hX hG hdE hE hf hk
    · rw [if_neg hc4] at hf
      refine Wp.iload_n (pc := 34) 2 rfl rfl dX4_readUnit_34 ?_
      refine Wp.bipush (pc := 35) (33 : Int32) (by decide) dX4_readUnit_35 ?_
      refine Wp.icmp_gt (pc := 37) 54 dX4_readUnit_37 (by decide) (fun hc5 => ?_) (fun hc5 => ?_)
      · rw [if_pos hc5] at hf
        exact w_X4_readUnit_54 hX hG hdE hE hf hk
      · rw [if_neg hc5] at hf
        refine Wp.aload_n (pc := 40) 0 rfl rfl dX4_readUnit_40 ?_
        refine Wp.iload_n (pc := 41) 2 rfl rfl dX4_readUnit_41 ?_
        obtain ⟨c6, h7, hf⟩ := bnd hf
        refine Wp.callVi (pc := 42) (st := []) (as := [.int v1]) (c_X4_take hG h7) ml_RX4_114 mv_X4_take mb_X4_take hX (by omega) (by decide) rfl (hG.t 14 rfl) rfl (by simp) dX4_readUnit_42 rfl ?_
        refine Wp.pop (pc := 45) rfl dX4_readUnit_45 ?_
        refine Wp.aload_n (pc := 46) 0 rfl rfl dX4_readUnit_46 ?_
        refine Wp.iload_n (pc := 47) 2 rfl rfl dX4_readUnit_47 ?_
        refine Wp.iconst (pc := 48) (0 : Int32) (by decide) dX4_readUnit_48 ?_
        obtain ⟨c8, h9, hf⟩ := bnd hf
        refine Wp.callVi (pc := 49) (st := []) (as := [.int v1, .int (0 : Int32)]) (c_X4_emit hG h9) ml_RX4_144 mv_X4_emit mb_X4_emit hX (by omega) (by decide) rfl (hG.t 14 rfl) rfl (by simp) dX4_readUnit_49 rfl ?_
        refine Wp.pop (pc := 52) rfl dX4_readUnit_52 ?_
        cases hf
        exact hk _ _ dX4_readUnit_53
  · rw [if_pos hc3] at hf
    refine Wp.aload_n (pc := 10) 0 rfl rfl dX4_readUnit_10 ?_
    refine Wp.iconst (pc := 11) (3 : Int32) (by decide) dX4_readUnit_11 ?_
    obtain ⟨c10, h11, hf⟩ := bnd hf
    refine Wp.callVi (pc := 12) (st := []) (as := [.int (3 : Int32)]) (c_X4_take hG h11) ml_RX4_114 mv_X4_take mb_X4_take hX (by omega) (by decide) rfl (hG.t 14 rfl) rfl (by simp) dX4_readUnit_12 rfl ?_
    refine Wp.pop (pc := 15) rfl dX4_readUnit_15 ?_
    refine Wp.aload_n (pc := 16) 0 rfl rfl dX4_readUnit_16 ?_
    refine Wp.iconst (pc := 17) (3 : Int32) (by decide) dX4_readUnit_17 ?_
    refine Wp.aload_n (pc := 18) 0 rfl rfl dX4_readUnit_18 ?_
    obtain ⟨c12, h13, hf⟩ := bnd hf
    refine Wp.callVl (pc := 19) (st := [.int (3 : Int32), .ref 14]) (as := []) (c_X4_taken hG h13) ml_RX4_118 mv_X4_taken mb_X4_taken hX (by omega) (by decide) rfl (hG.t 14 rfl) rfl (by simp [Value.category]) dX4_readUnit_19 rfl ?_
    refine Wp.l2i (pc := 22) dX4_readUnit_22 ?_
    obtain ⟨c14, h15, hf⟩ := bnd hf
    refine Wp.callVi (pc := 23) (st := []) (as := [.int (3 : Int32), .int c12.1.toInt32]) (c_X4_emit hG h15) ml_RX4_144 mv_X4_emit mb_X4_emit hX (by omega) (by decide) rfl (hG.t 14 rfl) rfl (by simp) dX4_readUnit_23 rfl ?_
    refine Wp.pop (pc := 26) rfl dX4_readUnit_26 ?_
    cases hf
    exact hk _ _ dX4_readUnit_27
theorem c_X4_readUnit {E : Nat → Int32 → Int32 → M2 → Option M2} {dE : Nat} {T : List Dsc} {R : RM} {c e : Nat} {x1 : Int32} {m : M2} {r : M2} (hG : Geo T R c e) (hdE : 10 ≤ dE) (hE : ∀ {T : List Dsc} {R : RM} {c e : Nat} {x1 : Int32} {x2 : Int32} {m : M2} {r : M2}, Geo T R c e → E e x1 x2 m = some r → Ct dE yX4_readExpression cX4_readExpression 5 none T (mk m R) [.ref 14, .int x1, .int x2] none (mk r R)) (hf : F_X4_readUnit E e x1 m = some r) : Ct (dE + 1) yX4_readUnit cX4_readUnit 3 none T (mk m R) [.ref 14, .int x1] none (mk r R) := Ct.ofV (r := mk r R) (by decide +kernel) (Nat.le_of_ble_eq_true rfl) (fun X hX hk => w_X4_readUnit hX hG hdE hE hf hk)
theorem dX4_readExpression_0 : decode cX4_readExpression 0 = .ok (.aload_n 0, 1) := by decide +kernel
theorem dX4_readExpression_1 : decode cX4_readExpression 1 = .ok (.getfield 43, 3) := by decide +kernel
theorem dX4_readExpression_4 : decode cX4_readExpression 4 = .ok (.ifCond .eq 4, 3) := by decide +kernel
theorem dX4_readExpression_7 : decode cX4_readExpression 7 = .ok (.return_, 1) := by decide +kernel
theorem dX4_readExpression_8 : decode cX4_readExpression 8 = .ok (.iload_n 1, 1) := by decide +kernel
theorem dX4_readExpression_9 : decode cX4_readExpression 9 = .ok (.iconst 2, 1) := by decide +kernel
theorem dX4_readExpression_10 : decode cX4_readExpression 10 = .ok (.if_icmp .lt 9, 3) := by decide +kernel
theorem dX4_readExpression_13 : decode cX4_readExpression 13 = .ok (.aload_n 0, 1) := by decide +kernel
theorem dX4_readExpression_14 : decode cX4_readExpression 14 = .ok (.iload_n 2, 1) := by decide +kernel
theorem dX4_readExpression_15 : decode cX4_readExpression 15 = .ok (.invokevirtual 204, 3) := by decide +kernel
theorem dX4_readExpression_18 : decode cX4_readExpression 18 = .ok (.return_, 1) := by decide +kernel
theorem dX4_readExpression_19 : decode cX4_readExpression 19 = .ok (.aload_n 0, 1) := by decide +kernel
theorem dX4_readExpression_20 : decode cX4_readExpression 20 = .ok (.iload_n 1, 1) := by decide +kernel
theorem dX4_readExpression_21 : decode cX4_readExpression 21 = .ok (.iconst 1, 1) := by decide +kernel
theorem dX4_readExpression_22 : decode cX4_readExpression 22 = .ok (.iadd, 1) := by decide +kernel
theorem dX4_readExpression_23 : decode cX4_readExpression 23 = .ok (.iload_n 2, 1) := by decide +kernel
theorem dX4_readExpression_24 : decode cX4_readExpression 24 = .ok (.invokevirtual 148, 3) := by decide +kernel
theorem dX4_readExpression_27 : decode cX4_readExpression 27 = .ok (.iconst 0, 1) := by decide +kernel
theorem dX4_readExpression_28 : decode cX4_readExpression 28 = .ok (.istore_n 3, 1) := by decide +kernel
theorem dX4_readExpression_29 : decode cX4_readExpression 29 = .ok (.iload_n 3, 1) := by decide +kernel
theorem dX4_readExpression_30 : decode cX4_readExpression 30 = .ok (.sipush 400, 3) := by decide +kernel
theorem dX4_readExpression_33 : decode cX4_readExpression 33 = .ok (.if_icmp .ge 56, 3) := by decide +kernel
theorem dX4_readExpression_36 : decode cX4_readExpression 36 = .ok (.aload_n 0, 1) := by decide +kernel
theorem dX4_readExpression_37 : decode cX4_readExpression 37 = .ok (.getfield 43, 3) := by decide +kernel
theorem dX4_readExpression_40 : decode cX4_readExpression 40 = .ok (.ifCond .ne 49, 3) := by decide +kernel
theorem dX4_readExpression_43 : decode cX4_readExpression 43 = .ok (.iload_n 1, 1) := by decide +kernel
theorem dX4_readExpression_44 : decode cX4_readExpression 44 = .ok (.aload_n 0, 1) := by decide +kernel
theorem dX4_readExpression_45 : decode cX4_readExpression 45 = .ok (.getfield 46, 3) := by decide +kernel
theorem dX4_readExpression_48 : decode cX4_readExpression 48 = .ok (.invokestatic 207, 3) := by decide +kernel
theorem dX4_readExpression_51 : decode cX4_readExpression 51 = .ok (.ifCond .eq 38, 3) := by decide +kernel
theorem dX4_readExpression_54 : decode cX4_readExpression 54 = .ok (.aload_n 0, 1) := by decide +kernel
theorem dX4_readExpression_55 : decode cX4_readExpression 55 = .ok (.getfield 46, 3) := by decide +kernel
theorem dX4_readExpression_58 : decode cX4_readExpression 58 = .ok (.istore 4, 2) := by decide +kernel
theorem dX4_readExpression_60 : decode cX4_readExpression 60 = .ok (.aload_n 0, 1) := by decide +kernel
theorem dX4_readExpression_61 : decode cX4_readExpression 61 = .ok (.iload 4, 2) := by decide +kernel
theorem dX4_readExpression_63 : decode cX4_readExpression 63 = .ok (.invokevirtual 114, 3) := by decide +kernel
theorem dX4_readExpression_66 : decode cX4_readExpression 66 = .ok (.pop, 1) := by decide +kernel
theorem dX4_readExpression_67 : decode cX4_readExpression 67 = .ok (.aload_n 0, 1) := by decide +kernel
theorem dX4_readExpression_68 : decode cX4_readExpression 68 = .ok (.iload_n 1, 1) := by decide +kernel
theorem dX4_readExpression_69 : decode cX4_readExpression 69 = .ok (.iconst 1, 1) := by decide +kernel
theorem dX4_readExpression_70 : decode cX4_readExpression 70 = .ok (.iadd, 1) := by decide +kernel
theorem dX4_readExpression_71 : decode cX4_readExpression 71 = .ok (.iload_n 2, 1) := by decide +kernel
theorem dX4_readExpression_72 : decode cX4_readExpression 72 = .ok (.invokevirtual 148, 3) := by decide +kernel
theorem dX4_readExpression_75 : decode cX4_readExpression 75 = .ok (.aload_n 0, 1) := by decide +kernel
theorem dX4_readExpression_76 : decode cX4_readExpression 76 = .ok (.iload 4, 2) := by decide +kernel
theorem dX4_readExpression_78 : decode cX4_readExpression 78 = .ok (.iconst 0, 1) := by decide +kernel
theorem dX4_readExpression_79 : decode cX4_readExpression 79 = .ok (.invokevirtual 144, 3) := by decide +kernel
theorem dX4_readExpression_82 : decode cX4_readExpression 82 = .ok (.pop, 1) := by decide +kernel
theorem dX4_readExpression_83 : decode cX4_readExpression 83 = .ok (.iinc 3 1, 3) := by decide +kernel
theorem dX4_readExpression_86 : decode cX4_readExpression 86 = .ok (.goto (-57), 3) := by decide +kernel
theorem dX4_readExpression_89 : decode cX4_readExpression 89 = .ok (.return_, 1) := by decide +kernel
def k_X4_readExpression_29 (X : CX) (T : List Dsc) (R : RM) (n1 n2 : Nat) (x1 : Int32) (x2 : Int32) (r : ((Int32 × M2) ⊕ ((M2)))) : Prop := match r with
  | .inl s => Wp X cX4_readExpression RX4 5 T (mk s.2 R) n1 n2 29 [(0, .ref 14), (1, .int x1), (2, .int x2), (3, .int s.1)] []
  | .inr e => Wp X cX4_readExpression RX4 5 T (mk e R) n1 n2 89 [] []
set_option maxHeartbeats 4000000 in
set_option maxRecDepth 100000 in
theorem w_X4_readExpression_29 {E : Nat → Int32 → Int32 → M2 → Option M2} {dE : Nat} {X : CX} {T : List Dsc} {R : RM} {c e : Nat} {n1 n2 : Nat} {x1 : Int32} {x2 : Int32} {x3 : Int32} {m : M2} {r : ((Int32 × M2) ⊕ ((M2)))} (hX : XR X (dE + 2) n1 n2) (hG : Geo T R c e) (hdE : 10 ≤ dE) (hE : ∀ {T : List Dsc} {R : RM} {c e : Nat} {x1 : Int32} {x2 : Int32} {m : M2} {r : M2}, Geo T R c e → E e x1 x2 m = some r → Ct dE yX4_readExpression cX4_readExpression 5 none T (mk m R) [.ref 14, .int x1, .int x2] none (mk r R)) (hf : f_X4_readExpression_29 E e x1 x2 x3 m = some r) (hk : k_X4_readExpression_29 X T R n1 n2 x1 x2 r) : Wp X cX4_readExpression RX4 5 T (mk m R) n1 n2 29 [(0, .ref 14), (1, .int x1), (2, .int x2), (3, .int x3)] [] := by
  unfold f_X4_readExpression_29 at hf
  refine Wp.iload_n (pc := 29) 3 rfl rfl dX4_readExpression_29 ?_
  refine Wp.sipush (pc := 30) (400 : Int32) (by decide) dX4_readExpression_30 ?_
  refine Wp.icmp_ge (pc := 33) 89 dX4_readExpression_33 (by decide) (fun hc1 => ?_) (fun hc1 => ?_)
  · rw [if_pos hc1] at hf
    refine Wp.lo' (lo' := []) [] rfl ?_
    cases hf
    exact hk
  · rw [if_neg hc1] at hf
    refine Wp.aload_n (pc := 36) 0 rfl rfl dX4_readExpression_36 ?_
    refine Wp.getI2 (pc := 37) (hG.t 14 rfl) fk_RX4_43 rfl dX4_readExpression_37 ?_
    refine Wp.if_ne (pc := 40) 89 dX4_readExpression_40 (by decide) (fun hc2 => ?_) (fun hc2 => ?_)
    · rw [if_neg hc2] at hf
      refine Wp.lo' (lo' := []) [] rfl ?_
      cases hf
      exact hk
    · rw [if_pos hc2] at hf
      refine Wp.iload_n (pc := 43) 1 rfl rfl dX4_readExpression_43 ?_
      refine Wp.aload_n (pc := 44) 0 rfl rfl dX4_readExpression_44 ?_
      refine Wp.getI2 (pc := 45) (hG.t 14 rfl) fk_RX4_46 rfl dX4_readExpression_45 ?_
      obtain ⟨c3, h4, hf⟩ := bnd hf
      refine Wp.callSi (pc := 48) (st := []) (as := [.int x1, .int (hI m 14 2)]) (c_X4_joinsAt hG h4) ml_RX4_207 ms_X4_joinsAt mb_X4_joinsAt hX (by omega) (by decide) rfl (by simp) dX4_readExpression_48 rfl ?_
      refine Wp.if_eq (pc := 51) 89 dX4_readExpression_51 (by decide) (fun hc5 => ?_) (fun hc5 => ?_)
      · rw [if_pos hc5] at hf
        refine Wp.lo' (lo' := []) [] rfl ?_
        cases hf
        exact hk
      · rw [if_neg hc5] at hf
        refine Wp.aload_n (pc := 54) 0 rfl rfl dX4_readExpression_54 ?_
        refine Wp.getI2 (pc := 55) (hG.t 14 rfl) fk_RX4_46 rfl dX4_readExpression_55 ?_
        obtain ⟨v6, h7, hf⟩ := bnd hf
        refine Wp.nI' h7 ?_
        refine Wp.istore (pc := 58) (lo' := [(0, .ref 14), (1, .int x1), (2, .int x2), (3, .int x3), (4, .int v6)]) [1, 2, 3, 4, 0] rfl (by decide) dX4_readExpression_58 ?_
        refine Wp.aload_n (pc := 60) 0 rfl rfl dX4_readExpression_60 ?_
        refine Wp.iload (pc := 61) 4 rfl dX4_readExpression_61 ?_
        obtain ⟨c8, h9, hf⟩ := bnd hf
        refine Wp.callVi (pc := 63) (st := []) (as := [.int v6]) (c_X4_take hG h9) ml_RX4_114 mv_X4_take mb_X4_take hX (by omega) (by decide) rfl (hG.t 14 rfl) rfl (by simp) dX4_readExpression_63 rfl ?_
        refine Wp.pop (pc := 66) rfl dX4_readExpression_66 ?_
        refine Wp.aload_n (pc := 67) 0 rfl rfl dX4_readExpression_67 ?_
        refine Wp.iload_n (pc := 68) 1 rfl rfl dX4_readExpression_68 ?_
        refine Wp.iconst (pc := 69) (1 : Int32) (by decide) dX4_readExpression_69 ?_
        refine Wp.iadd (pc := 70) dX4_readExpression_70 ?_
        refine Wp.iload_n (pc := 71) 2 rfl rfl dX4_readExpression_71 ?_
        obtain ⟨c10, h11, hf⟩ := bnd hf
        refine Wp.callVv (pc := 72) (st := []) (as := [.int (x1 + (1 : Int32)), .int x2]) (hE hG h11) ml_RX4_148 mv_X4_readExpression mb_X4_readExpression hX (by omega) (by decide) rfl (hG.t 14 rfl) rfl (by simp) dX4_readExpression_72 rfl ?_
        refine Wp.aload_n (pc := 75) 0 rfl rfl dX4_readExpression_75 ?_
        refine Wp.iload (pc := 76) 4 rfl dX4_readExpression_76 ?_
        refine Wp.iconst (pc := 78) (0 : Int32) (by decide) dX4_readExpression_78 ?_
        obtain ⟨c12, h13, hf⟩ := bnd hf
        refine Wp.callVi (pc := 79) (st := []) (as := [.int v6, .int (0 : Int32)]) (c_X4_emit hG h13) ml_RX4_144 mv_X4_emit mb_X4_emit hX (by omega) (by decide) rfl (hG.t 14 rfl) rfl (by simp) dX4_readExpression_79 rfl ?_
        refine Wp.pop (pc := 82) rfl dX4_readExpression_82 ?_
        obtain ⟨v14, h15, hf⟩ := bnd hf
        refine Wp.iincN (pc := 83) (lo' := [(0, .ref 14), (1, .int x1), (2, .int x2), (3, .int v14)]) (1 : Int32) (by decide) h15 3 rfl [1, 2, 3, 0] rfl (by decide) dX4_readExpression_83 ?_
        refine Wp.goto (pc := 86) 29 dX4_readExpression_86 (by decide) ?_
        cases hf
        exact hk
theorem wl_X4_readExpression_29 {E : Nat → Int32 → Int32 → M2 → Option M2} {dE : Nat} {X : CX} {T : List Dsc} {R : RM} {c e : Nat} {n1 n2 : Nat} {x1 : Int32} {x2 : Int32} {x3 : Int32} {m : M2} {e1 : ((M2))} (hX : XR X (dE + 2) n1 n2) (hG : Geo T R c e) (hdE : 10 ≤ dE) (hE : ∀ {T : List Dsc} {R : RM} {c e : Nat} {x1 : Int32} {x2 : Int32} {m : M2} {r : M2}, Geo T R c e → E e x1 x2 m = some r → Ct dE yX4_readExpression cX4_readExpression 5 none T (mk m R) [.ref 14, .int x1, .int x2] none (mk r R)) (h : loop (g_X4_readExpression_29 E e x1 x2) (x3, m) = some e1) (he : Wp X cX4_readExpression RX4 5 T (mk e1 R) n1 n2 89 [] []) : Wp X cX4_readExpression RX4 5 T (mk m R) n1 n2 29 [(0, .ref 14), (1, .int x1), (2, .int x2), (3, .int x3)] [] :=
  loop_ok (K := k_X4_readExpression_29 X T R n1 n2 x1 x2) (fun s r hf hk => w_X4_readExpression_29 hX hG hdE hE hf hk) h he
set_option maxHeartbeats 4000000 in
set_option maxRecDepth 100000 in
theorem w_X4_readExpression_89 {E : Nat → Int32 → Int32 → M2 → Option M2} {dE : Nat} {X : CX} {T : List Dsc} {R : RM} {c e : Nat} {n1 n2 : Nat} {m : M2} {r : M2} (hX : XR X (dE + 2) n1 n2) (hG : Geo T R c e) (hdE : 10 ≤ dE) (hE : ∀ {T : List Dsc} {R : RM} {c e : Nat} {x1 : Int32} {x2 : Int32} {m : M2} {r : M2}, Geo T R c e → E e x1 x2 m = some r → Ct dE yX4_readExpression cX4_readExpression 5 none T (mk m R) [.ref 14, .int x1, .int x2] none (mk r R)) (hf : f_X4_readExpression_89 E e m = some r) (hk : FnV X cX4_readExpression RX4 5 T n1 n2 (mk r R)) : Wp X cX4_readExpression RX4 5 T (mk m R) n1 n2 89 [] [] := by
  unfold f_X4_readExpression_89 at hf
  cases hf
  exact hk _ _ dX4_readExpression_89
set_option maxHeartbeats 4000000 in
set_option maxRecDepth 100000 in
theorem w_X4_readExpression {E : Nat → Int32 → Int32 → M2 → Option M2} {dE : Nat} {X : CX} {T : List Dsc} {R : RM} {c e : Nat} {n1 n2 : Nat} {x1 : Int32} {x2 : Int32} {m : M2} {r : M2} (hX : XR X (dE + 2) n1 n2) (hG : Geo T R c e) (hdE : 10 ≤ dE) (hE : ∀ {T : List Dsc} {R : RM} {c e : Nat} {x1 : Int32} {x2 : Int32} {m : M2} {r : M2}, Geo T R c e → E e x1 x2 m = some r → Ct dE yX4_readExpression cX4_readExpression 5 none T (mk m R) [.ref 14, .int x1, .int x2] none (mk r R)) (hf : B_X4_readExpression E e x1 x2 m = some r) (hk : FnV X cX4_readExpression RX4 5 T n1 n2 (mk r R)) : Wp X cX4_readExpression RX4 5 T (mk m R) n1 n2 0 [(0, .ref 14), (1, .int x1), (2, .int x2)] [] := by
  unfold B_X4_readExpression at hf
  refine Wp.aload_n (pc := 0) 0 rfl rfl dX4_readExpression_0 ?_
  refine Wp.getI2 (pc := 1) (hG.t 14 rfl) fk_RX4_43 rfl dX4_readExpression_1 ?_
  refine Wp.if_eq (pc := 4) 8 dX4_readExpression_4 (by decide) (fun hc1 => ?_) (fun hc1 => ?_)
  · rw [if_pos hc1] at hf
    refine Wp.iload_n (pc := 8) 1 rfl rfl dX4_readExpression_8 ?_
    refine Wp.iconst (pc := 9) (2 : Int32) (by decide) dX4_readExpression_9 ?_
    refine Wp.icmp_lt (pc := 10) 19 dX4_readExpression_10 (by decide) (fun hc2 => ?_) (fun hc2 => ?_)
    · rw [if_pos hc2] at hf
      refine Wp.aload_n (pc := 19) 0 rfl rfl dX4_readExpression_19 ?_
      refine Wp.iload_n (pc := 20) 1 rfl rfl dX4_readExpression_20 ?_
      refine Wp.iconst (pc := 21) (1 : Int32) (by decide) dX4_readExpression_21 ?_
      refine Wp.iadd (pc := 22) dX4_readExpression_22 ?_
      refine Wp.iload_n (pc := 23) 2 rfl rfl dX4_readExpression_23 ?_
      obtain ⟨c3, h4, hf⟩ := bnd hf
      refine Wp.callVv (pc := 24) (st := []) (as := [.int (x1 + (1 : Int32)), .int x2]) (hE hG h4) ml_RX4_148 mv_X4_readExpression mb_X4_readExpression hX (by omega) (by decide) rfl (hG.t 14 rfl) rfl (by simp) dX4_readExpression_24 rfl ?_
      refine Wp.iconst (pc := 27) (0 : Int32) (by decide) dX4_readExpression_27 ?_
      refine Wp.istore_n (pc := 28) (lo' := [(0, .ref 14), (1, .int x1), (2, .int x2), (3, .int (0 : Int32))]) [1, 2, 3, 0] rfl (by decide) rfl dX4_readExpression_28 ?_
      obtain ⟨e5, h6, hf⟩ := bnd hf
      refine wl_X4_readExpression_29 hX hG hdE hE h6 ?_
      exact w_X4_readExpression_89 hX hG hdE hE hf hk
    · rw [if_neg hc2] at hf
      refine Wp.aload_n (pc := 13) 0 rfl rfl dX4_readExpression_13 ?_
      refine Wp.iload_n (pc := 14) 2 rfl rfl dX4_readExpression_14 ?_
      obtain ⟨c7, h8, hf⟩ := bnd hf
      refine Wp.callVv (pc := 15) (st := []) (as := [.int x2]) (c_X4_readUnit hG hdE hE h8) ml_RX4_204 mv_X4_readUnit mb_X4_readUnit hX (by omega) (by decide) rfl (hG.t 14 rfl) rfl (by simp) dX4_readExpression_15 rfl ?_
      cases hf
      exact hk _ _ dX4_readExpression_18
  · rw [if_neg hc1] at hf
    cases hf
    exact hk _ _ dX4_readExpression_7
theorem b_X4_readExpression {E : Nat → Int32 → Int32 → M2 → Option M2} {dE : Nat} {T : List Dsc} {R : RM} {c e : Nat} {x1 : Int32} {x2 : Int32} {m : M2} {r : M2} (hG : Geo T R c e) (hdE : 10 ≤ dE) (hE : ∀ {T : List Dsc} {R : RM} {c e : Nat} {x1 : Int32} {x2 : Int32} {m : M2} {r : M2}, Geo T R c e → E e x1 x2 m = some r → Ct dE yX4_readExpression cX4_readExpression 5 none T (mk m R) [.ref 14, .int x1, .int x2] none (mk r R)) (hf : B_X4_readExpression E e x1 x2 m = some r) : Ct (dE + 2) yX4_readExpression cX4_readExpression 5 none T (mk m R) [.ref 14, .int x1, .int x2] none (mk r R) := Ct.ofV (r := mk r R) (by decide +kernel) (Nat.le_of_ble_eq_true rfl) (fun X hX hk => w_X4_readExpression hX hG hdE hE hf hk)
theorem c_X4_readExpression : ∀ {n : Nat}, ∀ {T : List Dsc} {R : RM} {c e : Nat} {x1 : Int32} {x2 : Int32} {m : M2} {r : M2}, Geo T R c e → F_X4_readExpression n e x1 x2 m = some r → Ct (20 + 2 * n) yX4_readExpression cX4_readExpression 5 none T (mk m R) [.ref 14, .int x1, .int x2] none (mk r R) := by
  intro n
  induction n with
  | zero => intro T R c e x1 x2 m r hG hf; cases hf
  | succ n ih => intro T R c e x1 x2 m r hG hf; exact b_X4_readExpression (E := F_X4_readExpression n) (dE := 20 + 2 * n) hG (by omega) ih hf
theorem dX4_readRelation_0 : decode cX4_readRelation 0 = .ok (.iconst 0, 1) := by decide +kernel
theorem dX4_readRelation_1 : decode cX4_readRelation 1 = .ok (.istore_n 1, 1) := by decide +kernel
theorem dX4_readRelation_2 : decode cX4_readRelation 2 = .ok (.iconst 0, 1) := by decide +kernel
theorem dX4_readRelation_3 : decode cX4_readRelation 3 = .ok (.istore_n 2, 1) := by decide +kernel
theorem dX4_readRelation_4 : decode cX4_readRelation 4 = .ok (.iload_n 2, 1) := by decide +kernel
theorem dX4_readRelation_5 : decode cX4_readRelation 5 = .ok (.sipush 400, 3) := by decide +kernel
theorem dX4_readRelation_8 : decode cX4_readRelation 8 = .ok (.if_icmp .ge 42, 3) := by decide +kernel
theorem dX4_readRelation_11 : decode cX4_readRelation 11 = .ok (.aload_n 0, 1) := by decide +kernel
theorem dX4_readRelation_12 : decode cX4_readRelation 12 = .ok (.getfield 43, 3) := by decide +kernel
theorem dX4_readRelation_15 : decode cX4_readRelation 15 = .ok (.ifCond .ne 35, 3) := by decide +kernel
theorem dX4_readRelation_18 : decode cX4_readRelation 18 = .ok (.aload_n 0, 1) := by decide +kernel
theorem dX4_readRelation_19 : decode cX4_readRelation 19 = .ok (.getfield 46, 3) := by decide +kernel
theorem dX4_readRelation_22 : decode cX4_readRelation 22 = .ok (.bipush 26, 2) := by decide +kernel
theorem dX4_readRelation_24 : decode cX4_readRelation 24 = .ok (.if_icmp .ne 26, 3) := by decide +kernel
theorem dX4_readRelation_27 : decode cX4_readRelation 27 = .ok (.aload_n 0, 1) := by decide +kernel
theorem dX4_readRelation_28 : decode cX4_readRelation 28 = .ok (.bipush 26, 2) := by decide +kernel
theorem dX4_readRelation_30 : decode cX4_readRelation 30 = .ok (.invokevirtual 114, 3) := by decide +kernel
theorem dX4_readRelation_33 : decode cX4_readRelation 33 = .ok (.pop, 1) := by decide +kernel
theorem dX4_readRelation_34 : decode cX4_readRelation 34 = .ok (.iload_n 1, 1) := by decide +kernel
theorem dX4_readRelation_35 : decode cX4_readRelation 35 = .ok (.ifCond .ne 7, 3) := by decide +kernel
theorem dX4_readRelation_38 : decode cX4_readRelation 38 = .ok (.iconst 1, 1) := by decide +kernel
theorem dX4_readRelation_39 : decode cX4_readRelation 39 = .ok (.goto 4, 3) := by decide +kernel
theorem dX4_readRelation_42 : decode cX4_readRelation 42 = .ok (.iconst 0, 1) := by decide +kernel
theorem dX4_readRelation_43 : decode cX4_readRelation 43 = .ok (.istore_n 1, 1) := by decide +kernel
theorem dX4_readRelation_44 : decode cX4_readRelation 44 = .ok (.iinc 2 1, 3) := by decide +kernel
theorem dX4_readRelation_47 : decode cX4_readRelation 47 = .ok (.goto (-43), 3) := by decide +kernel
theorem dX4_readRelation_50 : decode cX4_readRelation 50 = .ok (.aload_n 0, 1) := by decide +kernel
theorem dX4_readRelation_51 : decode cX4_readRelation 51 = .ok (.iconst 0, 1) := by decide +kernel
theorem dX4_readRelation_52 : decode cX4_readRelation 52 = .ok (.iconst 0, 1) := by decide +kernel
theorem dX4_readRelation_53 : decode cX4_readRelation 53 = .ok (.invokevirtual 148, 3) := by decide +kernel
theorem dX4_readRelation_56 : decode cX4_readRelation 56 = .ok (.aload_n 0, 1) := by decide +kernel
theorem dX4_readRelation_57 : decode cX4_readRelation 57 = .ok (.getfield 46, 3) := by decide +kernel
theorem dX4_readRelation_60 : decode cX4_readRelation 60 = .ok (.istore_n 2, 1) := by decide +kernel
theorem dX4_readRelation_61 : decode cX4_readRelation 61 = .ok (.iload_n 2, 1) := by decide +kernel
theorem dX4_readRelation_62 : decode cX4_readRelation 62 = .ok (.bipush 11, 2) := by decide +kernel
theorem dX4_readRelation_64 : decode cX4_readRelation 64 = .ok (.if_icmp .lt 9, 3) := by decide +kernel
theorem dX4_readRelation_67 : decode cX4_readRelation 67 = .ok (.iload_n 2, 1) := by decide +kernel
theorem dX4_readRelation_68 : decode cX4_readRelation 68 = .ok (.bipush 14, 2) := by decide +kernel
theorem dX4_readRelation_70 : decode cX4_readRelation 70 = .ok (.if_icmp .le 8, 3) := by decide +kernel
theorem dX4_readRelation_73 : decode cX4_readRelation 73 = .ok (.aload_n 0, 1) := by decide +kernel
theorem dX4_readRelation_74 : decode cX4_readRelation 74 = .ok (.iconst 1, 1) := by decide +kernel
theorem dX4_readRelation_75 : decode cX4_readRelation 75 = .ok (.invokevirtual 67, 3) := by decide +kernel
theorem dX4_readRelation_78 : decode cX4_readRelation 78 = .ok (.aload_n 0, 1) := by decide +kernel
theorem dX4_readRelation_79 : decode cX4_readRelation 79 = .ok (.iload_n 2, 1) := by decide +kernel
theorem dX4_readRelation_80 : decode cX4_readRelation 80 = .ok (.invokevirtual 114, 3) := by decide +kernel
theorem dX4_readRelation_83 : decode cX4_readRelation 83 = .ok (.pop, 1) := by decide +kernel
theorem dX4_readRelation_84 : decode cX4_readRelation 84 = .ok (.aload_n 0, 1) := by decide +kernel
theorem dX4_readRelation_85 : decode cX4_readRelation 85 = .ok (.iconst 0, 1) := by decide +kernel
theorem dX4_readRelation_86 : decode cX4_readRelation 86 = .ok (.iconst 0, 1) := by decide +kernel
theorem dX4_readRelation_87 : decode cX4_readRelation 87 = .ok (.invokevirtual 148, 3) := by decide +kernel
theorem dX4_readRelation_90 : decode cX4_readRelation 90 = .ok (.aload_n 0, 1) := by decide +kernel
theorem dX4_readRelation_91 : decode cX4_readRelation 91 = .ok (.iload_n 2, 1) := by decide +kernel
theorem dX4_readRelation_92 : decode cX4_readRelation 92 = .ok (.iconst 0, 1) := by decide +kernel
theorem dX4_readRelation_93 : decode cX4_readRelation 93 = .ok (.invokevirtual 144, 3) := by decide +kernel
theorem dX4_readRelation_96 : decode cX4_readRelation 96 = .ok (.pop, 1) := by decide +kernel
theorem dX4_readRelation_97 : decode cX4_readRelation 97 = .ok (.iload_n 1, 1) := by decide +kernel
theorem dX4_readRelation_98 : decode cX4_readRelation 98 = .ok (.ifCond .eq 11, 3) := by decide +kernel
theorem dX4_readRelation_101 : decode cX4_readRelation 101 = .ok (.aload_n 0, 1) := by decide +kernel
theorem dX4_readRelation_102 : decode cX4_readRelation 102 = .ok (.bipush 26, 2) := by decide +kernel
theorem dX4_readRelation_104 : decode cX4_readRelation 104 = .ok (.iconst 0, 1) := by decide +kernel
theorem dX4_readRelation_105 : decode cX4_readRelation 105 = .ok (.invokevirtual 144, 3) := by decide +kernel
theorem dX4_readRelation_108 : decode cX4_readRelation 108 = .ok (.pop, 1) := by decide +kernel
theorem dX4_readRelation_109 : decode cX4_readRelation 109 = .ok (.return_, 1) := by decide +kernel
def k_X4_readRelation_4 (X : CX) (T : List Dsc) (R : RM) (n1 n2 : Nat) (r : ((Int32 × Int32 × M2) ⊕ ((Int32 × M2)))) : Prop := match r with
  | .inl s => Wp X cX4_readRelation RX4 3 T (mk s.2.2 R) n1 n2 4 [(0, .ref 14), (1, .int s.1), (2, .int s.2.1)] []
  | .inr e => Wp X cX4_readRelation RX4 3 T (mk e.2 R) n1 n2 50 [(0, .ref 14), (1, .int e.1)] []
set_option maxHeartbeats 4000000 in
set_option maxRecDepth 100000 in
theorem w_X4_readRelation_43 {X : CX} {T : List Dsc} {R : RM} {c e : Nat} {n1 n2 : Nat} {x2 : Int32} {s0 : Int32} {m : M2} {r : ((Int32 × Int32 × M2) ⊕ ((Int32 × M2)))} (hX : XR X 71 n1 n2) (hG : Geo T R c e) (hf : f_X4_readRelation_43 e x2 s0 m = some r) (hk : k_X4_readRelation_4 X T R n1 n2 r) : Wp X cX4_readRelation RX4 3 T (mk m R) n1 n2 43 [(0, .ref 14), (2, .int x2)] [.int s0] := by
  unfold f_X4_readRelation_43 at hf
  refine Wp.istore_n (pc := 43) (lo' := [(0, .ref 14), (1, .int s0), (2, .int x2)]) [1, 0, 2] rfl (by decide) rfl dX4_readRelation_43 ?_
  obtain ⟨v1, h2, hf⟩ := bnd hf
  refine Wp.iincN (pc := 44) (lo' := [(0, .ref 14), (1, .int s0), (2, .int v1)]) (1 : Int32) (by decide) h2 2 rfl [1, 2, 0] rfl (by decide) dX4_readRelation_44 ?_
  refine Wp.goto (pc := 47) 4 dX4_readRelation_47 (by decide) ?_
  cases hf
  exact hk
set_option maxHeartbeats 4000000 in
set_option maxRecDepth 100000 in
theorem w_X4_readRelation_4 {X : CX} {T : List Dsc} {R : RM} {c e : Nat} {n1 n2 : Nat} {x1 : Int32} {x2 : Int32} {m : M2} {r : ((Int32 × Int32 × M2) ⊕ ((Int32 × M2)))} (hX : XR X 71 n1 n2) (hG : Geo T R c e) (hf : f_X4_readRelation_4 e x1 x2 m = some r) (hk : k_X4_readRelation_4 X T R n1 n2 r) : Wp X cX4_readRelation RX4 3 T (mk m R) n1 n2 4 [(0, .ref 14), (1, .int x1), (2, .int x2)] [] := by
  unfold f_X4_readRelation_4 at hf
  refine Wp.iload_n (pc := 4) 2 rfl rfl dX4_readRelation_4 ?_
  refine Wp.sipush (pc := 5) (400 : Int32) (by decide) dX4_readRelation_5 ?_
  refine Wp.icmp_ge (pc := 8) 50 dX4_readRelation_8 (by decide) (fun hc1 => ?_) (fun hc1 => ?_)
  · rw [if_pos hc1] at hf
    refine Wp.lo' (lo' := [(0, .ref 14), (1, .int x1)]) [0, 1] rfl ?_
    cases hf
    exact hk
  · rw [if_neg hc1] at hf
    refine Wp.aload_n (pc := 11) 0 rfl rfl dX4_readRelation_11 ?_
    refine Wp.getI2 (pc := 12) (hG.t 14 rfl) fk_RX4_43 rfl dX4_readRelation_12 ?_
    refine Wp.if_ne (pc := 15) 50 dX4_readRelation_15 (by decide) (fun hc2 => ?_) (fun hc2 => ?_)
    · rw [if_neg hc2] at hf
      refine Wp.lo' (lo' := [(0, .ref 14), (1, .int x1)]) [0, 1] rfl ?_
      cases hf
      exact hk
    · rw [if_pos hc2] at hf
      refine Wp.aload_n (pc := 18) 0 rfl rfl dX4_readRelation_18 ?_
      refine Wp.getI2 (pc := 19) (hG.t 14 rfl) fk_RX4_46 rfl dX4_readRelation_19 ?_
      refine Wp.bipush (pc := 22) (26 : Int32) (by decide) dX4_readRelation_22 ?_
      refine Wp.icmp_ne (pc := 24) 50 dX4_readRelation_24 (by decide) (fun hc3 => ?_) (fun hc3 => ?_)
      · rw [if_neg hc3] at hf
        refine Wp.lo' (lo' := [(0, .ref 14), (1, .int x1)]) [0, 1] rfl ?_
        cases hf
        exact hk
      · rw [if_pos hc3] at hf
        refine Wp.aload_n (pc := 27) 0 rfl rfl dX4_readRelation_27 ?_
        refine Wp.bipush (pc := 28) (26 : Int32) (by decide) dX4_readRelation_28 ?_
        obtain ⟨c4, h5, hf⟩ := bnd hf
        refine Wp.callVi (pc := 30) (st := []) (as := [.int (26 : Int32)]) (c_X4_take hG h5) ml_RX4_114 mv_X4_take mb_X4_take hX (Nat.le_of_ble_eq_true rfl) (by decide) rfl (hG.t 14 rfl) rfl (by simp) dX4_readRelation_30 rfl ?_
        refine Wp.pop (pc := 33) rfl dX4_readRelation_33 ?_
        refine Wp.iload_n (pc := 34) 1 rfl rfl dX4_readRelation_34 ?_
        refine Wp.if_ne (pc := 35) 42 dX4_readRelation_35 (by decide) (fun hc6 => ?_) (fun hc6 => ?_)
        · rw [if_neg hc6] at hf
          refine Wp.iconst (pc := 42) (0 : Int32) (by decide) dX4_readRelation_42 ?_
          refine Wp.lo' (lo' := [(0, .ref 14), (2, .int x2)]) [0, 2] rfl ?_
          exact w_X4_readRelation_43 hX hG hf hk
        · rw [if_pos hc6] at hf
          refine Wp.iconst (pc := 38) (1 : Int32) (by decide) dX4_readRelation_38 ?_
          refine Wp.goto (pc := 39) 43 dX4_readRelation_39 (by decide) ?_
          refine Wp.lo' (lo' := [(0, .ref 14), (2, .int x2)]) [0, 2] rfl ?_
          exact w_X4_readRelation_43 hX hG hf hk
theorem wl_X4_readRelation_4 {X : CX} {T : List Dsc} {R : RM} {c e : Nat} {n1 n2 : Nat} {x1 : Int32} {x2 : Int32} {m : M2} {e1 : ((Int32 × M2))} (hX : XR X 71 n1 n2) (hG : Geo T R c e) (h : loop (g_X4_readRelation_4 e) (x1, x2, m) = some e1) (he : Wp X cX4_readRelation RX4 3 T (mk e1.2 R) n1 n2 50 [(0, .ref 14), (1, .int e1.1)] []) : Wp X cX4_readRelation RX4 3 T (mk m R) n1 n2 4 [(0, .ref 14), (1, .int x1), (2, .int x2)] [] :=
  loop_ok (K := k_X4_readRelation_4 X T R n1 n2) (fun s r hf hk => w_X4_readRelation_4 hX hG hf hk) h he
set_option maxHeartbeats 4000000 in
set_option maxRecDepth 100000 in
theorem w_X4_readRelation_109 {X : CX} {T : List Dsc} {R : RM} {c e : Nat} {n1 n2 : Nat} {m : M2} {r : M2} (hX : XR X 71 n1 n2) (hG : Geo T R c e) (hf : f_X4_readRelation_109 e m = some r) (hk : FnV X cX4_readRelation RX4 3 T n1 n2 (mk r R)) : Wp X cX4_readRelation RX4 3 T (mk m R) n1 n2 109 [] [] := by
  unfold f_X4_readRelation_109 at hf
  cases hf
  exact hk _ _ dX4_readRelation_109
set_option maxHeartbeats 4000000 in
set_option maxRecDepth 100000 in
theorem w_X4_readRelation_78 {X : CX} {T : List Dsc} {R : RM} {c e : Nat} {n1 n2 : Nat} {x1 : Int32} {x2 : Int32} {m : M2} {r : M2} (hX : XR X 71 n1 n2) (hG : Geo T R c e) (hf : f_X4_readRelation_78 e x1 x2 m = some r) (hk : FnV X cX4_readRelation RX4 3 T n1 n2 (mk r R)) : Wp X cX4_readRelation RX4 3 T (mk m R) n1 n2 78 [(0, .ref 14), (1, .int x1), (2, .int x2)] [] := by
  unfold f_X4_readRelation_78 at hf
  refine Wp.aload_n (pc := 78) 0 rfl rfl dX4_readRelation_78 ?_
  refine Wp.iload_n (pc := 79) 2 rfl rfl dX4_readRelation_79 ?_
  obtain ⟨c1, h2, hf⟩ := bnd hf
  refine Wp.callVi (pc := 80) (st := []) (as := [.int x2]) (c_X4_take hG h2) ml_RX4_114 mv_X4_take mb_X4_take hX (Nat.le_of_ble_eq_true rfl) (by decide) rfl (hG.t 14 rfl) rfl (by simp) dX4_readRelation_80 rfl ?_
  refine Wp.pop (pc := 83) rfl dX4_readRelation_83 ?_
  refine Wp.aload_n (pc := 84) 0 rfl rfl dX4_readRelation_84 ?_
  refine Wp.iconst (pc := 85) (0 : Int32) (by decide) dX4_readRelation_85 ?_
  refine Wp.iconst (pc := 86) (0 : Int32) (by decide) dX4_readRelation_86 ?_
  obtain ⟨c3, h4, hf⟩ := bnd hf
  refine Wp.callVv (pc := 87) (st := []) (as := [.int (0 : Int32), .int (0 : Int32)]) (c_X4_readExpression hG h4) ml_RX4_148 mv_X4_readExpression mb_X4_readExpression hX (Nat.le_of_ble_eq_true rfl) (by decide) rfl (hG.t 14 rfl) rfl (by simp) dX4_readRelation_87 rfl ?_
  refine Wp.aload_n (pc := 90) 0 rfl rfl dX4_readRelation_90 ?_
  refine Wp.iload_n (pc := 91) 2 rfl rfl dX4_readRelation_91 ?_
  refine Wp.iconst (pc := 92) (0 : Int32) (by decide) dX4_readRelation_92 ?_
  obtain ⟨c5, h6, hf⟩ := bnd hf
  refine Wp.callVi (pc := 93) (st := []) (as := [.int x2, .int (0 : Int32)]) (c_X4_emit hG h6) ml_RX4_144 mv_X4_emit mb_X4_emit hX (Nat.le_of_ble_eq_true rfl) (by decide) rfl (hG.t 14 rfl) rfl (by simp) dX4_readRelation_93 rfl ?_
  refine Wp.pop (pc := 96) rfl dX4_readRelation_96 ?_
  refine Wp.iload_n (pc := 97) 1 rfl rfl dX4_readRelation_97 ?_
  refine Wp.if_eq (pc := 98) 109 dX4_readRelation_98 (by decide) (fun hc7 => ?_) (fun hc7 => ?_)
  · rw [if_pos hc7] at hf
    refine Wp.lo' (lo' := []) [] rfl ?_
    exact w_X4_readRelation_109 hX hG hf hk
  · rw [if_neg hc7] at hf
    refine Wp.aload_n (pc := 101) 0 rfl rfl dX4_readRelation_101 ?_
    refine Wp.bipush (pc := 102) (26 : Int32) (by decide) dX4_readRelation_102 ?_
    refine Wp.iconst (pc := 104) (0 : Int32) (by decide) dX4_readRelation_104 ?_
    obtain ⟨c8, h9, hf⟩ := bnd hf
    refine Wp.callVi (pc := 105) (st := []) (as := [.int (26 : Int32), .int (0 : Int32)]) (c_X4_emit hG h9) ml_RX4_144 mv_X4_emit mb_X4_emit hX (Nat.le_of_ble_eq_true rfl) (by decide) rfl (hG.t 14 rfl) rfl (by simp) dX4_readRelation_105 rfl ?_
    refine Wp.pop (pc := 108) rfl dX4_readRelation_108 ?_
    refine Wp.lo' (lo' := []) [] rfl ?_
    exact w_X4_readRelation_109 hX hG hf hk
set_option maxHeartbeats 4000000 in
set_option maxRecDepth 100000 in
theorem w_X4_readRelation_73 {X : CX} {T : List Dsc} {R : RM} {c e : Nat} {n1 n2 : Nat} {x1 : Int32} {x2 : Int32} {m : M2} {r : M2} (hX : XR X 71 n1 n2) (hG : Geo T R c e) (hf : f_X4_readRelation_73 e x1 x2 m = some r) (hk : FnV X cX4_readRelation RX4 3 T n1 n2 (mk r R)) : Wp X cX4_readRelation RX4 3 T (mk m R) n1 n2 73 [(0, .ref 14), (1, .int x1), (2, .int x2)] [] := by
  unfold f_X4_readRelation_73 at hf
  refine Wp.aload_n (pc := 73) 0 rfl rfl dX4_readRelation_73 ?_
  refine Wp.iconst (pc := 74) (1 : Int32) (by decide) dX4_readRelation_74 ?_
  obtain ⟨c1, h2, hf⟩ := bnd hf
  refine Wp.callVv (pc := 75) (st := []) (as := [.int (1 : Int32)]) (c_X4_fail hG h2) ml_RX4_67 mv_X4_fail mb_X4_fail hX (Nat.le_of_ble_eq_true rfl) (by decide) rfl (hG.t 14 rfl) rfl (by simp) dX4_readRelation_75 rfl ?_
  exact w_X4_readRelation_78 hX hG hf hk
set_option maxHeartbeats 4000000 in
set_option maxRecDepth 100000 in
theorem w_X4_readRelation_50 {X : CX} {T : List Dsc} {R : RM} {c e : Nat} {n1 n2 : Nat} {x1 : Int32} {m : M2} {r : M2} (hX : XR X 71 n1 n2) (hG : Geo T R c e) (hf : f_X4_readRelation_50 e x1 m = some r) (hk : FnV X cX4_readRelation RX4 3 T n1 n2 (mk r R)) : Wp X cX4_readRelation RX4 3 T (mk m R) n1 n2 50 [(0, .ref 14), (1, .int x1)] [] := by
  unfold f_X4_readRelation_50 at hf
  refine Wp.aload_n (pc := 50) 0 rfl rfl dX4_readRelation_50 ?_
  refine Wp.iconst (pc := 51) (0 : Int32) (by decide) dX4_readRelation_51 ?_
  refine Wp.iconst (pc := 52) (0 : Int32) (by decide) dX4_readRelation_52 ?_
  obtain ⟨c1, h2, hf⟩ := bnd hf
  refine Wp.callVv (pc := 53) (st := []) (as := [.int (0 : Int32), .int (0 : Int32)]) (c_X4_readExpression hG h2) ml_RX4_148 mv_X4_readExpression mb_X4_readExpression hX (Nat.le_of_ble_eq_true rfl) (by decide) rfl (hG.t 14 rfl) rfl (by simp) dX4_readRelation_53 rfl ?_
  refine Wp.aload_n (pc := 56) 0 rfl rfl dX4_readRelation_56 ?_
  refine Wp.getI2 (pc := 57) (hG.t 14 rfl) fk_RX4_46 rfl dX4_readRelation_57 ?_
  obtain ⟨v3, h4, hf⟩ := bnd hf
  refine Wp.nI' h4 ?_
  refine Wp.istore_n (pc := 60) (lo' := [(0, .ref 14), (1, .int x1), (2, .int v3)]) [1, 2, 0] rfl (by decide) rfl dX4_readRelation_60 ?_
  refine Wp.iload_n (pc := 61) 2 rfl rfl dX4_readRelation_61 ?_
  refine Wp.bipush (pc := 62) (11 : Int32) (by decide) dX4_readRelation_62 ?_
  refine Wp.icmp_lt (pc := 64) 73 dX4_readRelation_64 (by decide) (fun hc5 => ?_) (fun hc5 => ?_)
  · rw [if_pos hc5] at hf
    exact w_X4_readRelation_73 hX hG hf hk
  · rw [if_neg hc5] at hf
    refine Wp.iload_n (pc := 67) 2 rfl rfl dX4_readRelation_67 ?_
    refine Wp.bipush (pc := 68) (14 : Int32) (by decide) dX4_readRelation_68 ?_
    refine Wp.icmp_le (pc := 70) 78 dX4_readRelation_70 (by decide) (fun hc6 => ?_) (fun hc6 => ?_)
    · rw [if_pos hc6] at hf
      exact w_X4_readRelation_78 hX hG hf hk
    · rw [if_neg hc6] at hf
      exact w_X4_readRelation_73 hX hG hf hk
set_option maxHeartbeats 4000000 in
set_option maxRecDepth 100000 in
theorem w_X4_readRelation {X : CX} {T : List Dsc} {R : RM} {c e : Nat} {n1 n2 : Nat} {m : M2} {r : M2} (hX : XR X 71 n1 n2) (hG : Geo T R c e) (hf : F_X4_readRelation e m = some r) (hk : FnV X cX4_readRelation RX4 3 T n1 n2 (mk r R)) : Wp X cX4_readRelation RX4 3 T (mk m R) n1 n2 0 [(0, .ref 14)] [] := by
  unfold F_X4_readRelation at hf
  refine Wp.iconst (pc := 0) (0 : Int32) (by decide) dX4_readRelation_0 ?_
  refine Wp.istore_n (pc := 1) (lo' := [(0, .ref 14), (1, .int (0 : Int32))]) [1, 0] rfl (by decide) rfl dX4_readRelation_1 ?_
  refine Wp.iconst (pc := 2) (0 : Int32) (by decide) dX4_readRelation_2 ?_
  refine Wp.istore_n (pc := 3) (lo' := [(0, .ref 14), (1, .int (0 : Int32)), (2, .int (0 : Int32))]) [1, 2, 0] rfl (by decide) rfl dX4_readRelation_3 ?_
  obtain ⟨e1, h2, hf⟩ := bnd hf
  refine wl_X4_readRelation_4 hX hG h2 ?_
  exact w_X4_readRelation_50 hX hG hf hk
theorem c_X4_readRelation {T : List Dsc} {R : RM} {c e : Nat} {m : M2} {r : M2} (hG : Geo T R c e) (hf : F_X4_readRelation e m = some r) : Ct 71 yX4_readRelation cX4_readRelation 3 none T (mk m R) [.ref 14] none (mk r R) := Ct.ofV (r := mk r R) (by decide +kernel) (Nat.le_of_ble_eq_true rfl) (fun X hX hk => w_X4_readRelation hX hG hf hk)
theorem dX4_land_0 : decode cX4_land 0 = .ok (.iload_n 1, 1) := by decide +kernel
theorem dX4_land_1 : decode cX4_land 1 = .ok (.iconst (-1), 1) := by decide +kernel
theorem dX4_land_2 : decode cX4_land 2 = .ok (.if_icmp .eq 35, 3) := by decide +kernel
theorem dX4_land_5 : decode cX4_land 5 = .ok (.aload_n 0, 1) := by decide +kernel
theorem dX4_land_6 : decode cX4_land 6 = .ok (.getfield 35, 3) := by decide +kernel
theorem dX4_land_9 : decode cX4_land 9 = .ok (.getfield 211, 3) := by decide +kernel
theorem dX4_land_12 : decode cX4_land 12 = .ok (.iload_n 1, 1) := by decide +kernel
theorem dX4_land_13 : decode cX4_land 13 = .ok (.aload_n 0, 1) := by decide +kernel
theorem dX4_land_14 : decode cX4_land 14 = .ok (.getfield 35, 3) := by decide +kernel
theorem dX4_land_17 : decode cX4_land 17 = .ok (.getfield 138, 3) := by decide +kernel
theorem dX4_land_20 : decode cX4_land 20 = .ok (.bipush 6, 2) := by decide +kernel
theorem dX4_land_22 : decode cX4_land 22 = .ok (.ishl, 1) := by decide +kernel
theorem dX4_land_23 : decode cX4_land 23 = .ok (.aload_n 0, 1) := by decide +kernel
theorem dX4_land_24 : decode cX4_land 24 = .ok (.getfield 35, 3) := by decide +kernel
theorem dX4_land_27 : decode cX4_land 27 = .ok (.getfield 211, 3) := by decide +kernel
theorem dX4_land_30 : decode cX4_land 30 = .ok (.iload_n 1, 1) := by decide +kernel
theorem dX4_land_31 : decode cX4_land 31 = .ok (.iaload, 1) := by decide +kernel
theorem dX4_land_32 : decode cX4_land 32 = .ok (.bipush 63, 2) := by decide +kernel
theorem dX4_land_34 : decode cX4_land 34 = .ok (.iand, 1) := by decide +kernel
theorem dX4_land_35 : decode cX4_land 35 = .ok (.ior, 1) := by decide +kernel
theorem dX4_land_36 : decode cX4_land 36 = .ok (.iastore, 1) := by decide +kernel
theorem dX4_land_37 : decode cX4_land 37 = .ok (.return_, 1) := by decide +kernel
set_option maxHeartbeats 4000000 in
set_option maxRecDepth 100000 in
theorem w_X4_land_37 {X : CX} {T : List Dsc} {R : RM} {c e : Nat} {n1 n2 : Nat} {m : M2} {r : M2} (hX : XR X 1 n1 n2) (hG : Geo T R c e) (hf : f_X4_land_37 e m = some r) (hk : FnV X cX4_land RX4 2 T n1 n2 (mk r R)) : Wp X cX4_land RX4 2 T (mk m R) n1 n2 37 [] [] := by
  unfold f_X4_land_37 at hf
  cases hf
  exact hk _ _ dX4_land_37
set_option maxHeartbeats 4000000 in
set_option maxRecDepth 100000 in
theorem w_X4_land {X : CX} {T : List Dsc} {R : RM} {c e : Nat} {n1 n2 : Nat} {x1 : Int32} {m : M2} {r : M2} (hX : XR X 1 n1 n2) (hG : Geo T R c e) (hf : F_X4_land e x1 m = some r) (hk : FnV X cX4_land RX4 2 T n1 n2 (mk r R)) : Wp X cX4_land RX4 2 T (mk m R) n1 n2 0 [(0, .ref 14), (1, .int x1)] [] := by
  unfold F_X4_land at hf
  refine Wp.iload_n (pc := 0) 1 rfl rfl dX4_land_0 ?_
  refine Wp.iconst (pc := 1) (-1 : Int32) (by decide) dX4_land_1 ?_
  refine Wp.icmp_eq (pc := 2) 37 dX4_land_2 (by decide) (fun hc1 => ?_) (fun hc1 => ?_)
  · rw [if_pos hc1] at hf
    refine Wp.lo' (lo' := []) [] rfl ?_
    exact w_X4_land_37 hX hG hf hk
  · rw [if_neg hc1] at hf
    refine Wp.aload_n (pc := 5) 0 rfl rfl dX4_land_5 ?_
    refine Wp.getR2 (pc := 6) hG.r3 (hG.t 14 rfl) fk_RX4_35 rfl dX4_land_6 ?_
    refine Wp.getR2 (pc := 9) (hG.tr hG.he 3 2 rfl rfl) (hG.tt hG.he) fk_RX4_211 rfl dX4_land_9 ?_
    refine Wp.iload_n (pc := 12) 1 rfl rfl dX4_land_12 ?_
    refine Wp.aload_n (pc := 13) 0 rfl rfl dX4_land_13 ?_
    refine Wp.getR2 (pc := 14) hG.r3 (hG.t 14 rfl) fk_RX4_35 rfl dX4_land_14 ?_
    refine Wp.getI2 (pc := 17) (hG.tt hG.he) fk_RX4_138 rfl dX4_land_17 ?_
    refine Wp.bipush (pc := 20) (6 : Int32) (by decide) dX4_land_20 ?_
    refine Wp.ishl (pc := 22) dX4_land_22 ?_
    refine Wp.aload_n (pc := 23) 0 rfl rfl dX4_land_23 ?_
    refine Wp.getR2 (pc := 24) hG.r3 (hG.t 14 rfl) fk_RX4_35 rfl dX4_land_24 ?_
    refine Wp.getR2 (pc := 27) (hG.tr hG.he 3 2 rfl rfl) (hG.tt hG.he) fk_RX4_211 rfl dX4_land_27 ?_
    refine Wp.iload_n (pc := 30) 1 rfl rfl dX4_land_30 ?_
    obtain ⟨v2, h3, hf⟩ := bnd hf
    refine Wp.iald2 (pc := 31) h3 (hG.ta hG.he 2 400 rfl rfl) dX4_land_31 ?_
    refine Wp.bipush (pc := 32) (63 : Int32) (by decide) dX4_land_32 ?_
    refine Wp.iand (pc := 34) dX4_land_34 ?_
    refine Wp.ior (pc := 35) dX4_land_35 ?_
    obtain ⟨m4, h5, hf⟩ := bnd hf
    refine Wp.iast2 (pc := 36) h5 (hG.ta hG.he 2 400 rfl rfl) dX4_land_36 ?_
    refine Wp.lo' (lo' := []) [] rfl ?_
    exact w_X4_land_37 hX hG hf hk
theorem c_X4_land {T : List Dsc} {R : RM} {c e : Nat} {x1 : Int32} {m : M2} {r : M2} (hG : Geo T R c e) (hf : F_X4_land e x1 m = some r) : Ct 1 yX4_land cX4_land 2 none T (mk m R) [.ref 14, .int x1] none (mk r R) := Ct.ofV (r := mk r R) (by decide +kernel) (Nat.le_of_ble_eq_true rfl) (fun X hX hk => w_X4_land hX hG hf hk)
theorem dX4_landChain_0 : decode cX4_landChain 0 = .ok (.iload_n 1, 1) := by decide +kernel
theorem dX4_landChain_1 : decode cX4_landChain 1 = .ok (.istore_n 2, 1) := by decide +kernel
theorem dX4_landChain_2 : decode cX4_landChain 2 = .ok (.iconst 0, 1) := by decide +kernel
theorem dX4_landChain_3 : decode cX4_landChain 3 = .ok (.istore_n 3, 1) := by decide +kernel
theorem dX4_landChain_4 : decode cX4_landChain 4 = .ok (.iload_n 3, 1) := by decide +kernel
theorem dX4_landChain_5 : decode cX4_landChain 5 = .ok (.sipush 400, 3) := by decide +kernel
theorem dX4_landChain_8 : decode cX4_landChain 8 = .ok (.if_icmp .ge 38, 3) := by decide +kernel
theorem dX4_landChain_11 : decode cX4_landChain 11 = .ok (.iload_n 2, 1) := by decide +kernel
theorem dX4_landChain_12 : decode cX4_landChain 12 = .ok (.iconst (-1), 1) := by decide +kernel
theorem dX4_landChain_13 : decode cX4_landChain 13 = .ok (.if_icmp .eq 33, 3) := by decide +kernel
theorem dX4_landChain_16 : decode cX4_landChain 16 = .ok (.aload_n 0, 1) := by decide +kernel
theorem dX4_landChain_17 : decode cX4_landChain 17 = .ok (.getfield 35, 3) := by decide +kernel
theorem dX4_landChain_20 : decode cX4_landChain 20 = .ok (.getfield 211, 3) := by decide +kernel
theorem dX4_landChain_23 : decode cX4_landChain 23 = .ok (.iload_n 2, 1) := by decide +kernel
theorem dX4_landChain_24 : decode cX4_landChain 24 = .ok (.iaload, 1) := by decide +kernel
theorem dX4_landChain_25 : decode cX4_landChain 25 = .ok (.bipush 6, 2) := by decide +kernel
theorem dX4_landChain_27 : decode cX4_landChain 27 = .ok (.ishr, 1) := by decide +kernel
theorem dX4_landChain_28 : decode cX4_landChain 28 = .ok (.iconst 1, 1) := by decide +kernel
theorem dX4_landChain_29 : decode cX4_landChain 29 = .ok (.isub, 1) := by decide +kernel
theorem dX4_landChain_30 : decode cX4_landChain 30 = .ok (.istore 4, 2) := by decide +kernel
theorem dX4_landChain_32 : decode cX4_landChain 32 = .ok (.aload_n 0, 1) := by decide +kernel
theorem dX4_landChain_33 : decode cX4_landChain 33 = .ok (.iload_n 2, 1) := by decide +kernel
theorem dX4_landChain_34 : decode cX4_landChain 34 = .ok (.invokevirtual 152, 3) := by decide +kernel
theorem dX4_landChain_37 : decode cX4_landChain 37 = .ok (.iload 4, 2) := by decide +kernel
theorem dX4_landChain_39 : decode cX4_landChain 39 = .ok (.istore_n 2, 1) := by decide +kernel
theorem dX4_landChain_40 : decode cX4_landChain 40 = .ok (.iinc 3 1, 3) := by decide +kernel
theorem dX4_landChain_43 : decode cX4_landChain 43 = .ok (.goto (-39), 3) := by decide +kernel
theorem dX4_landChain_46 : decode cX4_landChain 46 = .ok (.return_, 1) := by decide +kernel
def k_X4_landChain_4 (X : CX) (T : List Dsc) (R : RM) (n1 n2 : Nat) (r : ((Int32 × Int32 × M2) ⊕ ((M2)))) : Prop := match r with
  | .inl s => Wp X cX4_landChain RX4 5 T (mk s.2.2 R) n1 n2 4 [(0, .ref 14), (2, .int s.1), (3, .int s.2.1)] []
  | .inr e => Wp X cX4_landChain RX4 5 T (mk e R) n1 n2 46 [] []
set_option maxHeartbeats 4000000 in
set_option maxRecDepth 100000 in
theorem w_X4_landChain_4 {X : CX} {T : List Dsc} {R : RM} {c e : Nat} {n1 n2 : Nat} {x2 : Int32} {x3 : Int32} {m : M2} {r : ((Int32 × Int32 × M2) ⊕ ((M2)))} (hX : XR X 2 n1 n2) (hG : Geo T R c e) (hf : f_X4_landChain_4 e x2 x3 m = some r) (hk : k_X4_landChain_4 X T R n1 n2 r) : Wp X cX4_landChain RX4 5 T (mk m R) n1 n2 4 [(0, .ref 14), (2, .int x2), (3, .int x3)] [] := by
  unfold f_X4_landChain_4 at hf
  refine Wp.iload_n (pc := 4) 2 rfl rfl dX4_landChain_4 ?_
  refine Wp.sipush (pc := 5) (400 : Int32) (by decide) dX4_landChain_5 ?_
  refine Wp.icmp_ge (pc := 8) 46 dX4_landChain_8 (by decide) (fun hc1 => ?_) (fun hc1 => ?_)
  · rw [if_pos hc1] at hf
    refine Wp.lo' (lo' := []) [] rfl ?_
    cases hf
    exact hk
  · rw [if_neg hc1] at hf
    refine Wp.iload_n (pc := 11) 1 rfl rfl dX4_landChain_11 ?_
    refine Wp.iconst (pc := 12) (-1 : Int32) (by decide) dX4_landChain_12 ?_
    refine Wp.icmp_eq (pc := 13) 46 dX4_landChain_13 (by decide) (fun hc2 => ?_) (fun hc2 => ?_)
    · rw [if_pos hc2] at hf
      refine Wp.lo' (lo' := []) [] rfl ?_
      cases hf
      exact hk
    · rw [if_neg hc2] at hf
      refine Wp.aload_n (pc := 16) 0 rfl rfl dX4_landChain_16 ?_
      refine Wp.getR2 (pc := 17) hG.r3 (hG.t 14 rfl) fk_RX4_35 rfl dX4_landChain_17 ?_
      refine Wp.getR2 (pc := 20) (hG.tr hG.he 3 2 rfl rfl) (hG.tt hG.he) fk_RX4_211 rfl dX4_landChain_20 ?_
      refine Wp.iload_n (pc := 23) 1 rfl rfl dX4_landChain_23 ?_
      obtain ⟨v3, h4, hf⟩ := bnd hf
      refine Wp.iald2 (pc := 24) h4 (hG.ta hG.he 2 400 rfl rfl) dX4_landChain_24 ?_
      refine Wp.bipush (pc := 25) (6 : Int32) (by decide) dX4_landChain_25 ?_
      refine Wp.ishr (pc := 27) dX4_landChain_27 ?_
      refine Wp.iconst (pc := 28) (1 : Int32) (by decide) dX4_landChain_28 ?_
      refine Wp.isub (pc := 29) dX4_landChain_29 ?_
      obtain ⟨v5, h6, hf⟩ := bnd hf
      refine Wp.nI' h6 ?_
      refine Wp.istore (pc := 30) (lo' := [(0, .ref 14), (2, .int x2), (3, .int x3), (4, .int v5)]) [1, 2, 3, 0] rfl (by decide) dX4_landChain_30 ?_
      refine Wp.aload_n (pc := 32) 0 rfl rfl dX4_landChain_32 ?_
      refine Wp.iload_n (pc := 33) 1 rfl rfl dX4_landChain_33 ?_
      obtain ⟨c7, h8, hf⟩ := bnd hf
      refine Wp.callVv (pc := 34) (st := []) (as := [.int x2]) (c_X4_land hG h8) ml_RX4_152 mv_X4_land mb_X4_land hX (Nat.le_of_ble_eq_true rfl) (by decide) rfl (hG.t 14 rfl) rfl (by simp) dX4_landChain_34 rfl ?_
      refine Wp.iload (pc := 37) 3 rfl dX4_landChain_37 ?_
      refine Wp.istore_n (pc := 39) (lo' := [(0, .ref 14), (2, .int v5), (3, .int x3)]) [1, 0, 2] rfl (by decide) rfl dX4_landChain_39 ?_
      obtain ⟨v9, h10, hf⟩ := bnd hf
      refine Wp.iincN (pc := 40) (lo' := [(0, .ref 14), (2, .int v5), (3, .int v9)]) (1 : Int32) (by decide) h10 2 rfl [1, 2, 0] rfl (by decide) dX4_landChain_40 ?_
      refine Wp.goto (pc := 43) 4 dX4_landChain_43 (by decide) ?_
      cases hf
      exact hk
theorem wl_X4_landChain_4 {X : CX} {T : List Dsc} {R : RM} {c e : Nat} {n1 n2 : Nat} {x2 : Int32} {x3 : Int32} {m : M2} {e1 : ((M2))} (hX : XR X 2 n1 n2) (hG : Geo T R c e) (h : loop (g_X4_landChain_4 e) (x2, x3, m) = some e1) (he : Wp X cX4_landChain RX4 5 T (mk e1 R) n1 n2 46 [] []) : Wp X cX4_landChain RX4 5 T (mk m R) n1 n2 4 [(0, .ref 14), (2, .int x2), (3, .int x3)] [] :=
  loop_ok (K := k_X4_landChain_4 X T R n1 n2) (fun s r hf hk => w_X4_landChain_4 hX hG hf hk) h he
set_option maxHeartbeats 4000000 in
set_option maxRecDepth 100000 in
theorem w_X4_landChain_46 {X : CX} {T : List Dsc} {R : RM} {c e : Nat} {n1 n2 : Nat} {m : M2} {r : M2} (hX : XR X 2 n1 n2) (hG : Geo T R c e) (hf : f_X4_landChain_46 e m = some r) (hk : FnV X cX4_landChain RX4 5 T n1 n2 (mk r R)) : Wp X cX4_landChain RX4 5 T (mk m R) n1 n2 46 [] [] := by
  unfold f_X4_landChain_46 at hf
  cases hf
  exact hk _ _ dX4_landChain_46
set_option maxHeartbeats 4000000 in
set_option maxRecDepth 100000 in
theorem w_X4_landChain {X : CX} {T : List Dsc} {R : RM} {c e : Nat} {n1 n2 : Nat} {x1 : Int32} {m : M2} {r : M2} (hX : XR X 2 n1 n2) (hG : Geo T R c e) (hf : F_X4_landChain e x1 m = some r) (hk : FnV X cX4_landChain RX4 5 T n1 n2 (mk r R)) : Wp X cX4_landChain RX4 5 T (mk m R) n1 n2 0 [(0, .ref 14), (1, .int x1)] [] := by
  unfold F_X4_landChain at hf
  refine Wp.iload_n (pc := 0) 1 rfl rfl dX4_landChain_0 ?_
  refine Wp.istore_n (pc := 1) (lo' := [(0, .ref 14), (2, .int x1)]) [1, 0] rfl (by decide) rfl dX4_landChain_1 ?_
  refine Wp.iconst (pc := 2) (0 : Int32) (by decide) dX4_landChain_2 ?_
  refine Wp.istore_n (pc := 3) (lo' := [(0, .ref 14), (2, .int x1), (3, .int (0 : Int32))]) [1, 2, 0] rfl (by decide) rfl dX4_landChain_3 ?_
  obtain ⟨e1, h2, hf⟩ := bnd hf
  refine wl_X4_landChain_4 hX hG h2 ?_
  exact w_X4_landChain_46 hX hG hf hk
theorem c_X4_landChain {T : List Dsc} {R : RM} {c e : Nat} {x1 : Int32} {m : M2} {r : M2} (hG : Geo T R c e) (hf : F_X4_landChain e x1 m = some r) : Ct 2 yX4_landChain cX4_landChain 5 none T (mk m R) [.ref 14, .int x1] none (mk r R) := Ct.ofV (r := mk r R) (by decide +kernel) (Nat.le_of_ble_eq_true rfl) (fun X hX hk => w_X4_landChain hX hG hf hk)
theorem dX4_readCondition_0 : decode cX4_readCondition 0 = .ok (.iconst (-1), 1) := by decide +kernel
theorem dX4_readCondition_1 : decode cX4_readCondition 1 = .ok (.istore_n 1, 1) := by decide +kernel
theorem dX4_readCondition_2 : decode cX4_readCondition 2 = .ok (.iconst (-1), 1) := by decide +kernel
theorem dX4_readCondition_3 : decode cX4_readCondition 3 = .ok (.istore_n 2, 1) := by decide +kernel
theorem dX4_readCondition_4 : decode cX4_readCondition 4 = .ok (.aload_n 0, 1) := by decide +kernel
theorem dX4_readCondition_5 : decode cX4_readCondition 5 = .ok (.invokevirtual 198, 3) := by decide +kernel
theorem dX4_readCondition_8 : decode cX4_readCondition 8 = .ok (.iconst 0, 1) := by decide +kernel
theorem dX4_readCondition_9 : decode cX4_readCondition 9 = .ok (.istore_n 3, 1) := by decide +kernel
theorem dX4_readCondition_10 : decode cX4_readCondition 10 = .ok (.iload_n 3, 1) := by decide +kernel
theorem dX4_readCondition_11 : decode cX4_readCondition 11 = .ok (.sipush 400, 3) := by decide +kernel
theorem dX4_readCondition_14 : decode cX4_readCondition 14 = .ok (.if_icmp .ge 91, 3) := by decide +kernel
theorem dX4_readCondition_17 : decode cX4_readCondition 17 = .ok (.aload_n 0, 1) := by decide +kernel
theorem dX4_readCondition_18 : decode cX4_readCondition 18 = .ok (.getfield 43, 3) := by decide +kernel
theorem dX4_readCondition_21 : decode cX4_readCondition 21 = .ok (.ifCond .ne 84, 3) := by decide +kernel
theorem dX4_readCondition_24 : decode cX4_readCondition 24 = .ok (.aload_n 0, 1) := by decide +kernel
theorem dX4_readCondition_25 : decode cX4_readCondition 25 = .ok (.getfield 46, 3) := by decide +kernel
theorem dX4_readCondition_28 : decode cX4_readCondition 28 = .ok (.bipush 25, 2) := by decide +kernel
theorem dX4_readCondition_30 : decode cX4_readCondition 30 = .ok (.if_icmp .eq 12, 3) := by decide +kernel
theorem dX4_readCondition_33 : decode cX4_readCondition 33 = .ok (.aload_n 0, 1) := by decide +kernel
theorem dX4_readCondition_34 : decode cX4_readCondition 34 = .ok (.getfield 46, 3) := by decide +kernel
theorem dX4_readCondition_37 : decode cX4_readCondition 37 = .ok (.bipush 24, 2) := by decide +kernel
theorem dX4_readCondition_39 : decode cX4_readCondition 39 = .ok (.if_icmp .ne 66, 3) := by decide +kernel
theorem dX4_readCondition_42 : decode cX4_readCondition 42 = .ok (.aload_n 0, 1) := by decide +kernel
theorem dX4_readCondition_43 : decode cX4_readCondition 43 = .ok (.getfield 46, 3) := by decide +kernel
theorem dX4_readCondition_46 : decode cX4_readCondition 46 = .ok (.bipush 25, 2) := by decide +kernel
theorem dX4_readCondition_48 : decode cX4_readCondition 48 = .ok (.if_icmp .ne 23, 3) := by decide +kernel
theorem dX4_readCondition_51 : decode cX4_readCondition 51 = .ok (.aload_n 0, 1) := by decide +kernel
theorem dX4_readCondition_52 : decode cX4_readCondition 52 = .ok (.bipush 25, 2) := by decide +kernel
theorem dX4_readCondition_54 : decode cX4_readCondition 54 = .ok (.invokevirtual 114, 3) := by decide +kernel
theorem dX4_readCondition_57 : decode cX4_readCondition 57 = .ok (.pop, 1) := by decide +kernel
theorem dX4_readCondition_58 : decode cX4_readCondition 58 = .ok (.aload_n 0, 1) := by decide +kernel
theorem dX4_readCondition_59 : decode cX4_readCondition 59 = .ok (.bipush 25, 2) := by decide +kernel
theorem dX4_readCondition_61 : decode cX4_readCondition 61 = .ok (.iload_n 1, 1) := by decide +kernel
theorem dX4_readCondition_62 : decode cX4_readCondition 62 = .ok (.iconst 1, 1) := by decide +kernel
theorem dX4_readCondition_63 : decode cX4_readCondition 63 = .ok (.iadd, 1) := by decide +kernel
theorem dX4_readCondition_64 : decode cX4_readCondition 64 = .ok (.invokevirtual 144, 3) := by decide +kernel
theorem dX4_readCondition_67 : decode cX4_readCondition 67 = .ok (.istore_n 1, 1) := by decide +kernel
theorem dX4_readCondition_68 : decode cX4_readCondition 68 = .ok (.goto 27, 3) := by decide +kernel
theorem dX4_readCondition_71 : decode cX4_readCondition 71 = .ok (.aload_n 0, 1) := by decide +kernel
theorem dX4_readCondition_72 : decode cX4_readCondition 72 = .ok (.bipush 24, 2) := by decide +kernel
theorem dX4_readCondition_74 : decode cX4_readCondition 74 = .ok (.invokevirtual 114, 3) := by decide +kernel
theorem dX4_readCondition_77 : decode cX4_readCondition 77 = .ok (.pop, 1) := by decide +kernel
theorem dX4_readCondition_78 : decode cX4_readCondition 78 = .ok (.aload_n 0, 1) := by decide +kernel
theorem dX4_readCondition_79 : decode cX4_readCondition 79 = .ok (.iload_n 1, 1) := by decide +kernel
theorem dX4_readCondition_80 : decode cX4_readCondition 80 = .ok (.invokevirtual 201, 3) := by decide +kernel
theorem dX4_readCondition_83 : decode cX4_readCondition 83 = .ok (.iconst (-1), 1) := by decide +kernel
theorem dX4_readCondition_84 : decode cX4_readCondition 84 = .ok (.istore_n 1, 1) := by decide +kernel
theorem dX4_readCondition_85 : decode cX4_readCondition 85 = .ok (.aload_n 0, 1) := by decide +kernel
theorem dX4_readCondition_86 : decode cX4_readCondition 86 = .ok (.bipush 24, 2) := by decide +kernel
theorem dX4_readCondition_88 : decode cX4_readCondition 88 = .ok (.iload_n 2, 1) := by decide +kernel
theorem dX4_readCondition_89 : decode cX4_readCondition 89 = .ok (.iconst 1, 1) := by decide +kernel
theorem dX4_readCondition_90 : decode cX4_readCondition 90 = .ok (.iadd, 1) := by decide +kernel
theorem dX4_readCondition_91 : decode cX4_readCondition 91 = .ok (.invokevirtual 144, 3) := by decide +kernel
theorem dX4_readCondition_94 : decode cX4_readCondition 94 = .ok (.istore_n 2, 1) := by decide +kernel
theorem dX4_readCondition_95 : decode cX4_readCondition 95 = .ok (.aload_n 0, 1) := by decide +kernel
theorem dX4_readCondition_96 : decode cX4_readCondition 96 = .ok (.invokevirtual 198, 3) := by decide +kernel
theorem dX4_readCondition_99 : decode cX4_readCondition 99 = .ok (.iinc 3 1, 3) := by decide +kernel
theorem dX4_readCondition_102 : decode cX4_readCondition 102 = .ok (.goto (-92), 3) := by decide +kernel
theorem dX4_readCondition_105 : decode cX4_readCondition 105 = .ok (.aload_n 0, 1) := by decide +kernel
theorem dX4_readCondition_106 : decode cX4_readCondition 106 = .ok (.iload_n 1, 1) := by decide +kernel
theorem dX4_readCondition_107 : decode cX4_readCondition 107 = .ok (.invokevirtual 201, 3) := by decide +kernel
theorem dX4_readCondition_110 : decode cX4_readCondition 110 = .ok (.aload_n 0, 1) := by decide +kernel
theorem dX4_readCondition_111 : decode cX4_readCondition 111 = .ok (.iload_n 2, 1) := by decide +kernel
theorem dX4_readCondition_112 : decode cX4_readCondition 112 = .ok (.invokevirtual 201, 3) := by decide +kernel
theorem dX4_readCondition_115 : decode cX4_readCondition 115 = .ok (.return_, 1) := by decide +kernel
def k_X4_readCondition_10 (X : CX) (T : List Dsc) (R : RM) (n1 n2 : Nat) (r : ((Int32 × Int32 × Int32 × M2) ⊕ ((Int32 × Int32 × M2)))) : Prop := match r with
  | .inl s => Wp X cX4_readCondition RX4 4 T (mk s.2.2.2 R) n1 n2 10 [(0, .ref 14), (1, .int s.1), (2, .int s.2.1), (3, .int s.2.2.1)] []
  | .inr e => Wp X cX4_readCondition RX4 4 T (mk e.2.2 R) n1 n2 105 [(0, .ref 14), (1, .int e.1), (2, .int e.2.1)] []
set_option maxHeartbeats 4000000 in
set_option maxRecDepth 100000 in
theorem w_X4_readCondition_95 {X : CX} {T : List Dsc} {R : RM} {c e : Nat} {n1 n2 : Nat} {x1 : Int32} {x2 : Int32} {x3 : Int32} {m : M2} {r : ((Int32 × Int32 × Int32 × M2) ⊕ ((Int32 × Int32 × M2)))} (hX : XR X 72 n1 n2) (hG : Geo T R c e) (hf : f_X4_readCondition_95 e x1 x2 x3 m = some r) (hk : k_X4_readCondition_10 X T R n1 n2 r) : Wp X cX4_readCondition RX4 4 T (mk m R) n1 n2 95 [(0, .ref 14), (1, .int x1), (2, .int x2), (3, .int x3)] [] := by
  unfold f_X4_readCondition_95 at hf
  refine Wp.aload_n (pc := 95) 0 rfl rfl dX4_readCondition_95 ?_
  obtain ⟨c1, h2, hf⟩ := bnd hf
  refine Wp.callVv (pc := 96) (st := []) (as := []) (c_X4_readRelation hG h2) ml_RX4_198 mv_X4_readRelation mb_X4_readRelation hX (Nat.le_of_ble_eq_true rfl) (by decide) rfl (hG.t 14 rfl) rfl (by simp) dX4_readCondition_96 rfl ?_
  obtain ⟨v3, h4, hf⟩ := bnd hf
  refine Wp.iincN (pc := 99) (lo' := [(0, .ref 14), (1, .int x1), (2, .int x2), (3, .int v3)]) (1 : Int32) (by decide) h4 3 rfl [1, 2, 3, 0] rfl (by decide) dX4_readCondition_99 ?_
  refine Wp.goto (pc := 102) 10 dX4_readCondition_102 (by decide) ?_
  cases hf
  exact hk
set_option maxHeartbeats 4000000 in
set_option maxRecDepth 100000 in
theorem w_X4_readCondition_42 {X : CX} {T : List Dsc} {R : RM} {c e : Nat} {n1 n2 : Nat} {x1 : Int32} {x2 : Int32} {x3 : Int32} {m : M2} {r : ((Int32 × Int32 × Int32 × M2) ⊕ ((Int32 × Int32 × M2)))} (hX : XR X 72 n1 n2) (hG : Geo T R c e) (hf : f_X4_readCondition_42 e x1 x2 x3 m = some r) (hk : k_X4_readCondition_10 X T R n1 n2 r) : Wp X cX4_readCondition RX4 4 T (mk m R) n1 n2 42 [(0, .ref 14), (1, .int x1), (2, .int x2), (3, .int x3)] [] := by
  unfold f_X4_readCondition_42 at hf
  refine Wp.aload_n (pc := 42) 0 rfl rfl dX4_readCondition_42 ?_
  refine Wp.getI2 (pc := 43) (hG.t 14 rfl) fk_RX4_46 rfl dX4_readCondition_43 ?_
  refine Wp.bipush (pc := 46) (25 : Int32) (by decide) dX4_readCondition_46 ?_
  refine Wp.icmp_ne (pc := 48) 71 dX4_readCondition_48 (by decide) (fun hc1 => ?_) (fun hc1 => ?_)
  · rw [if_neg hc1] at hf
    refine Wp.aload_n (pc := 71) 0 rfl rfl dX4_readCondition_71 ?_
    refine Wp.bipush (pc := 72) (24 : Int32) (by decide) dX4_readCondition_72 ?_
    obtain ⟨c2, h3, hf⟩ := bnd hf
    refine Wp.callVi (pc := 74) (st := []) (as := [.int (24 : Int32)]) (c_X4_take hG h3) ml_RX4_114 mv_X4_take mb_X4_take hX (Nat.le_of_ble_eq_true rfl) (by decide) rfl (hG.t 14 rfl) rfl (by simp) dX4_readCondition_74 rfl ?_
    refine Wp.pop (pc := 77) rfl dX4_readCondition_77 ?_
    refine Wp.aload_n (pc := 78) 0 rfl rfl dX4_readCondition_78 ?_
    refine Wp.iload_n (pc := 79) 1 rfl rfl dX4_readCondition_79 ?_
    obtain ⟨c4, h5, hf⟩ := bnd hf
    refine Wp.callVv (pc := 80) (st := []) (as := [.int x1]) (c_X4_landChain hG h5) ml_RX4_201 mv_X4_landChain mb_X4_landChain hX (Nat.le_of_ble_eq_true rfl) (by decide) rfl (hG.t 14 rfl) rfl (by simp) dX4_readCondition_80 rfl ?_
    refine Wp.iconst (pc := 83) (-1 : Int32) (by decide) dX4_readCondition_83 ?_
    refine Wp.istore_n (pc := 84) (lo' := [(0, .ref 14), (1, .int (-1 : Int32)), (2, .int x2), (3, .int x3)]) [1, 0, 2, 3] rfl (by decide) rfl dX4_readCondition_84 ?_
    refine Wp.aload_n (pc := 85) 0 rfl rfl dX4_readCondition_85 ?_
    refine Wp.bipush (pc := 86) (24 : Int32) (by decide) dX4_readCondition_86 ?_
    refine Wp.iload_n (pc := 88) 2 rfl rfl dX4_readCondition_88 ?_
    refine Wp.iconst (pc := 89) (1 : Int32) (by decide) dX4_readCondition_89 ?_
    refine Wp.iadd (pc := 90) dX4_readCondition_90 ?_
    obtain ⟨c6, h7, hf⟩ := bnd hf
    refine Wp.callVi (pc := 91) (st := []) (as := [.int (24 : Int32), .int (x2 + (1 : Int32))]) (c_X4_emit hG h7) ml_RX4_144 mv_X4_emit mb_X4_emit hX (Nat.le_of_ble_eq_true rfl) (by decide) rfl (hG.t 14 rfl) rfl (by simp) dX4_readCondition_91 rfl ?_
    refine Wp.istore_n (pc := 94) (lo' := [(0, .ref 14), (1, .int (-1 : Int32)), (2, .int c6.1), (3, .int x3)]) [1, 2, 0, 3] rfl (by decide) rfl dX4_readCondition_94 ?_
    exact w_X4_readCondition_95 hX hG hf hk
  · rw [if_pos hc1] at hf
    refine Wp.aload_n (pc := 51) 0 rfl rfl dX4_readCondition_51 ?_
    refine Wp.bipush (pc := 52) (25 : Int32) (by decide) dX4_readCondition_52 ?_
    obtain ⟨c8, h9, hf⟩ := bnd hf
    refine Wp.callVi (pc := 54) (st := []) (as := [.int (25 : Int32)]) (c_X4_take hG h9) ml_RX4_114 mv_X4_take mb_X4_take hX (Nat.le_of_ble_eq_true rfl) (by decide) rfl (hG.t 14 rfl) rfl (by simp) dX4_readCondition_54 rfl ?_
    refine Wp.pop (pc := 57) rfl dX4_readCondition_57 ?_
    refine Wp.aload_n (pc := 58) 0 rfl rfl dX4_readCondition_58 ?_
    refine Wp.bipush (pc := 59) (25 : Int32) (by decide) dX4_readCondition_59 ?_
    refine Wp.iload_n (pc := 61) 1 rfl rfl dX4_readCondition_61 ?_
    refine Wp.iconst (pc := 62) (1 : Int32) (by decide) dX4_readCondition_62 ?_
    refine Wp.iadd (pc := 63) dX4_readCondition_63 ?_
    obtain ⟨c10, h11, hf⟩ := bnd hf
    refine Wp.callVi (pc := 64) (st := []) (as := [.int (25 : Int32), .int (x1 + (1 : Int32))]) (c_X4_emit hG h11) ml_RX4_144 mv_X4_emit mb_X4_emit hX (Nat.le_of_ble_eq_true rfl) (by decide) rfl (hG.t 14 rfl) rfl (by simp) dX4_readCondition_64 rfl ?_
    refine Wp.istore_n (pc := 67) (lo' := [(0, .ref 14), (1, .int c10.1), (2, .int x2), (3, .int x3)]) [1, 0, 2, 3] rfl (by decide) rfl dX4_readCondition_67 ?_
    refine Wp.goto (pc := 68) 95 dX4_readCondition_68 (by decide) ?_
    exact w_X4_readCondition_95 hX hG hf hk
set_option maxHeartbeats 4000000 in
set_option maxRecDepth 100000 in
theorem w_X4_readCondition_10 {X : CX} {T : List Dsc} {R : RM} {c e : Nat} {n1 n2 : Nat} {x1 : Int32} {x2 : Int32} {x3 : Int32} {m : M2} {r : ((Int32 × Int32 × Int32 × M2) ⊕ ((Int32 × Int32 × M2)))} (hX : XR X 72 n1 n2) (hG : Geo T R c e) (hf : f_X4_readCondition_10 e x1 x2 x3 m = some r) (hk : k_X4_readCondition_10 X T R n1 n2 r) : Wp X cX4_readCondition RX4 4 T (mk m R) n1 n2 10 [(0, .ref 14), (1, .int x1), (2, .int x2), (3, .int x3)] [] := by
  unfold f_X4_readCondition_10 at hf
  refine Wp.iload_n (pc := 10) 3 rfl rfl dX4_readCondition_10 ?_
  refine Wp.sipush (pc := 11) (400 : Int32) (by decide) dX4_readCondition_11 ?_
  refine Wp.icmp_ge (pc := 14) 105 dX4_readCondition_14 (by decide) (fun hc1 => ?_) (fun hc1 => ?_)
  · rw [if_pos hc1] at hf
    refine Wp.lo' (lo' := [(0, .ref 14), (1, .int x1), (2, .int x2)]) [0, 1, 2] rfl ?_
    cases hf
    exact hk
  · rw [if_neg hc1] at hf
    refine Wp.aload_n (pc := 17) 0 rfl rfl dX4_readCondition_17 ?_
    refine Wp.getI2 (pc := 18) (hG.t 14 rfl) fk_RX4_43 rfl dX4_readCondition_18 ?_
    refine Wp.if_ne (pc := 21) 105 dX4_readCondition_21 (by decide) (fun hc2 => ?_) (fun hc2 => ?_)
    · rw [if_neg hc2] at hf
      refine Wp.lo' (lo' := [(0, .ref 14), (1, .int x1), (2, .int x2)]) [0, 1, 2] rfl ?_
      cases hf
      exact hk
    · rw [if_pos hc2] at hf
      refine Wp.aload_n (pc := 24) 0 rfl rfl dX4_readCondition_24 ?_
      refine Wp.getI2 (pc := 25) (hG.t 14 rfl) fk_RX4_46 rfl dX4_readCondition_25 ?_
      refine Wp.bipush (pc := 28) (25 : Int32) (by decide) dX4_readCondition_28 ?_
      refine Wp.icmp_eq (pc := 30) 42 dX4_readCondition_30 (by decide) (fun hc3 => ?_) (fun hc3 => ?_)
      · rw [if_pos hc3] at hf
        exact w_X4_readCondition_42 hX hG hf hk
      · rw [if_neg hc3] at hf
        refine Wp.aload_n (pc := 33) 0 rfl rfl dX4_readCondition_33 ?_
        refine Wp.getI2 (pc := 34) (hG.t 14 rfl) fk_RX4_46 rfl dX4_readCondition_34 ?_
        refine Wp.bipush (pc := 37) (24 : Int32) (by decide) dX4_readCondition_37 ?_
        refine Wp.icmp_ne (pc := 39) 105 dX4_readCondition_39 (by decide) (fun hc4 => ?_) (fun hc4 => ?_)
        · rw [if_neg hc4] at hf
          refine Wp.lo' (lo' := [(0, .ref 14), (1, .int x1), (2, .int x2)]) [0, 1, 2] rfl ?_
          cases hf
          exact hk
        · rw [if_pos hc4] at hf
          exact w_X4_readCondition_42 hX hG hf hk
theorem wl_X4_readCondition_10 {X : CX} {T : List Dsc} {R : RM} {c e : Nat} {n1 n2 : Nat} {x1 : Int32} {x2 : Int32} {x3 : Int32} {m : M2} {e1 : ((Int32 × Int32 × M2))} (hX : XR X 72 n1 n2) (hG : Geo T R c e) (h : loop (g_X4_readCondition_10 e) (x1, x2, x3, m) = some e1) (he : Wp X cX4_readCondition RX4 4 T (mk e1.2.2 R) n1 n2 105 [(0, .ref 14), (1, .int e1.1), (2, .int e1.2.1)] []) : Wp X cX4_readCondition RX4 4 T (mk m R) n1 n2 10 [(0, .ref 14), (1, .int x1), (2, .int x2), (3, .int x3)] [] :=
  loop_ok (K := k_X4_readCondition_10 X T R n1 n2) (fun s r hf hk => w_X4_readCondition_10 hX hG hf hk) h he
set_option maxHeartbeats 4000000 in
set_option maxRecDepth 100000 in
theorem w_X4_readCondition_105 {X : CX} {T : List Dsc} {R : RM} {c e : Nat} {n1 n2 : Nat} {x1 : Int32} {x2 : Int32} {m : M2} {r : M2} (hX : XR X 72 n1 n2) (hG : Geo T R c e) (hf : f_X4_readCondition_105 e x1 x2 m = some r) (hk : FnV X cX4_readCondition RX4 4 T n1 n2 (mk r R)) : Wp X cX4_readCondition RX4 4 T (mk m R) n1 n2 105 [(0, .ref 14), (1, .int x1), (2, .int x2)] [] := by
  unfold f_X4_readCondition_105 at hf
  refine Wp.aload_n (pc := 105) 0 rfl rfl dX4_readCondition_105 ?_
  refine Wp.iload_n (pc := 106) 1 rfl rfl dX4_readCondition_106 ?_
  obtain ⟨c1, h2, hf⟩ := bnd hf
  refine Wp.callVv (pc := 107) (st := []) (as := [.int x1]) (c_X4_landChain hG h2) ml_RX4_201 mv_X4_landChain mb_X4_landChain hX (Nat.le_of_ble_eq_true rfl) (by decide) rfl (hG.t 14 rfl) rfl (by simp) dX4_readCondition_107 rfl ?_
  refine Wp.aload_n (pc := 110) 0 rfl rfl dX4_readCondition_110 ?_
  refine Wp.iload_n (pc := 111) 2 rfl rfl dX4_readCondition_111 ?_
  obtain ⟨c3, h4, hf⟩ := bnd hf
  refine Wp.callVv (pc := 112) (st := []) (as := [.int x2]) (c_X4_landChain hG h4) ml_RX4_201 mv_X4_landChain mb_X4_landChain hX (Nat.le_of_ble_eq_true rfl) (by decide) rfl (hG.t 14 rfl) rfl (by simp) dX4_readCondition_112 rfl ?_
  cases hf
  exact hk _ _ dX4_readCondition_115
set_option maxHeartbeats 4000000 in
set_option maxRecDepth 100000 in
theorem w_X4_readCondition {X : CX} {T : List Dsc} {R : RM} {c e : Nat} {n1 n2 : Nat} {m : M2} {r : M2} (hX : XR X 72 n1 n2) (hG : Geo T R c e) (hf : F_X4_readCondition e m = some r) (hk : FnV X cX4_readCondition RX4 4 T n1 n2 (mk r R)) : Wp X cX4_readCondition RX4 4 T (mk m R) n1 n2 0 [(0, .ref 14)] [] := by
  unfold F_X4_readCondition at hf
  refine Wp.iconst (pc := 0) (-1 : Int32) (by decide) dX4_readCondition_0 ?_
  refine Wp.istore_n (pc := 1) (lo' := [(0, .ref 14), (1, .int (-1 : Int32))]) [1, 0] rfl (by decide) rfl dX4_readCondition_1 ?_
  refine Wp.iconst (pc := 2) (-1 : Int32) (by decide) dX4_readCondition_2 ?_
  refine Wp.istore_n (pc := 3) (lo' := [(0, .ref 14), (1, .int (-1 : Int32)), (2, .int (-1 : Int32))]) [1, 2, 0] rfl (by decide) rfl dX4_readCondition_3 ?_
  refine Wp.aload_n (pc := 4) 0 rfl rfl dX4_readCondition_4 ?_
  obtain ⟨c1, h2, hf⟩ := bnd hf
  refine Wp.callVv (pc := 5) (st := []) (as := []) (c_X4_readRelation hG h2) ml_RX4_198 mv_X4_readRelation mb_X4_readRelation hX (Nat.le_of_ble_eq_true rfl) (by decide) rfl (hG.t 14 rfl) rfl (by simp) dX4_readCondition_5 rfl ?_
  refine Wp.iconst (pc := 8) (0 : Int32) (by decide) dX4_readCondition_8 ?_
  refine Wp.istore_n (pc := 9) (lo' := [(0, .ref 14), (1, .int (-1 : Int32)), (2, .int (-1 : Int32)), (3, .int (0 : Int32))]) [1, 2, 3, 0] rfl (by decide) rfl dX4_readCondition_9 ?_
  obtain ⟨e3, h4, hf⟩ := bnd hf
  refine wl_X4_readCondition_10 hX hG h4 ?_
  exact w_X4_readCondition_105 hX hG hf hk
theorem c_X4_readCondition {T : List Dsc} {R : RM} {c e : Nat} {m : M2} {r : M2} (hG : Geo T R c e) (hf : F_X4_readCondition e m = some r) : Ct 72 yX4_readCondition cX4_readCondition 4 none T (mk m R) [.ref 14] none (mk r R) := Ct.ofV (r := mk r R) (by decide +kernel) (Nat.le_of_ble_eq_true rfl) (fun X hX hk => w_X4_readCondition hX hG hf hk)
theorem dX4_readLaw_0 : decode cX4_readLaw 0 = .ok (.aload_n 0, 1) := by decide +kernel
theorem dX4_readLaw_1 : decode cX4_readLaw 1 = .ok (.getfield 35, 3) := by decide +kernel
theorem dX4_readLaw_4 : decode cX4_readLaw 4 = .ok (.getfield 129, 3) := by decide +kernel
theorem dX4_readLaw_7 : decode cX4_readLaw 7 = .ok (.bipush 6, 2) := by decide +kernel
theorem dX4_readLaw_9 : decode cX4_readLaw 9 = .ok (.if_icmp .lt 9, 3) := by decide +kernel
theorem dX4_readLaw_12 : decode cX4_readLaw 12 = .ok (.aload_n 0, 1) := by decide +kernel
theorem dX4_readLaw_13 : decode cX4_readLaw 13 = .ok (.iconst 2, 1) := by decide +kernel
theorem dX4_readLaw_14 : decode cX4_readLaw 14 = .ok (.invokevirtual 67, 3) := by decide +kernel
theorem dX4_readLaw_17 : decode cX4_readLaw 17 = .ok (.return_, 1) := by decide +kernel
theorem dX4_readLaw_18 : decode cX4_readLaw 18 = .ok (.aload_n 0, 1) := by decide +kernel
theorem dX4_readLaw_19 : decode cX4_readLaw 19 = .ok (.bipush 18, 2) := by decide +kernel
theorem dX4_readLaw_21 : decode cX4_readLaw 21 = .ok (.invokevirtual 114, 3) := by decide +kernel
theorem dX4_readLaw_24 : decode cX4_readLaw 24 = .ok (.pop, 1) := by decide +kernel
theorem dX4_readLaw_25 : decode cX4_readLaw 25 = .ok (.aload_n 0, 1) := by decide +kernel
theorem dX4_readLaw_26 : decode cX4_readLaw 26 = .ok (.iconst 2, 1) := by decide +kernel
theorem dX4_readLaw_27 : decode cX4_readLaw 27 = .ok (.invokevirtual 114, 3) := by decide +kernel
theorem dX4_readLaw_30 : decode cX4_readLaw 30 = .ok (.ifCond .eq 14, 3) := by decide +kernel
theorem dX4_readLaw_33 : decode cX4_readLaw 33 = .ok (.aload_n 0, 1) := by decide +kernel
theorem dX4_readLaw_34 : decode cX4_readLaw 34 = .ok (.aload_n 0, 1) := by decide +kernel
theorem dX4_readLaw_35 : decode cX4_readLaw 35 = .ok (.getfield 35, 3) := by decide +kernel
theorem dX4_readLaw_38 : decode cX4_readLaw 38 = .ok (.getfield 129, 3) := by decide +kernel
theorem dX4_readLaw_41 : decode cX4_readLaw 41 = .ok (.invokevirtual 132, 3) := by decide +kernel
theorem dX4_readLaw_44 : decode cX4_readLaw 44 = .ok (.aload_n 0, 1) := by decide +kernel
theorem dX4_readLaw_45 : decode cX4_readLaw 45 = .ok (.iconst 5, 1) := by decide +kernel
theorem dX4_readLaw_46 : decode cX4_readLaw 46 = .ok (.invokevirtual 114, 3) := by decide +kernel
theorem dX4_readLaw_49 : decode cX4_readLaw 49 = .ok (.pop, 1) := by decide +kernel
theorem dX4_readLaw_50 : decode cX4_readLaw 50 = .ok (.aload_n 0, 1) := by decide +kernel
theorem dX4_readLaw_51 : decode cX4_readLaw 51 = .ok (.getfield 35, 3) := by decide +kernel
theorem dX4_readLaw_54 : decode cX4_readLaw 54 = .ok (.getfield 135, 3) := by decide +kernel
theorem dX4_readLaw_57 : decode cX4_readLaw 57 = .ok (.aload_n 0, 1) := by decide +kernel
theorem dX4_readLaw_58 : decode cX4_readLaw 58 = .ok (.getfield 35, 3) := by decide +kernel
theorem dX4_readLaw_61 : decode cX4_readLaw 61 = .ok (.getfield 129, 3) := by decide +kernel
theorem dX4_readLaw_64 : decode cX4_readLaw 64 = .ok (.aload_n 0, 1) := by decide +kernel
theorem dX4_readLaw_65 : decode cX4_readLaw 65 = .ok (.getfield 35, 3) := by decide +kernel
theorem dX4_readLaw_68 : decode cX4_readLaw 68 = .ok (.getfield 138, 3) := by decide +kernel
theorem dX4_readLaw_71 : decode cX4_readLaw 71 = .ok (.iastore, 1) := by decide +kernel
theorem dX4_readLaw_72 : decode cX4_readLaw 72 = .ok (.iconst 0, 1) := by decide +kernel
theorem dX4_readLaw_73 : decode cX4_readLaw 73 = .ok (.istore_n 1, 1) := by decide +kernel
theorem dX4_readLaw_74 : decode cX4_readLaw 74 = .ok (.iload_n 1, 1) := by decide +kernel
theorem dX4_readLaw_75 : decode cX4_readLaw 75 = .ok (.bipush 8, 2) := by decide +kernel
theorem dX4_readLaw_77 : decode cX4_readLaw 77 = .ok (.if_icmp .gt 88, 3) := by decide +kernel
theorem dX4_readLaw_80 : decode cX4_readLaw 80 = .ok (.aload_n 0, 1) := by decide +kernel
theorem dX4_readLaw_81 : decode cX4_readLaw 81 = .ok (.getfield 43, 3) := by decide +kernel
theorem dX4_readLaw_84 : decode cX4_readLaw 84 = .ok (.ifCond .ne 81, 3) := by decide +kernel
theorem dX4_readLaw_87 : decode cX4_readLaw 87 = .ok (.aload_n 0, 1) := by decide +kernel
theorem dX4_readLaw_88 : decode cX4_readLaw 88 = .ok (.getfield 46, 3) := by decide +kernel
theorem dX4_readLaw_91 : decode cX4_readLaw 91 = .ok (.bipush 21, 2) := by decide +kernel
theorem dX4_readLaw_93 : decode cX4_readLaw 93 = .ok (.if_icmp .ne 72, 3) := by decide +kernel
theorem dX4_readLaw_96 : decode cX4_readLaw 96 = .ok (.iload_n 1, 1) := by decide +kernel
theorem dX4_readLaw_97 : decode cX4_readLaw 97 = .ok (.bipush 8, 2) := by decide +kernel
theorem dX4_readLaw_99 : decode cX4_readLaw 99 = .ok (.if_icmp .ne 8, 3) := by decide +kernel
theorem dX4_readLaw_102 : decode cX4_readLaw 102 = .ok (.aload_n 0, 1) := by decide +kernel
theorem dX4_readLaw_103 : decode cX4_readLaw 103 = .ok (.iconst 2, 1) := by decide +kernel
theorem dX4_readLaw_104 : decode cX4_readLaw 104 = .ok (.invokevirtual 67, 3) := by decide +kernel
theorem dX4_readLaw_107 : decode cX4_readLaw 107 = .ok (.aload_n 0, 1) := by decide +kernel
theorem dX4_readLaw_108 : decode cX4_readLaw 108 = .ok (.bipush 21, 2) := by decide +kernel
theorem dX4_readLaw_110 : decode cX4_readLaw 110 = .ok (.invokevirtual 114, 3) := by decide +kernel
theorem dX4_readLaw_113 : decode cX4_readLaw 113 = .ok (.pop, 1) := by decide +kernel
theorem dX4_readLaw_114 : decode cX4_readLaw 114 = .ok (.aload_n 0, 1) := by decide +kernel
theorem dX4_readLaw_115 : decode cX4_readLaw 115 = .ok (.invokevirtual 141, 3) := by decide +kernel
theorem dX4_readLaw_118 : decode cX4_readLaw 118 = .ok (.aload_n 0, 1) := by decide +kernel
theorem dX4_readLaw_119 : decode cX4_readLaw 119 = .ok (.bipush 22, 2) := by decide +kernel
theorem dX4_readLaw_121 : decode cX4_readLaw 121 = .ok (.invokevirtual 114, 3) := by decide +kernel
theorem dX4_readLaw_124 : decode cX4_readLaw 124 = .ok (.pop, 1) := by decide +kernel
theorem dX4_readLaw_125 : decode cX4_readLaw 125 = .ok (.aload_n 0, 1) := by decide +kernel
theorem dX4_readLaw_126 : decode cX4_readLaw 126 = .ok (.bipush 21, 2) := by decide +kernel
theorem dX4_readLaw_128 : decode cX4_readLaw 128 = .ok (.iconst 0, 1) := by decide +kernel
theorem dX4_readLaw_129 : decode cX4_readLaw 129 = .ok (.invokevirtual 144, 3) := by decide +kernel
theorem dX4_readLaw_132 : decode cX4_readLaw 132 = .ok (.istore_n 2, 1) := by decide +kernel
theorem dX4_readLaw_133 : decode cX4_readLaw 133 = .ok (.aload_n 0, 1) := by decide +kernel
theorem dX4_readLaw_134 : decode cX4_readLaw 134 = .ok (.iconst 0, 1) := by decide +kernel
theorem dX4_readLaw_135 : decode cX4_readLaw 135 = .ok (.iconst 0, 1) := by decide +kernel
theorem dX4_readLaw_136 : decode cX4_readLaw 136 = .ok (.invokevirtual 148, 3) := by decide +kernel
theorem dX4_readLaw_139 : decode cX4_readLaw 139 = .ok (.aload_n 0, 1) := by decide +kernel
theorem dX4_readLaw_140 : decode cX4_readLaw 140 = .ok (.bipush 23, 2) := by decide +kernel
theorem dX4_readLaw_142 : decode cX4_readLaw 142 = .ok (.invokevirtual 114, 3) := by decide +kernel
theorem dX4_readLaw_145 : decode cX4_readLaw 145 = .ok (.pop, 1) := by decide +kernel
theorem dX4_readLaw_146 : decode cX4_readLaw 146 = .ok (.aload_n 0, 1) := by decide +kernel
theorem dX4_readLaw_147 : decode cX4_readLaw 147 = .ok (.bipush 23, 2) := by decide +kernel
theorem dX4_readLaw_149 : decode cX4_readLaw 149 = .ok (.iconst 0, 1) := by decide +kernel
theorem dX4_readLaw_150 : decode cX4_readLaw 150 = .ok (.invokevirtual 144, 3) := by decide +kernel
theorem dX4_readLaw_153 : decode cX4_readLaw 153 = .ok (.pop, 1) := by decide +kernel
theorem dX4_readLaw_154 : decode cX4_readLaw 154 = .ok (.aload_n 0, 1) := by decide +kernel
theorem dX4_readLaw_155 : decode cX4_readLaw 155 = .ok (.iload_n 2, 1) := by decide +kernel
theorem dX4_readLaw_156 : decode cX4_readLaw 156 = .ok (.invokevirtual 152, 3) := by decide +kernel
theorem dX4_readLaw_159 : decode cX4_readLaw 159 = .ok (.iinc 1 1, 3) := by decide +kernel
theorem dX4_readLaw_162 : decode cX4_readLaw 162 = .ok (.goto (-88), 3) := by decide +kernel
theorem dX4_readLaw_165 : decode cX4_readLaw 165 = .ok (.aload_n 0, 1) := by decide +kernel
theorem dX4_readLaw_166 : decode cX4_readLaw 166 = .ok (.iconst 0, 1) := by decide +kernel
theorem dX4_readLaw_167 : decode cX4_readLaw 167 = .ok (.iconst 0, 1) := by decide +kernel
theorem dX4_readLaw_168 : decode cX4_readLaw 168 = .ok (.invokevirtual 148, 3) := by decide +kernel
theorem dX4_readLaw_171 : decode cX4_readLaw 171 = .ok (.aload_n 0, 1) := by decide +kernel
theorem dX4_readLaw_172 : decode cX4_readLaw 172 = .ok (.iconst 4, 1) := by decide +kernel
theorem dX4_readLaw_173 : decode cX4_readLaw 173 = .ok (.invokevirtual 114, 3) := by decide +kernel
theorem dX4_readLaw_176 : decode cX4_readLaw 176 = .ok (.pop, 1) := by decide +kernel
theorem dX4_readLaw_177 : decode cX4_readLaw 177 = .ok (.aload_n 0, 1) := by decide +kernel
theorem dX4_readLaw_178 : decode cX4_readLaw 178 = .ok (.bipush 23, 2) := by decide +kernel
theorem dX4_readLaw_180 : decode cX4_readLaw 180 = .ok (.iconst 0, 1) := by decide +kernel
theorem dX4_readLaw_181 : decode cX4_readLaw 181 = .ok (.invokevirtual 144, 3) := by decide +kernel
theorem dX4_readLaw_184 : decode cX4_readLaw 184 = .ok (.pop, 1) := by decide +kernel
theorem dX4_readLaw_185 : decode cX4_readLaw 185 = .ok (.aload_n 0, 1) := by decide +kernel
theorem dX4_readLaw_186 : decode cX4_readLaw 186 = .ok (.getfield 35, 3) := by decide +kernel
theorem dX4_readLaw_189 : decode cX4_readLaw 189 = .ok (.dup, 1) := by decide +kernel
theorem dX4_readLaw_190 : decode cX4_readLaw 190 = .ok (.getfield 129, 3) := by decide +kernel
theorem dX4_readLaw_193 : decode cX4_readLaw 193 = .ok (.iconst 1, 1) := by decide +kernel
theorem dX4_readLaw_194 : decode cX4_readLaw 194 = .ok (.iadd, 1) := by decide +kernel
theorem dX4_readLaw_195 : decode cX4_readLaw 195 = .ok (.putfield 129, 3) := by decide +kernel
theorem dX4_readLaw_198 : decode cX4_readLaw 198 = .ok (.return_, 1) := by decide +kernel
def k_X4_readLaw_74 (X : CX) (T : List Dsc) (R : RM) (n1 n2 : Nat) (r : ((Int32 × M2) ⊕ ((M2)))) : Prop := match r with
  | .inl s => Wp X cX4_readLaw RX4 3 T (mk s.2 R) n1 n2 74 [(0, .ref 14), (1, .int s.1)] []
  | .inr e => Wp X cX4_readLaw RX4 3 T (mk e R) n1 n2 165 [(0, .ref 14)] []
set_option maxHeartbeats 4000000 in
set_option maxRecDepth 100000 in
theorem w_X4_readLaw_107 {X : CX} {T : List Dsc} {R : RM} {c e : Nat} {n1 n2 : Nat} {x1 : Int32} {m : M2} {r : ((Int32 × M2) ⊕ ((M2)))} (hX : XR X 73 n1 n2) (hG : Geo T R c e) (hf : f_X4_readLaw_107 e x1 m = some r) (hk : k_X4_readLaw_74 X T R n1 n2 r) : Wp X cX4_readLaw RX4 3 T (mk m R) n1 n2 107 [(0, .ref 14), (1, .int x1)] [] := by
  unfold f_X4_readLaw_107 at hf
  refine Wp.aload_n (pc := 107) 0 rfl rfl dX4_readLaw_107 ?_
  refine Wp.bipush (pc := 108) (21 : Int32) (by decide) dX4_readLaw_108 ?_
  obtain ⟨c1, h2, hf⟩ := bnd hf
  refine Wp.callVi (pc := 110) (st := []) (as := [.int (21 : Int32)]) (c_X4_take hG h2) ml_RX4_114 mv_X4_take mb_X4_take hX (Nat.le_of_ble_eq_true rfl) (by decide) rfl (hG.t 14 rfl) rfl (by simp) dX4_readLaw_110 rfl ?_
  refine Wp.pop (pc := 113) rfl dX4_readLaw_113 ?_
  refine Wp.aload_n (pc := 114) 0 rfl rfl dX4_readLaw_114 ?_
  obtain ⟨c3, h4, hf⟩ := bnd hf
  refine Wp.callVv (pc := 115) (st := []) (as := []) (c_X4_readCondition hG h4) ml_RX4_141 mv_X4_readCondition mb_X4_readCondition hX (Nat.le_of_ble_eq_true rfl) (by decide) rfl (hG.t 14 rfl) rfl (by simp) dX4_readLaw_115 rfl ?_
  refine Wp.aload_n (pc := 118) 0 rfl rfl dX4_readLaw_118 ?_
  refine Wp.bipush (pc := 119) (22 : Int32) (by decide) dX4_readLaw_119 ?_
  obtain ⟨c5, h6, hf⟩ := bnd hf
  refine Wp.callVi (pc := 121) (st := []) (as := [.int (22 : Int32)]) (c_X4_take hG h6) ml_RX4_114 mv_X4_take mb_X4_take hX (Nat.le_of_ble_eq_true rfl) (by decide) rfl (hG.t 14 rfl) rfl (by simp) dX4_readLaw_121 rfl ?_
  refine Wp.pop (pc := 124) rfl dX4_readLaw_124 ?_
  refine Wp.aload_n (pc := 125) 0 rfl rfl dX4_readLaw_125 ?_
  refine Wp.bipush (pc := 126) (21 : Int32) (by decide) dX4_readLaw_126 ?_
  refine Wp.iconst (pc := 128) (0 : Int32) (by decide) dX4_readLaw_128 ?_
  obtain ⟨c7, h8, hf⟩ := bnd hf
  refine Wp.callVi (pc := 129) (st := []) (as := [.int (21 : Int32), .int (0 : Int32)]) (c_X4_emit hG h8) ml_RX4_144 mv_X4_emit mb_X4_emit hX (Nat.le_of_ble_eq_true rfl) (by decide) rfl (hG.t 14 rfl) rfl (by simp) dX4_readLaw_129 rfl ?_
  refine Wp.istore_n (pc := 132) (lo' := [(0, .ref 14), (1, .int x1), (2, .int c7.1)]) [1, 2, 0] rfl (by decide) rfl dX4_readLaw_132 ?_
  refine Wp.aload_n (pc := 133) 0 rfl rfl dX4_readLaw_133 ?_
  refine Wp.iconst (pc := 134) (0 : Int32) (by decide) dX4_readLaw_134 ?_
  refine Wp.iconst (pc := 135) (0 : Int32) (by decide) dX4_readLaw_135 ?_
  obtain ⟨c9, h10, hf⟩ := bnd hf
  refine Wp.callVv (pc := 136) (st := []) (as := [.int (0 : Int32), .int (0 : Int32)]) (c_X4_readExpression hG h10) ml_RX4_148 mv_X4_readExpression mb_X4_readExpression hX (Nat.le_of_ble_eq_true rfl) (by decide) rfl (hG.t 14 rfl) rfl (by simp) dX4_readLaw_136 rfl ?_
  refine Wp.aload_n (pc := 139) 0 rfl rfl dX4_readLaw_139 ?_
  refine Wp.bipush (pc := 140) (23 : Int32) (by decide) dX4_readLaw_140 ?_
  obtain ⟨c11, h12, hf⟩ := bnd hf
  refine Wp.callVi (pc := 142) (st := []) (as := [.int (23 : Int32)]) (c_X4_take hG h12) ml_RX4_114 mv_X4_take mb_X4_take hX (Nat.le_of_ble_eq_true rfl) (by decide) rfl (hG.t 14 rfl) rfl (by simp) dX4_readLaw_142 rfl ?_
  refine Wp.pop (pc := 145) rfl dX4_readLaw_145 ?_
  refine Wp.aload_n (pc := 146) 0 rfl rfl dX4_readLaw_146 ?_
  refine Wp.bipush (pc := 147) (23 : Int32) (by decide) dX4_readLaw_147 ?_
  refine Wp.iconst (pc := 149) (0 : Int32) (by decide) dX4_readLaw_149 ?_
  obtain ⟨c13, h14, hf⟩ := bnd hf
  refine Wp.callVi (pc := 150) (st := []) (as := [.int (23 : Int32), .int (0 : Int32)]) (c_X4_emit hG h14) ml_RX4_144 mv_X4_emit mb_X4_emit hX (Nat.le_of_ble_eq_true rfl) (by decide) rfl (hG.t 14 rfl) rfl (by simp) dX4_readLaw_150 rfl ?_
  refine Wp.pop (pc := 153) rfl dX4_readLaw_153 ?_
  refine Wp.aload_n (pc := 154) 0 rfl rfl dX4_readLaw_154 ?_
  refine Wp.iload_n (pc := 155) 2 rfl rfl dX4_readLaw_155 ?_
  obtain ⟨c15, h16, hf⟩ := bnd hf
  refine Wp.callVv (pc := 156) (st := []) (as := [.int c7.1]) (c_X4_land hG h16) ml_RX4_152 mv_X4_land mb_X4_land hX (Nat.le_of_ble_eq_true rfl) (by decide) rfl (hG.t 14 rfl) rfl (by simp) dX4_readLaw_156 rfl ?_
  obtain ⟨v17, h18, hf⟩ := bnd hf
  refine Wp.iincN (pc := 159) (lo' := [(0, .ref 14), (1, .int v17)]) (1 : Int32) (by decide) h18 1 rfl [1, 0] rfl (by decide) dX4_readLaw_159 ?_
  refine Wp.goto (pc := 162) 74 dX4_readLaw_162 (by decide) ?_
  cases hf
  exact hk
set_option maxHeartbeats 4000000 in
set_option maxRecDepth 100000 in
theorem w_X4_readLaw_74 {X : CX} {T : List Dsc} {R : RM} {c e : Nat} {n1 n2 : Nat} {x1 : Int32} {m : M2} {r : ((Int32 × M2) ⊕ ((M2)))} (hX : XR X 73 n1 n2) (hG : Geo T R c e) (hf : f_X4_readLaw_74 e x1 m = some r) (hk : k_X4_readLaw_74 X T R n1 n2 r) : Wp X cX4_readLaw RX4 3 T (mk m R) n1 n2 74 [(0, .ref 14), (1, .int x1)] [] := by
  unfold f_X4_readLaw_74 at hf
  refine Wp.iload_n (pc := 74) 1 rfl rfl dX4_readLaw_74 ?_
  refine Wp.bipush (pc := 75) (8 : Int32) (by decide) dX4_readLaw_75 ?_
  refine Wp.icmp_gt (pc := 77) 165 dX4_readLaw_77 (by decide) (fun hc1 => ?_) (fun hc1 => ?_)
  · rw [if_pos hc1] at hf
    refine Wp.lo' (lo' := [(0, .ref 14)]) [0] rfl ?_
    cases hf
    exact hk
  · rw [if_neg hc1] at hf
    refine Wp.aload_n (pc := 80) 0 rfl rfl dX4_readLaw_80 ?_
    refine Wp.getI2 (pc := 81) (hG.t 14 rfl) fk_RX4_43 rfl dX4_readLaw_81 ?_
    refine Wp.if_ne (pc := 84) 165 dX4_readLaw_84 (by decide) (fun hc2 => ?_) (fun hc2 => ?_)
    · rw [if_neg hc2] at hf
      refine Wp.lo' (lo' := [(0, .ref 14)]) [0] rfl ?_
      cases hf
      exact hk
    · rw [if_pos hc2] at hf
      refine Wp.aload_n (pc := 87) 0 rfl rfl dX4_readLaw_87 ?_
      refine Wp.getI2 (pc := 88) (hG.t 14 rfl) fk_RX4_46 rfl dX4_readLaw_88 ?_
      refine Wp.bipush (pc := 91) (21 : Int32) (by decide) dX4_readLaw_91 ?_
      refine Wp.icmp_ne (pc := 93) 165 dX4_readLaw_93 (by decide) (fun hc3 => ?_) (fun hc3 => ?_)
      · rw [if_neg hc3] at hf
        refine Wp.lo' (lo' := [(0, .ref 14)]) [0] rfl ?_
        cases hf
        exact hk
      · rw [if_pos hc3] at hf
        refine Wp.iload_n (pc := 96) 1 rfl rfl dX4_readLaw_96 ?_
        refine Wp.bipush (pc := 97) (8 : Int32) (by decide) dX4_readLaw_97 ?_
        refine Wp.icmp_ne (pc := 99) 107 dX4_readLaw_99 (by decide) (fun hc4 => ?_) (fun hc4 => ?_)
        · rw [if_neg hc4] at hf
          exact w_X4_readLaw_107 hX hG hf hk
        · rw [if_pos hc4] at hf
          refine Wp.aload_n (pc := 102) 0 rfl rfl dX4_readLaw_102 ?_
          refine Wp.iconst (pc := 103) (2 : Int32) (by decide) dX4_readLaw_103 ?_
          obtain ⟨c5, h6, hf⟩ := bnd hf
          refine Wp.callVv (pc := 104) (st := []) (as := [.int (2 : Int32)]) (c_X4_fail hG h6) ml_RX4_67 mv_X4_fail mb_X4_fail hX (Nat.le_of_ble_eq_true rfl) (by decide) rfl (hG.t 14 rfl) rfl (by simp) dX4_readLaw_104 rfl ?_
          exact w_X4_readLaw_107 hX hG hf hk
theorem wl_X4_readLaw_74 {X : CX} {T : List Dsc} {R : RM} {c e : Nat} {n1 n2 : Nat} {x1 : Int32} {m : M2} {e1 : ((M2))} (hX : XR X 73 n1 n2) (hG : Geo T R c e) (h : loop (g_X4_readLaw_74 e) (x1, m) = some e1) (he : Wp X cX4_readLaw RX4 3 T (mk e1 R) n1 n2 165 [(0, .ref 14)] []) : Wp X cX4_readLaw RX4 3 T (mk m R) n1 n2 74 [(0, .ref 14), (1, .int x1)] [] :=
  loop_ok (K := k_X4_readLaw_74 X T R n1 n2) (fun s r hf hk => w_X4_readLaw_74 hX hG hf hk) h he
set_option maxHeartbeats 4000000 in
set_option maxRecDepth 100000 in
theorem w_X4_readLaw_165 {X : CX} {T : List Dsc} {R : RM} {c e : Nat} {n1 n2 : Nat} {m : M2} {r : M2} (hX : XR X 73 n1 n2) (hG : Geo T R c e) (hf : f_X4_readLaw_165 e m = some r) (hk : FnV X cX4_readLaw RX4 3 T n1 n2 (mk r R)) : Wp X cX4_readLaw RX4 3 T (mk m R) n1 n2 165 [(0, .ref 14)] [] := by
  unfold f_X4_readLaw_165 at hf
  refine Wp.aload_n (pc := 165) 0 rfl rfl dX4_readLaw_165 ?_
  refine Wp.iconst (pc := 166) (0 : Int32) (by decide) dX4_readLaw_166 ?_
  refine Wp.iconst (pc := 167) (0 : Int32) (by decide) dX4_readLaw_167 ?_
  obtain ⟨c1, h2, hf⟩ := bnd hf
  refine Wp.callVv (pc := 168) (st := []) (as := [.int (0 : Int32), .int (0 : Int32)]) (c_X4_readExpression hG h2) ml_RX4_148 mv_X4_readExpression mb_X4_readExpression hX (Nat.le_of_ble_eq_true rfl) (by decide) rfl (hG.t 14 rfl) rfl (by simp) dX4_readLaw_168 rfl ?_
  refine Wp.aload_n (pc := 171) 0 rfl rfl dX4_readLaw_171 ?_
  refine Wp.iconst (pc := 172) (4 : Int32) (by decide) dX4_readLaw_172 ?_
  obtain ⟨c3, h4, hf⟩ := bnd hf
  refine Wp.callVi (pc := 173) (st := []) (as := [.int (4 : Int32)]) (c_X4_take hG h4) ml_RX4_114 mv_X4_take mb_X4_take hX (Nat.le_of_ble_eq_true rfl) (by decide) rfl (hG.t 14 rfl) rfl (by simp) dX4_readLaw_173 rfl ?_
  refine Wp.pop (pc := 176) rfl dX4_readLaw_176 ?_
  refine Wp.aload_n (pc := 177) 0 rfl rfl dX4_readLaw_177 ?_
  refine Wp.bipush (pc := 178) (23 : Int32) (by decide) dX4_readLaw_178 ?_
  refine Wp.iconst (pc := 180) (0 : Int32) (by decide) dX4_readLaw_180 ?_
  obtain ⟨c5, h6, hf⟩ := bnd hf
  refine Wp.callVi (pc := 181) (st := []) (as := [.int (23 : Int32), .int (0 : Int32)]) (c_X4_emit hG h6) ml_RX4_144 mv_X4_emit mb_X4_emit hX (Nat.le_of_ble_eq_true rfl) (by decide) rfl (hG.t 14 rfl) rfl (by simp) dX4_readLaw_181 rfl ?_
  refine Wp.pop (pc := 184) rfl dX4_readLaw_184 ?_
  refine Wp.aload_n (pc := 185) 0 rfl rfl dX4_readLaw_185 ?_
  refine Wp.getR2 (pc := 186) hG.r3 (hG.t 14 rfl) fk_RX4_35 rfl dX4_readLaw_186 ?_
  refine Wp.dup (pc := 189) rfl dX4_readLaw_189 ?_
  refine Wp.getI2 (pc := 190) (hG.tt hG.he) fk_RX4_129 rfl dX4_readLaw_190 ?_
  refine Wp.iconst (pc := 193) (1 : Int32) (by decide) dX4_readLaw_193 ?_
  refine Wp.iadd (pc := 194) dX4_readLaw_194 ?_
  obtain ⟨m7, h8, hf⟩ := bnd hf
  refine Wp.ptI2 (pc := 195) h8 (hG.tt hG.he) fk_RX4_129 ff_RX4_6_1 rfl dX4_readLaw_195 ?_
  cases hf
  exact hk _ _ dX4_readLaw_198
set_option maxHeartbeats 4000000 in
set_option maxRecDepth 100000 in
theorem w_X4_readLaw_44 {X : CX} {T : List Dsc} {R : RM} {c e : Nat} {n1 n2 : Nat} {m : M2} {r : M2} (hX : XR X 73 n1 n2) (hG : Geo T R c e) (hf : f_X4_readLaw_44 e m = some r) (hk : FnV X cX4_readLaw RX4 3 T n1 n2 (mk r R)) : Wp X cX4_readLaw RX4 3 T (mk m R) n1 n2 44 [(0, .ref 14)] [] := by
  unfold f_X4_readLaw_44 at hf
  refine Wp.aload_n (pc := 44) 0 rfl rfl dX4_readLaw_44 ?_
  refine Wp.iconst (pc := 45) (5 : Int32) (by decide) dX4_readLaw_45 ?_
  obtain ⟨c1, h2, hf⟩ := bnd hf
  refine Wp.callVi (pc := 46) (st := []) (as := [.int (5 : Int32)]) (c_X4_take hG h2) ml_RX4_114 mv_X4_take mb_X4_take hX (Nat.le_of_ble_eq_true rfl) (by decide) rfl (hG.t 14 rfl) rfl (by simp) dX4_readLaw_46 rfl ?_
  refine Wp.pop (pc := 49) rfl dX4_readLaw_49 ?_
  refine Wp.aload_n (pc := 50) 0 rfl rfl dX4_readLaw_50 ?_
  refine Wp.getR2 (pc := 51) hG.r3 (hG.t 14 rfl) fk_RX4_35 rfl dX4_readLaw_51 ?_
  refine Wp.getR2 (pc := 54) (hG.tr hG.he 2 1 rfl rfl) (hG.tt hG.he) fk_RX4_135 rfl dX4_readLaw_54 ?_
  refine Wp.aload_n (pc := 57) 0 rfl rfl dX4_readLaw_57 ?_
  refine Wp.getR2 (pc := 58) hG.r3 (hG.t 14 rfl) fk_RX4_35 rfl dX4_readLaw_58 ?_
  refine Wp.getI2 (pc := 61) (hG.tt hG.he) fk_RX4_129 rfl dX4_readLaw_61 ?_
  refine Wp.aload_n (pc := 64) 0 rfl rfl dX4_readLaw_64 ?_
  refine Wp.getR2 (pc := 65) hG.r3 (hG.t 14 rfl) fk_RX4_35 rfl dX4_readLaw_65 ?_
  refine Wp.getI2 (pc := 68) (hG.tt hG.he) fk_RX4_138 rfl dX4_readLaw_68 ?_
  obtain ⟨m3, h4, hf⟩ := bnd hf
  refine Wp.iast2 (pc := 71) h4 (hG.ta hG.he 1 6 rfl rfl) dX4_readLaw_71 ?_
  refine Wp.iconst (pc := 72) (0 : Int32) (by decide) dX4_readLaw_72 ?_
  refine Wp.istore_n (pc := 73) (lo' := [(0, .ref 14), (1, .int (0 : Int32))]) [1, 0] rfl (by decide) rfl dX4_readLaw_73 ?_
  obtain ⟨e5, h6, hf⟩ := bnd hf
  refine wl_X4_readLaw_74 hX hG h6 ?_
  exact w_X4_readLaw_165 hX hG hf hk
set_option maxHeartbeats 4000000 in
set_option maxRecDepth 100000 in
theorem w_X4_readLaw {X : CX} {T : List Dsc} {R : RM} {c e : Nat} {n1 n2 : Nat} {m : M2} {r : M2} (hX : XR X 73 n1 n2) (hG : Geo T R c e) (hf : F_X4_readLaw e m = some r) (hk : FnV X cX4_readLaw RX4 3 T n1 n2 (mk r R)) : Wp X cX4_readLaw RX4 3 T (mk m R) n1 n2 0 [(0, .ref 14)] [] := by
  unfold F_X4_readLaw at hf
  refine Wp.aload_n (pc := 0) 0 rfl rfl dX4_readLaw_0 ?_
  refine Wp.getR2 (pc := 1) hG.r3 (hG.t 14 rfl) fk_RX4_35 rfl dX4_readLaw_1 ?_
  refine Wp.getI2 (pc := 4) (hG.tt hG.he) fk_RX4_129 rfl dX4_readLaw_4 ?_
  refine Wp.bipush (pc := 7) (6 : Int32) (by decide) dX4_readLaw_7 ?_
  refine Wp.icmp_lt (pc := 9) 18 dX4_readLaw_9 (by decide) (fun hc1 => ?_) (fun hc1 => ?_)
  · rw [if_pos hc1] at hf
    refine Wp.aload_n (pc := 18) 0 rfl rfl dX4_readLaw_18 ?_
    refine Wp.bipush (pc := 19) (18 : Int32) (by decide) dX4_readLaw_19 ?_
    obtain ⟨c2, h3, hf⟩ := bnd hf
    refine Wp.callVi (pc := 21) (st := []) (as := [.int (18 : Int32)]) (c_X4_take hG h3) ml_RX4_114 mv_X4_take mb_X4_take hX (Nat.le_of_ble_eq_true rfl) (by decide) rfl (hG.t 14 rfl) rfl (by simp) dX4_readLaw_21 rfl ?_
    refine Wp.pop (pc := 24) rfl dX4_readLaw_24 ?_
    refine Wp.aload_n (pc := 25) 0 rfl rfl dX4_readLaw_25 ?_
    refine Wp.iconst (pc := 26) (2 : Int32) (by decide) dX4_readLaw_26 ?_
    obtain ⟨c4, h5, hf⟩ := bnd hf
    refine Wp.callVi (pc := 27) (st := []) (as := [.int (2 : Int32)]) (c_X4_take hG h5) ml_RX4_114 mv_X4_take mb_X4_take hX (Nat.le_of_ble_eq_true rfl) (by decide) rfl (hG.t 14 rfl) rfl (by simp) dX4_readLaw_27 rfl ?_
    refine Wp.if_eq (pc := 30) 44 dX4_readLaw_30 (by decide) (fun hc6 => ?_) (fun hc6 => ?_)
    · rw [if_pos hc6] at hf
      exact w_X4_readLaw_44 hX hG hf hk
    · rw [if_neg hc6] at hf
      refine Wp.aload_n (pc := 33) 0 rfl rfl dX4_readLaw_33 ?_
      refine Wp.aload_n (pc := 34) 0 rfl rfl dX4_readLaw_34 ?_
      refine Wp.getR2 (pc := 35) hG.r3 (hG.t 14 rfl) fk_RX4_35 rfl dX4_readLaw_35 ?_
      refine Wp.getI2 (pc := 38) (hG.tt hG.he) fk_RX4_129 rfl dX4_readLaw_38 ?_
      obtain ⟨c7, h8, hf⟩ := bnd hf
      refine Wp.callVv (pc := 41) (st := []) (as := [.int (hI c4.2 e 1)]) (c_X4_noteName hG h8) ml_RX4_132 mv_X4_noteName mb_X4_noteName hX (Nat.le_of_ble_eq_true rfl) (by decide) rfl (hG.t 14 rfl) rfl (by simp) dX4_readLaw_41 rfl ?_
      exact w_X4_readLaw_44 hX hG hf hk
  · rw [if_neg hc1] at hf
    refine Wp.aload_n (pc := 12) 0 rfl rfl dX4_readLaw_12 ?_
    refine Wp.iconst (pc := 13) (2 : Int32) (by decide) dX4_readLaw_13 ?_
    obtain ⟨c9, h10, hf⟩ := bnd hf
    refine Wp.callVv (pc := 14) (st := []) (as := [.int (2 : Int32)]) (c_X4_fail hG h10) ml_RX4_67 mv_X4_fail mb_X4_fail hX (Nat.le_of_ble_eq_true rfl) (by decide) rfl (hG.t 14 rfl) rfl (by simp) dX4_readLaw_14 rfl ?_
    cases hf
    exact hk _ _ dX4_readLaw_17
theorem c_X4_readLaw {T : List Dsc} {R : RM} {c e : Nat} {m : M2} {r : M2} (hG : Geo T R c e) (hf : F_X4_readLaw e m = some r) : Ct 73 yX4_readLaw cX4_readLaw 3 none T (mk m R) [.ref 14] none (mk r R) := Ct.ofV (r := mk r R) (by decide +kernel) (Nat.le_of_ble_eq_true rfl) (fun X hX hk => w_X4_readLaw hX hG hf hk)
theorem dX4_lawNamed_0 : decode cX4_lawNamed 0 = .ok (.iconst 0, 1) := by decide +kernel
theorem dX4_lawNamed_1 : decode cX4_lawNamed 1 = .ok (.istore_n 3, 1) := by decide +kernel
theorem dX4_lawNamed_2 : decode cX4_lawNamed 2 = .ok (.iload_n 3, 1) := by decide +kernel
theorem dX4_lawNamed_3 : decode cX4_lawNamed 3 = .ok (.aload_n 0, 1) := by decide +kernel
theorem dX4_lawNamed_4 : decode cX4_lawNamed 4 = .ok (.getfield 91, 3) := by decide +kernel
theorem dX4_lawNamed_7 : decode cX4_lawNamed 7 = .ok (.if_icmp .ge 37, 3) := by decide +kernel
theorem dX4_lawNamed_10 : decode cX4_lawNamed 10 = .ok (.aload_n 0, 1) := by decide +kernel
theorem dX4_lawNamed_11 : decode cX4_lawNamed 11 = .ok (.getfield 19, 3) := by decide +kernel
theorem dX4_lawNamed_14 : decode cX4_lawNamed 14 = .ok (.iload_n 3, 1) := by decide +kernel
theorem dX4_lawNamed_15 : decode cX4_lawNamed 15 = .ok (.laload, 1) := by decide +kernel
theorem dX4_lawNamed_16 : decode cX4_lawNamed 16 = .ok (.lload_n 1, 1) := by decide +kernel
theorem dX4_lawNamed_17 : decode cX4_lawNamed 17 = .ok (.lcmp, 1) := by decide +kernel
theorem dX4_lawNamed_18 : decode cX4_lawNamed 18 = .ok (.ifCond .ne 20, 3) := by decide +kernel
theorem dX4_lawNamed_21 : decode cX4_lawNamed 21 = .ok (.aload_n 0, 1) := by decide +kernel
theorem dX4_lawNamed_22 : decode cX4_lawNamed 22 = .ok (.getfield 23, 3) := by decide +kernel
theorem dX4_lawNamed_25 : decode cX4_lawNamed 25 = .ok (.iload_n 3, 1) := by decide +kernel
theorem dX4_lawNamed_26 : decode cX4_lawNamed 26 = .ok (.iaload, 1) := by decide +kernel
theorem dX4_lawNamed_27 : decode cX4_lawNamed 27 = .ok (.iconst (-1), 1) := by decide +kernel
theorem dX4_lawNamed_28 : decode cX4_lawNamed 28 = .ok (.if_icmp .eq 10, 3) := by decide +kernel
theorem dX4_lawNamed_31 : decode cX4_lawNamed 31 = .ok (.aload_n 0, 1) := by decide +kernel
theorem dX4_lawNamed_32 : decode cX4_lawNamed 32 = .ok (.getfield 23, 3) := by decide +kernel
theorem dX4_lawNamed_35 : decode cX4_lawNamed 35 = .ok (.iload_n 3, 1) := by decide +kernel
theorem dX4_lawNamed_36 : decode cX4_lawNamed 36 = .ok (.iaload, 1) := by decide +kernel
theorem dX4_lawNamed_37 : decode cX4_lawNamed 37 = .ok (.ireturn, 1) := by decide +kernel
theorem dX4_lawNamed_38 : decode cX4_lawNamed 38 = .ok (.iinc 3 1, 3) := by decide +kernel
theorem dX4_lawNamed_41 : decode cX4_lawNamed 41 = .ok (.goto (-39), 3) := by decide +kernel
theorem dX4_lawNamed_44 : decode cX4_lawNamed 44 = .ok (.iconst (-1), 1) := by decide +kernel
theorem dX4_lawNamed_45 : decode cX4_lawNamed 45 = .ok (.ireturn, 1) := by decide +kernel
def k_X4_lawNamed_2 (X : CX) (T : List Dsc) (R : RM) (n1 n2 : Nat) (x1 : Int64) (r : ((Int32 × M2) ⊕ ((Int32 × M2) ⊕ (M2)))) : Prop := match r with
  | .inl s => Wp X cX4_lawNamed RX4 4 T (mk s.2 R) n1 n2 2 [(0, .ref 14), (1, .long x1), (3, .int s.1)] []
  | .inr (.inl e) => Wp X cX4_lawNamed RX4 4 T (mk e.2 R) n1 n2 31 [(0, .ref 14), (3, .int e.1)] []
  | .inr (.inr e) => Wp X cX4_lawNamed RX4 4 T (mk e R) n1 n2 44 [] []
set_option maxHeartbeats 4000000 in
set_option maxRecDepth 100000 in
theorem w_X4_lawNamed_38 {X : CX} {T : List Dsc} {R : RM} {c e : Nat} {n1 n2 : Nat} {x1 : Int64} {x3 : Int32} {m : M2} {r : ((Int32 × M2) ⊕ ((Int32 × M2) ⊕ (M2)))} (hX : XR X 1 n1 n2) (hG : Geo T R c e) (hf : f_X4_lawNamed_38 e x1 x3 m = some r) (hk : k_X4_lawNamed_2 X T R n1 n2 x1 r) : Wp X cX4_lawNamed RX4 4 T (mk m R) n1 n2 38 [(0, .ref 14), (1, .long x1), (3, .int x3)] [] := by
  unfold f_X4_lawNamed_38 at hf
  obtain ⟨v1, h2, hf⟩ := bnd hf
  refine Wp.iincN (pc := 38) (lo' := [(0, .ref 14), (1, .long x1), (3, .int v1)]) (1 : Int32) (by decide) h2 2 rfl [1, 2, 0] rfl (by decide) dX4_lawNamed_38 ?_
  refine Wp.goto (pc := 41) 2 dX4_lawNamed_41 (by decide) ?_
  cases hf
  exact hk
set_option maxHeartbeats 4000000 in
set_option maxRecDepth 100000 in
theorem w_X4_lawNamed_2 {X : CX} {T : List Dsc} {R : RM} {c e : Nat} {n1 n2 : Nat} {x1 : Int64} {x3 : Int32} {m : M2} {r : ((Int32 × M2) ⊕ ((Int32 × M2) ⊕ (M2)))} (hX : XR X 1 n1 n2) (hG : Geo T R c e) (hf : f_X4_lawNamed_2 e x1 x3 m = some r) (hk : k_X4_lawNamed_2 X T R n1 n2 x1 r) : Wp X cX4_lawNamed RX4 4 T (mk m R) n1 n2 2 [(0, .ref 14), (1, .long x1), (3, .int x3)] [] := by
  unfold f_X4_lawNamed_2 at hf
  refine Wp.iload_n (pc := 2) 2 rfl rfl dX4_lawNamed_2 ?_
  refine Wp.aload_n (pc := 3) 0 rfl rfl dX4_lawNamed_3 ?_
  refine Wp.getI2 (pc := 4) (hG.t 14 rfl) fk_RX4_91 rfl dX4_lawNamed_4 ?_
  refine Wp.icmp_ge (pc := 7) 44 dX4_lawNamed_7 (by decide) (fun hc1 => ?_) (fun hc1 => ?_)
  · rw [if_pos hc1] at hf
    refine Wp.lo' (lo' := []) [] rfl ?_
    cases hf
    exact hk
  · rw [if_neg hc1] at hf
    refine Wp.aload_n (pc := 10) 0 rfl rfl dX4_lawNamed_10 ?_
    refine Wp.getR2 (pc := 11) (hG.r 14 9 rfl) (hG.t 14 rfl) fk_RX4_19 rfl dX4_lawNamed_11 ?_
    refine Wp.iload_n (pc := 14) 2 rfl rfl dX4_lawNamed_14 ?_
    obtain ⟨v2, h3, hf⟩ := bnd hf
    refine Wp.lald2 (pc := 15) h3 (hG.a 16 1 rfl) dX4_lawNamed_15 ?_
    refine Wp.lload_n (pc := 16) 1 rfl rfl dX4_lawNamed_16 ?_
    refine Wp.lcmp (pc := 17) dX4_lawNamed_17 ?_
    refine Wp.if_ne (pc := 18) 38 dX4_lawNamed_18 (by decide) (fun hc4 => ?_) (fun hc4 => ?_)
    · rw [if_neg hc4] at hf
      exact w_X4_lawNamed_38 hX hG hf hk
    · rw [if_pos hc4] at hf
      refine Wp.aload_n (pc := 21) 0 rfl rfl dX4_lawNamed_21 ?_
      refine Wp.getR2 (pc := 22) (hG.r 14 10 rfl) (hG.t 14 rfl) fk_RX4_23 rfl dX4_lawNamed_22 ?_
      refine Wp.iload_n (pc := 25) 2 rfl rfl dX4_lawNamed_25 ?_
      obtain ⟨v5, h6, hf⟩ := bnd hf
      refine Wp.iald2 (pc := 26) h6 (hG.a 17 0 rfl) dX4_lawNamed_26 ?_
      refine Wp.iconst (pc := 27) (-1 : Int32) (by decide) dX4_lawNamed_27 ?_
      refine Wp.icmp_eq (pc := 28) 38 dX4_lawNamed_28 (by decide) (fun hc7 => ?_) (fun hc7 => ?_)
      · rw [if_pos hc7] at hf
        exact w_X4_lawNamed_38 hX hG hf hk
      · rw [if_neg hc7] at hf
        refine Wp.lo' (lo' := [(0, .ref 14), (3, .int x3)]) [0, 2] rfl ?_
        cases hf
        exact hk
theorem wl_X4_lawNamed_2 {X : CX} {T : List Dsc} {R : RM} {c e : Nat} {n1 n2 : Nat} {x1 : Int64} {x3 : Int32} {m : M2} {e1 : ((Int32 × M2) ⊕ (M2))} (hX : XR X 1 n1 n2) (hG : Geo T R c e) (h : loop (g_X4_lawNamed_2 e x1) (x3, m) = some e1) (he0 : ∀ e_, e1 = (Sum.inl e_) → Wp X cX4_lawNamed RX4 4 T (mk e_.2 R) n1 n2 31 [(0, .ref 14), (3, .int e_.1)] []) (he1 : ∀ e_, e1 = (Sum.inr e_) → Wp X cX4_lawNamed RX4 4 T (mk e_ R) n1 n2 44 [] []) : Wp X cX4_lawNamed RX4 4 T (mk m R) n1 n2 2 [(0, .ref 14), (1, .long x1), (3, .int x3)] [] :=
  loop_ok (K := k_X4_lawNamed_2 X T R n1 n2 x1) (fun s r hf hk => w_X4_lawNamed_2 hX hG hf hk) h (by rcases e1 with e_ | e_ <;> first | exact he0 _ rfl | exact he1 _ rfl)
set_option maxHeartbeats 4000000 in
set_option maxRecDepth 100000 in
theorem w_X4_lawNamed {X : CX} {T : List Dsc} {R : RM} {c e : Nat} {n1 n2 : Nat} {x1 : Int64} {m : M2} {r : (Int32 × M2)} (hX : XR X 1 n1 n2) (hG : Geo T R c e) (hf : F_X4_lawNamed e x1 m = some r) (hk : FnI X cX4_lawNamed RX4 4 T n1 n2 (r.1, mk r.2 R)) : Wp X cX4_lawNamed RX4 4 T (mk m R) n1 n2 0 [(0, .ref 14), (1, .long x1)] [] := by
  unfold F_X4_lawNamed at hf
  refine Wp.iconst (pc := 0) (0 : Int32) (by decide) dX4_lawNamed_0 ?_
  refine Wp.istore_n (pc := 1) (lo' := [(0, .ref 14), (1, .long x1), (3, .int (0 : Int32))]) [1, 2, 0] rfl (by decide) rfl dX4_lawNamed_1 ?_
  obtain ⟨e1, h2, hf⟩ := bnd hf
  refine wl_X4_lawNamed_2 hX hG h2 (fun e1_0 hq => ?_) (fun e1_1 hq => ?_)
  · rw [hq, Sum.elim_inl] at hf
    refine Wp.aload_n (pc := 31) 0 rfl rfl dX4_lawNamed_31 ?_
    refine Wp.getR2 (pc := 32) (hG.r 14 10 rfl) (hG.t 14 rfl) fk_RX4_23 rfl dX4_lawNamed_32 ?_
    refine Wp.iload_n (pc := 35) 1 rfl rfl dX4_lawNamed_35 ?_
    obtain ⟨v3, h4, hf⟩ := bnd hf
    refine Wp.iald2 (pc := 36) h4 (hG.a 17 0 rfl) dX4_lawNamed_36 ?_
    cases hf
    exact hk _ _ dX4_lawNamed_37
  · rw [hq, Sum.elim_inr] at hf
    refine Wp.iconst (pc := 44) (-1 : Int32) (by decide) dX4_lawNamed_44 ?_
    cases hf
    exact hk _ _ dX4_lawNamed_45
theorem c_X4_lawNamed {T : List Dsc} {R : RM} {c e : Nat} {x1 : Int64} {m : M2} {r : (Int32 × M2)} (hG : Geo T R c e) (hf : F_X4_lawNamed e x1 m = some r) : Ct 1 yX4_lawNamed cX4_lawNamed 4 (some .int) T (mk m R) [.ref 14, .long x1] (some (.int r.1)) (mk r.2 R) := Ct.ofI (r := (r.1, mk r.2 R)) (by decide +kernel) (Nat.le_of_ble_eq_true rfl) (fun X hX hk => w_X4_lawNamed hX hG hf hk)
theorem dX4_noteBeyond_0 : decode cX4_noteBeyond 0 = .ok (.iconst 3, 1) := by decide +kernel
theorem dX4_noteBeyond_1 : decode cX4_noteBeyond 1 = .ok (.istore_n 1, 1) := by decide +kernel
theorem dX4_noteBeyond_2 : decode cX4_noteBeyond 2 = .ok (.iload_n 1, 1) := by decide +kernel
theorem dX4_noteBeyond_3 : decode cX4_noteBeyond 3 = .ok (.bipush 24, 2) := by decide +kernel
theorem dX4_noteBeyond_5 : decode cX4_noteBeyond 5 = .ok (.if_icmp .gt 56, 3) := by decide +kernel
theorem dX4_noteBeyond_8 : decode cX4_noteBeyond 8 = .ok (.aload_n 0, 1) := by decide +kernel
theorem dX4_noteBeyond_9 : decode cX4_noteBeyond 9 = .ok (.getfield 82, 3) := by decide +kernel
theorem dX4_noteBeyond_12 : decode cX4_noteBeyond 12 = .ok (.ifCond .le 43, 3) := by decide +kernel
theorem dX4_noteBeyond_15 : decode cX4_noteBeyond 15 = .ok (.aload_n 0, 1) := by decide +kernel
theorem dX4_noteBeyond_16 : decode cX4_noteBeyond 16 = .ok (.invokevirtual 118, 3) := by decide +kernel
theorem dX4_noteBeyond_19 : decode cX4_noteBeyond 19 = .ok (.iload_n 1, 1) := by decide +kernel
theorem dX4_noteBeyond_20 : decode cX4_noteBeyond 20 = .ok (.i2l, 1) := by decide +kernel
theorem dX4_noteBeyond_21 : decode cX4_noteBeyond 21 = .ok (.lcmp, 1) := by decide +kernel
theorem dX4_noteBeyond_22 : decode cX4_noteBeyond 22 = .ok (.ifCond .lt 33, 3) := by decide +kernel
theorem dX4_noteBeyond_25 : decode cX4_noteBeyond 25 = .ok (.aload_n 0, 1) := by decide +kernel
theorem dX4_noteBeyond_26 : decode cX4_noteBeyond 26 = .ok (.getfield 15, 3) := by decide +kernel
theorem dX4_noteBeyond_29 : decode cX4_noteBeyond 29 = .ok (.iload_n 1, 1) := by decide +kernel
theorem dX4_noteBeyond_30 : decode cX4_noteBeyond 30 = .ok (.iaload, 1) := by decide +kernel
theorem dX4_noteBeyond_31 : decode cX4_noteBeyond 31 = .ok (.iconst (-1), 1) := by decide +kernel
theorem dX4_noteBeyond_32 : decode cX4_noteBeyond 32 = .ok (.if_icmp .ne 23, 3) := by decide +kernel
theorem dX4_noteBeyond_35 : decode cX4_noteBeyond 35 = .ok (.aload_n 0, 1) := by decide +kernel
theorem dX4_noteBeyond_36 : decode cX4_noteBeyond 36 = .ok (.getfield 15, 3) := by decide +kernel
theorem dX4_noteBeyond_39 : decode cX4_noteBeyond 39 = .ok (.iload_n 1, 1) := by decide +kernel
theorem dX4_noteBeyond_40 : decode cX4_noteBeyond 40 = .ok (.aload_n 0, 1) := by decide +kernel
theorem dX4_noteBeyond_41 : decode cX4_noteBeyond 41 = .ok (.getfield 31, 3) := by decide +kernel
theorem dX4_noteBeyond_44 : decode cX4_noteBeyond 44 = .ok (.getfield 106, 3) := by decide +kernel
theorem dX4_noteBeyond_47 : decode cX4_noteBeyond 47 = .ok (.aload_n 0, 1) := by decide +kernel
theorem dX4_noteBeyond_48 : decode cX4_noteBeyond 48 = .ok (.getfield 82, 3) := by decide +kernel
theorem dX4_noteBeyond_51 : decode cX4_noteBeyond 51 = .ok (.iconst 1, 1) := by decide +kernel
theorem dX4_noteBeyond_52 : decode cX4_noteBeyond 52 = .ok (.isub, 1) := by decide +kernel
theorem dX4_noteBeyond_53 : decode cX4_noteBeyond 53 = .ok (.iaload, 1) := by decide +kernel
theorem dX4_noteBeyond_54 : decode cX4_noteBeyond 54 = .ok (.iastore, 1) := by decide +kernel
theorem dX4_noteBeyond_55 : decode cX4_noteBeyond 55 = .ok (.iinc 1 1, 3) := by decide +kernel
theorem dX4_noteBeyond_58 : decode cX4_noteBeyond 58 = .ok (.goto (-56), 3) := by decide +kernel
theorem dX4_noteBeyond_61 : decode cX4_noteBeyond 61 = .ok (.return_, 1) := by decide +kernel
def k_X4_noteBeyond_2 (X : CX) (T : List Dsc) (R : RM) (n1 n2 : Nat) (r : ((Int32 × M2) ⊕ ((M2)))) : Prop := match r with
  | .inl s => Wp X cX4_noteBeyond RX4 2 T (mk s.2 R) n1 n2 2 [(0, .ref 14), (1, .int s.1)] []
  | .inr e => Wp X cX4_noteBeyond RX4 2 T (mk e R) n1 n2 61 [] []
set_option maxHeartbeats 4000000 in
set_option maxRecDepth 100000 in
theorem w_X4_noteBeyond_55 {X : CX} {T : List Dsc} {R : RM} {c e : Nat} {n1 n2 : Nat} {x1 : Int32} {m : M2} {r : ((Int32 × M2) ⊕ ((M2)))} (hX : XR X 2 n1 n2) (hG : Geo T R c e) (hf : f_X4_noteBeyond_55 e x1 m = some r) (hk : k_X4_noteBeyond_2 X T R n1 n2 r) : Wp X cX4_noteBeyond RX4 2 T (mk m R) n1 n2 55 [(0, .ref 14), (1, .int x1)] [] := by
  unfold f_X4_noteBeyond_55 at hf
  obtain ⟨v1, h2, hf⟩ := bnd hf
  refine Wp.iincN (pc := 55) (lo' := [(0, .ref 14), (1, .int v1)]) (1 : Int32) (by decide) h2 1 rfl [1, 0] rfl (by decide) dX4_noteBeyond_55 ?_
  refine Wp.goto (pc := 58) 2 dX4_noteBeyond_58 (by decide) ?_
  cases hf
  exact hk
set_option maxHeartbeats 4000000 in
set_option maxRecDepth 100000 in
theorem w_X4_noteBeyond_2 {X : CX} {T : List Dsc} {R : RM} {c e : Nat} {n1 n2 : Nat} {x1 : Int32} {m : M2} {r : ((Int32 × M2) ⊕ ((M2)))} (hX : XR X 2 n1 n2) (hG : Geo T R c e) (hf : f_X4_noteBeyond_2 e x1 m = some r) (hk : k_X4_noteBeyond_2 X T R n1 n2 r) : Wp X cX4_noteBeyond RX4 2 T (mk m R) n1 n2 2 [(0, .ref 14), (1, .int x1)] [] := by
  unfold f_X4_noteBeyond_2 at hf
  refine Wp.iload_n (pc := 2) 1 rfl rfl dX4_noteBeyond_2 ?_
  refine Wp.bipush (pc := 3) (24 : Int32) (by decide) dX4_noteBeyond_3 ?_
  refine Wp.icmp_gt (pc := 5) 61 dX4_noteBeyond_5 (by decide) (fun hc1 => ?_) (fun hc1 => ?_)
  · rw [if_pos hc1] at hf
    refine Wp.lo' (lo' := []) [] rfl ?_
    cases hf
    exact hk
  · rw [if_neg hc1] at hf
    refine Wp.aload_n (pc := 8) 0 rfl rfl dX4_noteBeyond_8 ?_
    refine Wp.getI2 (pc := 9) (hG.t 14 rfl) fk_RX4_82 rfl dX4_noteBeyond_9 ?_
    refine Wp.if_le (pc := 12) 55 dX4_noteBeyond_12 (by decide) (fun hc2 => ?_) (fun hc2 => ?_)
    · rw [if_pos hc2] at hf
      exact w_X4_noteBeyond_55 hX hG hf hk
    · rw [if_neg hc2] at hf
      refine Wp.aload_n (pc := 15) 0 rfl rfl dX4_noteBeyond_15 ?_
      obtain ⟨c3, h4, hf⟩ := bnd hf
      refine Wp.callVl (pc := 16) (st := []) (as := []) (c_X4_taken hG h4) ml_RX4_118 mv_X4_taken mb_X4_taken hX (Nat.le_of_ble_eq_true rfl) (by decide) rfl (hG.t 14 rfl) rfl (by simp) dX4_noteBeyond_16 rfl ?_
      refine Wp.iload_n (pc := 19) 1 rfl rfl dX4_noteBeyond_19 ?_
      refine Wp.i2l (pc := 20) dX4_noteBeyond_20 ?_
      refine Wp.lcmp (pc := 21) dX4_noteBeyond_21 ?_
      refine Wp.if_lt (pc := 22) 55 dX4_noteBeyond_22 (by decide) (fun hc5 => ?_) (fun hc5 => ?_)
      · rw [if_pos hc5] at hf
        exact w_X4_noteBeyond_55 hX hG hf hk
      · rw [if_neg hc5] at hf
        refine Wp.aload_n (pc := 25) 0 rfl rfl dX4_noteBeyond_25 ?_
        refine Wp.getR2 (pc := 26) (hG.r 14 8 rfl) (hG.t 14 rfl) fk_RX4_15 rfl dX4_noteBeyond_26 ?_
        refine Wp.iload_n (pc := 29) 1 rfl rfl dX4_noteBeyond_29 ?_
        obtain ⟨v6, h7, hf⟩ := bnd hf
        refine Wp.iald2 (pc := 30) h7 (hG.a 15 0 rfl) dX4_noteBeyond_30 ?_
        refine Wp.iconst (pc := 31) (-1 : Int32) (by decide) dX4_noteBeyond_31 ?_
        refine Wp.icmp_ne (pc := 32) 55 dX4_noteBeyond_32 (by decide) (fun hc8 => ?_) (fun hc8 => ?_)
        · rw [if_neg hc8] at hf
          exact w_X4_noteBeyond_55 hX hG hf hk
        · rw [if_pos hc8] at hf
          refine Wp.aload_n (pc := 35) 0 rfl rfl dX4_noteBeyond_35 ?_
          refine Wp.getR2 (pc := 36) (hG.r 14 8 rfl) (hG.t 14 rfl) fk_RX4_15 rfl dX4_noteBeyond_36 ?_
          refine Wp.iload_n (pc := 39) 1 rfl rfl dX4_noteBeyond_39 ?_
          refine Wp.aload_n (pc := 40) 0 rfl rfl dX4_noteBeyond_40 ?_
          refine Wp.getR2 (pc := 41) (hG.r 14 0 rfl) (hG.t 14 rfl) fk_RX4_31 rfl dX4_noteBeyond_41 ?_
          refine Wp.getR2 (pc := 44) (hG.r 18 3 rfl) (hG.t 18 rfl) fk_RX4_106 rfl dX4_noteBeyond_44 ?_
          refine Wp.aload_n (pc := 47) 0 rfl rfl dX4_noteBeyond_47 ?_
          refine Wp.getI2 (pc := 48) (hG.t 14 rfl) fk_RX4_82 rfl dX4_noteBeyond_48 ?_
          refine Wp.iconst (pc := 51) (1 : Int32) (by decide) dX4_noteBeyond_51 ?_
          refine Wp.isub (pc := 52) dX4_noteBeyond_52 ?_
          obtain ⟨v9, h10, hf⟩ := bnd hf
          refine Wp.iald2 (pc := 53) h10 (hG.a 22 0 rfl) dX4_noteBeyond_53 ?_
          obtain ⟨m11, h12, hf⟩ := bnd hf
          refine Wp.iast2 (pc := 54) h12 (hG.a 15 0 rfl) dX4_noteBeyond_54 ?_
          exact w_X4_noteBeyond_55 hX hG hf hk
theorem wl_X4_noteBeyond_2 {X : CX} {T : List Dsc} {R : RM} {c e : Nat} {n1 n2 : Nat} {x1 : Int32} {m : M2} {e1 : ((M2))} (hX : XR X 2 n1 n2) (hG : Geo T R c e) (h : loop (g_X4_noteBeyond_2 e) (x1, m) = some e1) (he : Wp X cX4_noteBeyond RX4 2 T (mk e1 R) n1 n2 61 [] []) : Wp X cX4_noteBeyond RX4 2 T (mk m R) n1 n2 2 [(0, .ref 14), (1, .int x1)] [] :=
  loop_ok (K := k_X4_noteBeyond_2 X T R n1 n2) (fun s r hf hk => w_X4_noteBeyond_2 hX hG hf hk) h he
set_option maxHeartbeats 4000000 in
set_option maxRecDepth 100000 in
theorem w_X4_noteBeyond {X : CX} {T : List Dsc} {R : RM} {c e : Nat} {n1 n2 : Nat} {m : M2} {r : M2} (hX : XR X 2 n1 n2) (hG : Geo T R c e) (hf : F_X4_noteBeyond e m = some r) (hk : FnV X cX4_noteBeyond RX4 2 T n1 n2 (mk r R)) : Wp X cX4_noteBeyond RX4 2 T (mk m R) n1 n2 0 [(0, .ref 14)] [] := by
  unfold F_X4_noteBeyond at hf
  refine Wp.iconst (pc := 0) (3 : Int32) (by decide) dX4_noteBeyond_0 ?_
  refine Wp.istore_n (pc := 1) (lo' := [(0, .ref 14), (1, .int (3 : Int32))]) [1, 0] rfl (by decide) rfl dX4_noteBeyond_1 ?_
  obtain ⟨e1, h2, hf⟩ := bnd hf
  refine wl_X4_noteBeyond_2 hX hG h2 ?_
  cases hf
  exact hk _ _ dX4_noteBeyond_61
theorem c_X4_noteBeyond {T : List Dsc} {R : RM} {c e : Nat} {m : M2} {r : M2} (hG : Geo T R c e) (hf : F_X4_noteBeyond e m = some r) : Ct 2 yX4_noteBeyond cX4_noteBeyond 2 none T (mk m R) [.ref 14] none (mk r R) := Ct.ofV (r := mk r R) (by decide +kernel) (Nat.le_of_ble_eq_true rfl) (fun X hX hk => w_X4_noteBeyond hX hG hf hk)
theorem dX4_readMan_0 : decode cX4_readMan 0 = .ok (.aload_n 0, 1) := by decide +kernel
theorem dX4_readMan_1 : decode cX4_readMan 1 = .ok (.getfield 35, 3) := by decide +kernel
theorem dX4_readMan_4 : decode cX4_readMan 4 = .ok (.getfield 155, 3) := by decide +kernel
theorem dX4_readMan_7 : decode cX4_readMan 7 = .ok (.bipush 12, 2) := by decide +kernel
theorem dX4_readMan_9 : decode cX4_readMan 9 = .ok (.if_icmp .lt 9, 3) := by decide +kernel
theorem dX4_readMan_12 : decode cX4_readMan 12 = .ok (.aload_n 0, 1) := by decide +kernel
theorem dX4_readMan_13 : decode cX4_readMan 13 = .ok (.iconst 2, 1) := by decide +kernel
theorem dX4_readMan_14 : decode cX4_readMan 14 = .ok (.invokevirtual 67, 3) := by decide +kernel
theorem dX4_readMan_17 : decode cX4_readMan 17 = .ok (.return_, 1) := by decide +kernel
theorem dX4_readMan_18 : decode cX4_readMan 18 = .ok (.aload_n 0, 1) := by decide +kernel
theorem dX4_readMan_19 : decode cX4_readMan 19 = .ok (.bipush 19, 2) := by decide +kernel
theorem dX4_readMan_21 : decode cX4_readMan 21 = .ok (.invokevirtual 114, 3) := by decide +kernel
theorem dX4_readMan_24 : decode cX4_readMan 24 = .ok (.pop, 1) := by decide +kernel
theorem dX4_readMan_25 : decode cX4_readMan 25 = .ok (.aload_n 0, 1) := by decide +kernel
theorem dX4_readMan_26 : decode cX4_readMan 26 = .ok (.iconst 2, 1) := by decide +kernel
theorem dX4_readMan_27 : decode cX4_readMan 27 = .ok (.invokevirtual 114, 3) := by decide +kernel
theorem dX4_readMan_30 : decode cX4_readMan 30 = .ok (.ifCond .eq 8, 3) := by decide +kernel
theorem dX4_readMan_33 : decode cX4_readMan 33 = .ok (.aload_n 0, 1) := by decide +kernel
theorem dX4_readMan_34 : decode cX4_readMan 34 = .ok (.iconst (-1), 1) := by decide +kernel
theorem dX4_readMan_35 : decode cX4_readMan 35 = .ok (.invokevirtual 132, 3) := by decide +kernel
theorem dX4_readMan_38 : decode cX4_readMan 38 = .ok (.aload_n 0, 1) := by decide +kernel
theorem dX4_readMan_39 : decode cX4_readMan 39 = .ok (.iconst 2, 1) := by decide +kernel
theorem dX4_readMan_40 : decode cX4_readMan 40 = .ok (.invokevirtual 114, 3) := by decide +kernel
theorem dX4_readMan_43 : decode cX4_readMan 43 = .ok (.ifCond .eq 50, 3) := by decide +kernel
theorem dX4_readMan_46 : decode cX4_readMan 46 = .ok (.aload_n 0, 1) := by decide +kernel
theorem dX4_readMan_47 : decode cX4_readMan 47 = .ok (.getfield 35, 3) := by decide +kernel
theorem dX4_readMan_50 : decode cX4_readMan 50 = .ok (.getfield 158, 3) := by decide +kernel
theorem dX4_readMan_53 : decode cX4_readMan 53 = .ok (.aload_n 0, 1) := by decide +kernel
theorem dX4_readMan_54 : decode cX4_readMan 54 = .ok (.getfield 35, 3) := by decide +kernel
theorem dX4_readMan_57 : decode cX4_readMan 57 = .ok (.getfield 155, 3) := by decide +kernel
theorem dX4_readMan_60 : decode cX4_readMan 60 = .ok (.aload_n 0, 1) := by decide +kernel
theorem dX4_readMan_61 : decode cX4_readMan 61 = .ok (.aload_n 0, 1) := by decide +kernel
theorem dX4_readMan_62 : decode cX4_readMan 62 = .ok (.invokevirtual 118, 3) := by decide +kernel
theorem dX4_readMan_65 : decode cX4_readMan 65 = .ok (.invokevirtual 161, 3) := by decide +kernel
theorem dX4_readMan_68 : decode cX4_readMan 68 = .ok (.iastore, 1) := by decide +kernel
theorem dX4_readMan_69 : decode cX4_readMan 69 = .ok (.aload_n 0, 1) := by decide +kernel
theorem dX4_readMan_70 : decode cX4_readMan 70 = .ok (.getfield 35, 3) := by decide +kernel
theorem dX4_readMan_73 : decode cX4_readMan 73 = .ok (.getfield 158, 3) := by decide +kernel
theorem dX4_readMan_76 : decode cX4_readMan 76 = .ok (.aload_n 0, 1) := by decide +kernel
theorem dX4_readMan_77 : decode cX4_readMan 77 = .ok (.getfield 35, 3) := by decide +kernel
theorem dX4_readMan_80 : decode cX4_readMan 80 = .ok (.getfield 155, 3) := by decide +kernel
theorem dX4_readMan_83 : decode cX4_readMan 83 = .ok (.iaload, 1) := by decide +kernel
theorem dX4_readMan_84 : decode cX4_readMan 84 = .ok (.iconst (-1), 1) := by decide +kernel
theorem dX4_readMan_85 : decode cX4_readMan 85 = .ok (.if_icmp .ne 8, 3) := by decide +kernel
theorem dX4_readMan_88 : decode cX4_readMan 88 = .ok (.aload_n 0, 1) := by decide +kernel
theorem dX4_readMan_89 : decode cX4_readMan 89 = .ok (.iconst 4, 1) := by decide +kernel
theorem dX4_readMan_90 : decode cX4_readMan 90 = .ok (.invokevirtual 126, 3) := by decide +kernel
theorem dX4_readMan_93 : decode cX4_readMan 93 = .ok (.aload_n 0, 1) := by decide +kernel
theorem dX4_readMan_94 : decode cX4_readMan 94 = .ok (.iconst 3, 1) := by decide +kernel
theorem dX4_readMan_95 : decode cX4_readMan 95 = .ok (.invokevirtual 114, 3) := by decide +kernel
theorem dX4_readMan_98 : decode cX4_readMan 98 = .ok (.ifCond .eq 36, 3) := by decide +kernel
theorem dX4_readMan_101 : decode cX4_readMan 101 = .ok (.aload_n 0, 1) := by decide +kernel
theorem dX4_readMan_102 : decode cX4_readMan 102 = .ok (.invokevirtual 165, 3) := by decide +kernel
theorem dX4_readMan_105 : decode cX4_readMan 105 = .ok (.aload_n 0, 1) := by decide +kernel
theorem dX4_readMan_106 : decode cX4_readMan 106 = .ok (.getfield 35, 3) := by decide +kernel
theorem dX4_readMan_109 : decode cX4_readMan 109 = .ok (.aload_n 0, 1) := by decide +kernel
theorem dX4_readMan_110 : decode cX4_readMan 110 = .ok (.getfield 35, 3) := by decide +kernel
theorem dX4_readMan_113 : decode cX4_readMan 113 = .ok (.getfield 168, 3) := by decide +kernel
theorem dX4_readMan_116 : decode cX4_readMan 116 = .ok (.aload_n 0, 1) := by decide +kernel
theorem dX4_readMan_117 : decode cX4_readMan 117 = .ok (.getfield 35, 3) := by decide +kernel
theorem dX4_readMan_120 : decode cX4_readMan 120 = .ok (.getfield 155, 3) := by decide +kernel
theorem dX4_readMan_123 : decode cX4_readMan 123 = .ok (.aload_n 0, 1) := by decide +kernel
theorem dX4_readMan_124 : decode cX4_readMan 124 = .ok (.invokevirtual 118, 3) := by decide +kernel
theorem dX4_readMan_127 : decode cX4_readMan 127 = .ok (.l2i, 1) := by decide +kernel
theorem dX4_readMan_128 : decode cX4_readMan 128 = .ok (.invokestatic 172, 3) := by decide +kernel
theorem dX4_readMan_131 : decode cX4_readMan 131 = .ok (.putfield 168, 3) := by decide +kernel
theorem dX4_readMan_134 : decode cX4_readMan 134 = .ok (.aload_n 0, 1) := by decide +kernel
theorem dX4_readMan_135 : decode cX4_readMan 135 = .ok (.iconst 4, 1) := by decide +kernel
theorem dX4_readMan_136 : decode cX4_readMan 136 = .ok (.invokevirtual 114, 3) := by decide +kernel
theorem dX4_readMan_139 : decode cX4_readMan 139 = .ok (.pop, 1) := by decide +kernel
theorem dX4_readMan_140 : decode cX4_readMan 140 = .ok (.aload_n 0, 1) := by decide +kernel
theorem dX4_readMan_141 : decode cX4_readMan 141 = .ok (.getfield 35, 3) := by decide +kernel
theorem dX4_readMan_144 : decode cX4_readMan 144 = .ok (.dup, 1) := by decide +kernel
theorem dX4_readMan_145 : decode cX4_readMan 145 = .ok (.getfield 155, 3) := by decide +kernel
theorem dX4_readMan_148 : decode cX4_readMan 148 = .ok (.iconst 1, 1) := by decide +kernel
theorem dX4_readMan_149 : decode cX4_readMan 149 = .ok (.iadd, 1) := by decide +kernel
theorem dX4_readMan_150 : decode cX4_readMan 150 = .ok (.putfield 155, 3) := by decide +kernel
theorem dX4_readMan_153 : decode cX4_readMan 153 = .ok (.return_, 1) := by decide +kernel
set_option maxHeartbeats 4000000 in
set_option maxRecDepth 100000 in
theorem w_X4_readMan_134 {X : CX} {T : List Dsc} {R : RM} {c e : Nat} {n1 n2 : Nat} {m : M2} {r : M2} (hX : XR X 3 n1 n2) (hG : Geo T R c e) (hf : f_X4_readMan_134 e m = some r) (hk : FnV X cX4_readMan RX4 1 T n1 n2 (mk r R)) : Wp X cX4_readMan RX4 1 T (mk m R) n1 n2 134 [(0, .ref 14)] [] := by
  unfold f_X4_readMan_134 at hf
  refine Wp.aload_n (pc := 134) 0 rfl rfl dX4_readMan_134 ?_
  refine Wp.iconst (pc := 135) (4 : Int32) (by decide) dX4_readMan_135 ?_
  obtain ⟨c1, h2, hf⟩ := bnd hf
  refine Wp.callVi (pc := 136) (st := []) (as := [.int (4 : Int32)]) (c_X4_take hG h2) ml_RX4_114 mv_X4_take mb_X4_take hX (Nat.le_of_ble_eq_true rfl) (by decide) rfl (hG.t 14 rfl) rfl (by simp) dX4_readMan_136 rfl ?_
  refine Wp.pop (pc := 139) rfl dX4_readMan_139 ?_
  refine Wp.aload_n (pc := 140) 0 rfl rfl dX4_readMan_140 ?_
  refine Wp.getR2 (pc := 141) hG.r3 (hG.t 14 rfl) fk_RX4_35 rfl dX4_readMan_141 ?_
  refine Wp.dup (pc := 144) rfl dX4_readMan_144 ?_
  refine Wp.getI2 (pc := 145) (hG.tt hG.he) fk_RX4_155 rfl dX4_readMan_145 ?_
  refine Wp.iconst (pc := 148) (1 : Int32) (by decide) dX4_readMan_148 ?_
  refine Wp.iadd (pc := 149) dX4_readMan_149 ?_
  obtain ⟨m3, h4, hf⟩ := bnd hf
  refine Wp.ptI2 (pc := 150) h4 (hG.tt hG.he) fk_RX4_155 ff_RX4_6_5 rfl dX4_readMan_150 ?_
  cases hf
  exact hk _ _ dX4_readMan_153
set_option maxHeartbeats 4000000 in
set_option maxRecDepth 100000 in
theorem w_X4_readMan_93 {X : CX} {T : List Dsc} {R : RM} {c e : Nat} {n1 n2 : Nat} {m : M2} {r : M2} (hX : XR X 3 n1 n2) (hG : Geo T R c e) (hf : f_X4_readMan_93 e m = some r) (hk : FnV X cX4_readMan RX4 1 T n1 n2 (mk r R)) : Wp X cX4_readMan RX4 1 T (mk m R) n1 n2 93 [(0, .ref 14)] [] := by
  unfold f_X4_readMan_93 at hf
  refine Wp.aload_n (pc := 93) 0 rfl rfl dX4_readMan_93 ?_
  refine Wp.iconst (pc := 94) (3 : Int32) (by decide) dX4_readMan_94 ?_
  obtain ⟨c1, h2, hf⟩ := bnd hf
  refine Wp.callVi (pc := 95) (st := []) (as := [.int (3 : Int32)]) (c_X4_take hG h2) ml_RX4_114 mv_X4_take mb_X4_take hX (Nat.le_of_ble_eq_true rfl) (by decide) rfl (hG.t 14 rfl) rfl (by simp) dX4_readMan_95 rfl ?_
  refine Wp.if_eq (pc := 98) 134 dX4_readMan_98 (by decide) (fun hc3 => ?_) (fun hc3 => ?_)
  · rw [if_pos hc3] at hf
    exact w_X4_readMan_134 hX hG hf hk
  · rw [if_neg hc3] at hf
    refine Wp.aload_n (pc := 101) 0 rfl rfl dX4_readMan_101 ?_
    obtain ⟨c4, h5, hf⟩ := bnd hf
    refine Wp.callVv (pc := 102) (st := []) (as := []) (c_X4_noteBeyond hG h5) ml_RX4_165 mv_X4_noteBeyond mb_X4_noteBeyond hX (Nat.le_of_ble_eq_true rfl) (by decide) rfl (hG.t 14 rfl) rfl (by simp) dX4_readMan_102 rfl ?_
    refine Wp.aload_n (pc := 105) 0 rfl rfl dX4_readMan_105 ?_
    refine Wp.getR2 (pc := 106) hG.r3 (hG.t 14 rfl) fk_RX4_35 rfl dX4_readMan_106 ?_
    refine Wp.aload_n (pc := 109) 0 rfl rfl dX4_readMan_109 ?_
    refine Wp.getR2 (pc := 110) hG.r3 (hG.t 14 rfl) fk_RX4_35 rfl dX4_readMan_110 ?_
    refine Wp.getJ2 (pc := 113) (hG.tt hG.he) fk_RX4_168 rfl dX4_readMan_113 ?_
    refine Wp.aload_n (pc := 116) 0 rfl rfl dX4_readMan_116 ?_
    refine Wp.getR2 (pc := 117) hG.r3 (hG.t 14 rfl) fk_RX4_35 rfl dX4_readMan_117 ?_
    refine Wp.getI2 (pc := 120) (hG.tt hG.he) fk_RX4_155 rfl dX4_readMan_120 ?_
    refine Wp.aload_n (pc := 123) 0 rfl rfl dX4_readMan_123 ?_
    obtain ⟨c6, h7, hf⟩ := bnd hf
    refine Wp.callVl (pc := 124) (st := [.int (hI c4 e 5), .long (hJ c4 e 7), .ref e]) (as := []) (c_X4_taken hG h7) ml_RX4_118 mv_X4_taken mb_X4_taken hX (Nat.le_of_ble_eq_true rfl) (by decide) rfl (hG.t 14 rfl) rfl (by simp [Value.category]) dX4_readMan_124 rfl ?_
    refine Wp.l2i (pc := 127) dX4_readMan_127 ?_
    obtain ⟨c8, h9, hf⟩ := bnd hf
    refine Wp.callSNl (pc := 128) (st := [.ref e]) (as := [.long (hJ c4 e 7), .int (hI c4 e 5), .int c6.1.toInt32]) (c_X11_withTime hG h9) ml_RX4_172 ms_X11_withTime mb_X11_withTime hX (Nat.le_of_ble_eq_true rfl) (by decide) rfl (by simp [Value.category]) dX4_readMan_128 rfl ?_
    obtain ⟨m10, h11, hf⟩ := bnd hf
    refine Wp.ptJ2 (pc := 131) h11 (hG.tt hG.he) fk_RX4_168 ff_RX4_6_7 rfl dX4_readMan_131 ?_
    exact w_X4_readMan_134 hX hG hf hk
set_option maxHeartbeats 4000000 in
set_option maxRecDepth 100000 in
theorem w_X4_readMan_38 {X : CX} {T : List Dsc} {R : RM} {c e : Nat} {n1 n2 : Nat} {m : M2} {r : M2} (hX : XR X 3 n1 n2) (hG : Geo T R c e) (hf : f_X4_readMan_38 e m = some r) (hk : FnV X cX4_readMan RX4 1 T n1 n2 (mk r R)) : Wp X cX4_readMan RX4 1 T (mk m R) n1 n2 38 [(0, .ref 14)] [] := by
  unfold f_X4_readMan_38 at hf
  refine Wp.aload_n (pc := 38) 0 rfl rfl dX4_readMan_38 ?_
  refine Wp.iconst (pc := 39) (2 : Int32) (by decide) dX4_readMan_39 ?_
  obtain ⟨c1, h2, hf⟩ := bnd hf
  refine Wp.callVi (pc := 40) (st := []) (as := [.int (2 : Int32)]) (c_X4_take hG h2) ml_RX4_114 mv_X4_take mb_X4_take hX (Nat.le_of_ble_eq_true rfl) (by decide) rfl (hG.t 14 rfl) rfl (by simp) dX4_readMan_40 rfl ?_
  refine Wp.if_eq (pc := 43) 93 dX4_readMan_43 (by decide) (fun hc3 => ?_) (fun hc3 => ?_)
  · rw [if_pos hc3] at hf
    exact w_X4_readMan_93 hX hG hf hk
  · rw [if_neg hc3] at hf
    refine Wp.aload_n (pc := 46) 0 rfl rfl dX4_readMan_46 ?_
    refine Wp.getR2 (pc := 47) hG.r3 (hG.t 14 rfl) fk_RX4_35 rfl dX4_readMan_47 ?_
    refine Wp.getR2 (pc := 50) (hG.tr hG.he 6 3 rfl rfl) (hG.tt hG.he) fk_RX4_158 rfl dX4_readMan_50 ?_
    refine Wp.aload_n (pc := 53) 0 rfl rfl dX4_readMan_53 ?_
    refine Wp.getR2 (pc := 54) hG.r3 (hG.t 14 rfl) fk_RX4_35 rfl dX4_readMan_54 ?_
    refine Wp.getI2 (pc := 57) (hG.tt hG.he) fk_RX4_155 rfl dX4_readMan_57 ?_
    refine Wp.aload_n (pc := 60) 0 rfl rfl dX4_readMan_60 ?_
    refine Wp.aload_n (pc := 61) 0 rfl rfl dX4_readMan_61 ?_
    obtain ⟨c4, h5, hf⟩ := bnd hf
    refine Wp.callVl (pc := 62) (st := [.ref 14, .int (hI c1.2 e 5), .ref (e + 3)]) (as := []) (c_X4_taken hG h5) ml_RX4_118 mv_X4_taken mb_X4_taken hX (Nat.le_of_ble_eq_true rfl) (by decide) rfl (hG.t 14 rfl) rfl (by simp [Value.category]) dX4_readMan_62 rfl ?_
    obtain ⟨c6, h7, hf⟩ := bnd hf
    refine Wp.callVi (pc := 65) (st := [.int (hI c1.2 e 5), .ref (e + 3)]) (as := [.long c4.1]) (c_X4_lawNamed hG h7) ml_RX4_161 mv_X4_lawNamed mb_X4_lawNamed hX (Nat.le_of_ble_eq_true rfl) (by decide) rfl (hG.t 14 rfl) rfl (by simp [Value.category]) dX4_readMan_65 rfl ?_
    obtain ⟨m8, h9, hf⟩ := bnd hf
    refine Wp.iast2 (pc := 68) h9 (hG.ta hG.he 3 12 rfl rfl) dX4_readMan_68 ?_
    refine Wp.aload_n (pc := 69) 0 rfl rfl dX4_readMan_69 ?_
    refine Wp.getR2 (pc := 70) hG.r3 (hG.t 14 rfl) fk_RX4_35 rfl dX4_readMan_70 ?_
    refine Wp.getR2 (pc := 73) (hG.tr hG.he 6 3 rfl rfl) (hG.tt hG.he) fk_RX4_158 rfl dX4_readMan_73 ?_
    refine Wp.aload_n (pc := 76) 0 rfl rfl dX4_readMan_76 ?_
    refine Wp.getR2 (pc := 77) hG.r3 (hG.t 14 rfl) fk_RX4_35 rfl dX4_readMan_77 ?_
    refine Wp.getI2 (pc := 80) (hG.tt hG.he) fk_RX4_155 rfl dX4_readMan_80 ?_
    obtain ⟨v10, h11, hf⟩ := bnd hf
    refine Wp.iald2 (pc := 83) h11 (hG.ta hG.he 3 12 rfl rfl) dX4_readMan_83 ?_
    refine Wp.iconst (pc := 84) (-1 : Int32) (by decide) dX4_readMan_84 ?_
    refine Wp.icmp_ne (pc := 85) 93 dX4_readMan_85 (by decide) (fun hc12 => ?_) (fun hc12 => ?_)
    · rw [if_neg hc12] at hf
      exact w_X4_readMan_93 hX hG hf hk
    · rw [if_pos hc12] at hf
      refine Wp.aload_n (pc := 88) 0 rfl rfl dX4_readMan_88 ?_
      refine Wp.iconst (pc := 89) (4 : Int32) (by decide) dX4_readMan_89 ?_
      obtain ⟨c13, h14, hf⟩ := bnd hf
      refine Wp.callVv (pc := 90) (st := []) (as := [.int (4 : Int32)]) (c_X4_slipAtTaken hG h14) ml_RX4_126 mv_X4_slipAtTaken mb_X4_slipAtTaken hX (Nat.le_of_ble_eq_true rfl) (by decide) rfl (hG.t 14 rfl) rfl (by simp) dX4_readMan_90 rfl ?_
      exact w_X4_readMan_93 hX hG hf hk
set_option maxHeartbeats 4000000 in
set_option maxRecDepth 100000 in
theorem w_X4_readMan {X : CX} {T : List Dsc} {R : RM} {c e : Nat} {n1 n2 : Nat} {m : M2} {r : M2} (hX : XR X 3 n1 n2) (hG : Geo T R c e) (hf : F_X4_readMan e m = some r) (hk : FnV X cX4_readMan RX4 1 T n1 n2 (mk r R)) : Wp X cX4_readMan RX4 1 T (mk m R) n1 n2 0 [(0, .ref 14)] [] := by
  unfold F_X4_readMan at hf
  refine Wp.aload_n (pc := 0) 0 rfl rfl dX4_readMan_0 ?_
  refine Wp.getR2 (pc := 1) hG.r3 (hG.t 14 rfl) fk_RX4_35 rfl dX4_readMan_1 ?_
  refine Wp.getI2 (pc := 4) (hG.tt hG.he) fk_RX4_155 rfl dX4_readMan_4 ?_
  refine Wp.bipush (pc := 7) (12 : Int32) (by decide) dX4_readMan_7 ?_
  refine Wp.icmp_lt (pc := 9) 18 dX4_readMan_9 (by decide) (fun hc1 => ?_) (fun hc1 => ?_)
  · rw [if_pos hc1] at hf
    refine Wp.aload_n (pc := 18) 0 rfl rfl dX4_readMan_18 ?_
    refine Wp.bipush (pc := 19) (19 : Int32) (by decide) dX4_readMan_19 ?_
    obtain ⟨c2, h3, hf⟩ := bnd hf
    refine Wp.callVi (pc := 21) (st := []) (as := [.int (19 : Int32)]) (c_X4_take hG h3) ml_RX4_114 mv_X4_take mb_X4_take hX (Nat.le_of_ble_eq_true rfl) (by decide) rfl (hG.t 14 rfl) rfl (by simp) dX4_readMan_21 rfl ?_
    refine Wp.pop (pc := 24) rfl dX4_readMan_24 ?_
    refine Wp.aload_n (pc := 25) 0 rfl rfl dX4_readMan_25 ?_
    refine Wp.iconst (pc := 26) (2 : Int32) (by decide) dX4_readMan_26 ?_
    obtain ⟨c4, h5, hf⟩ := bnd hf
    refine Wp.callVi (pc := 27) (st := []) (as := [.int (2 : Int32)]) (c_X4_take hG h5) ml_RX4_114 mv_X4_take mb_X4_take hX (Nat.le_of_ble_eq_true rfl) (by decide) rfl (hG.t 14 rfl) rfl (by simp) dX4_readMan_27 rfl ?_
    refine Wp.if_eq (pc := 30) 38 dX4_readMan_30 (by decide) (fun hc6 => ?_) (fun hc6 => ?_)
    · rw [if_pos hc6] at hf
      exact w_X4_readMan_38 hX hG hf hk
    · rw [if_neg hc6] at hf
      refine Wp.aload_n (pc := 33) 0 rfl rfl dX4_readMan_33 ?_
      refine Wp.iconst (pc := 34) (-1 : Int32) (by decide) dX4_readMan_34 ?_
      obtain ⟨c7, h8, hf⟩ := bnd hf
      refine Wp.callVv (pc := 35) (st := []) (as := [.int (-1 : Int32)]) (c_X4_noteName hG h8) ml_RX4_132 mv_X4_noteName mb_X4_noteName hX (Nat.le_of_ble_eq_true rfl) (by decide) rfl (hG.t 14 rfl) rfl (by simp) dX4_readMan_35 rfl ?_
      exact w_X4_readMan_38 hX hG hf hk
  · rw [if_neg hc1] at hf
    refine Wp.aload_n (pc := 12) 0 rfl rfl dX4_readMan_12 ?_
    refine Wp.iconst (pc := 13) (2 : Int32) (by decide) dX4_readMan_13 ?_
    obtain ⟨c9, h10, hf⟩ := bnd hf
    refine Wp.callVv (pc := 14) (st := []) (as := [.int (2 : Int32)]) (c_X4_fail hG h10) ml_RX4_67 mv_X4_fail mb_X4_fail hX (Nat.le_of_ble_eq_true rfl) (by decide) rfl (hG.t 14 rfl) rfl (by simp) dX4_readMan_14 rfl ?_
    cases hf
    exact hk _ _ dX4_readMan_17
theorem c_X4_readMan {T : List Dsc} {R : RM} {c e : Nat} {m : M2} {r : M2} (hG : Geo T R c e) (hf : F_X4_readMan e m = some r) : Ct 3 yX4_readMan cX4_readMan 1 none T (mk m R) [.ref 14] none (mk r R) := Ct.ofV (r := mk r R) (by decide +kernel) (Nat.le_of_ble_eq_true rfl) (fun X hX hk => w_X4_readMan hX hG hf hk)
theorem dX4_readDrum_0 : decode cX4_readDrum 0 = .ok (.aload_n 0, 1) := by decide +kernel
theorem dX4_readDrum_1 : decode cX4_readDrum 1 = .ok (.bipush 31, 2) := by decide +kernel
theorem dX4_readDrum_3 : decode cX4_readDrum 3 = .ok (.invokevirtual 114, 3) := by decide +kernel
theorem dX4_readDrum_6 : decode cX4_readDrum 6 = .ok (.pop, 1) := by decide +kernel
theorem dX4_readDrum_7 : decode cX4_readDrum 7 = .ok (.aload_n 0, 1) := by decide +kernel
theorem dX4_readDrum_8 : decode cX4_readDrum 8 = .ok (.iconst 3, 1) := by decide +kernel
theorem dX4_readDrum_9 : decode cX4_readDrum 9 = .ok (.invokevirtual 114, 3) := by decide +kernel
theorem dX4_readDrum_12 : decode cX4_readDrum 12 = .ok (.ifCond .eq 19, 3) := by decide +kernel
theorem dX4_readDrum_15 : decode cX4_readDrum 15 = .ok (.aload_n 0, 1) := by decide +kernel
theorem dX4_readDrum_16 : decode cX4_readDrum 16 = .ok (.invokevirtual 165, 3) := by decide +kernel
theorem dX4_readDrum_19 : decode cX4_readDrum 19 = .ok (.aload_n 0, 1) := by decide +kernel
theorem dX4_readDrum_20 : decode cX4_readDrum 20 = .ok (.getfield 35, 3) := by decide +kernel
theorem dX4_readDrum_23 : decode cX4_readDrum 23 = .ok (.aload_n 0, 1) := by decide +kernel
theorem dX4_readDrum_24 : decode cX4_readDrum 24 = .ok (.invokevirtual 118, 3) := by decide +kernel
theorem dX4_readDrum_27 : decode cX4_readDrum 27 = .ok (.l2i, 1) := by decide +kernel
theorem dX4_readDrum_28 : decode cX4_readDrum 28 = .ok (.putfield 176, 3) := by decide +kernel
theorem dX4_readDrum_31 : decode cX4_readDrum 31 = .ok (.aload_n 0, 1) := by decide +kernel
theorem dX4_readDrum_32 : decode cX4_readDrum 32 = .ok (.iconst 3, 1) := by decide +kernel
theorem dX4_readDrum_33 : decode cX4_readDrum 33 = .ok (.invokevirtual 114, 3) := by decide +kernel
theorem dX4_readDrum_36 : decode cX4_readDrum 36 = .ok (.ifCond .eq 31, 3) := by decide +kernel
theorem dX4_readDrum_39 : decode cX4_readDrum 39 = .ok (.aload_n 0, 1) := by decide +kernel
theorem dX4_readDrum_40 : decode cX4_readDrum 40 = .ok (.invokevirtual 118, 3) := by decide +kernel
theorem dX4_readDrum_43 : decode cX4_readDrum 43 = .ok (.ldc2_w 179, 3) := by decide +kernel
theorem dX4_readDrum_46 : decode cX4_readDrum 46 = .ok (.lcmp, 1) := by decide +kernel
theorem dX4_readDrum_47 : decode cX4_readDrum 47 = .ok (.ifCond .le 8, 3) := by decide +kernel
theorem dX4_readDrum_50 : decode cX4_readDrum 50 = .ok (.aload_n 0, 1) := by decide +kernel
theorem dX4_readDrum_51 : decode cX4_readDrum 51 = .ok (.iconst 5, 1) := by decide +kernel
theorem dX4_readDrum_52 : decode cX4_readDrum 52 = .ok (.invokevirtual 126, 3) := by decide +kernel
theorem dX4_readDrum_55 : decode cX4_readDrum 55 = .ok (.aload_n 0, 1) := by decide +kernel
theorem dX4_readDrum_56 : decode cX4_readDrum 56 = .ok (.getfield 35, 3) := by decide +kernel
theorem dX4_readDrum_59 : decode cX4_readDrum 59 = .ok (.aload_n 0, 1) := by decide +kernel
theorem dX4_readDrum_60 : decode cX4_readDrum 60 = .ok (.invokevirtual 118, 3) := by decide +kernel
theorem dX4_readDrum_63 : decode cX4_readDrum 63 = .ok (.l2i, 1) := by decide +kernel
theorem dX4_readDrum_64 : decode cX4_readDrum 64 = .ok (.putfield 181, 3) := by decide +kernel
theorem dX4_readDrum_67 : decode cX4_readDrum 67 = .ok (.aload_n 0, 1) := by decide +kernel
theorem dX4_readDrum_68 : decode cX4_readDrum 68 = .ok (.iconst 4, 1) := by decide +kernel
theorem dX4_readDrum_69 : decode cX4_readDrum 69 = .ok (.invokevirtual 114, 3) := by decide +kernel
theorem dX4_readDrum_72 : decode cX4_readDrum 72 = .ok (.pop, 1) := by decide +kernel
theorem dX4_readDrum_73 : decode cX4_readDrum 73 = .ok (.return_, 1) := by decide +kernel
set_option maxHeartbeats 4000000 in
set_option maxRecDepth 100000 in
theorem w_X4_readDrum_67 {X : CX} {T : List Dsc} {R : RM} {c e : Nat} {n1 n2 : Nat} {m : M2} {r : M2} (hX : XR X 3 n1 n2) (hG : Geo T R c e) (hf : f_X4_readDrum_67 e m = some r) (hk : FnV X cX4_readDrum RX4 1 T n1 n2 (mk r R)) : Wp X cX4_readDrum RX4 1 T (mk m R) n1 n2 67 [(0, .ref 14)] [] := by
  unfold f_X4_readDrum_67 at hf
  refine Wp.aload_n (pc := 67) 0 rfl rfl dX4_readDrum_67 ?_
  refine Wp.iconst (pc := 68) (4 : Int32) (by decide) dX4_readDrum_68 ?_
  obtain ⟨c1, h2, hf⟩ := bnd hf
  refine Wp.callVi (pc := 69) (st := []) (as := [.int (4 : Int32)]) (c_X4_take hG h2) ml_RX4_114 mv_X4_take mb_X4_take hX (Nat.le_of_ble_eq_true rfl) (by decide) rfl (hG.t 14 rfl) rfl (by simp) dX4_readDrum_69 rfl ?_
  refine Wp.pop (pc := 72) rfl dX4_readDrum_72 ?_
  cases hf
  exact hk _ _ dX4_readDrum_73
set_option maxHeartbeats 4000000 in
set_option maxRecDepth 100000 in
theorem w_X4_readDrum_55 {X : CX} {T : List Dsc} {R : RM} {c e : Nat} {n1 n2 : Nat} {m : M2} {r : M2} (hX : XR X 3 n1 n2) (hG : Geo T R c e) (hf : f_X4_readDrum_55 e m = some r) (hk : FnV X cX4_readDrum RX4 1 T n1 n2 (mk r R)) : Wp X cX4_readDrum RX4 1 T (mk m R) n1 n2 55 [(0, .ref 14)] [] := by
  unfold f_X4_readDrum_55 at hf
  refine Wp.aload_n (pc := 55) 0 rfl rfl dX4_readDrum_55 ?_
  refine Wp.getR2 (pc := 56) hG.r3 (hG.t 14 rfl) fk_RX4_35 rfl dX4_readDrum_56 ?_
  refine Wp.aload_n (pc := 59) 0 rfl rfl dX4_readDrum_59 ?_
  obtain ⟨c1, h2, hf⟩ := bnd hf
  refine Wp.callVl (pc := 60) (st := [.ref e]) (as := []) (c_X4_taken hG h2) ml_RX4_118 mv_X4_taken mb_X4_taken hX (Nat.le_of_ble_eq_true rfl) (by decide) rfl (hG.t 14 rfl) rfl (by simp [Value.category]) dX4_readDrum_60 rfl ?_
  refine Wp.l2i (pc := 63) dX4_readDrum_63 ?_
  obtain ⟨m3, h4, hf⟩ := bnd hf
  refine Wp.ptI2 (pc := 64) h4 (hG.tt hG.he) fk_RX4_181 ff_RX4_6_9 rfl dX4_readDrum_64 ?_
  exact w_X4_readDrum_67 hX hG hf hk
set_option maxHeartbeats 4000000 in
set_option maxRecDepth 100000 in
theorem w_X4_readDrum_31 {X : CX} {T : List Dsc} {R : RM} {c e : Nat} {n1 n2 : Nat} {m : M2} {r : M2} (hX : XR X 3 n1 n2) (hG : Geo T R c e) (hf : f_X4_readDrum_31 e m = some r) (hk : FnV X cX4_readDrum RX4 1 T n1 n2 (mk r R)) : Wp X cX4_readDrum RX4 1 T (mk m R) n1 n2 31 [(0, .ref 14)] [] := by
  unfold f_X4_readDrum_31 at hf
  refine Wp.aload_n (pc := 31) 0 rfl rfl dX4_readDrum_31 ?_
  refine Wp.iconst (pc := 32) (3 : Int32) (by decide) dX4_readDrum_32 ?_
  obtain ⟨c1, h2, hf⟩ := bnd hf
  refine Wp.callVi (pc := 33) (st := []) (as := [.int (3 : Int32)]) (c_X4_take hG h2) ml_RX4_114 mv_X4_take mb_X4_take hX (Nat.le_of_ble_eq_true rfl) (by decide) rfl (hG.t 14 rfl) rfl (by simp) dX4_readDrum_33 rfl ?_
  refine Wp.if_eq (pc := 36) 67 dX4_readDrum_36 (by decide) (fun hc3 => ?_) (fun hc3 => ?_)
  · rw [if_pos hc3] at hf
    exact w_X4_readDrum_67 hX hG hf hk
  · rw [if_neg hc3] at hf
    refine Wp.aload_n (pc := 39) 0 rfl rfl dX4_readDrum_39 ?_
    obtain ⟨c4, h5, hf⟩ := bnd hf
    refine Wp.callVl (pc := 40) (st := []) (as := []) (c_X4_taken hG h5) ml_RX4_118 mv_X4_taken mb_X4_taken hX (Nat.le_of_ble_eq_true rfl) (by decide) rfl (hG.t 14 rfl) rfl (by simp) dX4_readDrum_40 rfl ?_
    refine Wp.ldc2 (pc := 43) (v := (23 : Int64)) (gw_tb 641 (by decide +kernel) rfl) dX4_readDrum_43 ?_
    refine Wp.lcmp (pc := 46) dX4_readDrum_46 ?_
    refine Wp.if_le (pc := 47) 55 dX4_readDrum_47 (by decide) (fun hc6 => ?_) (fun hc6 => ?_)
    · rw [if_pos hc6] at hf
      exact w_X4_readDrum_55 hX hG hf hk
    · rw [if_neg hc6] at hf
      refine Wp.aload_n (pc := 50) 0 rfl rfl dX4_readDrum_50 ?_
      refine Wp.iconst (pc := 51) (5 : Int32) (by decide) dX4_readDrum_51 ?_
      obtain ⟨c7, h8, hf⟩ := bnd hf
      refine Wp.callVv (pc := 52) (st := []) (as := [.int (5 : Int32)]) (c_X4_slipAtTaken hG h8) ml_RX4_126 mv_X4_slipAtTaken mb_X4_slipAtTaken hX (Nat.le_of_ble_eq_true rfl) (by decide) rfl (hG.t 14 rfl) rfl (by simp) dX4_readDrum_52 rfl ?_
      exact w_X4_readDrum_55 hX hG hf hk
set_option maxHeartbeats 4000000 in
set_option maxRecDepth 100000 in
theorem w_X4_readDrum {X : CX} {T : List Dsc} {R : RM} {c e : Nat} {n1 n2 : Nat} {m : M2} {r : M2} (hX : XR X 3 n1 n2) (hG : Geo T R c e) (hf : F_X4_readDrum e m = some r) (hk : FnV X cX4_readDrum RX4 1 T n1 n2 (mk r R)) : Wp X cX4_readDrum RX4 1 T (mk m R) n1 n2 0 [(0, .ref 14)] [] := by
  unfold F_X4_readDrum at hf
  refine Wp.aload_n (pc := 0) 0 rfl rfl dX4_readDrum_0 ?_
  refine Wp.bipush (pc := 1) (31 : Int32) (by decide) dX4_readDrum_1 ?_
  obtain ⟨c1, h2, hf⟩ := bnd hf
  refine Wp.callVi (pc := 3) (st := []) (as := [.int (31 : Int32)]) (c_X4_take hG h2) ml_RX4_114 mv_X4_take mb_X4_take hX (Nat.le_of_ble_eq_true rfl) (by decide) rfl (hG.t 14 rfl) rfl (by simp) dX4_readDrum_3 rfl ?_
  refine Wp.pop (pc := 6) rfl dX4_readDrum_6 ?_
  refine Wp.aload_n (pc := 7) 0 rfl rfl dX4_readDrum_7 ?_
  refine Wp.iconst (pc := 8) (3 : Int32) (by decide) dX4_readDrum_8 ?_
  obtain ⟨c3, h4, hf⟩ := bnd hf
  refine Wp.callVi (pc := 9) (st := []) (as := [.int (3 : Int32)]) (c_X4_take hG h4) ml_RX4_114 mv_X4_take mb_X4_take hX (Nat.le_of_ble_eq_true rfl) (by decide) rfl (hG.t 14 rfl) rfl (by simp) dX4_readDrum_9 rfl ?_
  refine Wp.if_eq (pc := 12) 31 dX4_readDrum_12 (by decide) (fun hc5 => ?_) (fun hc5 => ?_)
  · rw [if_pos hc5] at hf
    exact w_X4_readDrum_31 hX hG hf hk
  · rw [if_neg hc5] at hf
    refine Wp.aload_n (pc := 15) 0 rfl rfl dX4_readDrum_15 ?_
    obtain ⟨c6, h7, hf⟩ := bnd hf
    refine Wp.callVv (pc := 16) (st := []) (as := []) (c_X4_noteBeyond hG h7) ml_RX4_165 mv_X4_noteBeyond mb_X4_noteBeyond hX (Nat.le_of_ble_eq_true rfl) (by decide) rfl (hG.t 14 rfl) rfl (by simp) dX4_readDrum_16 rfl ?_
    refine Wp.aload_n (pc := 19) 0 rfl rfl dX4_readDrum_19 ?_
    refine Wp.getR2 (pc := 20) hG.r3 (hG.t 14 rfl) fk_RX4_35 rfl dX4_readDrum_20 ?_
    refine Wp.aload_n (pc := 23) 0 rfl rfl dX4_readDrum_23 ?_
    obtain ⟨c8, h9, hf⟩ := bnd hf
    refine Wp.callVl (pc := 24) (st := [.ref e]) (as := []) (c_X4_taken hG h9) ml_RX4_118 mv_X4_taken mb_X4_taken hX (Nat.le_of_ble_eq_true rfl) (by decide) rfl (hG.t 14 rfl) rfl (by simp [Value.category]) dX4_readDrum_24 rfl ?_
    refine Wp.l2i (pc := 27) dX4_readDrum_27 ?_
    obtain ⟨m10, h11, hf⟩ := bnd hf
    refine Wp.ptI2 (pc := 28) h11 (hG.tt hG.he) fk_RX4_176 ff_RX4_6_8 rfl dX4_readDrum_28 ?_
    exact w_X4_readDrum_31 hX hG hf hk
theorem c_X4_readDrum {T : List Dsc} {R : RM} {c e : Nat} {m : M2} {r : M2} (hG : Geo T R c e) (hf : F_X4_readDrum e m = some r) : Ct 3 yX4_readDrum cX4_readDrum 1 none T (mk m R) [.ref 14] none (mk r R) := Ct.ofV (r := mk r R) (by decide +kernel) (Nat.le_of_ble_eq_true rfl) (fun X hX hk => w_X4_readDrum hX hG hf hk)
theorem dX4_readSong_0 : decode cX4_readSong 0 = .ok (.aload_n 0, 1) := by decide +kernel
theorem dX4_readSong_1 : decode cX4_readSong 1 = .ok (.bipush 33, 2) := by decide +kernel
theorem dX4_readSong_3 : decode cX4_readSong 3 = .ok (.invokevirtual 114, 3) := by decide +kernel
theorem dX4_readSong_6 : decode cX4_readSong 6 = .ok (.pop, 1) := by decide +kernel
theorem dX4_readSong_7 : decode cX4_readSong 7 = .ok (.aload_n 0, 1) := by decide +kernel
theorem dX4_readSong_8 : decode cX4_readSong 8 = .ok (.iconst 3, 1) := by decide +kernel
theorem dX4_readSong_9 : decode cX4_readSong 9 = .ok (.invokevirtual 114, 3) := by decide +kernel
theorem dX4_readSong_12 : decode cX4_readSong 12 = .ok (.ifCond .eq 19, 3) := by decide +kernel
theorem dX4_readSong_15 : decode cX4_readSong 15 = .ok (.aload_n 0, 1) := by decide +kernel
theorem dX4_readSong_16 : decode cX4_readSong 16 = .ok (.invokevirtual 165, 3) := by decide +kernel
theorem dX4_readSong_19 : decode cX4_readSong 19 = .ok (.aload_n 0, 1) := by decide +kernel
theorem dX4_readSong_20 : decode cX4_readSong 20 = .ok (.getfield 35, 3) := by decide +kernel
theorem dX4_readSong_23 : decode cX4_readSong 23 = .ok (.aload_n 0, 1) := by decide +kernel
theorem dX4_readSong_24 : decode cX4_readSong 24 = .ok (.invokevirtual 118, 3) := by decide +kernel
theorem dX4_readSong_27 : decode cX4_readSong 27 = .ok (.l2i, 1) := by decide +kernel
theorem dX4_readSong_28 : decode cX4_readSong 28 = .ok (.putfield 184, 3) := by decide +kernel
theorem dX4_readSong_31 : decode cX4_readSong 31 = .ok (.aload_n 0, 1) := by decide +kernel
theorem dX4_readSong_32 : decode cX4_readSong 32 = .ok (.iconst 4, 1) := by decide +kernel
theorem dX4_readSong_33 : decode cX4_readSong 33 = .ok (.invokevirtual 114, 3) := by decide +kernel
theorem dX4_readSong_36 : decode cX4_readSong 36 = .ok (.pop, 1) := by decide +kernel
theorem dX4_readSong_37 : decode cX4_readSong 37 = .ok (.return_, 1) := by decide +kernel
set_option maxHeartbeats 4000000 in
set_option maxRecDepth 100000 in
theorem w_X4_readSong_31 {X : CX} {T : List Dsc} {R : RM} {c e : Nat} {n1 n2 : Nat} {m : M2} {r : M2} (hX : XR X 3 n1 n2) (hG : Geo T R c e) (hf : f_X4_readSong_31 e m = some r) (hk : FnV X cX4_readSong RX4 1 T n1 n2 (mk r R)) : Wp X cX4_readSong RX4 1 T (mk m R) n1 n2 31 [(0, .ref 14)] [] := by
  unfold f_X4_readSong_31 at hf
  refine Wp.aload_n (pc := 31) 0 rfl rfl dX4_readSong_31 ?_
  refine Wp.iconst (pc := 32) (4 : Int32) (by decide) dX4_readSong_32 ?_
  obtain ⟨c1, h2, hf⟩ := bnd hf
  refine Wp.callVi (pc := 33) (st := []) (as := [.int (4 : Int32)]) (c_X4_take hG h2) ml_RX4_114 mv_X4_take mb_X4_take hX (Nat.le_of_ble_eq_true rfl) (by decide) rfl (hG.t 14 rfl) rfl (by simp) dX4_readSong_33 rfl ?_
  refine Wp.pop (pc := 36) rfl dX4_readSong_36 ?_
  cases hf
  exact hk _ _ dX4_readSong_37
set_option maxHeartbeats 4000000 in
set_option maxRecDepth 100000 in
theorem w_X4_readSong {X : CX} {T : List Dsc} {R : RM} {c e : Nat} {n1 n2 : Nat} {m : M2} {r : M2} (hX : XR X 3 n1 n2) (hG : Geo T R c e) (hf : F_X4_readSong e m = some r) (hk : FnV X cX4_readSong RX4 1 T n1 n2 (mk r R)) : Wp X cX4_readSong RX4 1 T (mk m R) n1 n2 0 [(0, .ref 14)] [] := by
  unfold F_X4_readSong at hf
  refine Wp.aload_n (pc := 0) 0 rfl rfl dX4_readSong_0 ?_
  refine Wp.bipush (pc := 1) (33 : Int32) (by decide) dX4_readSong_1 ?_
  obtain ⟨c1, h2, hf⟩ := bnd hf
  refine Wp.callVi (pc := 3) (st := []) (as := [.int (33 : Int32)]) (c_X4_take hG h2) ml_RX4_114 mv_X4_take mb_X4_take hX (Nat.le_of_ble_eq_true rfl) (by decide) rfl (hG.t 14 rfl) rfl (by simp) dX4_readSong_3 rfl ?_
  refine Wp.pop (pc := 6) rfl dX4_readSong_6 ?_
  refine Wp.aload_n (pc := 7) 0 rfl rfl dX4_readSong_7 ?_
  refine Wp.iconst (pc := 8) (3 : Int32) (by decide) dX4_readSong_8 ?_
  obtain ⟨c3, h4, hf⟩ := bnd hf
  refine Wp.callVi (pc := 9) (st := []) (as := [.int (3 : Int32)]) (c_X4_take hG h4) ml_RX4_114 mv_X4_take mb_X4_take hX (Nat.le_of_ble_eq_true rfl) (by decide) rfl (hG.t 14 rfl) rfl (by simp) dX4_readSong_9 rfl ?_
  refine Wp.if_eq (pc := 12) 31 dX4_readSong_12 (by decide) (fun hc5 => ?_) (fun hc5 => ?_)
  · rw [if_pos hc5] at hf
    exact w_X4_readSong_31 hX hG hf hk
  · rw [if_neg hc5] at hf
    refine Wp.aload_n (pc := 15) 0 rfl rfl dX4_readSong_15 ?_
    obtain ⟨c6, h7, hf⟩ := bnd hf
    refine Wp.callVv (pc := 16) (st := []) (as := []) (c_X4_noteBeyond hG h7) ml_RX4_165 mv_X4_noteBeyond mb_X4_noteBeyond hX (Nat.le_of_ble_eq_true rfl) (by decide) rfl (hG.t 14 rfl) rfl (by simp) dX4_readSong_16 rfl ?_
    refine Wp.aload_n (pc := 19) 0 rfl rfl dX4_readSong_19 ?_
    refine Wp.getR2 (pc := 20) hG.r3 (hG.t 14 rfl) fk_RX4_35 rfl dX4_readSong_20 ?_
    refine Wp.aload_n (pc := 23) 0 rfl rfl dX4_readSong_23 ?_
    obtain ⟨c8, h9, hf⟩ := bnd hf
    refine Wp.callVl (pc := 24) (st := [.ref e]) (as := []) (c_X4_taken hG h9) ml_RX4_118 mv_X4_taken mb_X4_taken hX (Nat.le_of_ble_eq_true rfl) (by decide) rfl (hG.t 14 rfl) rfl (by simp [Value.category]) dX4_readSong_24 rfl ?_
    refine Wp.l2i (pc := 27) dX4_readSong_27 ?_
    obtain ⟨m10, h11, hf⟩ := bnd hf
    refine Wp.ptI2 (pc := 28) h11 (hG.tt hG.he) fk_RX4_184 ff_RX4_6_10 rfl dX4_readSong_28 ?_
    exact w_X4_readSong_31 hX hG hf hk
theorem c_X4_readSong {T : List Dsc} {R : RM} {c e : Nat} {m : M2} {r : M2} (hG : Geo T R c e) (hf : F_X4_readSong e m = some r) : Ct 3 yX4_readSong cX4_readSong 1 none T (mk m R) [.ref 14] none (mk r R) := Ct.ofV (r := mk r R) (by decide +kernel) (Nat.le_of_ble_eq_true rfl) (fun X hX hk => w_X4_readSong hX hG hf hk)
theorem dX4_readFog_0 : decode cX4_readFog 0 = .ok (.aload_n 0, 1) := by decide +kernel
theorem dX4_readFog_1 : decode cX4_readFog 1 = .ok (.getfield 35, 3) := by decide +kernel
theorem dX4_readFog_4 : decode cX4_readFog 4 = .ok (.getfield 187, 3) := by decide +kernel
theorem dX4_readFog_7 : decode cX4_readFog 7 = .ok (.iconst 4, 1) := by decide +kernel
theorem dX4_readFog_8 : decode cX4_readFog 8 = .ok (.if_icmp .lt 9, 3) := by decide +kernel
theorem dX4_readFog_11 : decode cX4_readFog 11 = .ok (.aload_n 0, 1) := by decide +kernel
theorem dX4_readFog_12 : decode cX4_readFog 12 = .ok (.iconst 2, 1) := by decide +kernel
theorem dX4_readFog_13 : decode cX4_readFog 13 = .ok (.invokevirtual 67, 3) := by decide +kernel
theorem dX4_readFog_16 : decode cX4_readFog 16 = .ok (.return_, 1) := by decide +kernel
theorem dX4_readFog_17 : decode cX4_readFog 17 = .ok (.aload_n 0, 1) := by decide +kernel
theorem dX4_readFog_18 : decode cX4_readFog 18 = .ok (.bipush 20, 2) := by decide +kernel
theorem dX4_readFog_20 : decode cX4_readFog 20 = .ok (.invokevirtual 114, 3) := by decide +kernel
theorem dX4_readFog_23 : decode cX4_readFog 23 = .ok (.pop, 1) := by decide +kernel
theorem dX4_readFog_24 : decode cX4_readFog 24 = .ok (.aload_n 0, 1) := by decide +kernel
theorem dX4_readFog_25 : decode cX4_readFog 25 = .ok (.iconst 3, 1) := by decide +kernel
theorem dX4_readFog_26 : decode cX4_readFog 26 = .ok (.invokevirtual 114, 3) := by decide +kernel
theorem dX4_readFog_29 : decode cX4_readFog 29 = .ok (.ifCond .eq 39, 3) := by decide +kernel
theorem dX4_readFog_32 : decode cX4_readFog 32 = .ok (.aload_n 0, 1) := by decide +kernel
theorem dX4_readFog_33 : decode cX4_readFog 33 = .ok (.getfield 35, 3) := by decide +kernel
theorem dX4_readFog_36 : decode cX4_readFog 36 = .ok (.getfield 190, 3) := by decide +kernel
theorem dX4_readFog_39 : decode cX4_readFog 39 = .ok (.aload_n 0, 1) := by decide +kernel
theorem dX4_readFog_40 : decode cX4_readFog 40 = .ok (.getfield 35, 3) := by decide +kernel
theorem dX4_readFog_43 : decode cX4_readFog 43 = .ok (.getfield 187, 3) := by decide +kernel
theorem dX4_readFog_46 : decode cX4_readFog 46 = .ok (.aload_n 0, 1) := by decide +kernel
theorem dX4_readFog_47 : decode cX4_readFog 47 = .ok (.invokevirtual 118, 3) := by decide +kernel
theorem dX4_readFog_50 : decode cX4_readFog 50 = .ok (.l2i, 1) := by decide +kernel
theorem dX4_readFog_51 : decode cX4_readFog 51 = .ok (.iastore, 1) := by decide +kernel
theorem dX4_readFog_52 : decode cX4_readFog 52 = .ok (.aload_n 0, 1) := by decide +kernel
theorem dX4_readFog_53 : decode cX4_readFog 53 = .ok (.invokevirtual 118, 3) := by decide +kernel
theorem dX4_readFog_56 : decode cX4_readFog 56 = .ok (.ldc2_w 193, 3) := by decide +kernel
theorem dX4_readFog_59 : decode cX4_readFog 59 = .ok (.lcmp, 1) := by decide +kernel
theorem dX4_readFog_60 : decode cX4_readFog 60 = .ok (.ifCond .le 8, 3) := by decide +kernel
theorem dX4_readFog_63 : decode cX4_readFog 63 = .ok (.aload_n 0, 1) := by decide +kernel
theorem dX4_readFog_64 : decode cX4_readFog 64 = .ok (.iconst 5, 1) := by decide +kernel
theorem dX4_readFog_65 : decode cX4_readFog 65 = .ok (.invokevirtual 126, 3) := by decide +kernel
theorem dX4_readFog_68 : decode cX4_readFog 68 = .ok (.aload_n 0, 1) := by decide +kernel
theorem dX4_readFog_69 : decode cX4_readFog 69 = .ok (.iconst 3, 1) := by decide +kernel
theorem dX4_readFog_70 : decode cX4_readFog 70 = .ok (.invokevirtual 114, 3) := by decide +kernel
theorem dX4_readFog_73 : decode cX4_readFog 73 = .ok (.ifCond .eq 63, 3) := by decide +kernel
theorem dX4_readFog_76 : decode cX4_readFog 76 = .ok (.aload_n 0, 1) := by decide +kernel
theorem dX4_readFog_77 : decode cX4_readFog 77 = .ok (.getfield 35, 3) := by decide +kernel
theorem dX4_readFog_80 : decode cX4_readFog 80 = .ok (.getfield 195, 3) := by decide +kernel
theorem dX4_readFog_83 : decode cX4_readFog 83 = .ok (.aload_n 0, 1) := by decide +kernel
theorem dX4_readFog_84 : decode cX4_readFog 84 = .ok (.getfield 35, 3) := by decide +kernel
theorem dX4_readFog_87 : decode cX4_readFog 87 = .ok (.getfield 187, 3) := by decide +kernel
theorem dX4_readFog_90 : decode cX4_readFog 90 = .ok (.aload_n 0, 1) := by decide +kernel
theorem dX4_readFog_91 : decode cX4_readFog 91 = .ok (.invokevirtual 118, 3) := by decide +kernel
theorem dX4_readFog_94 : decode cX4_readFog 94 = .ok (.l2i, 1) := by decide +kernel
theorem dX4_readFog_95 : decode cX4_readFog 95 = .ok (.iastore, 1) := by decide +kernel
theorem dX4_readFog_96 : decode cX4_readFog 96 = .ok (.aload_n 0, 1) := by decide +kernel
theorem dX4_readFog_97 : decode cX4_readFog 97 = .ok (.invokevirtual 118, 3) := by decide +kernel
theorem dX4_readFog_100 : decode cX4_readFog 100 = .ok (.ldc2_w 193, 3) := by decide +kernel
theorem dX4_readFog_103 : decode cX4_readFog 103 = .ok (.lcmp, 1) := by decide +kernel
theorem dX4_readFog_104 : decode cX4_readFog 104 = .ok (.ifCond .gt 27, 3) := by decide +kernel
theorem dX4_readFog_107 : decode cX4_readFog 107 = .ok (.aload_n 0, 1) := by decide +kernel
theorem dX4_readFog_108 : decode cX4_readFog 108 = .ok (.invokevirtual 118, 3) := by decide +kernel
theorem dX4_readFog_111 : decode cX4_readFog 111 = .ok (.aload_n 0, 1) := by decide +kernel
theorem dX4_readFog_112 : decode cX4_readFog 112 = .ok (.getfield 35, 3) := by decide +kernel
theorem dX4_readFog_115 : decode cX4_readFog 115 = .ok (.getfield 190, 3) := by decide +kernel
theorem dX4_readFog_118 : decode cX4_readFog 118 = .ok (.aload_n 0, 1) := by decide +kernel
theorem dX4_readFog_119 : decode cX4_readFog 119 = .ok (.getfield 35, 3) := by decide +kernel
theorem dX4_readFog_122 : decode cX4_readFog 122 = .ok (.getfield 187, 3) := by decide +kernel
theorem dX4_readFog_125 : decode cX4_readFog 125 = .ok (.iaload, 1) := by decide +kernel
theorem dX4_readFog_126 : decode cX4_readFog 126 = .ok (.i2l, 1) := by decide +kernel
theorem dX4_readFog_127 : decode cX4_readFog 127 = .ok (.lcmp, 1) := by decide +kernel
theorem dX4_readFog_128 : decode cX4_readFog 128 = .ok (.ifCond .ge 8, 3) := by decide +kernel
theorem dX4_readFog_131 : decode cX4_readFog 131 = .ok (.aload_n 0, 1) := by decide +kernel
theorem dX4_readFog_132 : decode cX4_readFog 132 = .ok (.iconst 5, 1) := by decide +kernel
theorem dX4_readFog_133 : decode cX4_readFog 133 = .ok (.invokevirtual 126, 3) := by decide +kernel
theorem dX4_readFog_136 : decode cX4_readFog 136 = .ok (.aload_n 0, 1) := by decide +kernel
theorem dX4_readFog_137 : decode cX4_readFog 137 = .ok (.iconst 4, 1) := by decide +kernel
theorem dX4_readFog_138 : decode cX4_readFog 138 = .ok (.invokevirtual 114, 3) := by decide +kernel
theorem dX4_readFog_141 : decode cX4_readFog 141 = .ok (.pop, 1) := by decide +kernel
theorem dX4_readFog_142 : decode cX4_readFog 142 = .ok (.aload_n 0, 1) := by decide +kernel
theorem dX4_readFog_143 : decode cX4_readFog 143 = .ok (.getfield 35, 3) := by decide +kernel
theorem dX4_readFog_146 : decode cX4_readFog 146 = .ok (.dup, 1) := by decide +kernel
theorem dX4_readFog_147 : decode cX4_readFog 147 = .ok (.getfield 187, 3) := by decide +kernel
theorem dX4_readFog_150 : decode cX4_readFog 150 = .ok (.iconst 1, 1) := by decide +kernel
theorem dX4_readFog_151 : decode cX4_readFog 151 = .ok (.iadd, 1) := by decide +kernel
theorem dX4_readFog_152 : decode cX4_readFog 152 = .ok (.putfield 187, 3) := by decide +kernel
theorem dX4_readFog_155 : decode cX4_readFog 155 = .ok (.return_, 1) := by decide +kernel
set_option maxHeartbeats 4000000 in
set_option maxRecDepth 100000 in
theorem w_X4_readFog_136 {X : CX} {T : List Dsc} {R : RM} {c e : Nat} {n1 n2 : Nat} {m : M2} {r : M2} (hX : XR X 2 n1 n2) (hG : Geo T R c e) (hf : f_X4_readFog_136 e m = some r) (hk : FnV X cX4_readFog RX4 1 T n1 n2 (mk r R)) : Wp X cX4_readFog RX4 1 T (mk m R) n1 n2 136 [(0, .ref 14)] [] := by
  unfold f_X4_readFog_136 at hf
  refine Wp.aload_n (pc := 136) 0 rfl rfl dX4_readFog_136 ?_
  refine Wp.iconst (pc := 137) (4 : Int32) (by decide) dX4_readFog_137 ?_
  obtain ⟨c1, h2, hf⟩ := bnd hf
  refine Wp.callVi (pc := 138) (st := []) (as := [.int (4 : Int32)]) (c_X4_take hG h2) ml_RX4_114 mv_X4_take mb_X4_take hX (Nat.le_of_ble_eq_true rfl) (by decide) rfl (hG.t 14 rfl) rfl (by simp) dX4_readFog_138 rfl ?_
  refine Wp.pop (pc := 141) rfl dX4_readFog_141 ?_
  refine Wp.aload_n (pc := 142) 0 rfl rfl dX4_readFog_142 ?_
  refine Wp.getR2 (pc := 143) hG.r3 (hG.t 14 rfl) fk_RX4_35 rfl dX4_readFog_143 ?_
  refine Wp.dup (pc := 146) rfl dX4_readFog_146 ?_
  refine Wp.getI2 (pc := 147) (hG.tt hG.he) fk_RX4_187 rfl dX4_readFog_147 ?_
  refine Wp.iconst (pc := 150) (1 : Int32) (by decide) dX4_readFog_150 ?_
  refine Wp.iadd (pc := 151) dX4_readFog_151 ?_
  obtain ⟨m3, h4, hf⟩ := bnd hf
  refine Wp.ptI2 (pc := 152) h4 (hG.tt hG.he) fk_RX4_187 ff_RX4_6_11 rfl dX4_readFog_152 ?_
  cases hf
  exact hk _ _ dX4_readFog_155
set_option maxHeartbeats 4000000 in
set_option maxRecDepth 100000 in
theorem w_X4_readFog_131 {X : CX} {T : List Dsc} {R : RM} {c e : Nat} {n1 n2 : Nat} {m : M2} {r : M2} (hX : XR X 2 n1 n2) (hG : Geo T R c e) (hf : f_X4_readFog_131 e m = some r) (hk : FnV X cX4_readFog RX4 1 T n1 n2 (mk r R)) : Wp X cX4_readFog RX4 1 T (mk m R) n1 n2 131 [(0, .ref 14)] [] := by
  unfold f_X4_readFog_131 at hf
  refine Wp.aload_n (pc := 131) 0 rfl rfl dX4_readFog_131 ?_
  refine Wp.iconst (pc := 132) (5 : Int32) (by decide) dX4_readFog_132 ?_
  obtain ⟨c1, h2, hf⟩ := bnd hf
  refine Wp.callVv (pc := 133) (st := []) (as := [.int (5 : Int32)]) (c_X4_slipAtTaken hG h2) ml_RX4_126 mv_X4_slipAtTaken mb_X4_slipAtTaken hX (Nat.le_of_ble_eq_true rfl) (by decide) rfl (hG.t 14 rfl) rfl (by simp) dX4_readFog_133 rfl ?_
  exact w_X4_readFog_136 hX hG hf hk
set_option maxHeartbeats 4000000 in
set_option maxRecDepth 100000 in
theorem w_X4_readFog_68 {X : CX} {T : List Dsc} {R : RM} {c e : Nat} {n1 n2 : Nat} {m : M2} {r : M2} (hX : XR X 2 n1 n2) (hG : Geo T R c e) (hf : f_X4_readFog_68 e m = some r) (hk : FnV X cX4_readFog RX4 1 T n1 n2 (mk r R)) : Wp X cX4_readFog RX4 1 T (mk m R) n1 n2 68 [(0, .ref 14)] [] := by
  unfold f_X4_readFog_68 at hf
  refine Wp.aload_n (pc := 68) 0 rfl rfl dX4_readFog_68 ?_
  refine Wp.iconst (pc := 69) (3 : Int32) (by decide) dX4_readFog_69 ?_
  obtain ⟨c1, h2, hf⟩ := bnd hf
  refine Wp.callVi (pc := 70) (st := []) (as := [.int (3 : Int32)]) (c_X4_take hG h2) ml_RX4_114 mv_X4_take mb_X4_take hX (Nat.le_of_ble_eq_true rfl) (by decide) rfl (hG.t 14 rfl) rfl (by simp) dX4_readFog_70 rfl ?_
  refine Wp.if_eq (pc := 73) 136 dX4_readFog_73 (by decide) (fun hc3 => ?_) (fun hc3 => ?_)
  · rw [if_pos hc3] at hf
    exact w_X4_readFog_136 hX hG hf hk
  · rw [if_neg hc3] at hf
    refine Wp.aload_n (pc := 76) 0 rfl rfl dX4_readFog_76 ?_
    refine Wp.getR2 (pc := 77) hG.r3 (hG.t 14 rfl) fk_RX4_35 rfl dX4_readFog_77 ?_
    refine Wp.getR2 (pc := 80) (hG.tr hG.he 13 5 rfl rfl) (hG.tt hG.he) fk_RX4_195 rfl dX4_readFog_80 ?_
    refine Wp.aload_n (pc := 83) 0 rfl rfl dX4_readFog_83 ?_
    refine Wp.getR2 (pc := 84) hG.r3 (hG.t 14 rfl) fk_RX4_35 rfl dX4_readFog_84 ?_
    refine Wp.getI2 (pc := 87) (hG.tt hG.he) fk_RX4_187 rfl dX4_readFog_87 ?_
    refine Wp.aload_n (pc := 90) 0 rfl rfl dX4_readFog_90 ?_
    obtain ⟨c4, h5, hf⟩ := bnd hf
    refine Wp.callVl (pc := 91) (st := [.int (hI c1.2 e 11), .ref (e + 5)]) (as := []) (c_X4_taken hG h5) ml_RX4_118 mv_X4_taken mb_X4_taken hX (Nat.le_of_ble_eq_true rfl) (by decide) rfl (hG.t 14 rfl) rfl (by simp [Value.category]) dX4_readFog_91 rfl ?_
    refine Wp.l2i (pc := 94) dX4_readFog_94 ?_
    obtain ⟨m6, h7, hf⟩ := bnd hf
    refine Wp.iast2 (pc := 95) h7 (hG.ta hG.he 5 4 rfl rfl) dX4_readFog_95 ?_
    refine Wp.aload_n (pc := 96) 0 rfl rfl dX4_readFog_96 ?_
    obtain ⟨c8, h9, hf⟩ := bnd hf
    refine Wp.callVl (pc := 97) (st := []) (as := []) (c_X4_taken hG h9) ml_RX4_118 mv_X4_taken mb_X4_taken hX (Nat.le_of_ble_eq_true rfl) (by decide) rfl (hG.t 14 rfl) rfl (by simp) dX4_readFog_97 rfl ?_
    refine Wp.ldc2 (pc := 100) (v := (999 : Int64)) (gw_tb 650 (by decide +kernel) rfl) dX4_readFog_100 ?_
    refine Wp.lcmp (pc := 103) dX4_readFog_103 ?_
    refine Wp.if_gt (pc := 104) 131 dX4_readFog_104 (by decide) (fun hc10 => ?_) (fun hc10 => ?_)
    · rw [if_pos hc10] at hf
      exact w_X4_readFog_131 hX hG hf hk
    · rw [if_neg hc10] at hf
      refine Wp.aload_n (pc := 107) 0 rfl rfl dX4_readFog_107 ?_
      obtain ⟨c11, h12, hf⟩ := bnd hf
      refine Wp.callVl (pc := 108) (st := []) (as := []) (c_X4_taken hG h12) ml_RX4_118 mv_X4_taken mb_X4_taken hX (Nat.le_of_ble_eq_true rfl) (by decide) rfl (hG.t 14 rfl) rfl (by simp) dX4_readFog_108 rfl ?_
      refine Wp.aload_n (pc := 111) 0 rfl rfl dX4_readFog_111 ?_
      refine Wp.getR2 (pc := 112) hG.r3 (hG.t 14 rfl) fk_RX4_35 rfl dX4_readFog_112 ?_
      refine Wp.getR2 (pc := 115) (hG.tr hG.he 12 4 rfl rfl) (hG.tt hG.he) fk_RX4_190 rfl dX4_readFog_115 ?_
      refine Wp.aload_n (pc := 118) 0 rfl rfl dX4_readFog_118 ?_
      refine Wp.getR2 (pc := 119) hG.r3 (hG.t 14 rfl) fk_RX4_35 rfl dX4_readFog_119 ?_
      refine Wp.getI2 (pc := 122) (hG.tt hG.he) fk_RX4_187 rfl dX4_readFog_122 ?_
      obtain ⟨v13, h14, hf⟩ := bnd hf
      refine Wp.iald2 (pc := 125) h14 (hG.ta hG.he 4 4 rfl rfl) dX4_readFog_125 ?_
      refine Wp.i2l (pc := 126) dX4_readFog_126 ?_
      refine Wp.lcmp (pc := 127) dX4_readFog_127 ?_
      refine Wp.if_ge (pc := 128) 136 dX4_readFog_128 (by decide) (fun hc15 => ?_) (fun hc15 => ?_)
      · rw [if_pos hc15] at hf
        exact w_X4_readFog_136 hX hG hf hk
      · rw [if_neg hc15] at hf
        exact w_X4_readFog_131 hX hG hf hk
set_option maxHeartbeats 4000000 in
set_option maxRecDepth 100000 in
theorem w_X4_readFog {X : CX} {T : List Dsc} {R : RM} {c e : Nat} {n1 n2 : Nat} {m : M2} {r : M2} (hX : XR X 2 n1 n2) (hG : Geo T R c e) (hf : F_X4_readFog e m = some r) (hk : FnV X cX4_readFog RX4 1 T n1 n2 (mk r R)) : Wp X cX4_readFog RX4 1 T (mk m R) n1 n2 0 [(0, .ref 14)] [] := by
  unfold F_X4_readFog at hf
  refine Wp.aload_n (pc := 0) 0 rfl rfl dX4_readFog_0 ?_
  refine Wp.getR2 (pc := 1) hG.r3 (hG.t 14 rfl) fk_RX4_35 rfl dX4_readFog_1 ?_
  refine Wp.getI2 (pc := 4) (hG.tt hG.he) fk_RX4_187 rfl dX4_readFog_4 ?_
  refine Wp.iconst (pc := 7) (4 : Int32) (by decide) dX4_readFog_7 ?_
  refine Wp.icmp_lt (pc := 8) 17 dX4_readFog_8 (by decide) (fun hc1 => ?_) (fun hc1 => ?_)
  · rw [if_pos hc1] at hf
    refine Wp.aload_n (pc := 17) 0 rfl rfl dX4_readFog_17 ?_
    refine Wp.bipush (pc := 18) (20 : Int32) (by decide) dX4_readFog_18 ?_
    obtain ⟨c2, h3, hf⟩ := bnd hf
    refine Wp.callVi (pc := 20) (st := []) (as := [.int (20 : Int32)]) (c_X4_take hG h3) ml_RX4_114 mv_X4_take mb_X4_take hX (Nat.le_of_ble_eq_true rfl) (by decide) rfl (hG.t 14 rfl) rfl (by simp) dX4_readFog_20 rfl ?_
    refine Wp.pop (pc := 23) rfl dX4_readFog_23 ?_
    refine Wp.aload_n (pc := 24) 0 rfl rfl dX4_readFog_24 ?_
    refine Wp.iconst (pc := 25) (3 : Int32) (by decide) dX4_readFog_25 ?_
    obtain ⟨c4, h5, hf⟩ := bnd hf
    refine Wp.callVi (pc := 26) (st := []) (as := [.int (3 : Int32)]) (c_X4_take hG h5) ml_RX4_114 mv_X4_take mb_X4_take hX (Nat.le_of_ble_eq_true rfl) (by decide) rfl (hG.t 14 rfl) rfl (by simp) dX4_readFog_26 rfl ?_
    refine Wp.if_eq (pc := 29) 68 dX4_readFog_29 (by decide) (fun hc6 => ?_) (fun hc6 => ?_)
    · rw [if_pos hc6] at hf
      exact w_X4_readFog_68 hX hG hf hk
    · rw [if_neg hc6] at hf
      refine Wp.aload_n (pc := 32) 0 rfl rfl dX4_readFog_32 ?_
      refine Wp.getR2 (pc := 33) hG.r3 (hG.t 14 rfl) fk_RX4_35 rfl dX4_readFog_33 ?_
      refine Wp.getR2 (pc := 36) (hG.tr hG.he 12 4 rfl rfl) (hG.tt hG.he) fk_RX4_190 rfl dX4_readFog_36 ?_
      refine Wp.aload_n (pc := 39) 0 rfl rfl dX4_readFog_39 ?_
      refine Wp.getR2 (pc := 40) hG.r3 (hG.t 14 rfl) fk_RX4_35 rfl dX4_readFog_40 ?_
      refine Wp.getI2 (pc := 43) (hG.tt hG.he) fk_RX4_187 rfl dX4_readFog_43 ?_
      refine Wp.aload_n (pc := 46) 0 rfl rfl dX4_readFog_46 ?_
      obtain ⟨c7, h8, hf⟩ := bnd hf
      refine Wp.callVl (pc := 47) (st := [.int (hI c4.2 e 11), .ref (e + 4)]) (as := []) (c_X4_taken hG h8) ml_RX4_118 mv_X4_taken mb_X4_taken hX (Nat.le_of_ble_eq_true rfl) (by decide) rfl (hG.t 14 rfl) rfl (by simp [Value.category]) dX4_readFog_47 rfl ?_
      refine Wp.l2i (pc := 50) dX4_readFog_50 ?_
      obtain ⟨m9, h10, hf⟩ := bnd hf
      refine Wp.iast2 (pc := 51) h10 (hG.ta hG.he 4 4 rfl rfl) dX4_readFog_51 ?_
      refine Wp.aload_n (pc := 52) 0 rfl rfl dX4_readFog_52 ?_
      obtain ⟨c11, h12, hf⟩ := bnd hf
      refine Wp.callVl (pc := 53) (st := []) (as := []) (c_X4_taken hG h12) ml_RX4_118 mv_X4_taken mb_X4_taken hX (Nat.le_of_ble_eq_true rfl) (by decide) rfl (hG.t 14 rfl) rfl (by simp) dX4_readFog_53 rfl ?_
      refine Wp.ldc2 (pc := 56) (v := (999 : Int64)) (gw_tb 650 (by decide +kernel) rfl) dX4_readFog_56 ?_
      refine Wp.lcmp (pc := 59) dX4_readFog_59 ?_
      refine Wp.if_le (pc := 60) 68 dX4_readFog_60 (by decide) (fun hc13 => ?_) (fun hc13 => ?_)
      · rw [if_pos hc13] at hf
        exact w_X4_readFog_68 hX hG hf hk
      · rw [if_neg hc13] at hf
        refine Wp.aload_n (pc := 63) 0 rfl rfl dX4_readFog_63 ?_
        refine Wp.iconst (pc := 64) (5 : Int32) (by decide) dX4_readFog_64 ?_
        obtain ⟨c14, h15, hf⟩ := bnd hf
        refine Wp.callVv (pc := 65) (st := []) (as := [.int (5 : Int32)]) (c_X4_slipAtTaken hG h15) ml_RX4_126 mv_X4_slipAtTaken mb_X4_slipAtTaken hX (Nat.le_of_ble_eq_true rfl) (by decide) rfl (hG.t 14 rfl) rfl (by simp) dX4_readFog_65 rfl ?_
        exact w_X4_readFog_68 hX hG hf hk
  · rw [if_neg hc1] at hf
    refine Wp.aload_n (pc := 11) 0 rfl rfl dX4_readFog_11 ?_
    refine Wp.iconst (pc := 12) (2 : Int32) (by decide) dX4_readFog_12 ?_
    obtain ⟨c16, h17, hf⟩ := bnd hf
    refine Wp.callVv (pc := 13) (st := []) (as := [.int (2 : Int32)]) (c_X4_fail hG h17) ml_RX4_67 mv_X4_fail mb_X4_fail hX (Nat.le_of_ble_eq_true rfl) (by decide) rfl (hG.t 14 rfl) rfl (by simp) dX4_readFog_13 rfl ?_
    cases hf
    exact hk _ _ dX4_readFog_16
theorem c_X4_readFog {T : List Dsc} {R : RM} {c e : Nat} {m : M2} {r : M2} (hG : Geo T R c e) (hf : F_X4_readFog e m = some r) : Ct 2 yX4_readFog cX4_readFog 1 none T (mk m R) [.ref 14] none (mk r R) := Ct.ofV (r := mk r R) (by decide +kernel) (Nat.le_of_ble_eq_true rfl) (fun X hX hk => w_X4_readFog hX hG hf hk)
theorem dX4_takeLaterFault_0 : decode cX4_takeLaterFault 0 = .ok (.aload_n 0, 1) := by decide +kernel
theorem dX4_takeLaterFault_1 : decode cX4_takeLaterFault 1 = .ok (.getfield 88, 3) := by decide +kernel
theorem dX4_takeLaterFault_4 : decode cX4_takeLaterFault 4 = .ok (.ifCond .eq 22, 3) := by decide +kernel
theorem dX4_takeLaterFault_7 : decode cX4_takeLaterFault 7 = .ok (.aload_n 0, 1) := by decide +kernel
theorem dX4_takeLaterFault_8 : decode cX4_takeLaterFault 8 = .ok (.aload_n 0, 1) := by decide +kernel
theorem dX4_takeLaterFault_9 : decode cX4_takeLaterFault 9 = .ok (.getfield 88, 3) := by decide +kernel
theorem dX4_takeLaterFault_12 : decode cX4_takeLaterFault 12 = .ok (.putfield 43, 3) := by decide +kernel
theorem dX4_takeLaterFault_15 : decode cX4_takeLaterFault 15 = .ok (.aload_n 0, 1) := by decide +kernel
theorem dX4_takeLaterFault_16 : decode cX4_takeLaterFault 16 = .ok (.aload_n 0, 1) := by decide +kernel
theorem dX4_takeLaterFault_17 : decode cX4_takeLaterFault 17 = .ok (.getfield 100, 3) := by decide +kernel
theorem dX4_takeLaterFault_20 : decode cX4_takeLaterFault 20 = .ok (.putfield 9, 3) := by decide +kernel
theorem dX4_takeLaterFault_23 : decode cX4_takeLaterFault 23 = .ok (.goto 41, 3) := by decide +kernel
theorem dX4_takeLaterFault_26 : decode cX4_takeLaterFault 26 = .ok (.aload_n 0, 1) := by decide +kernel
theorem dX4_takeLaterFault_27 : decode cX4_takeLaterFault 27 = .ok (.getfield 15, 3) := by decide +kernel
theorem dX4_takeLaterFault_30 : decode cX4_takeLaterFault 30 = .ok (.aload_n 0, 1) := by decide +kernel
theorem dX4_takeLaterFault_31 : decode cX4_takeLaterFault 31 = .ok (.getfield 35, 3) := by decide +kernel
theorem dX4_takeLaterFault_34 : decode cX4_takeLaterFault 34 = .ok (.getfield 103, 3) := by decide +kernel
theorem dX4_takeLaterFault_37 : decode cX4_takeLaterFault 37 = .ok (.iaload, 1) := by decide +kernel
theorem dX4_takeLaterFault_38 : decode cX4_takeLaterFault 38 = .ok (.iconst (-1), 1) := by decide +kernel
theorem dX4_takeLaterFault_39 : decode cX4_takeLaterFault 39 = .ok (.if_icmp .eq 25, 3) := by decide +kernel
theorem dX4_takeLaterFault_42 : decode cX4_takeLaterFault 42 = .ok (.aload_n 0, 1) := by decide +kernel
theorem dX4_takeLaterFault_43 : decode cX4_takeLaterFault 43 = .ok (.bipush 6, 2) := by decide +kernel
theorem dX4_takeLaterFault_45 : decode cX4_takeLaterFault 45 = .ok (.putfield 43, 3) := by decide +kernel
theorem dX4_takeLaterFault_48 : decode cX4_takeLaterFault 48 = .ok (.aload_n 0, 1) := by decide +kernel
theorem dX4_takeLaterFault_49 : decode cX4_takeLaterFault 49 = .ok (.aload_n 0, 1) := by decide +kernel
theorem dX4_takeLaterFault_50 : decode cX4_takeLaterFault 50 = .ok (.getfield 15, 3) := by decide +kernel
theorem dX4_takeLaterFault_53 : decode cX4_takeLaterFault 53 = .ok (.aload_n 0, 1) := by decide +kernel
theorem dX4_takeLaterFault_54 : decode cX4_takeLaterFault 54 = .ok (.getfield 35, 3) := by decide +kernel
theorem dX4_takeLaterFault_57 : decode cX4_takeLaterFault 57 = .ok (.getfield 103, 3) := by decide +kernel
theorem dX4_takeLaterFault_60 : decode cX4_takeLaterFault 60 = .ok (.iaload, 1) := by decide +kernel
theorem dX4_takeLaterFault_61 : decode cX4_takeLaterFault 61 = .ok (.putfield 9, 3) := by decide +kernel
theorem dX4_takeLaterFault_64 : decode cX4_takeLaterFault 64 = .ok (.return_, 1) := by decide +kernel
set_option maxHeartbeats 4000000 in
set_option maxRecDepth 100000 in
theorem w_X4_takeLaterFault_64 {X : CX} {T : List Dsc} {R : RM} {c e : Nat} {n1 n2 : Nat} {m : M2} {r : M2} (hX : XR X 1 n1 n2) (hG : Geo T R c e) (hf : f_X4_takeLaterFault_64 e m = some r) (hk : FnV X cX4_takeLaterFault RX4 1 T n1 n2 (mk r R)) : Wp X cX4_takeLaterFault RX4 1 T (mk m R) n1 n2 64 [] [] := by
  unfold f_X4_takeLaterFault_64 at hf
  cases hf
  exact hk _ _ dX4_takeLaterFault_64
set_option maxHeartbeats 4000000 in
set_option maxRecDepth 100000 in
theorem w_X4_takeLaterFault {X : CX} {T : List Dsc} {R : RM} {c e : Nat} {n1 n2 : Nat} {m : M2} {r : M2} (hX : XR X 1 n1 n2) (hG : Geo T R c e) (hf : F_X4_takeLaterFault e m = some r) (hk : FnV X cX4_takeLaterFault RX4 1 T n1 n2 (mk r R)) : Wp X cX4_takeLaterFault RX4 1 T (mk m R) n1 n2 0 [(0, .ref 14)] [] := by
  unfold F_X4_takeLaterFault at hf
  refine Wp.aload_n (pc := 0) 0 rfl rfl dX4_takeLaterFault_0 ?_
  refine Wp.getI2 (pc := 1) (hG.t 14 rfl) fk_RX4_88 rfl dX4_takeLaterFault_1 ?_
  refine Wp.if_eq (pc := 4) 26 dX4_takeLaterFault_4 (by decide) (fun hc1 => ?_) (fun hc1 => ?_)
  · rw [if_pos hc1] at hf
    refine Wp.aload_n (pc := 26) 0 rfl rfl dX4_takeLaterFault_26 ?_
    refine Wp.getR2 (pc := 27) (hG.r 14 8 rfl) (hG.t 14 rfl) fk_RX4_15 rfl dX4_takeLaterFault_27 ?_
    refine Wp.aload_n (pc := 30) 0 rfl rfl dX4_takeLaterFault_30 ?_
    refine Wp.getR2 (pc := 31) hG.r3 (hG.t 14 rfl) fk_RX4_35 rfl dX4_takeLaterFault_31 ?_
    refine Wp.getI2 (pc := 34) (hG.tt hG.he) fk_RX4_103 rfl dX4_takeLaterFault_34 ?_
    obtain ⟨v2, h3, hf⟩ := bnd hf
    refine Wp.iald2 (pc := 37) h3 (hG.a 15 0 rfl) dX4_takeLaterFault_37 ?_
    refine Wp.iconst (pc := 38) (-1 : Int32) (by decide) dX4_takeLaterFault_38 ?_
    refine Wp.icmp_eq (pc := 39) 64 dX4_takeLaterFault_39 (by decide) (fun hc4 => ?_) (fun hc4 => ?_)
    · rw [if_pos hc4] at hf
      refine Wp.lo' (lo' := []) [] rfl ?_
      exact w_X4_takeLaterFault_64 hX hG hf hk
    · rw [if_neg hc4] at hf
      refine Wp.aload_n (pc := 42) 0 rfl rfl dX4_takeLaterFault_42 ?_
      refine Wp.bipush (pc := 43) (6 : Int32) (by decide) dX4_takeLaterFault_43 ?_
      obtain ⟨m5, h6, hf⟩ := bnd hf
      refine Wp.ptI2 (pc := 45) h6 (hG.t 14 rfl) fk_RX4_43 ff_RX4_3_4 rfl dX4_takeLaterFault_45 ?_
      refine Wp.aload_n (pc := 48) 0 rfl rfl dX4_takeLaterFault_48 ?_
      refine Wp.aload_n (pc := 49) 0 rfl rfl dX4_takeLaterFault_49 ?_
      refine Wp.getR2 (pc := 50) (hG.r 14 8 rfl) (hG.t 14 rfl) fk_RX4_15 rfl dX4_takeLaterFault_50 ?_
      refine Wp.aload_n (pc := 53) 0 rfl rfl dX4_takeLaterFault_53 ?_
      refine Wp.getR2 (pc := 54) hG.r3 (hG.t 14 rfl) fk_RX4_35 rfl dX4_takeLaterFault_54 ?_
      refine Wp.getI2 (pc := 57) (hG.tt hG.he) fk_RX4_103 rfl dX4_takeLaterFault_57 ?_
      obtain ⟨v7, h8, hf⟩ := bnd hf
      refine Wp.iald2 (pc := 60) h8 (hG.a 15 0 rfl) dX4_takeLaterFault_60 ?_
      obtain ⟨m9, h10, hf⟩ := bnd hf
      refine Wp.ptI2 (pc := 61) h10 (hG.t 14 rfl) fk_RX4_9 ff_RX4_3_5 rfl dX4_takeLaterFault_61 ?_
      refine Wp.lo' (lo' := []) [] rfl ?_
      exact w_X4_takeLaterFault_64 hX hG hf hk
  · rw [if_neg hc1] at hf
    refine Wp.aload_n (pc := 7) 0 rfl rfl dX4_takeLaterFault_7 ?_
    refine Wp.aload_n (pc := 8) 0 rfl rfl dX4_takeLaterFault_8 ?_
    refine Wp.getI2 (pc := 9) (hG.t 14 rfl) fk_RX4_88 rfl dX4_takeLaterFault_9 ?_
    obtain ⟨m11, h12, hf⟩ := bnd hf
    refine Wp.ptI2 (pc := 12) h12 (hG.t 14 rfl) fk_RX4_43 ff_RX4_3_4 rfl dX4_takeLaterFault_12 ?_
    refine Wp.aload_n (pc := 15) 0 rfl rfl dX4_takeLaterFault_15 ?_
    refine Wp.aload_n (pc := 16) 0 rfl rfl dX4_takeLaterFault_16 ?_
    refine Wp.getI2 (pc := 17) (hG.t 14 rfl) fk_RX4_100 rfl dX4_takeLaterFault_17 ?_
    obtain ⟨m13, h14, hf⟩ := bnd hf
    refine Wp.ptI2 (pc := 20) h14 (hG.t 14 rfl) fk_RX4_9 ff_RX4_3_5 rfl dX4_takeLaterFault_20 ?_
    refine Wp.goto (pc := 23) 64 dX4_takeLaterFault_23 (by decide) ?_
    refine Wp.lo' (lo' := []) [] rfl ?_
    exact w_X4_takeLaterFault_64 hX hG hf hk
theorem c_X4_takeLaterFault {T : List Dsc} {R : RM} {c e : Nat} {m : M2} {r : M2} (hG : Geo T R c e) (hf : F_X4_takeLaterFault e m = some r) : Ct 1 yX4_takeLaterFault cX4_takeLaterFault 1 none T (mk m R) [.ref 14] none (mk r R) := Ct.ofV (r := mk r R) (by decide +kernel) (Nat.le_of_ble_eq_true rfl) (fun X hX hk => w_X4_takeLaterFault hX hG hf hk)
