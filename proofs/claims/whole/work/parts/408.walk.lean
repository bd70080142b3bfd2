theorem dX12_expression_0 : decode cX12_expression 0 = .ok (.aload_n 0, 1) := by decide +kernel
theorem dX12_expression_1 : decode cX12_expression 1 = .ok (.iconst 0, 1) := by decide +kernel
theorem dX12_expression_2 : decode cX12_expression 2 = .ok (.putfield 363, 3) := by decide +kernel
theorem dX12_expression_5 : decode cX12_expression 5 = .ok (.aload_n 0, 1) := by decide +kernel
theorem dX12_expression_6 : decode cX12_expression 6 = .ok (.getfield 281, 3) := by decide +kernel
theorem dX12_expression_9 : decode cX12_expression 9 = .ok (.istore_n 1, 1) := by decide +kernel
theorem dX12_expression_10 : decode cX12_expression 10 = .ok (.iconst 1, 1) := by decide +kernel
theorem dX12_expression_11 : decode cX12_expression 11 = .ok (.istore_n 2, 1) := by decide +kernel
theorem dX12_expression_12 : decode cX12_expression 12 = .ok (.iload_n 2, 1) := by decide +kernel
theorem dX12_expression_13 : decode cX12_expression 13 = .ok (.ifCond .eq 150, 3) := by decide +kernel
theorem dX12_expression_16 : decode cX12_expression 16 = .ok (.aload_n 0, 1) := by decide +kernel
theorem dX12_expression_17 : decode cX12_expression 17 = .ok (.getfield 254, 3) := by decide +kernel
theorem dX12_expression_20 : decode cX12_expression 20 = .ok (.ifCond .ne 143, 3) := by decide +kernel
theorem dX12_expression_23 : decode cX12_expression 23 = .ok (.aload_n 0, 1) := by decide +kernel
theorem dX12_expression_24 : decode cX12_expression 24 = .ok (.invokevirtual 375, 3) := by decide +kernel
theorem dX12_expression_27 : decode cX12_expression 27 = .ok (.aload_n 0, 1) := by decide +kernel
theorem dX12_expression_28 : decode cX12_expression 28 = .ok (.invokevirtual 378, 3) := by decide +kernel
theorem dX12_expression_31 : decode cX12_expression 31 = .ok (.aload_n 0, 1) := by decide +kernel
theorem dX12_expression_32 : decode cX12_expression 32 = .ok (.iload_n 1, 1) := by decide +kernel
theorem dX12_expression_33 : decode cX12_expression 33 = .ok (.invokevirtual 381, 3) := by decide +kernel
theorem dX12_expression_36 : decode cX12_expression 36 = .ok (.istore_n 3, 1) := by decide +kernel
theorem dX12_expression_37 : decode cX12_expression 37 = .ok (.aload_n 0, 1) := by decide +kernel
theorem dX12_expression_38 : decode cX12_expression 38 = .ok (.getfield 254, 3) := by decide +kernel
theorem dX12_expression_41 : decode cX12_expression 41 = .ok (.ifCond .gt (-29), 3) := by decide +kernel
theorem dX12_expression_44 : decode cX12_expression 44 = .ok (.iload_n 3, 1) := by decide +kernel
theorem dX12_expression_45 : decode cX12_expression 45 = .ok (.ifCond .eq 6, 3) := by decide +kernel
theorem dX12_expression_48 : decode cX12_expression 48 = .ok (.goto (-36), 3) := by decide +kernel
theorem dX12_expression_51 : decode cX12_expression 51 = .ok (.aload_n 0, 1) := by decide +kernel
theorem dX12_expression_52 : decode cX12_expression 52 = .ok (.bipush 8, 2) := by decide +kernel
theorem dX12_expression_54 : decode cX12_expression 54 = .ok (.invokevirtual 272, 3) := by decide +kernel
theorem dX12_expression_57 : decode cX12_expression 57 = .ok (.ifCond .ne 30, 3) := by decide +kernel
theorem dX12_expression_60 : decode cX12_expression 60 = .ok (.aload_n 0, 1) := by decide +kernel
theorem dX12_expression_61 : decode cX12_expression 61 = .ok (.bipush 9, 2) := by decide +kernel
theorem dX12_expression_63 : decode cX12_expression 63 = .ok (.invokevirtual 272, 3) := by decide +kernel
theorem dX12_expression_66 : decode cX12_expression 66 = .ok (.ifCond .ne 21, 3) := by decide +kernel
theorem dX12_expression_69 : decode cX12_expression 69 = .ok (.aload_n 0, 1) := by decide +kernel
theorem dX12_expression_70 : decode cX12_expression 70 = .ok (.bipush 10, 2) := by decide +kernel
theorem dX12_expression_72 : decode cX12_expression 72 = .ok (.invokevirtual 272, 3) := by decide +kernel
theorem dX12_expression_75 : decode cX12_expression 75 = .ok (.ifCond .ne 12, 3) := by decide +kernel
theorem dX12_expression_78 : decode cX12_expression 78 = .ok (.aload_n 0, 1) := by decide +kernel
theorem dX12_expression_79 : decode cX12_expression 79 = .ok (.bipush 15, 2) := by decide +kernel
theorem dX12_expression_81 : decode cX12_expression 81 = .ok (.invokevirtual 272, 3) := by decide +kernel
theorem dX12_expression_84 : decode cX12_expression 84 = .ok (.ifCond .eq 7, 3) := by decide +kernel
theorem dX12_expression_87 : decode cX12_expression 87 = .ok (.iconst 1, 1) := by decide +kernel
theorem dX12_expression_88 : decode cX12_expression 88 = .ok (.goto 4, 3) := by decide +kernel
theorem dX12_expression_91 : decode cX12_expression 91 = .ok (.iconst 0, 1) := by decide +kernel
theorem dX12_expression_92 : decode cX12_expression 92 = .ok (.istore_n 2, 1) := by decide +kernel
theorem dX12_expression_93 : decode cX12_expression 93 = .ok (.iload_n 2, 1) := by decide +kernel
theorem dX12_expression_94 : decode cX12_expression 94 = .ok (.ifCond .ne 22, 3) := by decide +kernel
theorem dX12_expression_97 : decode cX12_expression 97 = .ok (.aload_n 0, 1) := by decide +kernel
theorem dX12_expression_98 : decode cX12_expression 98 = .ok (.getfield 281, 3) := by decide +kernel
theorem dX12_expression_101 : decode cX12_expression 101 = .ok (.iload_n 1, 1) := by decide +kernel
theorem dX12_expression_102 : decode cX12_expression 102 = .ok (.if_icmp .le 8, 3) := by decide +kernel
theorem dX12_expression_105 : decode cX12_expression 105 = .ok (.aload_n 0, 1) := by decide +kernel
theorem dX12_expression_106 : decode cX12_expression 106 = .ok (.iconst 1, 1) := by decide +kernel
theorem dX12_expression_107 : decode cX12_expression 107 = .ok (.invokevirtual 269, 3) := by decide +kernel
theorem dX12_expression_110 : decode cX12_expression 110 = .ok (.aload_n 0, 1) := by decide +kernel
theorem dX12_expression_111 : decode cX12_expression 111 = .ok (.iconst 0, 1) := by decide +kernel
theorem dX12_expression_112 : decode cX12_expression 112 = .ok (.invokevirtual 384, 3) := by decide +kernel
theorem dX12_expression_115 : decode cX12_expression 115 = .ok (.return_, 1) := by decide +kernel
theorem dX12_expression_116 : decode cX12_expression 116 = .ok (.aload_n 0, 1) := by decide +kernel
theorem dX12_expression_117 : decode cX12_expression 117 = .ok (.aload_n 0, 1) := by decide +kernel
theorem dX12_expression_118 : decode cX12_expression 118 = .ok (.bipush 10, 2) := by decide +kernel
theorem dX12_expression_120 : decode cX12_expression 120 = .ok (.invokevirtual 272, 3) := by decide +kernel
theorem dX12_expression_123 : decode cX12_expression 123 = .ok (.ifCond .ne 12, 3) := by decide +kernel
theorem dX12_expression_126 : decode cX12_expression 126 = .ok (.aload_n 0, 1) := by decide +kernel
theorem dX12_expression_127 : decode cX12_expression 127 = .ok (.bipush 15, 2) := by decide +kernel
theorem dX12_expression_129 : decode cX12_expression 129 = .ok (.invokevirtual 272, 3) := by decide +kernel
theorem dX12_expression_132 : decode cX12_expression 132 = .ok (.ifCond .eq 7, 3) := by decide +kernel
theorem dX12_expression_135 : decode cX12_expression 135 = .ok (.iconst 1, 1) := by decide +kernel
theorem dX12_expression_136 : decode cX12_expression 136 = .ok (.goto 4, 3) := by decide +kernel
theorem dX12_expression_139 : decode cX12_expression 139 = .ok (.iconst 0, 1) := by decide +kernel
theorem dX12_expression_140 : decode cX12_expression 140 = .ok (.invokevirtual 384, 3) := by decide +kernel
theorem dX12_expression_143 : decode cX12_expression 143 = .ok (.aload_n 0, 1) := by decide +kernel
theorem dX12_expression_144 : decode cX12_expression 144 = .ok (.aload_n 0, 1) := by decide +kernel
theorem dX12_expression_145 : decode cX12_expression 145 = .ok (.getfield 20, 3) := by decide +kernel
theorem dX12_expression_148 : decode cX12_expression 148 = .ok (.aload_n 0, 1) := by decide +kernel
theorem dX12_expression_149 : decode cX12_expression 149 = .ok (.getfield 257, 3) := by decide +kernel
theorem dX12_expression_152 : decode cX12_expression 152 = .ok (.iaload, 1) := by decide +kernel
theorem dX12_expression_153 : decode cX12_expression 153 = .ok (.invokevirtual 372, 3) := by decide +kernel
theorem dX12_expression_156 : decode cX12_expression 156 = .ok (.aload_n 0, 1) := by decide +kernel
theorem dX12_expression_157 : decode cX12_expression 157 = .ok (.invokevirtual 275, 3) := by decide +kernel
theorem dX12_expression_160 : decode cX12_expression 160 = .ok (.goto (-148), 3) := by decide +kernel
theorem dX12_expression_163 : decode cX12_expression 163 = .ok (.return_, 1) := by decide +kernel
def k_X12_expression_12 (X : CX) (T : List Dsc) (R : RM) (n1 n2 : Nat) (x1 : Int32) (r : ((Int32 × M2) ⊕ ((M2) ⊕ (M2)))) : Prop := match r with
  | .inl s => Wp X cX12_expression RX12 4 T (mk s.2 R) n1 n2 12 [(0, .ref 56), (1, .int x1), (2, .int s.1)] []
  | .inr (.inl e) => Wp X cX12_expression RX12 4 T (mk e R) n1 n2 97 [(0, .ref 56), (1, .int x1)] []
  | .inr (.inr e) => Wp X cX12_expression RX12 4 T (mk e R) n1 n2 163 [] []
set_option maxHeartbeats 4000000 in
set_option maxRecDepth 100000 in
theorem w_X12_expression_140 {X : CX} {T : List Dsc} {R : RM} {c e : Nat} {n1 n2 : Nat} {x1 : Int32} {x2 : Int32} {s1 : Int32} {m : M2} {r : ((Int32 × M2) ⊕ ((M2) ⊕ (M2)))} (hX : XR X 4 n1 n2) (hG : Geo T R c e) (hf : f_X12_expression_140 x1 x2 s1 m = some r) (hk : k_X12_expression_12 X T R n1 n2 x1 r) : Wp X cX12_expression RX12 4 T (mk m R) n1 n2 140 [(0, .ref 56), (1, .int x1), (2, .int x2)] [.int s1, .ref 56] := by
  unfold f_X12_expression_140 at hf
  obtain ⟨c1, h2, hf⟩ := bnd hf
  refine Wp.callVv (pc := 140) (st := []) (as := [.int s1]) (c_X12_comesOut hG h2) ml_RX12_384 mv_X12_comesOut mb_X12_comesOut hX (Nat.le_of_ble_eq_true rfl) (by decide) rfl (hG.t 56 rfl) rfl (by simp) dX12_expression_140 rfl ?_
  refine Wp.aload_n (pc := 143) 0 rfl rfl dX12_expression_143 ?_
  refine Wp.aload_n (pc := 144) 0 rfl rfl dX12_expression_144 ?_
  refine Wp.getR2 (pc := 145) (hG.r 56 5 rfl) (hG.t 56 rfl) fk_RX12_20 rfl dX12_expression_145 ?_
  refine Wp.aload_n (pc := 148) 0 rfl rfl dX12_expression_148 ?_
  refine Wp.getI2 (pc := 149) (hG.t 56 rfl) fk_RX12_257 rfl dX12_expression_149 ?_
  obtain ⟨v3, h4, hf⟩ := bnd hf
  refine Wp.iald2 (pc := 152) h4 (hG.a 59 0 rfl) dX12_expression_152 ?_
  obtain ⟨c5, h6, hf⟩ := bnd hf
  refine Wp.callVv (pc := 153) (st := []) (as := [.int v3]) (c_X12_pushes hG h6) ml_RX12_372 mv_X12_pushes mb_X12_pushes hX (Nat.le_of_ble_eq_true rfl) (by decide) rfl (hG.t 56 rfl) rfl (by simp) dX12_expression_153 rfl ?_
  refine Wp.aload_n (pc := 156) 0 rfl rfl dX12_expression_156 ?_
  obtain ⟨c7, h8, hf⟩ := bnd hf
  refine Wp.callVv (pc := 157) (st := []) (as := []) (c_X12_goesOn hG h8) ml_RX12_275 mv_X12_goesOn mb_X12_goesOn hX (Nat.le_of_ble_eq_true rfl) (by decide) rfl (hG.t 56 rfl) rfl (by simp) dX12_expression_157 rfl ?_
  refine Wp.goto (pc := 160) 12 dX12_expression_160 (by decide) ?_
  cases hf
  exact hk
set_option maxHeartbeats 4000000 in
set_option maxRecDepth 100000 in
theorem w_X12_expression_135 {X : CX} {T : List Dsc} {R : RM} {c e : Nat} {n1 n2 : Nat} {x1 : Int32} {x2 : Int32} {m : M2} {r : ((Int32 × M2) ⊕ ((M2) ⊕ (M2)))} (hX : XR X 4 n1 n2) (hG : Geo T R c e) (hf : f_X12_expression_135 x1 x2 m = some r) (hk : k_X12_expression_12 X T R n1 n2 x1 r) : Wp X cX12_expression RX12 4 T (mk m R) n1 n2 135 [(0, .ref 56), (1, .int x1), (2, .int x2)] [.ref 56] := by
  unfold f_X12_expression_135 at hf
  refine Wp.iconst (pc := 135) (1 : Int32) (by decide) dX12_expression_135 ?_
  refine Wp.goto (pc := 136) 140 dX12_expression_136 (by decide) ?_
  exact w_X12_expression_140 hX hG hf hk
set_option maxHeartbeats 4000000 in
set_option maxRecDepth 100000 in
theorem w_X12_expression_92 {X : CX} {T : List Dsc} {R : RM} {c e : Nat} {n1 n2 : Nat} {x1 : Int32} {s0 : Int32} {m : M2} {r : ((Int32 × M2) ⊕ ((M2) ⊕ (M2)))} (hX : XR X 4 n1 n2) (hG : Geo T R c e) (hf : f_X12_expression_92 x1 s0 m = some r) (hk : k_X12_expression_12 X T R n1 n2 x1 r) : Wp X cX12_expression RX12 4 T (mk m R) n1 n2 92 [(0, .ref 56), (1, .int x1)] [.int s0] := by
  unfold f_X12_expression_92 at hf
  refine Wp.istore_n (pc := 92) (lo' := [(0, .ref 56), (1, .int x1), (2, .int s0)]) [1, 2, 0] rfl (by decide) rfl dX12_expression_92 ?_
  refine Wp.iload_n (pc := 93) 2 rfl rfl dX12_expression_93 ?_
  refine Wp.if_ne (pc := 94) 116 dX12_expression_94 (by decide) (fun hc1 => ?_) (fun hc1 => ?_)
  · rw [if_neg hc1] at hf
    refine Wp.aload_n (pc := 116) 0 rfl rfl dX12_expression_116 ?_
    refine Wp.aload_n (pc := 117) 0 rfl rfl dX12_expression_117 ?_
    refine Wp.bipush (pc := 118) (10 : Int32) (by decide) dX12_expression_118 ?_
    obtain ⟨c2, h3, hf⟩ := bnd hf
    refine Wp.callVi (pc := 120) (st := [.ref 56]) (as := [.int (10 : Int32)]) (c_X12_is hG h3) ml_RX12_272 mv_X12_is mb_X12_is hX (Nat.le_of_ble_eq_true rfl) (by decide) rfl (hG.t 56 rfl) rfl (by simp [Value.category]) dX12_expression_120 rfl ?_
    refine Wp.if_ne (pc := 123) 135 dX12_expression_123 (by decide) (fun hc4 => ?_) (fun hc4 => ?_)
    · rw [if_neg hc4] at hf
      exact w_X12_expression_135 hX hG hf hk
    · rw [if_pos hc4] at hf
      refine Wp.aload_n (pc := 126) 0 rfl rfl dX12_expression_126 ?_
      refine Wp.bipush (pc := 127) (15 : Int32) (by decide) dX12_expression_127 ?_
      obtain ⟨c5, h6, hf⟩ := bnd hf
      refine Wp.callVi (pc := 129) (st := [.ref 56]) (as := [.int (15 : Int32)]) (c_X12_is hG h6) ml_RX12_272 mv_X12_is mb_X12_is hX (Nat.le_of_ble_eq_true rfl) (by decide) rfl (hG.t 56 rfl) rfl (by simp [Value.category]) dX12_expression_129 rfl ?_
      refine Wp.if_eq (pc := 132) 139 dX12_expression_132 (by decide) (fun hc7 => ?_) (fun hc7 => ?_)
      · rw [if_pos hc7] at hf
        refine Wp.iconst (pc := 139) (0 : Int32) (by decide) dX12_expression_139 ?_
        exact w_X12_expression_140 hX hG hf hk
      · rw [if_neg hc7] at hf
        exact w_X12_expression_135 hX hG hf hk
  · rw [if_pos hc1] at hf
    refine Wp.lo' (lo' := [(0, .ref 56), (1, .int x1)]) [0, 1] rfl ?_
    cases hf
    exact hk
set_option maxHeartbeats 4000000 in
set_option maxRecDepth 100000 in
theorem w_X12_expression_87 {X : CX} {T : List Dsc} {R : RM} {c e : Nat} {n1 n2 : Nat} {x1 : Int32} {m : M2} {r : ((Int32 × M2) ⊕ ((M2) ⊕ (M2)))} (hX : XR X 4 n1 n2) (hG : Geo T R c e) (hf : f_X12_expression_87 x1 m = some r) (hk : k_X12_expression_12 X T R n1 n2 x1 r) : Wp X cX12_expression RX12 4 T (mk m R) n1 n2 87 [(0, .ref 56), (1, .int x1)] [] := by
  unfold f_X12_expression_87 at hf
  refine Wp.iconst (pc := 87) (1 : Int32) (by decide) dX12_expression_87 ?_
  refine Wp.goto (pc := 88) 92 dX12_expression_88 (by decide) ?_
  exact w_X12_expression_92 hX hG hf hk
set_option maxHeartbeats 4000000 in
set_option maxRecDepth 100000 in
theorem w_X12_expression_12 {X : CX} {T : List Dsc} {R : RM} {c e : Nat} {n1 n2 : Nat} {x1 : Int32} {x2 : Int32} {m : M2} {r : ((Int32 × M2) ⊕ ((M2) ⊕ (M2)))} (hX : XR X 4 n1 n2) (hG : Geo T R c e) (hf : f_X12_expression_12 x1 x2 m = some r) (hk : k_X12_expression_12 X T R n1 n2 x1 r) : Wp X cX12_expression RX12 4 T (mk m R) n1 n2 12 [(0, .ref 56), (1, .int x1), (2, .int x2)] [] := by
  unfold f_X12_expression_12 at hf
  refine Wp.iload_n (pc := 12) 2 rfl rfl dX12_expression_12 ?_
  refine Wp.if_eq (pc := 13) 163 dX12_expression_13 (by decide) (fun hc1 => ?_) (fun hc1 => ?_)
  · rw [if_pos hc1] at hf
    refine Wp.lo' (lo' := []) [] rfl ?_
    cases hf
    exact hk
  · rw [if_neg hc1] at hf
    refine Wp.aload_n (pc := 16) 0 rfl rfl dX12_expression_16 ?_
    refine Wp.getI2 (pc := 17) (hG.t 56 rfl) fk_RX12_254 rfl dX12_expression_17 ?_
    refine Wp.if_ne (pc := 20) 163 dX12_expression_20 (by decide) (fun hc2 => ?_) (fun hc2 => ?_)
    · rw [if_neg hc2] at hf
      refine Wp.lo' (lo' := []) [] rfl ?_
      cases hf
      exact hk
    · rw [if_pos hc2] at hf
      refine Wp.aload_n (pc := 23) 0 rfl rfl dX12_expression_23 ?_
      obtain ⟨c3, h4, hf⟩ := bnd hf
      refine Wp.callVv (pc := 24) (st := []) (as := []) (c_X12_opensMany hG h4) ml_RX12_375 mv_X12_opensMany mb_X12_opensMany hX (Nat.le_of_ble_eq_true rfl) (by decide) rfl (hG.t 56 rfl) rfl (by simp) dX12_expression_24 rfl ?_
      refine Wp.aload_n (pc := 27) 0 rfl rfl dX12_expression_27 ?_
      obtain ⟨c5, h6, hf⟩ := bnd hf
      refine Wp.callVv (pc := 28) (st := []) (as := []) (c_X12_unit hG h6) ml_RX12_378 mv_X12_unit mb_X12_unit hX (Nat.le_of_ble_eq_true rfl) (by decide) rfl (hG.t 56 rfl) rfl (by simp) dX12_expression_28 rfl ?_
      refine Wp.aload_n (pc := 31) 0 rfl rfl dX12_expression_31 ?_
      refine Wp.iload_n (pc := 32) 1 rfl rfl dX12_expression_32 ?_
      obtain ⟨c7, h8, hf⟩ := bnd hf
      refine Wp.callVi (pc := 33) (st := []) (as := [.int x1]) (c_X12_closesMany hG h8) ml_RX12_381 mv_X12_closesMany mb_X12_closesMany hX (Nat.le_of_ble_eq_true rfl) (by decide) rfl (hG.t 56 rfl) rfl (by simp) dX12_expression_33 rfl ?_
      refine Wp.istore_n (pc := 36) (lo' := [(0, .ref 56), (1, .int x1), (2, .int x2), (3, .int c7.1)]) [1, 2, 3, 0] rfl (by decide) rfl dX12_expression_36 ?_
      refine Wp.aload_n (pc := 37) 0 rfl rfl dX12_expression_37 ?_
      refine Wp.getI2 (pc := 38) (hG.t 56 rfl) fk_RX12_254 rfl dX12_expression_38 ?_
      refine Wp.if_gt (pc := 41) 12 dX12_expression_41 (by decide) (fun hc9 => ?_) (fun hc9 => ?_)
      · rw [if_pos hc9] at hf
        refine Wp.lo' (lo' := [(0, .ref 56), (1, .int x1), (2, .int x2)]) [0, 1, 2] rfl ?_
        cases hf
        exact hk
      · rw [if_neg hc9] at hf
        refine Wp.iload_n (pc := 44) 3 rfl rfl dX12_expression_44 ?_
        refine Wp.if_eq (pc := 45) 51 dX12_expression_45 (by decide) (fun hc10 => ?_) (fun hc10 => ?_)
        · rw [if_pos hc10] at hf
          refine Wp.aload_n (pc := 51) 0 rfl rfl dX12_expression_51 ?_
          refine Wp.bipush (pc := 52) (8 : Int32) (by decide) dX12_expression_52 ?_
          obtain ⟨c11, h12, hf⟩ := bnd hf
          refine Wp.callVi (pc := 54) (st := []) (as := [.int (8 : Int32)]) (c_X12_is hG h12) ml_RX12_272 mv_X12_is mb_X12_is hX (Nat.le_of_ble_eq_true rfl) (by decide) rfl (hG.t 56 rfl) rfl (by simp) dX12_expression_54 rfl ?_
          refine Wp.if_ne (pc := 57) 87 dX12_expression_57 (by decide) (fun hc13 => ?_) (fun hc13 => ?_)
          · rw [if_neg hc13] at hf
            refine Wp.lo' (lo' := [(0, .ref 56), (1, .int x1)]) [0, 1] rfl ?_
            exact w_X12_expression_87 hX hG hf hk
          · rw [if_pos hc13] at hf
            refine Wp.aload_n (pc := 60) 0 rfl rfl dX12_expression_60 ?_
            refine Wp.bipush (pc := 61) (9 : Int32) (by decide) dX12_expression_61 ?_
            obtain ⟨c14, h15, hf⟩ := bnd hf
            refine Wp.callVi (pc := 63) (st := []) (as := [.int (9 : Int32)]) (c_X12_is hG h15) ml_RX12_272 mv_X12_is mb_X12_is hX (Nat.le_of_ble_eq_true rfl) (by decide) rfl (hG.t 56 rfl) rfl (by simp) dX12_expression_63 rfl ?_
            refine Wp.if_ne (pc := 66) 87 dX12_expression_66 (by decide) (fun hc16 => ?_) (fun hc16 => ?_)
            · rw [if_neg hc16] at hf
              refine Wp.lo' (lo' := [(0, .ref 56), (1, .int x1)]) [0, 1] rfl ?_
              exact w_X12_expression_87 hX hG hf hk
            · rw [if_pos hc16] at hf
              refine Wp.aload_n (pc := 69) 0 rfl rfl dX12_expression_69 ?_
              refine Wp.bipush (pc := 70) (10 : Int32) (by decide) dX12_expression_70 ?_
              obtain ⟨c17, h18, hf⟩ := bnd hf
              refine Wp.callVi (pc := 72) (st := []) (as := [.int (10 : Int32)]) (c_X12_is hG h18) ml_RX12_272 mv_X12_is mb_X12_is hX (Nat.le_of_ble_eq_true rfl) (by decide) rfl (hG.t 56 rfl) rfl (by simp) dX12_expression_72 rfl ?_
              refine Wp.if_ne (pc := 75) 87 dX12_expression_75 (by decide) (fun hc19 => ?_) (fun hc19 => ?_)
              · rw [if_neg hc19] at hf
                refine Wp.lo' (lo' := [(0, .ref 56), (1, .int x1)]) [0, 1] rfl ?_
                exact w_X12_expression_87 hX hG hf hk
              · rw [if_pos hc19] at hf
                refine Wp.aload_n (pc := 78) 0 rfl rfl dX12_expression_78 ?_
                refine Wp.bipush (pc := 79) (15 : Int32) (by decide) dX12_expression_79 ?_
                obtain ⟨c20, h21, hf⟩ := bnd hf
                refine Wp.callVi (pc := 81) (st := []) (as := [.int (15 : Int32)]) (c_X12_is hG h21) ml_RX12_272 mv_X12_is mb_X12_is hX (Nat.le_of_ble_eq_true rfl) (by decide) rfl (hG.t 56 rfl) rfl (by simp) dX12_expression_81 rfl ?_
                refine Wp.if_eq (pc := 84) 91 dX12_expression_84 (by decide) (fun hc22 => ?_) (fun hc22 => ?_)
                · rw [if_pos hc22] at hf
                  refine Wp.iconst (pc := 91) (0 : Int32) (by decide) dX12_expression_91 ?_
                  refine Wp.lo' (lo' := [(0, .ref 56), (1, .int x1)]) [0, 1] rfl ?_
                  exact w_X12_expression_92 hX hG hf hk
                · rw [if_neg hc22] at hf
                  refine Wp.lo' (lo' := [(0, .ref 56), (1, .int x1)]) [0, 1] rfl ?_
                  exact w_X12_expression_87 hX hG hf hk
        · rw [if_neg hc10] at hf
          refine Wp.goto (pc := 48) 12 dX12_expression_48 (by decide) ?_
          refine Wp.lo' (lo' := [(0, .ref 56), (1, .int x1), (2, .int x2)]) [0, 1, 2] rfl ?_
          cases hf
          exact hk
theorem wl_X12_expression_12 {X : CX} {T : List Dsc} {R : RM} {c e : Nat} {n1 n2 : Nat} {x1 : Int32} {x2 : Int32} {m : M2} {e1 : ((M2) ⊕ (M2))} (hX : XR X 4 n1 n2) (hG : Geo T R c e) (h : loop (g_X12_expression_12 x1) (x2, m) = some e1) (he0 : ∀ e_, e1 = (Sum.inl e_) → Wp X cX12_expression RX12 4 T (mk e_ R) n1 n2 97 [(0, .ref 56), (1, .int x1)] []) (he1 : ∀ e_, e1 = (Sum.inr e_) → Wp X cX12_expression RX12 4 T (mk e_ R) n1 n2 163 [] []) : Wp X cX12_expression RX12 4 T (mk m R) n1 n2 12 [(0, .ref 56), (1, .int x1), (2, .int x2)] [] :=
  loop_ok (K := k_X12_expression_12 X T R n1 n2 x1) (fun s r hf hk => w_X12_expression_12 hX hG hf hk) h (by rcases e1 with e_ | e_ <;> first | exact he0 _ rfl | exact he1 _ rfl)
set_option maxHeartbeats 4000000 in
set_option maxRecDepth 100000 in
theorem w_X12_expression_110 {X : CX} {T : List Dsc} {R : RM} {c e : Nat} {n1 n2 : Nat} {m : M2} {r : M2} (hX : XR X 4 n1 n2) (hG : Geo T R c e) (hf : f_X12_expression_110 m = some r) (hk : FnV X cX12_expression RX12 4 T n1 n2 (mk r R)) : Wp X cX12_expression RX12 4 T (mk m R) n1 n2 110 [(0, .ref 56)] [] := by
  unfold f_X12_expression_110 at hf
  refine Wp.aload_n (pc := 110) 0 rfl rfl dX12_expression_110 ?_
  refine Wp.iconst (pc := 111) (0 : Int32) (by decide) dX12_expression_111 ?_
  obtain ⟨c1, h2, hf⟩ := bnd hf
  refine Wp.callVv (pc := 112) (st := []) (as := [.int (0 : Int32)]) (c_X12_comesOut hG h2) ml_RX12_384 mv_X12_comesOut mb_X12_comesOut hX (Nat.le_of_ble_eq_true rfl) (by decide) rfl (hG.t 56 rfl) rfl (by simp) dX12_expression_112 rfl ?_
  cases hf
  exact hk _ _ dX12_expression_115
set_option maxHeartbeats 4000000 in
set_option maxRecDepth 100000 in
theorem w_X12_expression_163 {X : CX} {T : List Dsc} {R : RM} {c e : Nat} {n1 n2 : Nat} {m : M2} {r : M2} (hX : XR X 4 n1 n2) (hG : Geo T R c e) (hf : f_X12_expression_163 m = some r) (hk : FnV X cX12_expression RX12 4 T n1 n2 (mk r R)) : Wp X cX12_expression RX12 4 T (mk m R) n1 n2 163 [] [] := by
  unfold f_X12_expression_163 at hf
  cases hf
  exact hk _ _ dX12_expression_163
set_option maxHeartbeats 4000000 in
set_option maxRecDepth 100000 in
theorem w_X12_expression {X : CX} {T : List Dsc} {R : RM} {c e : Nat} {n1 n2 : Nat} {m : M2} {r : M2} (hX : XR X 4 n1 n2) (hG : Geo T R c e) (hf : F_X12_expression m = some r) (hk : FnV X cX12_expression RX12 4 T n1 n2 (mk r R)) : Wp X cX12_expression RX12 4 T (mk m R) n1 n2 0 [(0, .ref 56)] [] := by
  unfold F_X12_expression at hf
  refine Wp.aload_n (pc := 0) 0 rfl rfl dX12_expression_0 ?_
  refine Wp.iconst (pc := 1) (0 : Int32) (by decide) dX12_expression_1 ?_
  obtain ⟨m1, h2, hf⟩ := bnd hf
  refine Wp.ptI2 (pc := 2) h2 (hG.t 56 rfl) fk_RX12_363 ff_RX12_11_54 rfl dX12_expression_2 ?_
  refine Wp.aload_n (pc := 5) 0 rfl rfl dX12_expression_5 ?_
  refine Wp.getI2 (pc := 6) (hG.t 56 rfl) fk_RX12_281 rfl dX12_expression_6 ?_
  obtain ⟨v3, h4, hf⟩ := bnd hf
  refine Wp.nI' h4 ?_
  refine Wp.istore_n (pc := 9) (lo' := [(0, .ref 56), (1, .int v3)]) [1, 0] rfl (by decide) rfl dX12_expression_9 ?_
  refine Wp.iconst (pc := 10) (1 : Int32) (by decide) dX12_expression_10 ?_
  refine Wp.istore_n (pc := 11) (lo' := [(0, .ref 56), (1, .int v3), (2, .int (1 : Int32))]) [1, 2, 0] rfl (by decide) rfl dX12_expression_11 ?_
  obtain ⟨e5, h6, hf⟩ := bnd hf
  refine wl_X12_expression_12 hX hG h6 (fun e5_0 hq => ?_) (fun e5_1 hq => ?_)
  · rw [hq, Sum.elim_inl] at hf
    refine Wp.aload_n (pc := 97) 0 rfl rfl dX12_expression_97 ?_
    refine Wp.getI2 (pc := 98) (hG.t 56 rfl) fk_RX12_281 rfl dX12_expression_98 ?_
    refine Wp.iload_n (pc := 101) 1 rfl rfl dX12_expression_101 ?_
    refine Wp.icmp_le (pc := 102) 110 dX12_expression_102 (by decide) (fun hc7 => ?_) (fun hc7 => ?_)
    · rw [if_pos hc7] at hf
      refine Wp.lo' (lo' := [(0, .ref 56)]) [0] rfl ?_
      exact w_X12_expression_110 hX hG hf hk
    · rw [if_neg hc7] at hf
      refine Wp.aload_n (pc := 105) 0 rfl rfl dX12_expression_105 ?_
      refine Wp.iconst (pc := 106) (1 : Int32) (by decide) dX12_expression_106 ?_
      obtain ⟨c8, h9, hf⟩ := bnd hf
      refine Wp.callVv (pc := 107) (st := []) (as := [.int (1 : Int32)]) (c_X12_fail hG h9) ml_RX12_269 mv_X12_fail mb_X12_fail hX (Nat.le_of_ble_eq_true rfl) (by decide) rfl (hG.t 56 rfl) rfl (by simp) dX12_expression_107 rfl ?_
      refine Wp.lo' (lo' := [(0, .ref 56)]) [0] rfl ?_
      exact w_X12_expression_110 hX hG hf hk
  · rw [hq, Sum.elim_inr] at hf
    exact w_X12_expression_163 hX hG hf hk
theorem c_X12_expression {T : List Dsc} {R : RM} {c e : Nat} {m : M2} {r : M2} (hG : Geo T R c e) (hf : F_X12_expression m = some r) : Ct 4 yX12_expression cX12_expression 4 none T (mk m R) [.ref 56] none (mk r R) := Ct.ofV (r := mk r R) (by decide +kernel) (Nat.le_of_ble_eq_true rfl) (fun X hX hk => w_X12_expression hX hG hf hk)
theorem dX12_literal_0 : decode cX12_literal 0 = .ok (.iconst 0, 1) := by decide +kernel
theorem dX12_literal_1 : decode cX12_literal 1 = .ok (.istore_n 2, 1) := by decide +kernel
theorem dX12_literal_2 : decode cX12_literal 2 = .ok (.aload_n 0, 1) := by decide +kernel
theorem dX12_literal_3 : decode cX12_literal 3 = .ok (.bipush 31, 2) := by decide +kernel
theorem dX12_literal_5 : decode cX12_literal 5 = .ok (.invokevirtual 272, 3) := by decide +kernel
theorem dX12_literal_8 : decode cX12_literal 8 = .ok (.ifCond .eq 20, 3) := by decide +kernel
theorem dX12_literal_11 : decode cX12_literal 11 = .ok (.iload_n 2, 1) := by decide +kernel
theorem dX12_literal_12 : decode cX12_literal 12 = .ok (.ifCond .ne 7, 3) := by decide +kernel
theorem dX12_literal_15 : decode cX12_literal 15 = .ok (.iconst 1, 1) := by decide +kernel
theorem dX12_literal_16 : decode cX12_literal 16 = .ok (.goto 4, 3) := by decide +kernel
theorem dX12_literal_19 : decode cX12_literal 19 = .ok (.iconst 0, 1) := by decide +kernel
theorem dX12_literal_20 : decode cX12_literal 20 = .ok (.istore_n 2, 1) := by decide +kernel
theorem dX12_literal_21 : decode cX12_literal 21 = .ok (.aload_n 0, 1) := by decide +kernel
theorem dX12_literal_22 : decode cX12_literal 22 = .ok (.invokevirtual 275, 3) := by decide +kernel
theorem dX12_literal_25 : decode cX12_literal 25 = .ok (.goto (-23), 3) := by decide +kernel
theorem dX12_literal_28 : decode cX12_literal 28 = .ok (.aload_n 0, 1) := by decide +kernel
theorem dX12_literal_29 : decode cX12_literal 29 = .ok (.getfield 299, 3) := by decide +kernel
theorem dX12_literal_32 : decode cX12_literal 32 = .ok (.istore_n 3, 1) := by decide +kernel
theorem dX12_literal_33 : decode cX12_literal 33 = .ok (.aload_n 0, 1) := by decide +kernel
theorem dX12_literal_34 : decode cX12_literal 34 = .ok (.invokevirtual 356, 3) := by decide +kernel
theorem dX12_literal_37 : decode cX12_literal 37 = .ok (.aload_n 0, 1) := by decide +kernel
theorem dX12_literal_38 : decode cX12_literal 38 = .ok (.getfield 254, 3) := by decide +kernel
theorem dX12_literal_41 : decode cX12_literal 41 = .ok (.ifCond .gt 31, 3) := by decide +kernel
theorem dX12_literal_44 : decode cX12_literal 44 = .ok (.aload_n 0, 1) := by decide +kernel
theorem dX12_literal_45 : decode cX12_literal 45 = .ok (.getfield 20, 3) := by decide +kernel
theorem dX12_literal_48 : decode cX12_literal 48 = .ok (.aload_n 0, 1) := by decide +kernel
theorem dX12_literal_49 : decode cX12_literal 49 = .ok (.getfield 257, 3) := by decide +kernel
theorem dX12_literal_52 : decode cX12_literal 52 = .ok (.iaload, 1) := by decide +kernel
theorem dX12_literal_53 : decode cX12_literal 53 = .ok (.bipush 11, 2) := by decide +kernel
theorem dX12_literal_55 : decode cX12_literal 55 = .ok (.if_icmp .lt 17, 3) := by decide +kernel
theorem dX12_literal_58 : decode cX12_literal 58 = .ok (.aload_n 0, 1) := by decide +kernel
theorem dX12_literal_59 : decode cX12_literal 59 = .ok (.getfield 20, 3) := by decide +kernel
theorem dX12_literal_62 : decode cX12_literal 62 = .ok (.aload_n 0, 1) := by decide +kernel
theorem dX12_literal_63 : decode cX12_literal 63 = .ok (.getfield 257, 3) := by decide +kernel
theorem dX12_literal_66 : decode cX12_literal 66 = .ok (.iaload, 1) := by decide +kernel
theorem dX12_literal_67 : decode cX12_literal 67 = .ok (.bipush 14, 2) := by decide +kernel
theorem dX12_literal_69 : decode cX12_literal 69 = .ok (.if_icmp .le 7, 3) := by decide +kernel
theorem dX12_literal_72 : decode cX12_literal 72 = .ok (.iconst (-1), 1) := by decide +kernel
theorem dX12_literal_73 : decode cX12_literal 73 = .ok (.goto 15, 3) := by decide +kernel
theorem dX12_literal_76 : decode cX12_literal 76 = .ok (.aload_n 0, 1) := by decide +kernel
theorem dX12_literal_77 : decode cX12_literal 77 = .ok (.getfield 20, 3) := by decide +kernel
theorem dX12_literal_80 : decode cX12_literal 80 = .ok (.aload_n 0, 1) := by decide +kernel
theorem dX12_literal_81 : decode cX12_literal 81 = .ok (.getfield 257, 3) := by decide +kernel
theorem dX12_literal_84 : decode cX12_literal 84 = .ok (.iaload, 1) := by decide +kernel
theorem dX12_literal_85 : decode cX12_literal 85 = .ok (.bipush 11, 2) := by decide +kernel
theorem dX12_literal_87 : decode cX12_literal 87 = .ok (.isub, 1) := by decide +kernel
theorem dX12_literal_88 : decode cX12_literal 88 = .ok (.istore 4, 2) := by decide +kernel
theorem dX12_literal_90 : decode cX12_literal 90 = .ok (.iload 4, 2) := by decide +kernel
theorem dX12_literal_92 : decode cX12_literal 92 = .ok (.ifCond .ge 8, 3) := by decide +kernel
theorem dX12_literal_95 : decode cX12_literal 95 = .ok (.aload_n 0, 1) := by decide +kernel
theorem dX12_literal_96 : decode cX12_literal 96 = .ok (.iconst 1, 1) := by decide +kernel
theorem dX12_literal_97 : decode cX12_literal 97 = .ok (.invokevirtual 269, 3) := by decide +kernel
theorem dX12_literal_100 : decode cX12_literal 100 = .ok (.aload_n 0, 1) := by decide +kernel
theorem dX12_literal_101 : decode cX12_literal 101 = .ok (.getfield 254, 3) := by decide +kernel
theorem dX12_literal_104 : decode cX12_literal 104 = .ok (.ifCond .le 4, 3) := by decide +kernel
theorem dX12_literal_107 : decode cX12_literal 107 = .ok (.return_, 1) := by decide +kernel
theorem dX12_literal_108 : decode cX12_literal 108 = .ok (.aload_n 0, 1) := by decide +kernel
theorem dX12_literal_109 : decode cX12_literal 109 = .ok (.invokevirtual 275, 3) := by decide +kernel
theorem dX12_literal_112 : decode cX12_literal 112 = .ok (.aload_n 0, 1) := by decide +kernel
theorem dX12_literal_113 : decode cX12_literal 113 = .ok (.getfield 299, 3) := by decide +kernel
theorem dX12_literal_116 : decode cX12_literal 116 = .ok (.istore 5, 2) := by decide +kernel
theorem dX12_literal_118 : decode cX12_literal 118 = .ok (.aload_n 0, 1) := by decide +kernel
theorem dX12_literal_119 : decode cX12_literal 119 = .ok (.invokevirtual 356, 3) := by decide +kernel
theorem dX12_literal_122 : decode cX12_literal 122 = .ok (.aload_n 0, 1) := by decide +kernel
theorem dX12_literal_123 : decode cX12_literal 123 = .ok (.getfield 254, 3) := by decide +kernel
theorem dX12_literal_126 : decode cX12_literal 126 = .ok (.ifCond .le 4, 3) := by decide +kernel
theorem dX12_literal_129 : decode cX12_literal 129 = .ok (.return_, 1) := by decide +kernel
theorem dX12_literal_130 : decode cX12_literal 130 = .ok (.aload_n 0, 1) := by decide +kernel
theorem dX12_literal_131 : decode cX12_literal 131 = .ok (.getfield 97, 3) := by decide +kernel
theorem dX12_literal_134 : decode cX12_literal 134 = .ok (.aload_n 0, 1) := by decide +kernel
theorem dX12_literal_135 : decode cX12_literal 135 = .ok (.getfield 296, 3) := by decide +kernel
theorem dX12_literal_138 : decode cX12_literal 138 = .ok (.iload 4, 2) := by decide +kernel
theorem dX12_literal_140 : decode cX12_literal 140 = .ok (.iastore, 1) := by decide +kernel
theorem dX12_literal_141 : decode cX12_literal 141 = .ok (.aload_n 0, 1) := by decide +kernel
theorem dX12_literal_142 : decode cX12_literal 142 = .ok (.getfield 100, 3) := by decide +kernel
theorem dX12_literal_145 : decode cX12_literal 145 = .ok (.aload_n 0, 1) := by decide +kernel
theorem dX12_literal_146 : decode cX12_literal 146 = .ok (.getfield 296, 3) := by decide +kernel
theorem dX12_literal_149 : decode cX12_literal 149 = .ok (.iload_n 2, 1) := by decide +kernel
theorem dX12_literal_150 : decode cX12_literal 150 = .ok (.bastore, 1) := by decide +kernel
theorem dX12_literal_151 : decode cX12_literal 151 = .ok (.aload_n 0, 1) := by decide +kernel
theorem dX12_literal_152 : decode cX12_literal 152 = .ok (.getfield 104, 3) := by decide +kernel
theorem dX12_literal_155 : decode cX12_literal 155 = .ok (.aload_n 0, 1) := by decide +kernel
theorem dX12_literal_156 : decode cX12_literal 156 = .ok (.getfield 296, 3) := by decide +kernel
theorem dX12_literal_159 : decode cX12_literal 159 = .ok (.iload_n 1, 1) := by decide +kernel
theorem dX12_literal_160 : decode cX12_literal 160 = .ok (.bastore, 1) := by decide +kernel
theorem dX12_literal_161 : decode cX12_literal 161 = .ok (.aload_n 0, 1) := by decide +kernel
theorem dX12_literal_162 : decode cX12_literal 162 = .ok (.getfield 107, 3) := by decide +kernel
theorem dX12_literal_165 : decode cX12_literal 165 = .ok (.aload_n 0, 1) := by decide +kernel
theorem dX12_literal_166 : decode cX12_literal 166 = .ok (.getfield 296, 3) := by decide +kernel
theorem dX12_literal_169 : decode cX12_literal 169 = .ok (.iload_n 3, 1) := by decide +kernel
theorem dX12_literal_170 : decode cX12_literal 170 = .ok (.iastore, 1) := by decide +kernel
theorem dX12_literal_171 : decode cX12_literal 171 = .ok (.aload_n 0, 1) := by decide +kernel
theorem dX12_literal_172 : decode cX12_literal 172 = .ok (.getfield 110, 3) := by decide +kernel
theorem dX12_literal_175 : decode cX12_literal 175 = .ok (.aload_n 0, 1) := by decide +kernel
theorem dX12_literal_176 : decode cX12_literal 176 = .ok (.getfield 296, 3) := by decide +kernel
theorem dX12_literal_179 : decode cX12_literal 179 = .ok (.iload 5, 2) := by decide +kernel
theorem dX12_literal_181 : decode cX12_literal 181 = .ok (.iastore, 1) := by decide +kernel
theorem dX12_literal_182 : decode cX12_literal 182 = .ok (.aload_n 0, 1) := by decide +kernel
theorem dX12_literal_183 : decode cX12_literal 183 = .ok (.getfield 113, 3) := by decide +kernel
theorem dX12_literal_186 : decode cX12_literal 186 = .ok (.aload_n 0, 1) := by decide +kernel
theorem dX12_literal_187 : decode cX12_literal 187 = .ok (.getfield 296, 3) := by decide +kernel
theorem dX12_literal_190 : decode cX12_literal 190 = .ok (.aload_n 0, 1) := by decide +kernel
theorem dX12_literal_191 : decode cX12_literal 191 = .ok (.getfield 299, 3) := by decide +kernel
theorem dX12_literal_194 : decode cX12_literal 194 = .ok (.iastore, 1) := by decide +kernel
theorem dX12_literal_195 : decode cX12_literal 195 = .ok (.aload_n 0, 1) := by decide +kernel
theorem dX12_literal_196 : decode cX12_literal 196 = .ok (.dup, 1) := by decide +kernel
theorem dX12_literal_197 : decode cX12_literal 197 = .ok (.getfield 296, 3) := by decide +kernel
theorem dX12_literal_200 : decode cX12_literal 200 = .ok (.iconst 1, 1) := by decide +kernel
theorem dX12_literal_201 : decode cX12_literal 201 = .ok (.iadd, 1) := by decide +kernel
theorem dX12_literal_202 : decode cX12_literal 202 = .ok (.putfield 296, 3) := by decide +kernel
theorem dX12_literal_205 : decode cX12_literal 205 = .ok (.return_, 1) := by decide +kernel
def k_X12_literal_2 (X : CX) (T : List Dsc) (R : RM) (n1 n2 : Nat) (x1 : Int32) (r : ((Int32 × M2) ⊕ ((Int32 × M2)))) : Prop := match r with
  | .inl s => Wp X cX12_literal RX12 6 T (mk s.2 R) n1 n2 2 [(0, .ref 56), (1, .int x1), (2, .int s.1)] []
  | .inr e => Wp X cX12_literal RX12 6 T (mk e.2 R) n1 n2 28 [(0, .ref 56), (1, .int x1), (2, .int e.1)] []
set_option maxHeartbeats 4000000 in
set_option maxRecDepth 100000 in
theorem w_X12_literal_20 {X : CX} {T : List Dsc} {R : RM} {c e : Nat} {n1 n2 : Nat} {x1 : Int32} {s0 : Int32} {m : M2} {r : ((Int32 × M2) ⊕ ((Int32 × M2)))} (hX : XR X 5 n1 n2) (hG : Geo T R c e) (hf : f_X12_literal_20 x1 s0 m = some r) (hk : k_X12_literal_2 X T R n1 n2 x1 r) : Wp X cX12_literal RX12 6 T (mk m R) n1 n2 20 [(0, .ref 56), (1, .int x1)] [.int s0] := by
  unfold f_X12_literal_20 at hf
  refine Wp.istore_n (pc := 20) (lo' := [(0, .ref 56), (1, .int x1), (2, .int s0)]) [1, 2, 0] rfl (by decide) rfl dX12_literal_20 ?_
  refine Wp.aload_n (pc := 21) 0 rfl rfl dX12_literal_21 ?_
  obtain ⟨c1, h2, hf⟩ := bnd hf
  refine Wp.callVv (pc := 22) (st := []) (as := []) (c_X12_goesOn hG h2) ml_RX12_275 mv_X12_goesOn mb_X12_goesOn hX (Nat.le_of_ble_eq_true rfl) (by decide) rfl (hG.t 56 rfl) rfl (by simp) dX12_literal_22 rfl ?_
  refine Wp.goto (pc := 25) 2 dX12_literal_25 (by decide) ?_
  cases hf
  exact hk
set_option maxHeartbeats 4000000 in
set_option maxRecDepth 100000 in
theorem w_X12_literal_2 {X : CX} {T : List Dsc} {R : RM} {c e : Nat} {n1 n2 : Nat} {x1 : Int32} {x2 : Int32} {m : M2} {r : ((Int32 × M2) ⊕ ((Int32 × M2)))} (hX : XR X 5 n1 n2) (hG : Geo T R c e) (hf : f_X12_literal_2 x1 x2 m = some r) (hk : k_X12_literal_2 X T R n1 n2 x1 r) : Wp X cX12_literal RX12 6 T (mk m R) n1 n2 2 [(0, .ref 56), (1, .int x1), (2, .int x2)] [] := by
  unfold f_X12_literal_2 at hf
  refine Wp.aload_n (pc := 2) 0 rfl rfl dX12_literal_2 ?_
  refine Wp.bipush (pc := 3) (31 : Int32) (by decide) dX12_literal_3 ?_
  obtain ⟨c1, h2, hf⟩ := bnd hf
  refine Wp.callVi (pc := 5) (st := []) (as := [.int (31 : Int32)]) (c_X12_is hG h2) ml_RX12_272 mv_X12_is mb_X12_is hX (Nat.le_of_ble_eq_true rfl) (by decide) rfl (hG.t 56 rfl) rfl (by simp) dX12_literal_5 rfl ?_
  refine Wp.if_eq (pc := 8) 28 dX12_literal_8 (by decide) (fun hc3 => ?_) (fun hc3 => ?_)
  · rw [if_pos hc3] at hf
    cases hf
    exact hk
  · rw [if_neg hc3] at hf
    refine Wp.iload_n (pc := 11) 2 rfl rfl dX12_literal_11 ?_
    refine Wp.if_ne (pc := 12) 19 dX12_literal_12 (by decide) (fun hc4 => ?_) (fun hc4 => ?_)
    · rw [if_neg hc4] at hf
      refine Wp.iconst (pc := 19) (0 : Int32) (by decide) dX12_literal_19 ?_
      refine Wp.lo' (lo' := [(0, .ref 56), (1, .int x1)]) [0, 1] rfl ?_
      exact w_X12_literal_20 hX hG hf hk
    · rw [if_pos hc4] at hf
      refine Wp.iconst (pc := 15) (1 : Int32) (by decide) dX12_literal_15 ?_
      refine Wp.goto (pc := 16) 20 dX12_literal_16 (by decide) ?_
      refine Wp.lo' (lo' := [(0, .ref 56), (1, .int x1)]) [0, 1] rfl ?_
      exact w_X12_literal_20 hX hG hf hk
theorem wl_X12_literal_2 {X : CX} {T : List Dsc} {R : RM} {c e : Nat} {n1 n2 : Nat} {x1 : Int32} {x2 : Int32} {m : M2} {e1 : ((Int32 × M2))} (hX : XR X 5 n1 n2) (hG : Geo T R c e) (h : loop (g_X12_literal_2 x1) (x2, m) = some e1) (he : Wp X cX12_literal RX12 6 T (mk e1.2 R) n1 n2 28 [(0, .ref 56), (1, .int x1), (2, .int e1.1)] []) : Wp X cX12_literal RX12 6 T (mk m R) n1 n2 2 [(0, .ref 56), (1, .int x1), (2, .int x2)] [] :=
  loop_ok (K := k_X12_literal_2 X T R n1 n2 x1) (fun s r hf hk => w_X12_literal_2 hX hG hf hk) h he
set_option maxHeartbeats 4000000 in
set_option maxRecDepth 100000 in
theorem w_X12_literal_100 {X : CX} {T : List Dsc} {R : RM} {c e : Nat} {n1 n2 : Nat} {x1 : Int32} {x2 : Int32} {x3 : Int32} {x4 : Int32} {m : M2} {r : M2} (hX : XR X 5 n1 n2) (hG : Geo T R c e) (hf : f_X12_literal_100 x1 x2 x3 x4 m = some r) (hk : FnV X cX12_literal RX12 6 T n1 n2 (mk r R)) : Wp X cX12_literal RX12 6 T (mk m R) n1 n2 100 [(0, .ref 56), (1, .int x1), (2, .int x2), (3, .int x3), (4, .int x4)] [] := by
  unfold f_X12_literal_100 at hf
  refine Wp.aload_n (pc := 100) 0 rfl rfl dX12_literal_100 ?_
  refine Wp.getI2 (pc := 101) (hG.t 56 rfl) fk_RX12_254 rfl dX12_literal_101 ?_
  refine Wp.if_le (pc := 104) 108 dX12_literal_104 (by decide) (fun hc1 => ?_) (fun hc1 => ?_)
  · rw [if_pos hc1] at hf
    refine Wp.aload_n (pc := 108) 0 rfl rfl dX12_literal_108 ?_
    obtain ⟨c2, h3, hf⟩ := bnd hf
    refine Wp.callVv (pc := 109) (st := []) (as := []) (c_X12_goesOn hG h3) ml_RX12_275 mv_X12_goesOn mb_X12_goesOn hX (Nat.le_of_ble_eq_true rfl) (by decide) rfl (hG.t 56 rfl) rfl (by simp) dX12_literal_109 rfl ?_
    refine Wp.aload_n (pc := 112) 0 rfl rfl dX12_literal_112 ?_
    refine Wp.getI2 (pc := 113) (hG.t 56 rfl) fk_RX12_299 rfl dX12_literal_113 ?_
    obtain ⟨v4, h5, hf⟩ := bnd hf
    refine Wp.nI' h5 ?_
    refine Wp.istore (pc := 116) (lo' := [(0, .ref 56), (1, .int x1), (2, .int x2), (3, .int x3), (4, .int x4), (5, .int v4)]) [1, 2, 3, 4, 5, 0] rfl (by decide) dX12_literal_116 ?_
    refine Wp.aload_n (pc := 118) 0 rfl rfl dX12_literal_118 ?_
    obtain ⟨c6, h7, hf⟩ := bnd hf
    refine Wp.callVv (pc := 119) (st := []) (as := []) (c_X12_expression hG h7) ml_RX12_356 mv_X12_expression mb_X12_expression hX (Nat.le_of_ble_eq_true rfl) (by decide) rfl (hG.t 56 rfl) rfl (by simp) dX12_literal_119 rfl ?_
    refine Wp.aload_n (pc := 122) 0 rfl rfl dX12_literal_122 ?_
    refine Wp.getI2 (pc := 123) (hG.t 56 rfl) fk_RX12_254 rfl dX12_literal_123 ?_
    refine Wp.if_le (pc := 126) 130 dX12_literal_126 (by decide) (fun hc8 => ?_) (fun hc8 => ?_)
    · rw [if_pos hc8] at hf
      refine Wp.aload_n (pc := 130) 0 rfl rfl dX12_literal_130 ?_
      refine Wp.getR2 (pc := 131) (hG.r 56 42 rfl) (hG.t 56 rfl) fk_RX12_97 rfl dX12_literal_131 ?_
      refine Wp.aload_n (pc := 134) 0 rfl rfl dX12_literal_134 ?_
      refine Wp.getI2 (pc := 135) (hG.t 56 rfl) fk_RX12_296 rfl dX12_literal_135 ?_
      refine Wp.iload (pc := 138) 4 rfl dX12_literal_138 ?_
      obtain ⟨m9, h10, hf⟩ := bnd hf
      refine Wp.iast2 (pc := 140) h10 (hG.a 83 0 rfl) dX12_literal_140 ?_
      refine Wp.aload_n (pc := 141) 0 rfl rfl dX12_literal_141 ?_
      refine Wp.getR2 (pc := 142) (hG.r 56 43 rfl) (hG.t 56 rfl) fk_RX12_100 rfl dX12_literal_142 ?_
      refine Wp.aload_n (pc := 145) 0 rfl rfl dX12_literal_145 ?_
      refine Wp.getI2 (pc := 146) (hG.t 56 rfl) fk_RX12_296 rfl dX12_literal_146 ?_
      refine Wp.iload_n (pc := 149) 2 rfl rfl dX12_literal_149 ?_
      obtain ⟨v11, h12, hf⟩ := bnd hf
      refine Wp.zb' h12 (fun h12 => ?_)
      obtain ⟨m13, h14, hf⟩ := bnd hf
      refine Wp.zast2 (pc := 150) h12 h14 (hG.a 84 3 rfl) dX12_literal_150 ?_
      refine Wp.aload_n (pc := 151) 0 rfl rfl dX12_literal_151 ?_
      refine Wp.getR2 (pc := 152) (hG.r 56 44 rfl) (hG.t 56 rfl) fk_RX12_104 rfl dX12_literal_152 ?_
      refine Wp.aload_n (pc := 155) 0 rfl rfl dX12_literal_155 ?_
      refine Wp.getI2 (pc := 156) (hG.t 56 rfl) fk_RX12_296 rfl dX12_literal_156 ?_
      refine Wp.iload_n (pc := 159) 1 rfl rfl dX12_literal_159 ?_
      obtain ⟨v15, h16, hf⟩ := bnd hf
      refine Wp.zb' h16 (fun h16 => ?_)
      obtain ⟨m17, h18, hf⟩ := bnd hf
      refine Wp.zast2 (pc := 160) h16 h18 (hG.a 85 3 rfl) dX12_literal_160 ?_
      refine Wp.aload_n (pc := 161) 0 rfl rfl dX12_literal_161 ?_
      refine Wp.getR2 (pc := 162) (hG.r 56 45 rfl) (hG.t 56 rfl) fk_RX12_107 rfl dX12_literal_162 ?_
      refine Wp.aload_n (pc := 165) 0 rfl rfl dX12_literal_165 ?_
      refine Wp.getI2 (pc := 166) (hG.t 56 rfl) fk_RX12_296 rfl dX12_literal_166 ?_
      refine Wp.iload_n (pc := 169) 3 rfl rfl dX12_literal_169 ?_
      obtain ⟨m19, h20, hf⟩ := bnd hf
      refine Wp.iast2 (pc := 170) h20 (hG.a 86 0 rfl) dX12_literal_170 ?_
      refine Wp.aload_n (pc := 171) 0 rfl rfl dX12_literal_171 ?_
      refine Wp.getR2 (pc := 172) (hG.r 56 46 rfl) (hG.t 56 rfl) fk_RX12_110 rfl dX12_literal_172 ?_
      refine Wp.aload_n (pc := 175) 0 rfl rfl dX12_literal_175 ?_
      refine Wp.getI2 (pc := 176) (hG.t 56 rfl) fk_RX12_296 rfl dX12_literal_176 ?_
      refine Wp.iload (pc := 179) 5 rfl dX12_literal_179 ?_
      obtain ⟨m21, h22, hf⟩ := bnd hf
      refine Wp.iast2 (pc := 181) h22 (hG.a 87 0 rfl) dX12_literal_181 ?_
      refine Wp.aload_n (pc := 182) 0 rfl rfl dX12_literal_182 ?_
      refine Wp.getR2 (pc := 183) (hG.r 56 47 rfl) (hG.t 56 rfl) fk_RX12_113 rfl dX12_literal_183 ?_
      refine Wp.aload_n (pc := 186) 0 rfl rfl dX12_literal_186 ?_
      refine Wp.getI2 (pc := 187) (hG.t 56 rfl) fk_RX12_296 rfl dX12_literal_187 ?_
      refine Wp.aload_n (pc := 190) 0 rfl rfl dX12_literal_190 ?_
      refine Wp.getI2 (pc := 191) (hG.t 56 rfl) fk_RX12_299 rfl dX12_literal_191 ?_
      obtain ⟨m23, h24, hf⟩ := bnd hf
      refine Wp.iast2 (pc := 194) h24 (hG.a 88 0 rfl) dX12_literal_194 ?_
      refine Wp.aload_n (pc := 195) 0 rfl rfl dX12_literal_195 ?_
      refine Wp.dup (pc := 196) rfl dX12_literal_196 ?_
      refine Wp.getI2 (pc := 197) (hG.t 56 rfl) fk_RX12_296 rfl dX12_literal_197 ?_
      refine Wp.iconst (pc := 200) (1 : Int32) (by decide) dX12_literal_200 ?_
      refine Wp.iadd (pc := 201) dX12_literal_201 ?_
      obtain ⟨m25, h26, hf⟩ := bnd hf
      refine Wp.ptI2 (pc := 202) h26 (hG.t 56 rfl) fk_RX12_296 ff_RX12_11_41 rfl dX12_literal_202 ?_
      cases hf
      exact hk _ _ dX12_literal_205
    · rw [if_neg hc8] at hf
      cases hf
      exact hk _ _ dX12_literal_129
  · rw [if_neg hc1] at hf
    cases hf
    exact hk _ _ dX12_literal_107
set_option maxHeartbeats 4000000 in
set_option maxRecDepth 100000 in
theorem w_X12_literal_88 {X : CX} {T : List Dsc} {R : RM} {c e : Nat} {n1 n2 : Nat} {x1 : Int32} {x2 : Int32} {x3 : Int32} {s0 : Int32} {m : M2} {r : M2} (hX : XR X 5 n1 n2) (hG : Geo T R c e) (hf : f_X12_literal_88 x1 x2 x3 s0 m = some r) (hk : FnV X cX12_literal RX12 6 T n1 n2 (mk r R)) : Wp X cX12_literal RX12 6 T (mk m R) n1 n2 88 [(0, .ref 56), (1, .int x1), (2, .int x2), (3, .int x3)] [.int s0] := by
  unfold f_X12_literal_88 at hf
  refine Wp.istore (pc := 88) (lo' := [(0, .ref 56), (1, .int x1), (2, .int x2), (3, .int x3), (4, .int s0)]) [1, 2, 3, 4, 0] rfl (by decide) dX12_literal_88 ?_
  refine Wp.iload (pc := 90) 4 rfl dX12_literal_90 ?_
  refine Wp.if_ge (pc := 92) 100 dX12_literal_92 (by decide) (fun hc1 => ?_) (fun hc1 => ?_)
  · rw [if_pos hc1] at hf
    exact w_X12_literal_100 hX hG hf hk
  · rw [if_neg hc1] at hf
    refine Wp.aload_n (pc := 95) 0 rfl rfl dX12_literal_95 ?_
    refine Wp.iconst (pc := 96) (1 : Int32) (by decide) dX12_literal_96 ?_
    obtain ⟨c2, h3, hf⟩ := bnd hf
    refine Wp.callVv (pc := 97) (st := []) (as := [.int (1 : Int32)]) (c_X12_fail hG h3) ml_RX12_269 mv_X12_fail mb_X12_fail hX (Nat.le_of_ble_eq_true rfl) (by decide) rfl (hG.t 56 rfl) rfl (by simp) dX12_literal_97 rfl ?_
    exact w_X12_literal_100 hX hG hf hk
set_option maxHeartbeats 4000000 in
set_option maxRecDepth 100000 in
theorem w_X12_literal_72 {X : CX} {T : List Dsc} {R : RM} {c e : Nat} {n1 n2 : Nat} {x1 : Int32} {x2 : Int32} {x3 : Int32} {m : M2} {r : M2} (hX : XR X 5 n1 n2) (hG : Geo T R c e) (hf : f_X12_literal_72 x1 x2 x3 m = some r) (hk : FnV X cX12_literal RX12 6 T n1 n2 (mk r R)) : Wp X cX12_literal RX12 6 T (mk m R) n1 n2 72 [(0, .ref 56), (1, .int x1), (2, .int x2), (3, .int x3)] [] := by
  unfold f_X12_literal_72 at hf
  refine Wp.iconst (pc := 72) (-1 : Int32) (by decide) dX12_literal_72 ?_
  refine Wp.goto (pc := 73) 88 dX12_literal_73 (by decide) ?_
  exact w_X12_literal_88 hX hG hf hk
set_option maxHeartbeats 4000000 in
set_option maxRecDepth 100000 in
theorem w_X12_literal {X : CX} {T : List Dsc} {R : RM} {c e : Nat} {n1 n2 : Nat} {x1 : Int32} {m : M2} {r : M2} (hX : XR X 5 n1 n2) (hG : Geo T R c e) (hf : F_X12_literal x1 m = some r) (hk : FnV X cX12_literal RX12 6 T n1 n2 (mk r R)) : Wp X cX12_literal RX12 6 T (mk m R) n1 n2 0 [(0, .ref 56), (1, .int x1)] [] := by
  unfold F_X12_literal at hf
  refine Wp.iconst (pc := 0) (0 : Int32) (by decide) dX12_literal_0 ?_
  refine Wp.istore_n (pc := 1) (lo' := [(0, .ref 56), (1, .int x1), (2, .int (0 : Int32))]) [1, 2, 0] rfl (by decide) rfl dX12_literal_1 ?_
  obtain ⟨e1, h2, hf⟩ := bnd hf
  refine wl_X12_literal_2 hX hG h2 ?_
  refine Wp.aload_n (pc := 28) 0 rfl rfl dX12_literal_28 ?_
  refine Wp.getI2 (pc := 29) (hG.t 56 rfl) fk_RX12_299 rfl dX12_literal_29 ?_
  obtain ⟨v3, h4, hf⟩ := bnd hf
  refine Wp.nI' h4 ?_
  refine Wp.istore_n (pc := 32) (lo' := [(0, .ref 56), (1, .int x1), (2, .int e1.1), (3, .int v3)]) [1, 2, 3, 0] rfl (by decide) rfl dX12_literal_32 ?_
  refine Wp.aload_n (pc := 33) 0 rfl rfl dX12_literal_33 ?_
  obtain ⟨c5, h6, hf⟩ := bnd hf
  refine Wp.callVv (pc := 34) (st := []) (as := []) (c_X12_expression hG h6) ml_RX12_356 mv_X12_expression mb_X12_expression hX (Nat.le_of_ble_eq_true rfl) (by decide) rfl (hG.t 56 rfl) rfl (by simp) dX12_literal_34 rfl ?_
  refine Wp.aload_n (pc := 37) 0 rfl rfl dX12_literal_37 ?_
  refine Wp.getI2 (pc := 38) (hG.t 56 rfl) fk_RX12_254 rfl dX12_literal_38 ?_
  refine Wp.if_gt (pc := 41) 72 dX12_literal_41 (by decide) (fun hc7 => ?_) (fun hc7 => ?_)
  · rw [if_pos hc7] at hf
    exact w_X12_literal_72 hX hG hf hk
  · rw [if_neg hc7] at hf
    refine Wp.aload_n (pc := 44) 0 rfl rfl dX12_literal_44 ?_
    refine Wp.getR2 (pc := 45) (hG.r 56 5 rfl) (hG.t 56 rfl) fk_RX12_20 rfl dX12_literal_45 ?_
    refine Wp.aload_n (pc := 48) 0 rfl rfl dX12_literal_48 ?_
    refine Wp.getI2 (pc := 49) (hG.t 56 rfl) fk_RX12_257 rfl dX12_literal_49 ?_
    obtain ⟨v8, h9, hf⟩ := bnd hf
    refine Wp.iald2 (pc := 52) h9 (hG.a 59 0 rfl) dX12_literal_52 ?_
    refine Wp.bipush (pc := 53) (11 : Int32) (by decide) dX12_literal_53 ?_
    refine Wp.icmp_lt (pc := 55) 72 dX12_literal_55 (by decide) (fun hc10 => ?_) (fun hc10 => ?_)
    · rw [if_pos hc10] at hf
      exact w_X12_literal_72 hX hG hf hk
    · rw [if_neg hc10] at hf
      refine Wp.aload_n (pc := 58) 0 rfl rfl dX12_literal_58 ?_
      refine Wp.getR2 (pc := 59) (hG.r 56 5 rfl) (hG.t 56 rfl) fk_RX12_20 rfl dX12_literal_59 ?_
      refine Wp.aload_n (pc := 62) 0 rfl rfl dX12_literal_62 ?_
      refine Wp.getI2 (pc := 63) (hG.t 56 rfl) fk_RX12_257 rfl dX12_literal_63 ?_
      obtain ⟨v11, h12, hf⟩ := bnd hf
      refine Wp.iald2 (pc := 66) h12 (hG.a 59 0 rfl) dX12_literal_66 ?_
      refine Wp.bipush (pc := 67) (14 : Int32) (by decide) dX12_literal_67 ?_
      refine Wp.icmp_le (pc := 69) 76 dX12_literal_69 (by decide) (fun hc13 => ?_) (fun hc13 => ?_)
      · rw [if_pos hc13] at hf
        refine Wp.aload_n (pc := 76) 0 rfl rfl dX12_literal_76 ?_
        refine Wp.getR2 (pc := 77) (hG.r 56 5 rfl) (hG.t 56 rfl) fk_RX12_20 rfl dX12_literal_77 ?_
        refine Wp.aload_n (pc := 80) 0 rfl rfl dX12_literal_80 ?_
        refine Wp.getI2 (pc := 81) (hG.t 56 rfl) fk_RX12_257 rfl dX12_literal_81 ?_
        obtain ⟨v14, h15, hf⟩ := bnd hf
        refine Wp.iald2 (pc := 84) h15 (hG.a 59 0 rfl) dX12_literal_84 ?_
        refine Wp.bipush (pc := 85) (11 : Int32) (by decide) dX12_literal_85 ?_
        refine Wp.isub (pc := 87) dX12_literal_87 ?_
        exact w_X12_literal_88 hX hG hf hk
      · rw [if_neg hc13] at hf
        exact w_X12_literal_72 hX hG hf hk
theorem c_X12_literal {T : List Dsc} {R : RM} {c e : Nat} {x1 : Int32} {m : M2} {r : M2} (hG : Geo T R c e) (hf : F_X12_literal x1 m = some r) : Ct 5 yX12_literal cX12_literal 6 none T (mk m R) [.ref 56, .int x1] none (mk r R) := Ct.ofV (r := mk r R) (by decide +kernel) (Nat.le_of_ble_eq_true rfl) (fun X hX hk => w_X12_literal hX hG hf hk)
theorem dX12_condition_0 : decode cX12_condition 0 = .ok (.aload_n 0, 1) := by decide +kernel
theorem dX12_condition_1 : decode cX12_condition 1 = .ok (.invokevirtual 275, 3) := by decide +kernel
theorem dX12_condition_4 : decode cX12_condition 4 = .ok (.iconst 1, 1) := by decide +kernel
theorem dX12_condition_5 : decode cX12_condition 5 = .ok (.istore_n 1, 1) := by decide +kernel
theorem dX12_condition_6 : decode cX12_condition 6 = .ok (.iconst 1, 1) := by decide +kernel
theorem dX12_condition_7 : decode cX12_condition 7 = .ok (.istore_n 2, 1) := by decide +kernel
theorem dX12_condition_8 : decode cX12_condition 8 = .ok (.iload_n 2, 1) := by decide +kernel
theorem dX12_condition_9 : decode cX12_condition 9 = .ok (.ifCond .eq 52, 3) := by decide +kernel
theorem dX12_condition_12 : decode cX12_condition 12 = .ok (.aload_n 0, 1) := by decide +kernel
theorem dX12_condition_13 : decode cX12_condition 13 = .ok (.getfield 254, 3) := by decide +kernel
theorem dX12_condition_16 : decode cX12_condition 16 = .ok (.ifCond .ne 45, 3) := by decide +kernel
theorem dX12_condition_19 : decode cX12_condition 19 = .ok (.aload_n 0, 1) := by decide +kernel
theorem dX12_condition_20 : decode cX12_condition 20 = .ok (.iload_n 1, 1) := by decide +kernel
theorem dX12_condition_21 : decode cX12_condition 21 = .ok (.invokevirtual 359, 3) := by decide +kernel
theorem dX12_condition_24 : decode cX12_condition 24 = .ok (.aload_n 0, 1) := by decide +kernel
theorem dX12_condition_25 : decode cX12_condition 25 = .ok (.bipush 29, 2) := by decide +kernel
theorem dX12_condition_27 : decode cX12_condition 27 = .ok (.invokevirtual 272, 3) := by decide +kernel
theorem dX12_condition_30 : decode cX12_condition 30 = .ok (.istore_n 1, 1) := by decide +kernel
theorem dX12_condition_31 : decode cX12_condition 31 = .ok (.iload_n 1, 1) := by decide +kernel
theorem dX12_condition_32 : decode cX12_condition 32 = .ok (.ifCond .ne 12, 3) := by decide +kernel
theorem dX12_condition_35 : decode cX12_condition 35 = .ok (.aload_n 0, 1) := by decide +kernel
theorem dX12_condition_36 : decode cX12_condition 36 = .ok (.bipush 30, 2) := by decide +kernel
theorem dX12_condition_38 : decode cX12_condition 38 = .ok (.invokevirtual 272, 3) := by decide +kernel
theorem dX12_condition_41 : decode cX12_condition 41 = .ok (.ifCond .eq 7, 3) := by decide +kernel
theorem dX12_condition_44 : decode cX12_condition 44 = .ok (.iconst 1, 1) := by decide +kernel
theorem dX12_condition_45 : decode cX12_condition 45 = .ok (.goto 4, 3) := by decide +kernel
theorem dX12_condition_48 : decode cX12_condition 48 = .ok (.iconst 0, 1) := by decide +kernel
theorem dX12_condition_49 : decode cX12_condition 49 = .ok (.istore_n 2, 1) := by decide +kernel
theorem dX12_condition_50 : decode cX12_condition 50 = .ok (.iload_n 2, 1) := by decide +kernel
theorem dX12_condition_51 : decode cX12_condition 51 = .ok (.ifCond .eq (-43), 3) := by decide +kernel
theorem dX12_condition_54 : decode cX12_condition 54 = .ok (.aload_n 0, 1) := by decide +kernel
theorem dX12_condition_55 : decode cX12_condition 55 = .ok (.invokevirtual 275, 3) := by decide +kernel
theorem dX12_condition_58 : decode cX12_condition 58 = .ok (.goto (-50), 3) := by decide +kernel
theorem dX12_condition_61 : decode cX12_condition 61 = .ok (.return_, 1) := by decide +kernel
def k_X12_condition_8 (X : CX) (T : List Dsc) (R : RM) (n1 n2 : Nat) (r : ((Int32 × Int32 × M2) ⊕ ((M2)))) : Prop := match r with
  | .inl s => Wp X cX12_condition RX12 3 T (mk s.2.2 R) n1 n2 8 [(0, .ref 56), (1, .int s.1), (2, .int s.2.1)] []
  | .inr e => Wp X cX12_condition RX12 3 T (mk e R) n1 n2 61 [] []
set_option maxHeartbeats 4000000 in
set_option maxRecDepth 100000 in
theorem w_X12_condition_49 {X : CX} {T : List Dsc} {R : RM} {c e : Nat} {n1 n2 : Nat} {x1 : Int32} {s0 : Int32} {m : M2} {r : ((Int32 × Int32 × M2) ⊕ ((M2)))} (hX : XR X 6 n1 n2) (hG : Geo T R c e) (hf : f_X12_condition_49 x1 s0 m = some r) (hk : k_X12_condition_8 X T R n1 n2 r) : Wp X cX12_condition RX12 3 T (mk m R) n1 n2 49 [(0, .ref 56), (1, .int x1)] [.int s0] := by
  unfold f_X12_condition_49 at hf
  refine Wp.istore_n (pc := 49) (lo' := [(0, .ref 56), (1, .int x1), (2, .int s0)]) [1, 2, 0] rfl (by decide) rfl dX12_condition_49 ?_
  refine Wp.iload_n (pc := 50) 2 rfl rfl dX12_condition_50 ?_
  refine Wp.if_eq (pc := 51) 8 dX12_condition_51 (by decide) (fun hc1 => ?_) (fun hc1 => ?_)
  · rw [if_pos hc1] at hf
    cases hf
    exact hk
  · rw [if_neg hc1] at hf
    refine Wp.aload_n (pc := 54) 0 rfl rfl dX12_condition_54 ?_
    obtain ⟨c2, h3, hf⟩ := bnd hf
    refine Wp.callVv (pc := 55) (st := []) (as := []) (c_X12_goesOn hG h3) ml_RX12_275 mv_X12_goesOn mb_X12_goesOn hX (Nat.le_of_ble_eq_true rfl) (by decide) rfl (hG.t 56 rfl) rfl (by simp) dX12_condition_55 rfl ?_
    refine Wp.goto (pc := 58) 8 dX12_condition_58 (by decide) ?_
    cases hf
    exact hk
set_option maxHeartbeats 4000000 in
set_option maxRecDepth 100000 in
theorem w_X12_condition_44 {X : CX} {T : List Dsc} {R : RM} {c e : Nat} {n1 n2 : Nat} {x1 : Int32} {m : M2} {r : ((Int32 × Int32 × M2) ⊕ ((M2)))} (hX : XR X 6 n1 n2) (hG : Geo T R c e) (hf : f_X12_condition_44 x1 m = some r) (hk : k_X12_condition_8 X T R n1 n2 r) : Wp X cX12_condition RX12 3 T (mk m R) n1 n2 44 [(0, .ref 56), (1, .int x1)] [] := by
  unfold f_X12_condition_44 at hf
  refine Wp.iconst (pc := 44) (1 : Int32) (by decide) dX12_condition_44 ?_
  refine Wp.goto (pc := 45) 49 dX12_condition_45 (by decide) ?_
  exact w_X12_condition_49 hX hG hf hk
set_option maxHeartbeats 4000000 in
set_option maxRecDepth 100000 in
theorem w_X12_condition_8 {X : CX} {T : List Dsc} {R : RM} {c e : Nat} {n1 n2 : Nat} {x1 : Int32} {x2 : Int32} {m : M2} {r : ((Int32 × Int32 × M2) ⊕ ((M2)))} (hX : XR X 6 n1 n2) (hG : Geo T R c e) (hf : f_X12_condition_8 x1 x2 m = some r) (hk : k_X12_condition_8 X T R n1 n2 r) : Wp X cX12_condition RX12 3 T (mk m R) n1 n2 8 [(0, .ref 56), (1, .int x1), (2, .int x2)] [] := by
  unfold f_X12_condition_8 at hf
  refine Wp.iload_n (pc := 8) 2 rfl rfl dX12_condition_8 ?_
  refine Wp.if_eq (pc := 9) 61 dX12_condition_9 (by decide) (fun hc1 => ?_) (fun hc1 => ?_)
  · rw [if_pos hc1] at hf
    refine Wp.lo' (lo' := []) [] rfl ?_
    cases hf
    exact hk
  · rw [if_neg hc1] at hf
    refine Wp.aload_n (pc := 12) 0 rfl rfl dX12_condition_12 ?_
    refine Wp.getI2 (pc := 13) (hG.t 56 rfl) fk_RX12_254 rfl dX12_condition_13 ?_
    refine Wp.if_ne (pc := 16) 61 dX12_condition_16 (by decide) (fun hc2 => ?_) (fun hc2 => ?_)
    · rw [if_neg hc2] at hf
      refine Wp.lo' (lo' := []) [] rfl ?_
      cases hf
      exact hk
    · rw [if_pos hc2] at hf
      refine Wp.aload_n (pc := 19) 0 rfl rfl dX12_condition_19 ?_
      refine Wp.iload_n (pc := 20) 1 rfl rfl dX12_condition_20 ?_
      obtain ⟨c3, h4, hf⟩ := bnd hf
      refine Wp.callVv (pc := 21) (st := []) (as := [.int x1]) (c_X12_literal hG h4) ml_RX12_359 mv_X12_literal mb_X12_literal hX (Nat.le_of_ble_eq_true rfl) (by decide) rfl (hG.t 56 rfl) rfl (by simp) dX12_condition_21 rfl ?_
      refine Wp.aload_n (pc := 24) 0 rfl rfl dX12_condition_24 ?_
      refine Wp.bipush (pc := 25) (29 : Int32) (by decide) dX12_condition_25 ?_
      obtain ⟨c5, h6, hf⟩ := bnd hf
      refine Wp.callVi (pc := 27) (st := []) (as := [.int (29 : Int32)]) (c_X12_is hG h6) ml_RX12_272 mv_X12_is mb_X12_is hX (Nat.le_of_ble_eq_true rfl) (by decide) rfl (hG.t 56 rfl) rfl (by simp) dX12_condition_27 rfl ?_
      refine Wp.istore_n (pc := 30) (lo' := [(0, .ref 56), (1, .int c5.1)]) [1, 0] rfl (by decide) rfl dX12_condition_30 ?_
      refine Wp.iload_n (pc := 31) 1 rfl rfl dX12_condition_31 ?_
      refine Wp.if_ne (pc := 32) 44 dX12_condition_32 (by decide) (fun hc7 => ?_) (fun hc7 => ?_)
      · rw [if_neg hc7] at hf
        exact w_X12_condition_44 hX hG hf hk
      · rw [if_pos hc7] at hf
        refine Wp.aload_n (pc := 35) 0 rfl rfl dX12_condition_35 ?_
        refine Wp.bipush (pc := 36) (30 : Int32) (by decide) dX12_condition_36 ?_
        obtain ⟨c8, h9, hf⟩ := bnd hf
        refine Wp.callVi (pc := 38) (st := []) (as := [.int (30 : Int32)]) (c_X12_is hG h9) ml_RX12_272 mv_X12_is mb_X12_is hX (Nat.le_of_ble_eq_true rfl) (by decide) rfl (hG.t 56 rfl) rfl (by simp) dX12_condition_38 rfl ?_
        refine Wp.if_eq (pc := 41) 48 dX12_condition_41 (by decide) (fun hc10 => ?_) (fun hc10 => ?_)
        · rw [if_pos hc10] at hf
          refine Wp.iconst (pc := 48) (0 : Int32) (by decide) dX12_condition_48 ?_
          exact w_X12_condition_49 hX hG hf hk
        · rw [if_neg hc10] at hf
          exact w_X12_condition_44 hX hG hf hk
theorem wl_X12_condition_8 {X : CX} {T : List Dsc} {R : RM} {c e : Nat} {n1 n2 : Nat} {x1 : Int32} {x2 : Int32} {m : M2} {e1 : ((M2))} (hX : XR X 6 n1 n2) (hG : Geo T R c e) (h : loop (g_X12_condition_8) (x1, x2, m) = some e1) (he : Wp X cX12_condition RX12 3 T (mk e1 R) n1 n2 61 [] []) : Wp X cX12_condition RX12 3 T (mk m R) n1 n2 8 [(0, .ref 56), (1, .int x1), (2, .int x2)] [] :=
  loop_ok (K := k_X12_condition_8 X T R n1 n2) (fun s r hf hk => w_X12_condition_8 hX hG hf hk) h he
set_option maxHeartbeats 4000000 in
set_option maxRecDepth 100000 in
theorem w_X12_condition_61 {X : CX} {T : List Dsc} {R : RM} {c e : Nat} {n1 n2 : Nat} {m : M2} {r : M2} (hX : XR X 6 n1 n2) (hG : Geo T R c e) (hf : f_X12_condition_61 m = some r) (hk : FnV X cX12_condition RX12 3 T n1 n2 (mk r R)) : Wp X cX12_condition RX12 3 T (mk m R) n1 n2 61 [] [] := by
  unfold f_X12_condition_61 at hf
  cases hf
  exact hk _ _ dX12_condition_61
set_option maxHeartbeats 4000000 in
set_option maxRecDepth 100000 in
theorem w_X12_condition {X : CX} {T : List Dsc} {R : RM} {c e : Nat} {n1 n2 : Nat} {m : M2} {r : M2} (hX : XR X 6 n1 n2) (hG : Geo T R c e) (hf : F_X12_condition m = some r) (hk : FnV X cX12_condition RX12 3 T n1 n2 (mk r R)) : Wp X cX12_condition RX12 3 T (mk m R) n1 n2 0 [(0, .ref 56)] [] := by
  unfold F_X12_condition at hf
  refine Wp.aload_n (pc := 0) 0 rfl rfl dX12_condition_0 ?_
  obtain ⟨c1, h2, hf⟩ := bnd hf
  refine Wp.callVv (pc := 1) (st := []) (as := []) (c_X12_goesOn hG h2) ml_RX12_275 mv_X12_goesOn mb_X12_goesOn hX (Nat.le_of_ble_eq_true rfl) (by decide) rfl (hG.t 56 rfl) rfl (by simp) dX12_condition_1 rfl ?_
  refine Wp.iconst (pc := 4) (1 : Int32) (by decide) dX12_condition_4 ?_
  refine Wp.istore_n (pc := 5) (lo' := [(0, .ref 56), (1, .int (1 : Int32))]) [1, 0] rfl (by decide) rfl dX12_condition_5 ?_
  refine Wp.iconst (pc := 6) (1 : Int32) (by decide) dX12_condition_6 ?_
  refine Wp.istore_n (pc := 7) (lo' := [(0, .ref 56), (1, .int (1 : Int32)), (2, .int (1 : Int32))]) [1, 2, 0] rfl (by decide) rfl dX12_condition_7 ?_
  obtain ⟨e3, h4, hf⟩ := bnd hf
  refine wl_X12_condition_8 hX hG h4 ?_
  exact w_X12_condition_61 hX hG hf hk
theorem c_X12_condition {T : List Dsc} {R : RM} {c e : Nat} {m : M2} {r : M2} (hG : Geo T R c e) (hf : F_X12_condition m = some r) : Ct 6 yX12_condition cX12_condition 3 none T (mk m R) [.ref 56] none (mk r R) := Ct.ofV (r := mk r R) (by decide +kernel) (Nat.le_of_ble_eq_true rfl) (fun X hX hk => w_X12_condition hX hG hf hk)
theorem dX12_term_0 : decode cX12_term 0 = .ok (.aload_n 0, 1) := by decide +kernel
theorem dX12_term_1 : decode cX12_term 1 = .ok (.getfield 64, 3) := by decide +kernel
theorem dX12_term_4 : decode cX12_term 4 = .ok (.aload_n 0, 1) := by decide +kernel
theorem dX12_term_5 : decode cX12_term 5 = .ok (.getfield 293, 3) := by decide +kernel
theorem dX12_term_8 : decode cX12_term 8 = .ok (.aload_n 0, 1) := by decide +kernel
theorem dX12_term_9 : decode cX12_term 9 = .ok (.getfield 299, 3) := by decide +kernel
theorem dX12_term_12 : decode cX12_term 12 = .ok (.iastore, 1) := by decide +kernel
theorem dX12_term_13 : decode cX12_term 13 = .ok (.aload_n 0, 1) := by decide +kernel
theorem dX12_term_14 : decode cX12_term 14 = .ok (.getfield 254, 3) := by decide +kernel
theorem dX12_term_17 : decode cX12_term 17 = .ok (.ifCond .ne 7, 3) := by decide +kernel
theorem dX12_term_20 : decode cX12_term 20 = .ok (.aload_n 0, 1) := by decide +kernel
theorem dX12_term_21 : decode cX12_term 21 = .ok (.invokevirtual 356, 3) := by decide +kernel
theorem dX12_term_24 : decode cX12_term 24 = .ok (.aload_n 0, 1) := by decide +kernel
theorem dX12_term_25 : decode cX12_term 25 = .ok (.getfield 67, 3) := by decide +kernel
theorem dX12_term_28 : decode cX12_term 28 = .ok (.aload_n 0, 1) := by decide +kernel
theorem dX12_term_29 : decode cX12_term 29 = .ok (.getfield 293, 3) := by decide +kernel
theorem dX12_term_32 : decode cX12_term 32 = .ok (.aload_n 0, 1) := by decide +kernel
theorem dX12_term_33 : decode cX12_term 33 = .ok (.getfield 299, 3) := by decide +kernel
theorem dX12_term_36 : decode cX12_term 36 = .ok (.iastore, 1) := by decide +kernel
theorem dX12_term_37 : decode cX12_term 37 = .ok (.aload_n 0, 1) := by decide +kernel
theorem dX12_term_38 : decode cX12_term 38 = .ok (.dup, 1) := by decide +kernel
theorem dX12_term_39 : decode cX12_term 39 = .ok (.getfield 293, 3) := by decide +kernel
theorem dX12_term_42 : decode cX12_term 42 = .ok (.iconst 1, 1) := by decide +kernel
theorem dX12_term_43 : decode cX12_term 43 = .ok (.iadd, 1) := by decide +kernel
theorem dX12_term_44 : decode cX12_term 44 = .ok (.putfield 293, 3) := by decide +kernel
theorem dX12_term_47 : decode cX12_term 47 = .ok (.return_, 1) := by decide +kernel
set_option maxHeartbeats 4000000 in
set_option maxRecDepth 100000 in
theorem w_X12_term_24 {X : CX} {T : List Dsc} {R : RM} {c e : Nat} {n1 n2 : Nat} {m : M2} {r : M2} (hX : XR X 5 n1 n2) (hG : Geo T R c e) (hf : f_X12_term_24 m = some r) (hk : FnV X cX12_term RX12 1 T n1 n2 (mk r R)) : Wp X cX12_term RX12 1 T (mk m R) n1 n2 24 [(0, .ref 56)] [] := by
  unfold f_X12_term_24 at hf
  refine Wp.aload_n (pc := 24) 0 rfl rfl dX12_term_24 ?_
  refine Wp.getR2 (pc := 25) (hG.r 56 31 rfl) (hG.t 56 rfl) fk_RX12_67 rfl dX12_term_25 ?_
  refine Wp.aload_n (pc := 28) 0 rfl rfl dX12_term_28 ?_
  refine Wp.getI2 (pc := 29) (hG.t 56 rfl) fk_RX12_293 rfl dX12_term_29 ?_
  refine Wp.aload_n (pc := 32) 0 rfl rfl dX12_term_32 ?_
  refine Wp.getI2 (pc := 33) (hG.t 56 rfl) fk_RX12_299 rfl dX12_term_33 ?_
  obtain ⟨m1, h2, hf⟩ := bnd hf
  refine Wp.iast2 (pc := 36) h2 (hG.a 73 0 rfl) dX12_term_36 ?_
  refine Wp.aload_n (pc := 37) 0 rfl rfl dX12_term_37 ?_
  refine Wp.dup (pc := 38) rfl dX12_term_38 ?_
  refine Wp.getI2 (pc := 39) (hG.t 56 rfl) fk_RX12_293 rfl dX12_term_39 ?_
  refine Wp.iconst (pc := 42) (1 : Int32) (by decide) dX12_term_42 ?_
  refine Wp.iadd (pc := 43) dX12_term_43 ?_
  obtain ⟨m3, h4, hf⟩ := bnd hf
  refine Wp.ptI2 (pc := 44) h4 (hG.t 56 rfl) fk_RX12_293 ff_RX12_11_27 rfl dX12_term_44 ?_
  cases hf
  exact hk _ _ dX12_term_47
set_option maxHeartbeats 4000000 in
set_option maxRecDepth 100000 in
theorem w_X12_term {X : CX} {T : List Dsc} {R : RM} {c e : Nat} {n1 n2 : Nat} {m : M2} {r : M2} (hX : XR X 5 n1 n2) (hG : Geo T R c e) (hf : F_X12_term m = some r) (hk : FnV X cX12_term RX12 1 T n1 n2 (mk r R)) : Wp X cX12_term RX12 1 T (mk m R) n1 n2 0 [(0, .ref 56)] [] := by
  unfold F_X12_term at hf
  refine Wp.aload_n (pc := 0) 0 rfl rfl dX12_term_0 ?_
  refine Wp.getR2 (pc := 1) (hG.r 56 30 rfl) (hG.t 56 rfl) fk_RX12_64 rfl dX12_term_1 ?_
  refine Wp.aload_n (pc := 4) 0 rfl rfl dX12_term_4 ?_
  refine Wp.getI2 (pc := 5) (hG.t 56 rfl) fk_RX12_293 rfl dX12_term_5 ?_
  refine Wp.aload_n (pc := 8) 0 rfl rfl dX12_term_8 ?_
  refine Wp.getI2 (pc := 9) (hG.t 56 rfl) fk_RX12_299 rfl dX12_term_9 ?_
  obtain ⟨m1, h2, hf⟩ := bnd hf
  refine Wp.iast2 (pc := 12) h2 (hG.a 72 0 rfl) dX12_term_12 ?_
  refine Wp.aload_n (pc := 13) 0 rfl rfl dX12_term_13 ?_
  refine Wp.getI2 (pc := 14) (hG.t 56 rfl) fk_RX12_254 rfl dX12_term_14 ?_
  refine Wp.if_ne (pc := 17) 24 dX12_term_17 (by decide) (fun hc3 => ?_) (fun hc3 => ?_)
  · rw [if_neg hc3] at hf
    exact w_X12_term_24 hX hG hf hk
  · rw [if_pos hc3] at hf
    refine Wp.aload_n (pc := 20) 0 rfl rfl dX12_term_20 ?_
    obtain ⟨c4, h5, hf⟩ := bnd hf
    refine Wp.callVv (pc := 21) (st := []) (as := []) (c_X12_expression hG h5) ml_RX12_356 mv_X12_expression mb_X12_expression hX (Nat.le_of_ble_eq_true rfl) (by decide) rfl (hG.t 56 rfl) rfl (by simp) dX12_term_21 rfl ?_
    exact w_X12_term_24 hX hG hf hk
theorem c_X12_term {T : List Dsc} {R : RM} {c e : Nat} {m : M2} {r : M2} (hG : Geo T R c e) (hf : F_X12_term m = some r) : Ct 5 yX12_term cX12_term 1 none T (mk m R) [.ref 56] none (mk r R) := Ct.ofV (r := mk r R) (by decide +kernel) (Nat.le_of_ble_eq_true rfl) (fun X hX hk => w_X12_term hX hG hf hk)
theorem dX12_notes_0 : decode cX12_notes 0 = .ok (.aload_n 0, 1) := by decide +kernel
theorem dX12_notes_1 : decode cX12_notes 1 = .ok (.getfield 40, 3) := by decide +kernel
theorem dX12_notes_4 : decode cX12_notes 4 = .ok (.aload_n 0, 1) := by decide +kernel
theorem dX12_notes_5 : decode cX12_notes 5 = .ok (.getfield 290, 3) := by decide +kernel
theorem dX12_notes_8 : decode cX12_notes 8 = .ok (.aload_n 0, 1) := by decide +kernel
theorem dX12_notes_9 : decode cX12_notes 9 = .ok (.getfield 30, 3) := by decide +kernel
theorem dX12_notes_12 : decode cX12_notes 12 = .ok (.iload_n 1, 1) := by decide +kernel
theorem dX12_notes_13 : decode cX12_notes 13 = .ok (.laload, 1) := by decide +kernel
theorem dX12_notes_14 : decode cX12_notes 14 = .ok (.lastore, 1) := by decide +kernel
theorem dX12_notes_15 : decode cX12_notes 15 = .ok (.aload_n 0, 1) := by decide +kernel
theorem dX12_notes_16 : decode cX12_notes 16 = .ok (.getfield 43, 3) := by decide +kernel
theorem dX12_notes_19 : decode cX12_notes 19 = .ok (.aload_n 0, 1) := by decide +kernel
theorem dX12_notes_20 : decode cX12_notes 20 = .ok (.getfield 290, 3) := by decide +kernel
theorem dX12_notes_23 : decode cX12_notes 23 = .ok (.iload_n 2, 1) := by decide +kernel
theorem dX12_notes_24 : decode cX12_notes 24 = .ok (.iastore, 1) := by decide +kernel
theorem dX12_notes_25 : decode cX12_notes 25 = .ok (.aload_n 0, 1) := by decide +kernel
theorem dX12_notes_26 : decode cX12_notes 26 = .ok (.dup, 1) := by decide +kernel
theorem dX12_notes_27 : decode cX12_notes 27 = .ok (.getfield 290, 3) := by decide +kernel
theorem dX12_notes_30 : decode cX12_notes 30 = .ok (.iconst 1, 1) := by decide +kernel
theorem dX12_notes_31 : decode cX12_notes 31 = .ok (.iadd, 1) := by decide +kernel
theorem dX12_notes_32 : decode cX12_notes 32 = .ok (.putfield 290, 3) := by decide +kernel
theorem dX12_notes_35 : decode cX12_notes 35 = .ok (.return_, 1) := by decide +kernel
set_option maxHeartbeats 4000000 in
set_option maxRecDepth 100000 in
theorem w_X12_notes {X : CX} {T : List Dsc} {R : RM} {c e : Nat} {n1 n2 : Nat} {x1 : Int32} {x2 : Int32} {m : M2} {r : M2} (hX : XR X 1 n1 n2) (hG : Geo T R c e) (hf : F_X12_notes x1 x2 m = some r) (hk : FnV X cX12_notes RX12 3 T n1 n2 (mk r R)) : Wp X cX12_notes RX12 3 T (mk m R) n1 n2 0 [(0, .ref 56), (1, .int x1), (2, .int x2)] [] := by
  unfold F_X12_notes at hf
  refine Wp.aload_n (pc := 0) 0 rfl rfl dX12_notes_0 ?_
  refine Wp.getR2 (pc := 1) (hG.r 56 21 rfl) (hG.t 56 rfl) fk_RX12_40 rfl dX12_notes_1 ?_
  refine Wp.aload_n (pc := 4) 0 rfl rfl dX12_notes_4 ?_
  refine Wp.getI2 (pc := 5) (hG.t 56 rfl) fk_RX12_290 rfl dX12_notes_5 ?_
  refine Wp.aload_n (pc := 8) 0 rfl rfl dX12_notes_8 ?_
  refine Wp.getR2 (pc := 9) (hG.r 56 8 rfl) (hG.t 56 rfl) fk_RX12_30 rfl dX12_notes_9 ?_
  refine Wp.iload_n (pc := 12) 1 rfl rfl dX12_notes_12 ?_
  obtain ⟨v1, h2, hf⟩ := bnd hf
  refine Wp.lald2 (pc := 13) h2 (hG.a 62 1 rfl) dX12_notes_13 ?_
  obtain ⟨m3, h4, hf⟩ := bnd hf
  refine Wp.last2 (pc := 14) h4 (hG.a 64 1 rfl) dX12_notes_14 ?_
  refine Wp.aload_n (pc := 15) 0 rfl rfl dX12_notes_15 ?_
  refine Wp.getR2 (pc := 16) (hG.r 56 22 rfl) (hG.t 56 rfl) fk_RX12_43 rfl dX12_notes_16 ?_
  refine Wp.aload_n (pc := 19) 0 rfl rfl dX12_notes_19 ?_
  refine Wp.getI2 (pc := 20) (hG.t 56 rfl) fk_RX12_290 rfl dX12_notes_20 ?_
  refine Wp.iload_n (pc := 23) 2 rfl rfl dX12_notes_23 ?_
  obtain ⟨m5, h6, hf⟩ := bnd hf
  refine Wp.iast2 (pc := 24) h6 (hG.a 65 0 rfl) dX12_notes_24 ?_
  refine Wp.aload_n (pc := 25) 0 rfl rfl dX12_notes_25 ?_
  refine Wp.dup (pc := 26) rfl dX12_notes_26 ?_
  refine Wp.getI2 (pc := 27) (hG.t 56 rfl) fk_RX12_290 rfl dX12_notes_27 ?_
  refine Wp.iconst (pc := 30) (1 : Int32) (by decide) dX12_notes_30 ?_
  refine Wp.iadd (pc := 31) dX12_notes_31 ?_
  obtain ⟨m7, h8, hf⟩ := bnd hf
  refine Wp.ptI2 (pc := 32) h8 (hG.t 56 rfl) fk_RX12_290 ff_RX12_11_20 rfl dX12_notes_32 ?_
  cases hf
  exact hk _ _ dX12_notes_35
theorem c_X12_notes {T : List Dsc} {R : RM} {c e : Nat} {x1 : Int32} {x2 : Int32} {m : M2} {r : M2} (hG : Geo T R c e) (hf : F_X12_notes x1 x2 m = some r) : Ct 1 yX12_notes cX12_notes 3 none T (mk m R) [.ref 56, .int x1, .int x2] none (mk r R) := Ct.ofV (r := mk r R) (by decide +kernel) (Nat.le_of_ble_eq_true rfl) (fun X hX hk => w_X12_notes hX hG hf hk)
theorem dX12_tellLaw_0 : decode cX12_tellLaw 0 = .ok (.bipush 6, 2) := by decide +kernel
theorem dX12_tellLaw_2 : decode cX12_tellLaw 2 = .ok (.aload_n 0, 1) := by decide +kernel
theorem dX12_tellLaw_3 : decode cX12_tellLaw 3 = .ok (.getfield 287, 3) := by decide +kernel
theorem dX12_tellLaw_6 : decode cX12_tellLaw 6 = .ok (.imul, 1) := by decide +kernel
theorem dX12_tellLaw_7 : decode cX12_tellLaw 7 = .ok (.aload_n 0, 1) := by decide +kernel
theorem dX12_tellLaw_8 : decode cX12_tellLaw 8 = .ok (.getfield 49, 3) := by decide +kernel
theorem dX12_tellLaw_11 : decode cX12_tellLaw 11 = .ok (.aload_n 0, 1) := by decide +kernel
theorem dX12_tellLaw_12 : decode cX12_tellLaw 12 = .ok (.getfield 287, 3) := by decide +kernel
theorem dX12_tellLaw_15 : decode cX12_tellLaw 15 = .ok (.iaload, 1) := by decide +kernel
theorem dX12_tellLaw_16 : decode cX12_tellLaw 16 = .ok (.iadd, 1) := by decide +kernel
theorem dX12_tellLaw_17 : decode cX12_tellLaw 17 = .ok (.istore_n 1, 1) := by decide +kernel
theorem dX12_tellLaw_18 : decode cX12_tellLaw 18 = .ok (.aload_n 0, 1) := by decide +kernel
theorem dX12_tellLaw_19 : decode cX12_tellLaw 19 = .ok (.invokevirtual 344, 3) := by decide +kernel
theorem dX12_tellLaw_22 : decode cX12_tellLaw 22 = .ok (.istore_n 2, 1) := by decide +kernel
theorem dX12_tellLaw_23 : decode cX12_tellLaw 23 = .ok (.aload_n 0, 1) := by decide +kernel
theorem dX12_tellLaw_24 : decode cX12_tellLaw 24 = .ok (.iconst 5, 1) := by decide +kernel
theorem dX12_tellLaw_25 : decode cX12_tellLaw 25 = .ok (.invokevirtual 321, 3) := by decide +kernel
theorem dX12_tellLaw_28 : decode cX12_tellLaw 28 = .ok (.aload_n 0, 1) := by decide +kernel
theorem dX12_tellLaw_29 : decode cX12_tellLaw 29 = .ok (.getfield 52, 3) := by decide +kernel
theorem dX12_tellLaw_32 : decode cX12_tellLaw 32 = .ok (.iload_n 1, 1) := by decide +kernel
theorem dX12_tellLaw_33 : decode cX12_tellLaw 33 = .ok (.aload_n 0, 1) := by decide +kernel
theorem dX12_tellLaw_34 : decode cX12_tellLaw 34 = .ok (.getfield 293, 3) := by decide +kernel
theorem dX12_tellLaw_37 : decode cX12_tellLaw 37 = .ok (.iastore, 1) := by decide +kernel
theorem dX12_tellLaw_38 : decode cX12_tellLaw 38 = .ok (.iconst 0, 1) := by decide +kernel
theorem dX12_tellLaw_39 : decode cX12_tellLaw 39 = .ok (.istore_n 3, 1) := by decide +kernel
theorem dX12_tellLaw_40 : decode cX12_tellLaw 40 = .ok (.aload_n 0, 1) := by decide +kernel
theorem dX12_tellLaw_41 : decode cX12_tellLaw 41 = .ok (.getfield 254, 3) := by decide +kernel
theorem dX12_tellLaw_44 : decode cX12_tellLaw 44 = .ok (.ifCond .ne 83, 3) := by decide +kernel
theorem dX12_tellLaw_47 : decode cX12_tellLaw 47 = .ok (.aload_n 0, 1) := by decide +kernel
theorem dX12_tellLaw_48 : decode cX12_tellLaw 48 = .ok (.bipush 22, 2) := by decide +kernel
theorem dX12_tellLaw_50 : decode cX12_tellLaw 50 = .ok (.invokevirtual 272, 3) := by decide +kernel
theorem dX12_tellLaw_53 : decode cX12_tellLaw 53 = .ok (.ifCond .eq 74, 3) := by decide +kernel
theorem dX12_tellLaw_56 : decode cX12_tellLaw 56 = .ok (.iload_n 3, 1) := by decide +kernel
theorem dX12_tellLaw_57 : decode cX12_tellLaw 57 = .ok (.bipush 8, 2) := by decide +kernel
theorem dX12_tellLaw_59 : decode cX12_tellLaw 59 = .ok (.if_icmp .ne 8, 3) := by decide +kernel
theorem dX12_tellLaw_62 : decode cX12_tellLaw 62 = .ok (.aload_n 0, 1) := by decide +kernel
theorem dX12_tellLaw_63 : decode cX12_tellLaw 63 = .ok (.iconst 2, 1) := by decide +kernel
theorem dX12_tellLaw_64 : decode cX12_tellLaw 64 = .ok (.invokevirtual 269, 3) := by decide +kernel
theorem dX12_tellLaw_67 : decode cX12_tellLaw 67 = .ok (.aload_n 0, 1) := by decide +kernel
theorem dX12_tellLaw_68 : decode cX12_tellLaw 68 = .ok (.getfield 254, 3) := by decide +kernel
theorem dX12_tellLaw_71 : decode cX12_tellLaw 71 = .ok (.ifCond .le 4, 3) := by decide +kernel
theorem dX12_tellLaw_74 : decode cX12_tellLaw 74 = .ok (.return_, 1) := by decide +kernel
theorem dX12_tellLaw_75 : decode cX12_tellLaw 75 = .ok (.iinc 3 1, 3) := by decide +kernel
theorem dX12_tellLaw_78 : decode cX12_tellLaw 78 = .ok (.aload_n 0, 1) := by decide +kernel
theorem dX12_tellLaw_79 : decode cX12_tellLaw 79 = .ok (.getfield 58, 3) := by decide +kernel
theorem dX12_tellLaw_82 : decode cX12_tellLaw 82 = .ok (.aload_n 0, 1) := by decide +kernel
theorem dX12_tellLaw_83 : decode cX12_tellLaw 83 = .ok (.getfield 293, 3) := by decide +kernel
theorem dX12_tellLaw_86 : decode cX12_tellLaw 86 = .ok (.aload_n 0, 1) := by decide +kernel
theorem dX12_tellLaw_87 : decode cX12_tellLaw 87 = .ok (.getfield 296, 3) := by decide +kernel
theorem dX12_tellLaw_90 : decode cX12_tellLaw 90 = .ok (.iastore, 1) := by decide +kernel
theorem dX12_tellLaw_91 : decode cX12_tellLaw 91 = .ok (.aload_n 0, 1) := by decide +kernel
theorem dX12_tellLaw_92 : decode cX12_tellLaw 92 = .ok (.invokevirtual 350, 3) := by decide +kernel
theorem dX12_tellLaw_95 : decode cX12_tellLaw 95 = .ok (.aload_n 0, 1) := by decide +kernel
theorem dX12_tellLaw_96 : decode cX12_tellLaw 96 = .ok (.getfield 61, 3) := by decide +kernel
theorem dX12_tellLaw_99 : decode cX12_tellLaw 99 = .ok (.aload_n 0, 1) := by decide +kernel
theorem dX12_tellLaw_100 : decode cX12_tellLaw 100 = .ok (.getfield 293, 3) := by decide +kernel
theorem dX12_tellLaw_103 : decode cX12_tellLaw 103 = .ok (.aload_n 0, 1) := by decide +kernel
theorem dX12_tellLaw_104 : decode cX12_tellLaw 104 = .ok (.getfield 296, 3) := by decide +kernel
theorem dX12_tellLaw_107 : decode cX12_tellLaw 107 = .ok (.iastore, 1) := by decide +kernel
theorem dX12_tellLaw_108 : decode cX12_tellLaw 108 = .ok (.aload_n 0, 1) := by decide +kernel
theorem dX12_tellLaw_109 : decode cX12_tellLaw 109 = .ok (.bipush 23, 2) := by decide +kernel
theorem dX12_tellLaw_111 : decode cX12_tellLaw 111 = .ok (.invokevirtual 321, 3) := by decide +kernel
theorem dX12_tellLaw_114 : decode cX12_tellLaw 114 = .ok (.aload_n 0, 1) := by decide +kernel
theorem dX12_tellLaw_115 : decode cX12_tellLaw 115 = .ok (.invokevirtual 353, 3) := by decide +kernel
theorem dX12_tellLaw_118 : decode cX12_tellLaw 118 = .ok (.aload_n 0, 1) := by decide +kernel
theorem dX12_tellLaw_119 : decode cX12_tellLaw 119 = .ok (.bipush 24, 2) := by decide +kernel
theorem dX12_tellLaw_121 : decode cX12_tellLaw 121 = .ok (.invokevirtual 321, 3) := by decide +kernel
theorem dX12_tellLaw_124 : decode cX12_tellLaw 124 = .ok (.goto (-84), 3) := by decide +kernel
theorem dX12_tellLaw_127 : decode cX12_tellLaw 127 = .ok (.aload_n 0, 1) := by decide +kernel
theorem dX12_tellLaw_128 : decode cX12_tellLaw 128 = .ok (.getfield 58, 3) := by decide +kernel
theorem dX12_tellLaw_131 : decode cX12_tellLaw 131 = .ok (.aload_n 0, 1) := by decide +kernel
theorem dX12_tellLaw_132 : decode cX12_tellLaw 132 = .ok (.getfield 293, 3) := by decide +kernel
theorem dX12_tellLaw_135 : decode cX12_tellLaw 135 = .ok (.aload_n 0, 1) := by decide +kernel
theorem dX12_tellLaw_136 : decode cX12_tellLaw 136 = .ok (.getfield 296, 3) := by decide +kernel
theorem dX12_tellLaw_139 : decode cX12_tellLaw 139 = .ok (.iastore, 1) := by decide +kernel
theorem dX12_tellLaw_140 : decode cX12_tellLaw 140 = .ok (.aload_n 0, 1) := by decide +kernel
theorem dX12_tellLaw_141 : decode cX12_tellLaw 141 = .ok (.getfield 61, 3) := by decide +kernel
theorem dX12_tellLaw_144 : decode cX12_tellLaw 144 = .ok (.aload_n 0, 1) := by decide +kernel
theorem dX12_tellLaw_145 : decode cX12_tellLaw 145 = .ok (.getfield 293, 3) := by decide +kernel
theorem dX12_tellLaw_148 : decode cX12_tellLaw 148 = .ok (.aload_n 0, 1) := by decide +kernel
theorem dX12_tellLaw_149 : decode cX12_tellLaw 149 = .ok (.getfield 296, 3) := by decide +kernel
theorem dX12_tellLaw_152 : decode cX12_tellLaw 152 = .ok (.iastore, 1) := by decide +kernel
theorem dX12_tellLaw_153 : decode cX12_tellLaw 153 = .ok (.aload_n 0, 1) := by decide +kernel
theorem dX12_tellLaw_154 : decode cX12_tellLaw 154 = .ok (.invokevirtual 353, 3) := by decide +kernel
theorem dX12_tellLaw_157 : decode cX12_tellLaw 157 = .ok (.aload_n 0, 1) := by decide +kernel
theorem dX12_tellLaw_158 : decode cX12_tellLaw 158 = .ok (.getfield 55, 3) := by decide +kernel
theorem dX12_tellLaw_161 : decode cX12_tellLaw 161 = .ok (.iload_n 1, 1) := by decide +kernel
theorem dX12_tellLaw_162 : decode cX12_tellLaw 162 = .ok (.aload_n 0, 1) := by decide +kernel
theorem dX12_tellLaw_163 : decode cX12_tellLaw 163 = .ok (.getfield 293, 3) := by decide +kernel
theorem dX12_tellLaw_166 : decode cX12_tellLaw 166 = .ok (.iastore, 1) := by decide +kernel
theorem dX12_tellLaw_167 : decode cX12_tellLaw 167 = .ok (.aload_n 0, 1) := by decide +kernel
theorem dX12_tellLaw_168 : decode cX12_tellLaw 168 = .ok (.iconst 4, 1) := by decide +kernel
theorem dX12_tellLaw_169 : decode cX12_tellLaw 169 = .ok (.invokevirtual 321, 3) := by decide +kernel
theorem dX12_tellLaw_172 : decode cX12_tellLaw 172 = .ok (.aload_n 0, 1) := by decide +kernel
theorem dX12_tellLaw_173 : decode cX12_tellLaw 173 = .ok (.getfield 254, 3) := by decide +kernel
theorem dX12_tellLaw_176 : decode cX12_tellLaw 176 = .ok (.ifCond .le 4, 3) := by decide +kernel
theorem dX12_tellLaw_179 : decode cX12_tellLaw 179 = .ok (.return_, 1) := by decide +kernel
theorem dX12_tellLaw_180 : decode cX12_tellLaw 180 = .ok (.aload_n 0, 1) := by decide +kernel
theorem dX12_tellLaw_181 : decode cX12_tellLaw 181 = .ok (.iload_n 2, 1) := by decide +kernel
theorem dX12_tellLaw_182 : decode cX12_tellLaw 182 = .ok (.aload_n 0, 1) := by decide +kernel
theorem dX12_tellLaw_183 : decode cX12_tellLaw 183 = .ok (.getfield 49, 3) := by decide +kernel
theorem dX12_tellLaw_186 : decode cX12_tellLaw 186 = .ok (.aload_n 0, 1) := by decide +kernel
theorem dX12_tellLaw_187 : decode cX12_tellLaw 187 = .ok (.getfield 287, 3) := by decide +kernel
theorem dX12_tellLaw_190 : decode cX12_tellLaw 190 = .ok (.iaload, 1) := by decide +kernel
theorem dX12_tellLaw_191 : decode cX12_tellLaw 191 = .ok (.invokevirtual 347, 3) := by decide +kernel
theorem dX12_tellLaw_194 : decode cX12_tellLaw 194 = .ok (.aload_n 0, 1) := by decide +kernel
theorem dX12_tellLaw_195 : decode cX12_tellLaw 195 = .ok (.getfield 49, 3) := by decide +kernel
theorem dX12_tellLaw_198 : decode cX12_tellLaw 198 = .ok (.aload_n 0, 1) := by decide +kernel
theorem dX12_tellLaw_199 : decode cX12_tellLaw 199 = .ok (.getfield 287, 3) := by decide +kernel
theorem dX12_tellLaw_202 : decode cX12_tellLaw 202 = .ok (.dup2, 1) := by decide +kernel
theorem dX12_tellLaw_203 : decode cX12_tellLaw 203 = .ok (.iaload, 1) := by decide +kernel
theorem dX12_tellLaw_204 : decode cX12_tellLaw 204 = .ok (.iconst 1, 1) := by decide +kernel
theorem dX12_tellLaw_205 : decode cX12_tellLaw 205 = .ok (.iadd, 1) := by decide +kernel
theorem dX12_tellLaw_206 : decode cX12_tellLaw 206 = .ok (.iastore, 1) := by decide +kernel
theorem dX12_tellLaw_207 : decode cX12_tellLaw 207 = .ok (.return_, 1) := by decide +kernel
def k_X12_tellLaw_40 (X : CX) (T : List Dsc) (R : RM) (n1 n2 : Nat) (x1 : Int32) (x2 : Int32) (r : ((Int32 × M2) ⊕ ((M2) ⊕ (M2)))) : Prop := match r with
  | .inl s => Wp X cX12_tellLaw RX12 4 T (mk s.2 R) n1 n2 40 [(0, .ref 56), (1, .int x1), (2, .int x2), (3, .int s.1)] []
  | .inr (.inl e) => Wp X cX12_tellLaw RX12 4 T (mk e R) n1 n2 74 [] []
  | .inr (.inr e) => Wp X cX12_tellLaw RX12 4 T (mk e R) n1 n2 127 [(0, .ref 56), (1, .int x1), (2, .int x2)] []
set_option maxHeartbeats 4000000 in
set_option maxRecDepth 100000 in
theorem w_X12_tellLaw_67 {X : CX} {T : List Dsc} {R : RM} {c e : Nat} {n1 n2 : Nat} {x1 : Int32} {x2 : Int32} {x3 : Int32} {m : M2} {r : ((Int32 × M2) ⊕ ((M2) ⊕ (M2)))} (hX : XR X 7 n1 n2) (hG : Geo T R c e) (hf : f_X12_tellLaw_67 x1 x2 x3 m = some r) (hk : k_X12_tellLaw_40 X T R n1 n2 x1 x2 r) : Wp X cX12_tellLaw RX12 4 T (mk m R) n1 n2 67 [(0, .ref 56), (1, .int x1), (2, .int x2), (3, .int x3)] [] := by
  unfold f_X12_tellLaw_67 at hf
  refine Wp.aload_n (pc := 67) 0 rfl rfl dX12_tellLaw_67 ?_
  refine Wp.getI2 (pc := 68) (hG.t 56 rfl) fk_RX12_254 rfl dX12_tellLaw_68 ?_
  refine Wp.if_le (pc := 71) 75 dX12_tellLaw_71 (by decide) (fun hc1 => ?_) (fun hc1 => ?_)
  · rw [if_pos hc1] at hf
    obtain ⟨v2, h3, hf⟩ := bnd hf
    refine Wp.iincN (pc := 75) (lo' := [(0, .ref 56), (1, .int x1), (2, .int x2), (3, .int v2)]) (1 : Int32) (by decide) h3 3 rfl [1, 2, 3, 0] rfl (by decide) dX12_tellLaw_75 ?_
    refine Wp.aload_n (pc := 78) 0 rfl rfl dX12_tellLaw_78 ?_
    refine Wp.getR2 (pc := 79) (hG.r 56 28 rfl) (hG.t 56 rfl) fk_RX12_58 rfl dX12_tellLaw_79 ?_
    refine Wp.aload_n (pc := 82) 0 rfl rfl dX12_tellLaw_82 ?_
    refine Wp.getI2 (pc := 83) (hG.t 56 rfl) fk_RX12_293 rfl dX12_tellLaw_83 ?_
    refine Wp.aload_n (pc := 86) 0 rfl rfl dX12_tellLaw_86 ?_
    refine Wp.getI2 (pc := 87) (hG.t 56 rfl) fk_RX12_296 rfl dX12_tellLaw_87 ?_
    obtain ⟨m4, h5, hf⟩ := bnd hf
    refine Wp.iast2 (pc := 90) h5 (hG.a 70 0 rfl) dX12_tellLaw_90 ?_
    refine Wp.aload_n (pc := 91) 0 rfl rfl dX12_tellLaw_91 ?_
    obtain ⟨c6, h7, hf⟩ := bnd hf
    refine Wp.callVv (pc := 92) (st := []) (as := []) (c_X12_condition hG h7) ml_RX12_350 mv_X12_condition mb_X12_condition hX (Nat.le_of_ble_eq_true rfl) (by decide) rfl (hG.t 56 rfl) rfl (by simp) dX12_tellLaw_92 rfl ?_
    refine Wp.aload_n (pc := 95) 0 rfl rfl dX12_tellLaw_95 ?_
    refine Wp.getR2 (pc := 96) (hG.r 56 29 rfl) (hG.t 56 rfl) fk_RX12_61 rfl dX12_tellLaw_96 ?_
    refine Wp.aload_n (pc := 99) 0 rfl rfl dX12_tellLaw_99 ?_
    refine Wp.getI2 (pc := 100) (hG.t 56 rfl) fk_RX12_293 rfl dX12_tellLaw_100 ?_
    refine Wp.aload_n (pc := 103) 0 rfl rfl dX12_tellLaw_103 ?_
    refine Wp.getI2 (pc := 104) (hG.t 56 rfl) fk_RX12_296 rfl dX12_tellLaw_104 ?_
    obtain ⟨m8, h9, hf⟩ := bnd hf
    refine Wp.iast2 (pc := 107) h9 (hG.a 71 0 rfl) dX12_tellLaw_107 ?_
    refine Wp.aload_n (pc := 108) 0 rfl rfl dX12_tellLaw_108 ?_
    refine Wp.bipush (pc := 109) (23 : Int32) (by decide) dX12_tellLaw_109 ?_
    obtain ⟨c10, h11, hf⟩ := bnd hf
    refine Wp.callVv (pc := 111) (st := []) (as := [.int (23 : Int32)]) (c_X12_must hG h11) ml_RX12_321 mv_X12_must mb_X12_must hX (Nat.le_of_ble_eq_true rfl) (by decide) rfl (hG.t 56 rfl) rfl (by simp) dX12_tellLaw_111 rfl ?_
    refine Wp.aload_n (pc := 114) 0 rfl rfl dX12_tellLaw_114 ?_
    obtain ⟨c12, h13, hf⟩ := bnd hf
    refine Wp.callVv (pc := 115) (st := []) (as := []) (c_X12_term hG h13) ml_RX12_353 mv_X12_term mb_X12_term hX (Nat.le_of_ble_eq_true rfl) (by decide) rfl (hG.t 56 rfl) rfl (by simp) dX12_tellLaw_115 rfl ?_
    refine Wp.aload_n (pc := 118) 0 rfl rfl dX12_tellLaw_118 ?_
    refine Wp.bipush (pc := 119) (24 : Int32) (by decide) dX12_tellLaw_119 ?_
    obtain ⟨c14, h15, hf⟩ := bnd hf
    refine Wp.callVv (pc := 121) (st := []) (as := [.int (24 : Int32)]) (c_X12_must hG h15) ml_RX12_321 mv_X12_must mb_X12_must hX (Nat.le_of_ble_eq_true rfl) (by decide) rfl (hG.t 56 rfl) rfl (by simp) dX12_tellLaw_121 rfl ?_
    refine Wp.goto (pc := 124) 40 dX12_tellLaw_124 (by decide) ?_
    cases hf
    exact hk
  · rw [if_neg hc1] at hf
    refine Wp.lo' (lo' := []) [] rfl ?_
    cases hf
    exact hk
set_option maxHeartbeats 4000000 in
set_option maxRecDepth 100000 in
theorem w_X12_tellLaw_40 {X : CX} {T : List Dsc} {R : RM} {c e : Nat} {n1 n2 : Nat} {x1 : Int32} {x2 : Int32} {x3 : Int32} {m : M2} {r : ((Int32 × M2) ⊕ ((M2) ⊕ (M2)))} (hX : XR X 7 n1 n2) (hG : Geo T R c e) (hf : f_X12_tellLaw_40 x1 x2 x3 m = some r) (hk : k_X12_tellLaw_40 X T R n1 n2 x1 x2 r) : Wp X cX12_tellLaw RX12 4 T (mk m R) n1 n2 40 [(0, .ref 56), (1, .int x1), (2, .int x2), (3, .int x3)] [] := by
  unfold f_X12_tellLaw_40 at hf
  refine Wp.aload_n (pc := 40) 0 rfl rfl dX12_tellLaw_40 ?_
  refine Wp.getI2 (pc := 41) (hG.t 56 rfl) fk_RX12_254 rfl dX12_tellLaw_41 ?_
  refine Wp.if_ne (pc := 44) 127 dX12_tellLaw_44 (by decide) (fun hc1 => ?_) (fun hc1 => ?_)
  · rw [if_neg hc1] at hf
    refine Wp.lo' (lo' := [(0, .ref 56), (1, .int x1), (2, .int x2)]) [0, 1, 2] rfl ?_
    cases hf
    exact hk
  · rw [if_pos hc1] at hf
    refine Wp.aload_n (pc := 47) 0 rfl rfl dX12_tellLaw_47 ?_
    refine Wp.bipush (pc := 48) (22 : Int32) (by decide) dX12_tellLaw_48 ?_
    obtain ⟨c2, h3, hf⟩ := bnd hf
    refine Wp.callVi (pc := 50) (st := []) (as := [.int (22 : Int32)]) (c_X12_is hG h3) ml_RX12_272 mv_X12_is mb_X12_is hX (Nat.le_of_ble_eq_true rfl) (by decide) rfl (hG.t 56 rfl) rfl (by simp) dX12_tellLaw_50 rfl ?_
    refine Wp.if_eq (pc := 53) 127 dX12_tellLaw_53 (by decide) (fun hc4 => ?_) (fun hc4 => ?_)
    · rw [if_pos hc4] at hf
      refine Wp.lo' (lo' := [(0, .ref 56), (1, .int x1), (2, .int x2)]) [0, 1, 2] rfl ?_
      cases hf
      exact hk
    · rw [if_neg hc4] at hf
      refine Wp.iload_n (pc := 56) 3 rfl rfl dX12_tellLaw_56 ?_
      refine Wp.bipush (pc := 57) (8 : Int32) (by decide) dX12_tellLaw_57 ?_
      refine Wp.icmp_ne (pc := 59) 67 dX12_tellLaw_59 (by decide) (fun hc5 => ?_) (fun hc5 => ?_)
      · rw [if_neg hc5] at hf
        exact w_X12_tellLaw_67 hX hG hf hk
      · rw [if_pos hc5] at hf
        refine Wp.aload_n (pc := 62) 0 rfl rfl dX12_tellLaw_62 ?_
        refine Wp.iconst (pc := 63) (2 : Int32) (by decide) dX12_tellLaw_63 ?_
        obtain ⟨c6, h7, hf⟩ := bnd hf
        refine Wp.callVv (pc := 64) (st := []) (as := [.int (2 : Int32)]) (c_X12_fail hG h7) ml_RX12_269 mv_X12_fail mb_X12_fail hX (Nat.le_of_ble_eq_true rfl) (by decide) rfl (hG.t 56 rfl) rfl (by simp) dX12_tellLaw_64 rfl ?_
        exact w_X12_tellLaw_67 hX hG hf hk
theorem wl_X12_tellLaw_40 {X : CX} {T : List Dsc} {R : RM} {c e : Nat} {n1 n2 : Nat} {x1 : Int32} {x2 : Int32} {x3 : Int32} {m : M2} {e1 : ((M2) ⊕ (M2))} (hX : XR X 7 n1 n2) (hG : Geo T R c e) (h : loop (g_X12_tellLaw_40 x1 x2) (x3, m) = some e1) (he0 : ∀ e_, e1 = (Sum.inl e_) → Wp X cX12_tellLaw RX12 4 T (mk e_ R) n1 n2 74 [] []) (he1 : ∀ e_, e1 = (Sum.inr e_) → Wp X cX12_tellLaw RX12 4 T (mk e_ R) n1 n2 127 [(0, .ref 56), (1, .int x1), (2, .int x2)] []) : Wp X cX12_tellLaw RX12 4 T (mk m R) n1 n2 40 [(0, .ref 56), (1, .int x1), (2, .int x2), (3, .int x3)] [] :=
  loop_ok (K := k_X12_tellLaw_40 X T R n1 n2 x1 x2) (fun s r hf hk => w_X12_tellLaw_40 hX hG hf hk) h (by rcases e1 with e_ | e_ <;> first | exact he0 _ rfl | exact he1 _ rfl)
set_option maxHeartbeats 4000000 in
set_option maxRecDepth 100000 in
theorem w_X12_tellLaw_127 {X : CX} {T : List Dsc} {R : RM} {c e : Nat} {n1 n2 : Nat} {x1 : Int32} {x2 : Int32} {m : M2} {r : M2} (hX : XR X 7 n1 n2) (hG : Geo T R c e) (hf : f_X12_tellLaw_127 x1 x2 m = some r) (hk : FnV X cX12_tellLaw RX12 4 T n1 n2 (mk r R)) : Wp X cX12_tellLaw RX12 4 T (mk m R) n1 n2 127 [(0, .ref 56), (1, .int x1), (2, .int x2)] [] := by
  unfold f_X12_tellLaw_127 at hf
  refine Wp.aload_n (pc := 127) 0 rfl rfl dX12_tellLaw_127 ?_
  refine Wp.getR2 (pc := 128) (hG.r 56 28 rfl) (hG.t 56 rfl) fk_RX12_58 rfl dX12_tellLaw_128 ?_
  refine Wp.aload_n (pc := 131) 0 rfl rfl dX12_tellLaw_131 ?_
  refine Wp.getI2 (pc := 132) (hG.t 56 rfl) fk_RX12_293 rfl dX12_tellLaw_132 ?_
  refine Wp.aload_n (pc := 135) 0 rfl rfl dX12_tellLaw_135 ?_
  refine Wp.getI2 (pc := 136) (hG.t 56 rfl) fk_RX12_296 rfl dX12_tellLaw_136 ?_
  obtain ⟨m1, h2, hf⟩ := bnd hf
  refine Wp.iast2 (pc := 139) h2 (hG.a 70 0 rfl) dX12_tellLaw_139 ?_
  refine Wp.aload_n (pc := 140) 0 rfl rfl dX12_tellLaw_140 ?_
  refine Wp.getR2 (pc := 141) (hG.r 56 29 rfl) (hG.t 56 rfl) fk_RX12_61 rfl dX12_tellLaw_141 ?_
  refine Wp.aload_n (pc := 144) 0 rfl rfl dX12_tellLaw_144 ?_
  refine Wp.getI2 (pc := 145) (hG.t 56 rfl) fk_RX12_293 rfl dX12_tellLaw_145 ?_
  refine Wp.aload_n (pc := 148) 0 rfl rfl dX12_tellLaw_148 ?_
  refine Wp.getI2 (pc := 149) (hG.t 56 rfl) fk_RX12_296 rfl dX12_tellLaw_149 ?_
  obtain ⟨m3, h4, hf⟩ := bnd hf
  refine Wp.iast2 (pc := 152) h4 (hG.a 71 0 rfl) dX12_tellLaw_152 ?_
  refine Wp.aload_n (pc := 153) 0 rfl rfl dX12_tellLaw_153 ?_
  obtain ⟨c5, h6, hf⟩ := bnd hf
  refine Wp.callVv (pc := 154) (st := []) (as := []) (c_X12_term hG h6) ml_RX12_353 mv_X12_term mb_X12_term hX (Nat.le_of_ble_eq_true rfl) (by decide) rfl (hG.t 56 rfl) rfl (by simp) dX12_tellLaw_154 rfl ?_
  refine Wp.aload_n (pc := 157) 0 rfl rfl dX12_tellLaw_157 ?_
  refine Wp.getR2 (pc := 158) (hG.r 56 26 rfl) (hG.t 56 rfl) fk_RX12_55 rfl dX12_tellLaw_158 ?_
  refine Wp.iload_n (pc := 161) 1 rfl rfl dX12_tellLaw_161 ?_
  refine Wp.aload_n (pc := 162) 0 rfl rfl dX12_tellLaw_162 ?_
  refine Wp.getI2 (pc := 163) (hG.t 56 rfl) fk_RX12_293 rfl dX12_tellLaw_163 ?_
  obtain ⟨m7, h8, hf⟩ := bnd hf
  refine Wp.iast2 (pc := 166) h8 (hG.a 69 0 rfl) dX12_tellLaw_166 ?_
  refine Wp.aload_n (pc := 167) 0 rfl rfl dX12_tellLaw_167 ?_
  refine Wp.iconst (pc := 168) (4 : Int32) (by decide) dX12_tellLaw_168 ?_
  obtain ⟨c9, h10, hf⟩ := bnd hf
  refine Wp.callVv (pc := 169) (st := []) (as := [.int (4 : Int32)]) (c_X12_must hG h10) ml_RX12_321 mv_X12_must mb_X12_must hX (Nat.le_of_ble_eq_true rfl) (by decide) rfl (hG.t 56 rfl) rfl (by simp) dX12_tellLaw_169 rfl ?_
  refine Wp.aload_n (pc := 172) 0 rfl rfl dX12_tellLaw_172 ?_
  refine Wp.getI2 (pc := 173) (hG.t 56 rfl) fk_RX12_254 rfl dX12_tellLaw_173 ?_
  refine Wp.if_le (pc := 176) 180 dX12_tellLaw_176 (by decide) (fun hc11 => ?_) (fun hc11 => ?_)
  · rw [if_pos hc11] at hf
    refine Wp.aload_n (pc := 180) 0 rfl rfl dX12_tellLaw_180 ?_
    refine Wp.iload_n (pc := 181) 2 rfl rfl dX12_tellLaw_181 ?_
    refine Wp.aload_n (pc := 182) 0 rfl rfl dX12_tellLaw_182 ?_
    refine Wp.getR2 (pc := 183) (hG.r 56 24 rfl) (hG.t 56 rfl) fk_RX12_49 rfl dX12_tellLaw_183 ?_
    refine Wp.aload_n (pc := 186) 0 rfl rfl dX12_tellLaw_186 ?_
    refine Wp.getI2 (pc := 187) (hG.t 56 rfl) fk_RX12_287 rfl dX12_tellLaw_187 ?_
    obtain ⟨v12, h13, hf⟩ := bnd hf
    refine Wp.iald2 (pc := 190) h13 (hG.a 67 0 rfl) dX12_tellLaw_190 ?_
    obtain ⟨c14, h15, hf⟩ := bnd hf
    refine Wp.callVv (pc := 191) (st := []) (as := [.int x2, .int v12]) (c_X12_notes hG h15) ml_RX12_347 mv_X12_notes mb_X12_notes hX (Nat.le_of_ble_eq_true rfl) (by decide) rfl (hG.t 56 rfl) rfl (by simp) dX12_tellLaw_191 rfl ?_
    refine Wp.aload_n (pc := 194) 0 rfl rfl dX12_tellLaw_194 ?_
    refine Wp.getR2 (pc := 195) (hG.r 56 24 rfl) (hG.t 56 rfl) fk_RX12_49 rfl dX12_tellLaw_195 ?_
    refine Wp.aload_n (pc := 198) 0 rfl rfl dX12_tellLaw_198 ?_
    refine Wp.getI2 (pc := 199) (hG.t 56 rfl) fk_RX12_287 rfl dX12_tellLaw_199 ?_
    refine Wp.dup2 (pc := 202) rfl rfl dX12_tellLaw_202 ?_
    obtain ⟨v16, h17, hf⟩ := bnd hf
    refine Wp.iald2 (pc := 203) h17 (hG.a 67 0 rfl) dX12_tellLaw_203 ?_
    refine Wp.iconst (pc := 204) (1 : Int32) (by decide) dX12_tellLaw_204 ?_
    refine Wp.iadd (pc := 205) dX12_tellLaw_205 ?_
    obtain ⟨m18, h19, hf⟩ := bnd hf
    refine Wp.iast2 (pc := 206) h19 (hG.a 67 0 rfl) dX12_tellLaw_206 ?_
    cases hf
    exact hk _ _ dX12_tellLaw_207
  · rw [if_neg hc11] at hf
    cases hf
    exact hk _ _ dX12_tellLaw_179
set_option maxHeartbeats 4000000 in
set_option maxRecDepth 100000 in
theorem w_X12_tellLaw {X : CX} {T : List Dsc} {R : RM} {c e : Nat} {n1 n2 : Nat} {m : M2} {r : M2} (hX : XR X 7 n1 n2) (hG : Geo T R c e) (hf : F_X12_tellLaw m = some r) (hk : FnV X cX12_tellLaw RX12 4 T n1 n2 (mk r R)) : Wp X cX12_tellLaw RX12 4 T (mk m R) n1 n2 0 [(0, .ref 56)] [] := by
  unfold F_X12_tellLaw at hf
  refine Wp.bipush (pc := 0) (6 : Int32) (by decide) dX12_tellLaw_0 ?_
  refine Wp.aload_n (pc := 2) 0 rfl rfl dX12_tellLaw_2 ?_
  refine Wp.getI2 (pc := 3) (hG.t 56 rfl) fk_RX12_287 rfl dX12_tellLaw_3 ?_
  refine Wp.imul (pc := 6) dX12_tellLaw_6 ?_
  refine Wp.aload_n (pc := 7) 0 rfl rfl dX12_tellLaw_7 ?_
  refine Wp.getR2 (pc := 8) (hG.r 56 24 rfl) (hG.t 56 rfl) fk_RX12_49 rfl dX12_tellLaw_8 ?_
  refine Wp.aload_n (pc := 11) 0 rfl rfl dX12_tellLaw_11 ?_
  refine Wp.getI2 (pc := 12) (hG.t 56 rfl) fk_RX12_287 rfl dX12_tellLaw_12 ?_
  obtain ⟨v1, h2, hf⟩ := bnd hf
  refine Wp.iald2 (pc := 15) h2 (hG.a 67 0 rfl) dX12_tellLaw_15 ?_
  refine Wp.iadd (pc := 16) dX12_tellLaw_16 ?_
  obtain ⟨v3, h4, hf⟩ := bnd hf
  refine Wp.nI' h4 ?_
  refine Wp.istore_n (pc := 17) (lo' := [(0, .ref 56), (1, .int v3)]) [1, 0] rfl (by decide) rfl dX12_tellLaw_17 ?_
  refine Wp.aload_n (pc := 18) 0 rfl rfl dX12_tellLaw_18 ?_
  obtain ⟨c5, h6, hf⟩ := bnd hf
  refine Wp.callVi (pc := 19) (st := []) (as := []) (c_X12_named hG h6) ml_RX12_344 mv_X12_named mb_X12_named hX (Nat.le_of_ble_eq_true rfl) (by decide) rfl (hG.t 56 rfl) rfl (by simp) dX12_tellLaw_19 rfl ?_
  refine Wp.istore_n (pc := 22) (lo' := [(0, .ref 56), (1, .int v3), (2, .int c5.1)]) [1, 2, 0] rfl (by decide) rfl dX12_tellLaw_22 ?_
  refine Wp.aload_n (pc := 23) 0 rfl rfl dX12_tellLaw_23 ?_
  refine Wp.iconst (pc := 24) (5 : Int32) (by decide) dX12_tellLaw_24 ?_
  obtain ⟨c7, h8, hf⟩ := bnd hf
  refine Wp.callVv (pc := 25) (st := []) (as := [.int (5 : Int32)]) (c_X12_must hG h8) ml_RX12_321 mv_X12_must mb_X12_must hX (Nat.le_of_ble_eq_true rfl) (by decide) rfl (hG.t 56 rfl) rfl (by simp) dX12_tellLaw_25 rfl ?_
  refine Wp.aload_n (pc := 28) 0 rfl rfl dX12_tellLaw_28 ?_
  refine Wp.getR2 (pc := 29) (hG.r 56 25 rfl) (hG.t 56 rfl) fk_RX12_52 rfl dX12_tellLaw_29 ?_
  refine Wp.iload_n (pc := 32) 1 rfl rfl dX12_tellLaw_32 ?_
  refine Wp.aload_n (pc := 33) 0 rfl rfl dX12_tellLaw_33 ?_
  refine Wp.getI2 (pc := 34) (hG.t 56 rfl) fk_RX12_293 rfl dX12_tellLaw_34 ?_
  obtain ⟨m9, h10, hf⟩ := bnd hf
  refine Wp.iast2 (pc := 37) h10 (hG.a 68 0 rfl) dX12_tellLaw_37 ?_
  refine Wp.iconst (pc := 38) (0 : Int32) (by decide) dX12_tellLaw_38 ?_
  refine Wp.istore_n (pc := 39) (lo' := [(0, .ref 56), (1, .int v3), (2, .int c5.1), (3, .int (0 : Int32))]) [1, 2, 3, 0] rfl (by decide) rfl dX12_tellLaw_39 ?_
  obtain ⟨e11, h12, hf⟩ := bnd hf
  refine wl_X12_tellLaw_40 hX hG h12 (fun e11_0 hq => ?_) (fun e11_1 hq => ?_)
  · rw [hq, Sum.elim_inl] at hf
    cases hf
    exact hk _ _ dX12_tellLaw_74
  · rw [hq, Sum.elim_inr] at hf
    exact w_X12_tellLaw_127 hX hG hf hk
theorem c_X12_tellLaw {T : List Dsc} {R : RM} {c e : Nat} {m : M2} {r : M2} (hG : Geo T R c e) (hf : F_X12_tellLaw m = some r) : Ct 7 yX12_tellLaw cX12_tellLaw 4 none T (mk m R) [.ref 56] none (mk r R) := Ct.ofV (r := mk r R) (by decide +kernel) (Nat.le_of_ble_eq_true rfl) (fun X hX hk => w_X12_tellLaw hX hG hf hk)
theorem dX12_part_0 : decode cX12_part 0 = .ok (.aload_n 0, 1) := by decide +kernel
theorem dX12_part_1 : decode cX12_part 1 = .ok (.getfield 257, 3) := by decide +kernel
theorem dX12_part_4 : decode cX12_part 4 = .ok (.istore_n 1, 1) := by decide +kernel
theorem dX12_part_5 : decode cX12_part 5 = .ok (.aload_n 0, 1) := by decide +kernel
theorem dX12_part_6 : decode cX12_part 6 = .ok (.iconst 0, 1) := by decide +kernel
theorem dX12_part_7 : decode cX12_part 7 = .ok (.sipush 9999, 3) := by decide +kernel
theorem dX12_part_10 : decode cX12_part 10 = .ok (.invokevirtual 317, 3) := by decide +kernel
theorem dX12_part_13 : decode cX12_part 13 = .ok (.istore_n 2, 1) := by decide +kernel
theorem dX12_part_14 : decode cX12_part 14 = .ok (.aload_n 0, 1) := by decide +kernel
theorem dX12_part_15 : decode cX12_part 15 = .ok (.getfield 254, 3) := by decide +kernel
theorem dX12_part_18 : decode cX12_part 18 = .ok (.ifCond .le 5, 3) := by decide +kernel
theorem dX12_part_21 : decode cX12_part 21 = .ok (.iconst 0, 1) := by decide +kernel
theorem dX12_part_22 : decode cX12_part 22 = .ok (.ireturn, 1) := by decide +kernel
theorem dX12_part_23 : decode cX12_part 23 = .ok (.aload_n 0, 1) := by decide +kernel
theorem dX12_part_24 : decode cX12_part 24 = .ok (.getfield 122, 3) := by decide +kernel
theorem dX12_part_27 : decode cX12_part 27 = .ok (.aload_n 0, 1) := by decide +kernel
theorem dX12_part_28 : decode cX12_part 28 = .ok (.getfield 302, 3) := by decide +kernel
theorem dX12_part_31 : decode cX12_part 31 = .ok (.iload_n 1, 1) := by decide +kernel
theorem dX12_part_32 : decode cX12_part 32 = .ok (.iastore, 1) := by decide +kernel
theorem dX12_part_33 : decode cX12_part 33 = .ok (.aload_n 0, 1) := by decide +kernel
theorem dX12_part_34 : decode cX12_part 34 = .ok (.dup, 1) := by decide +kernel
theorem dX12_part_35 : decode cX12_part 35 = .ok (.getfield 302, 3) := by decide +kernel
theorem dX12_part_38 : decode cX12_part 38 = .ok (.iconst 1, 1) := by decide +kernel
theorem dX12_part_39 : decode cX12_part 39 = .ok (.iadd, 1) := by decide +kernel
theorem dX12_part_40 : decode cX12_part 40 = .ok (.putfield 302, 3) := by decide +kernel
theorem dX12_part_43 : decode cX12_part 43 = .ok (.iload_n 2, 1) := by decide +kernel
theorem dX12_part_44 : decode cX12_part 44 = .ok (.ireturn, 1) := by decide +kernel
set_option maxHeartbeats 4000000 in
set_option maxRecDepth 100000 in
theorem w_X12_part {X : CX} {T : List Dsc} {R : RM} {c e : Nat} {n1 n2 : Nat} {m : M2} {r : (Int32 × M2)} (hX : XR X 4 n1 n2) (hG : Geo T R c e) (hf : F_X12_part m = some r) (hk : FnI X cX12_part RX12 3 T n1 n2 (r.1, mk r.2 R)) : Wp X cX12_part RX12 3 T (mk m R) n1 n2 0 [(0, .ref 56)] [] := by
  unfold F_X12_part at hf
  refine Wp.aload_n (pc := 0) 0 rfl rfl dX12_part_0 ?_
  refine Wp.getI2 (pc := 1) (hG.t 56 rfl) fk_RX12_257 rfl dX12_part_1 ?_
  obtain ⟨v1, h2, hf⟩ := bnd hf
  refine Wp.nI' h2 ?_
  refine Wp.istore_n (pc := 4) (lo' := [(0, .ref 56), (1, .int v1)]) [1, 0] rfl (by decide) rfl dX12_part_4 ?_
  refine Wp.aload_n (pc := 5) 0 rfl rfl dX12_part_5 ?_
  refine Wp.iconst (pc := 6) (0 : Int32) (by decide) dX12_part_6 ?_
  refine Wp.sipush (pc := 7) (9999 : Int32) (by decide) dX12_part_7 ?_
  obtain ⟨c3, h4, hf⟩ := bnd hf
  refine Wp.callVi (pc := 10) (st := []) (as := [.int (0 : Int32), .int (9999 : Int32)]) (c_X12_bounded hG h4) ml_RX12_317 mv_X12_bounded mb_X12_bounded hX (Nat.le_of_ble_eq_true rfl) (by decide) rfl (hG.t 56 rfl) rfl (by simp) dX12_part_10 rfl ?_
  refine Wp.istore_n (pc := 13) (lo' := [(0, .ref 56), (1, .int v1), (2, .int c3.1)]) [1, 2, 0] rfl (by decide) rfl dX12_part_13 ?_
  refine Wp.aload_n (pc := 14) 0 rfl rfl dX12_part_14 ?_
  refine Wp.getI2 (pc := 15) (hG.t 56 rfl) fk_RX12_254 rfl dX12_part_15 ?_
  refine Wp.if_le (pc := 18) 23 dX12_part_18 (by decide) (fun hc5 => ?_) (fun hc5 => ?_)
  · rw [if_pos hc5] at hf
    refine Wp.aload_n (pc := 23) 0 rfl rfl dX12_part_23 ?_
    refine Wp.getR2 (pc := 24) (hG.r 56 52 rfl) (hG.t 56 rfl) fk_RX12_122 rfl dX12_part_24 ?_
    refine Wp.aload_n (pc := 27) 0 rfl rfl dX12_part_27 ?_
    refine Wp.getI2 (pc := 28) (hG.t 56 rfl) fk_RX12_302 rfl dX12_part_28 ?_
    refine Wp.iload_n (pc := 31) 1 rfl rfl dX12_part_31 ?_
    obtain ⟨m6, h7, hf⟩ := bnd hf
    refine Wp.iast2 (pc := 32) h7 (hG.a 91 0 rfl) dX12_part_32 ?_
    refine Wp.aload_n (pc := 33) 0 rfl rfl dX12_part_33 ?_
    refine Wp.dup (pc := 34) rfl dX12_part_34 ?_
    refine Wp.getI2 (pc := 35) (hG.t 56 rfl) fk_RX12_302 rfl dX12_part_35 ?_
    refine Wp.iconst (pc := 38) (1 : Int32) (by decide) dX12_part_38 ?_
    refine Wp.iadd (pc := 39) dX12_part_39 ?_
    obtain ⟨m8, h9, hf⟩ := bnd hf
    refine Wp.ptI2 (pc := 40) h9 (hG.t 56 rfl) fk_RX12_302 ff_RX12_11_51 rfl dX12_part_40 ?_
    refine Wp.iload_n (pc := 43) 2 rfl rfl dX12_part_43 ?_
    cases hf
    exact hk _ _ dX12_part_44
  · rw [if_neg hc5] at hf
    refine Wp.iconst (pc := 21) (0 : Int32) (by decide) dX12_part_21 ?_
    cases hf
    exact hk _ _ dX12_part_22
theorem c_X12_part {T : List Dsc} {R : RM} {c e : Nat} {m : M2} {r : (Int32 × M2)} (hG : Geo T R c e) (hf : F_X12_part m = some r) : Ct 4 yX12_part cX12_part 3 (some .int) T (mk m R) [.ref 56] (some (.int r.1)) (mk r.2 R) := Ct.ofI (r := (r.1, mk r.2 R)) (by decide +kernel) (Nat.le_of_ble_eq_true rfl) (fun X hX hk => w_X12_part hX hG hf hk)
theorem dX12_tellMan_0 : decode cX12_tellMan 0 = .ok (.bipush 12, 2) := by decide +kernel
theorem dX12_tellMan_2 : decode cX12_tellMan 2 = .ok (.aload_n 0, 1) := by decide +kernel
theorem dX12_tellMan_3 : decode cX12_tellMan 3 = .ok (.getfield 287, 3) := by decide +kernel
theorem dX12_tellMan_6 : decode cX12_tellMan 6 = .ok (.imul, 1) := by decide +kernel
theorem dX12_tellMan_7 : decode cX12_tellMan 7 = .ok (.aload_n 0, 1) := by decide +kernel
theorem dX12_tellMan_8 : decode cX12_tellMan 8 = .ok (.getfield 70, 3) := by decide +kernel
theorem dX12_tellMan_11 : decode cX12_tellMan 11 = .ok (.aload_n 0, 1) := by decide +kernel
theorem dX12_tellMan_12 : decode cX12_tellMan 12 = .ok (.getfield 287, 3) := by decide +kernel
theorem dX12_tellMan_15 : decode cX12_tellMan 15 = .ok (.iaload, 1) := by decide +kernel
theorem dX12_tellMan_16 : decode cX12_tellMan 16 = .ok (.iadd, 1) := by decide +kernel
theorem dX12_tellMan_17 : decode cX12_tellMan 17 = .ok (.istore_n 1, 1) := by decide +kernel
theorem dX12_tellMan_18 : decode cX12_tellMan 18 = .ok (.aload_n 0, 1) := by decide +kernel
theorem dX12_tellMan_19 : decode cX12_tellMan 19 = .ok (.invokevirtual 344, 3) := by decide +kernel
theorem dX12_tellMan_22 : decode cX12_tellMan 22 = .ok (.istore_n 2, 1) := by decide +kernel
theorem dX12_tellMan_23 : decode cX12_tellMan 23 = .ok (.aload_n 0, 1) := by decide +kernel
theorem dX12_tellMan_24 : decode cX12_tellMan 24 = .ok (.getfield 257, 3) := by decide +kernel
theorem dX12_tellMan_27 : decode cX12_tellMan 27 = .ok (.istore_n 3, 1) := by decide +kernel
theorem dX12_tellMan_28 : decode cX12_tellMan 28 = .ok (.aload_n 0, 1) := by decide +kernel
theorem dX12_tellMan_29 : decode cX12_tellMan 29 = .ok (.iconst 1, 1) := by decide +kernel
theorem dX12_tellMan_30 : decode cX12_tellMan 30 = .ok (.invokevirtual 321, 3) := by decide +kernel
theorem dX12_tellMan_33 : decode cX12_tellMan 33 = .ok (.aload_n 0, 1) := by decide +kernel
theorem dX12_tellMan_34 : decode cX12_tellMan 34 = .ok (.getfield 73, 3) := by decide +kernel
theorem dX12_tellMan_37 : decode cX12_tellMan 37 = .ok (.iload_n 1, 1) := by decide +kernel
theorem dX12_tellMan_38 : decode cX12_tellMan 38 = .ok (.iconst (-1), 1) := by decide +kernel
theorem dX12_tellMan_39 : decode cX12_tellMan 39 = .ok (.iastore, 1) := by decide +kernel
theorem dX12_tellMan_40 : decode cX12_tellMan 40 = .ok (.iconst 0, 1) := by decide +kernel
theorem dX12_tellMan_41 : decode cX12_tellMan 41 = .ok (.istore 4, 2) := by decide +kernel
theorem dX12_tellMan_43 : decode cX12_tellMan 43 = .ok (.iload 4, 2) := by decide +kernel
theorem dX12_tellMan_45 : decode cX12_tellMan 45 = .ok (.aload_n 0, 1) := by decide +kernel
theorem dX12_tellMan_46 : decode cX12_tellMan 46 = .ok (.getfield 290, 3) := by decide +kernel
theorem dX12_tellMan_49 : decode cX12_tellMan 49 = .ok (.if_icmp .ge 56, 3) := by decide +kernel
theorem dX12_tellMan_52 : decode cX12_tellMan 52 = .ok (.aload_n 0, 1) := by decide +kernel
theorem dX12_tellMan_53 : decode cX12_tellMan 53 = .ok (.getfield 254, 3) := by decide +kernel
theorem dX12_tellMan_56 : decode cX12_tellMan 56 = .ok (.ifCond .ne 49, 3) := by decide +kernel
theorem dX12_tellMan_59 : decode cX12_tellMan 59 = .ok (.aload_n 0, 1) := by decide +kernel
theorem dX12_tellMan_60 : decode cX12_tellMan 60 = .ok (.getfield 40, 3) := by decide +kernel
theorem dX12_tellMan_63 : decode cX12_tellMan 63 = .ok (.iload 4, 2) := by decide +kernel
theorem dX12_tellMan_65 : decode cX12_tellMan 65 = .ok (.laload, 1) := by decide +kernel
theorem dX12_tellMan_66 : decode cX12_tellMan 66 = .ok (.aload_n 0, 1) := by decide +kernel
theorem dX12_tellMan_67 : decode cX12_tellMan 67 = .ok (.getfield 30, 3) := by decide +kernel
theorem dX12_tellMan_70 : decode cX12_tellMan 70 = .ok (.iload_n 3, 1) := by decide +kernel
theorem dX12_tellMan_71 : decode cX12_tellMan 71 = .ok (.laload, 1) := by decide +kernel
theorem dX12_tellMan_72 : decode cX12_tellMan 72 = .ok (.lcmp, 1) := by decide +kernel
theorem dX12_tellMan_73 : decode cX12_tellMan 73 = .ok (.ifCond .ne 26, 3) := by decide +kernel
theorem dX12_tellMan_76 : decode cX12_tellMan 76 = .ok (.aload_n 0, 1) := by decide +kernel
theorem dX12_tellMan_77 : decode cX12_tellMan 77 = .ok (.getfield 43, 3) := by decide +kernel
theorem dX12_tellMan_80 : decode cX12_tellMan 80 = .ok (.iload 4, 2) := by decide +kernel
theorem dX12_tellMan_82 : decode cX12_tellMan 82 = .ok (.iaload, 1) := by decide +kernel
theorem dX12_tellMan_83 : decode cX12_tellMan 83 = .ok (.ifCond .lt 16, 3) := by decide +kernel
theorem dX12_tellMan_86 : decode cX12_tellMan 86 = .ok (.aload_n 0, 1) := by decide +kernel
theorem dX12_tellMan_87 : decode cX12_tellMan 87 = .ok (.getfield 73, 3) := by decide +kernel
theorem dX12_tellMan_90 : decode cX12_tellMan 90 = .ok (.iload_n 1, 1) := by decide +kernel
theorem dX12_tellMan_91 : decode cX12_tellMan 91 = .ok (.aload_n 0, 1) := by decide +kernel
theorem dX12_tellMan_92 : decode cX12_tellMan 92 = .ok (.getfield 43, 3) := by decide +kernel
theorem dX12_tellMan_95 : decode cX12_tellMan 95 = .ok (.iload 4, 2) := by decide +kernel
theorem dX12_tellMan_97 : decode cX12_tellMan 97 = .ok (.iaload, 1) := by decide +kernel
theorem dX12_tellMan_98 : decode cX12_tellMan 98 = .ok (.iastore, 1) := by decide +kernel
theorem dX12_tellMan_99 : decode cX12_tellMan 99 = .ok (.iinc 4 1, 3) := by decide +kernel
theorem dX12_tellMan_102 : decode cX12_tellMan 102 = .ok (.goto (-59), 3) := by decide +kernel
theorem dX12_tellMan_105 : decode cX12_tellMan 105 = .ok (.aload_n 0, 1) := by decide +kernel
theorem dX12_tellMan_106 : decode cX12_tellMan 106 = .ok (.getfield 254, 3) := by decide +kernel
theorem dX12_tellMan_109 : decode cX12_tellMan 109 = .ok (.ifCond .ne 18, 3) := by decide +kernel
theorem dX12_tellMan_112 : decode cX12_tellMan 112 = .ok (.aload_n 0, 1) := by decide +kernel
theorem dX12_tellMan_113 : decode cX12_tellMan 113 = .ok (.getfield 73, 3) := by decide +kernel
theorem dX12_tellMan_116 : decode cX12_tellMan 116 = .ok (.iload_n 1, 1) := by decide +kernel
theorem dX12_tellMan_117 : decode cX12_tellMan 117 = .ok (.iaload, 1) := by decide +kernel
theorem dX12_tellMan_118 : decode cX12_tellMan 118 = .ok (.ifCond .ge 9, 3) := by decide +kernel
theorem dX12_tellMan_121 : decode cX12_tellMan 121 = .ok (.aload_n 0, 1) := by decide +kernel
theorem dX12_tellMan_122 : decode cX12_tellMan 122 = .ok (.iconst 4, 1) := by decide +kernel
theorem dX12_tellMan_123 : decode cX12_tellMan 123 = .ok (.iload_n 3, 1) := by decide +kernel
theorem dX12_tellMan_124 : decode cX12_tellMan 124 = .ok (.invokevirtual 341, 3) := by decide +kernel
theorem dX12_tellMan_127 : decode cX12_tellMan 127 = .ok (.aload_n 0, 1) := by decide +kernel
theorem dX12_tellMan_128 : decode cX12_tellMan 128 = .ok (.getfield 76, 3) := by decide +kernel
theorem dX12_tellMan_131 : decode cX12_tellMan 131 = .ok (.iload_n 1, 1) := by decide +kernel
theorem dX12_tellMan_132 : decode cX12_tellMan 132 = .ok (.aload_n 0, 1) := by decide +kernel
theorem dX12_tellMan_133 : decode cX12_tellMan 133 = .ok (.invokevirtual 334, 3) := by decide +kernel
theorem dX12_tellMan_136 : decode cX12_tellMan 136 = .ok (.iastore, 1) := by decide +kernel
theorem dX12_tellMan_137 : decode cX12_tellMan 137 = .ok (.aload_n 0, 1) := by decide +kernel
theorem dX12_tellMan_138 : decode cX12_tellMan 138 = .ok (.iconst 4, 1) := by decide +kernel
theorem dX12_tellMan_139 : decode cX12_tellMan 139 = .ok (.invokevirtual 321, 3) := by decide +kernel
theorem dX12_tellMan_142 : decode cX12_tellMan 142 = .ok (.aload_n 0, 1) := by decide +kernel
theorem dX12_tellMan_143 : decode cX12_tellMan 143 = .ok (.getfield 254, 3) := by decide +kernel
theorem dX12_tellMan_146 : decode cX12_tellMan 146 = .ok (.ifCond .le 4, 3) := by decide +kernel
theorem dX12_tellMan_149 : decode cX12_tellMan 149 = .ok (.return_, 1) := by decide +kernel
theorem dX12_tellMan_150 : decode cX12_tellMan 150 = .ok (.aload_n 0, 1) := by decide +kernel
theorem dX12_tellMan_151 : decode cX12_tellMan 151 = .ok (.iload_n 2, 1) := by decide +kernel
theorem dX12_tellMan_152 : decode cX12_tellMan 152 = .ok (.iconst (-1), 1) := by decide +kernel
theorem dX12_tellMan_153 : decode cX12_tellMan 153 = .ok (.invokevirtual 347, 3) := by decide +kernel
theorem dX12_tellMan_156 : decode cX12_tellMan 156 = .ok (.aload_n 0, 1) := by decide +kernel
theorem dX12_tellMan_157 : decode cX12_tellMan 157 = .ok (.getfield 70, 3) := by decide +kernel
theorem dX12_tellMan_160 : decode cX12_tellMan 160 = .ok (.aload_n 0, 1) := by decide +kernel
theorem dX12_tellMan_161 : decode cX12_tellMan 161 = .ok (.getfield 287, 3) := by decide +kernel
theorem dX12_tellMan_164 : decode cX12_tellMan 164 = .ok (.dup2, 1) := by decide +kernel
theorem dX12_tellMan_165 : decode cX12_tellMan 165 = .ok (.iaload, 1) := by decide +kernel
theorem dX12_tellMan_166 : decode cX12_tellMan 166 = .ok (.iconst 1, 1) := by decide +kernel
theorem dX12_tellMan_167 : decode cX12_tellMan 167 = .ok (.iadd, 1) := by decide +kernel
theorem dX12_tellMan_168 : decode cX12_tellMan 168 = .ok (.iastore, 1) := by decide +kernel
theorem dX12_tellMan_169 : decode cX12_tellMan 169 = .ok (.return_, 1) := by decide +kernel
def k_X12_tellMan_43 (X : CX) (T : List Dsc) (R : RM) (n1 n2 : Nat) (x1 : Int32) (x2 : Int32) (x3 : Int32) (r : ((Int32 × M2) ⊕ ((M2)))) : Prop := match r with
  | .inl s => Wp X cX12_tellMan RX12 5 T (mk s.2 R) n1 n2 43 [(0, .ref 56), (1, .int x1), (2, .int x2), (3, .int x3), (4, .int s.1)] []
  | .inr e => Wp X cX12_tellMan RX12 5 T (mk e R) n1 n2 105 [(0, .ref 56), (1, .int x1), (2, .int x2), (3, .int x3)] []
set_option maxHeartbeats 4000000 in
set_option maxRecDepth 100000 in
theorem w_X12_tellMan_99 {X : CX} {T : List Dsc} {R : RM} {c e : Nat} {n1 n2 : Nat} {x1 : Int32} {x2 : Int32} {x3 : Int32} {x4 : Int32} {m : M2} {r : ((Int32 × M2) ⊕ ((M2)))} (hX : XR X 5 n1 n2) (hG : Geo T R c e) (hf : f_X12_tellMan_99 x1 x2 x3 x4 m = some r) (hk : k_X12_tellMan_43 X T R n1 n2 x1 x2 x3 r) : Wp X cX12_tellMan RX12 5 T (mk m R) n1 n2 99 [(0, .ref 56), (1, .int x1), (2, .int x2), (3, .int x3), (4, .int x4)] [] := by
  unfold f_X12_tellMan_99 at hf
  obtain ⟨v1, h2, hf⟩ := bnd hf
  refine Wp.iincN (pc := 99) (lo' := [(0, .ref 56), (1, .int x1), (2, .int x2), (3, .int x3), (4, .int v1)]) (1 : Int32) (by decide) h2 4 rfl [1, 2, 3, 4, 0] rfl (by decide) dX12_tellMan_99 ?_
  refine Wp.goto (pc := 102) 43 dX12_tellMan_102 (by decide) ?_
  cases hf
  exact hk
set_option maxHeartbeats 4000000 in
set_option maxRecDepth 100000 in
theorem w_X12_tellMan_43 {X : CX} {T : List Dsc} {R : RM} {c e : Nat} {n1 n2 : Nat} {x1 : Int32} {x2 : Int32} {x3 : Int32} {x4 : Int32} {m : M2} {r : ((Int32 × M2) ⊕ ((M2)))} (hX : XR X 5 n1 n2) (hG : Geo T R c e) (hf : f_X12_tellMan_43 x1 x2 x3 x4 m = some r) (hk : k_X12_tellMan_43 X T R n1 n2 x1 x2 x3 r) : Wp X cX12_tellMan RX12 5 T (mk m R) n1 n2 43 [(0, .ref 56), (1, .int x1), (2, .int x2), (3, .int x3), (4, .int x4)] [] := by
  unfold f_X12_tellMan_43 at hf
  refine Wp.iload (pc := 43) 4 rfl dX12_tellMan_43 ?_
  refine Wp.aload_n (pc := 45) 0 rfl rfl dX12_tellMan_45 ?_
  refine Wp.getI2 (pc := 46) (hG.t 56 rfl) fk_RX12_290 rfl dX12_tellMan_46 ?_
  refine Wp.icmp_ge (pc := 49) 105 dX12_tellMan_49 (by decide) (fun hc1 => ?_) (fun hc1 => ?_)
  · rw [if_pos hc1] at hf
    refine Wp.lo' (lo' := [(0, .ref 56), (1, .int x1), (2, .int x2), (3, .int x3)]) [0, 1, 2, 3] rfl ?_
    cases hf
    exact hk
  · rw [if_neg hc1] at hf
    refine Wp.aload_n (pc := 52) 0 rfl rfl dX12_tellMan_52 ?_
    refine Wp.getI2 (pc := 53) (hG.t 56 rfl) fk_RX12_254 rfl dX12_tellMan_53 ?_
    refine Wp.if_ne (pc := 56) 105 dX12_tellMan_56 (by decide) (fun hc2 => ?_) (fun hc2 => ?_)
    · rw [if_neg hc2] at hf
      refine Wp.lo' (lo' := [(0, .ref 56), (1, .int x1), (2, .int x2), (3, .int x3)]) [0, 1, 2, 3] rfl ?_
      cases hf
      exact hk
    · rw [if_pos hc2] at hf
      refine Wp.aload_n (pc := 59) 0 rfl rfl dX12_tellMan_59 ?_
      refine Wp.getR2 (pc := 60) (hG.r 56 21 rfl) (hG.t 56 rfl) fk_RX12_40 rfl dX12_tellMan_60 ?_
      refine Wp.iload (pc := 63) 4 rfl dX12_tellMan_63 ?_
      obtain ⟨v3, h4, hf⟩ := bnd hf
      refine Wp.lald2 (pc := 65) h4 (hG.a 64 1 rfl) dX12_tellMan_65 ?_
      refine Wp.aload_n (pc := 66) 0 rfl rfl dX12_tellMan_66 ?_
      refine Wp.getR2 (pc := 67) (hG.r 56 8 rfl) (hG.t 56 rfl) fk_RX12_30 rfl dX12_tellMan_67 ?_
      refine Wp.iload_n (pc := 70) 3 rfl rfl dX12_tellMan_70 ?_
      obtain ⟨v5, h6, hf⟩ := bnd hf
      refine Wp.lald2 (pc := 71) h6 (hG.a 62 1 rfl) dX12_tellMan_71 ?_
      refine Wp.lcmp (pc := 72) dX12_tellMan_72 ?_
      refine Wp.if_ne (pc := 73) 99 dX12_tellMan_73 (by decide) (fun hc7 => ?_) (fun hc7 => ?_)
      · rw [if_neg hc7] at hf
        exact w_X12_tellMan_99 hX hG hf hk
      · rw [if_pos hc7] at hf
        refine Wp.aload_n (pc := 76) 0 rfl rfl dX12_tellMan_76 ?_
        refine Wp.getR2 (pc := 77) (hG.r 56 22 rfl) (hG.t 56 rfl) fk_RX12_43 rfl dX12_tellMan_77 ?_
        refine Wp.iload (pc := 80) 4 rfl dX12_tellMan_80 ?_
        obtain ⟨v8, h9, hf⟩ := bnd hf
        refine Wp.iald2 (pc := 82) h9 (hG.a 65 0 rfl) dX12_tellMan_82 ?_
        refine Wp.if_lt (pc := 83) 99 dX12_tellMan_83 (by decide) (fun hc10 => ?_) (fun hc10 => ?_)
        · rw [if_pos hc10] at hf
          exact w_X12_tellMan_99 hX hG hf hk
        · rw [if_neg hc10] at hf
          refine Wp.aload_n (pc := 86) 0 rfl rfl dX12_tellMan_86 ?_
          refine Wp.getR2 (pc := 87) (hG.r 56 33 rfl) (hG.t 56 rfl) fk_RX12_73 rfl dX12_tellMan_87 ?_
          refine Wp.iload_n (pc := 90) 1 rfl rfl dX12_tellMan_90 ?_
          refine Wp.aload_n (pc := 91) 0 rfl rfl dX12_tellMan_91 ?_
          refine Wp.getR2 (pc := 92) (hG.r 56 22 rfl) (hG.t 56 rfl) fk_RX12_43 rfl dX12_tellMan_92 ?_
          refine Wp.iload (pc := 95) 4 rfl dX12_tellMan_95 ?_
          obtain ⟨v11, h12, hf⟩ := bnd hf
          refine Wp.iald2 (pc := 97) h12 (hG.a 65 0 rfl) dX12_tellMan_97 ?_
          obtain ⟨m13, h14, hf⟩ := bnd hf
          refine Wp.iast2 (pc := 98) h14 (hG.a 75 0 rfl) dX12_tellMan_98 ?_
          exact w_X12_tellMan_99 hX hG hf hk
theorem wl_X12_tellMan_43 {X : CX} {T : List Dsc} {R : RM} {c e : Nat} {n1 n2 : Nat} {x1 : Int32} {x2 : Int32} {x3 : Int32} {x4 : Int32} {m : M2} {e1 : ((M2))} (hX : XR X 5 n1 n2) (hG : Geo T R c e) (h : loop (g_X12_tellMan_43 x1 x2 x3) (x4, m) = some e1) (he : Wp X cX12_tellMan RX12 5 T (mk e1 R) n1 n2 105 [(0, .ref 56), (1, .int x1), (2, .int x2), (3, .int x3)] []) : Wp X cX12_tellMan RX12 5 T (mk m R) n1 n2 43 [(0, .ref 56), (1, .int x1), (2, .int x2), (3, .int x3), (4, .int x4)] [] :=
  loop_ok (K := k_X12_tellMan_43 X T R n1 n2 x1 x2 x3) (fun s r hf hk => w_X12_tellMan_43 hX hG hf hk) h he
set_option maxHeartbeats 4000000 in
set_option maxRecDepth 100000 in
theorem w_X12_tellMan_127 {X : CX} {T : List Dsc} {R : RM} {c e : Nat} {n1 n2 : Nat} {x1 : Int32} {x2 : Int32} {m : M2} {r : M2} (hX : XR X 5 n1 n2) (hG : Geo T R c e) (hf : f_X12_tellMan_127 x1 x2 m = some r) (hk : FnV X cX12_tellMan RX12 5 T n1 n2 (mk r R)) : Wp X cX12_tellMan RX12 5 T (mk m R) n1 n2 127 [(0, .ref 56), (1, .int x1), (2, .int x2)] [] := by
  unfold f_X12_tellMan_127 at hf
  refine Wp.aload_n (pc := 127) 0 rfl rfl dX12_tellMan_127 ?_
  refine Wp.getR2 (pc := 128) (hG.r 56 34 rfl) (hG.t 56 rfl) fk_RX12_76 rfl dX12_tellMan_128 ?_
  refine Wp.iload_n (pc := 131) 1 rfl rfl dX12_tellMan_131 ?_
  refine Wp.aload_n (pc := 132) 0 rfl rfl dX12_tellMan_132 ?_
  obtain ⟨c1, h2, hf⟩ := bnd hf
  refine Wp.callVi (pc := 133) (st := [.int x1, .ref 76]) (as := []) (c_X12_part hG h2) ml_RX12_334 mv_X12_part mb_X12_part hX (Nat.le_of_ble_eq_true rfl) (by decide) rfl (hG.t 56 rfl) rfl (by simp [Value.category]) dX12_tellMan_133 rfl ?_
  obtain ⟨m3, h4, hf⟩ := bnd hf
  refine Wp.iast2 (pc := 136) h4 (hG.a 76 0 rfl) dX12_tellMan_136 ?_
  refine Wp.aload_n (pc := 137) 0 rfl rfl dX12_tellMan_137 ?_
  refine Wp.iconst (pc := 138) (4 : Int32) (by decide) dX12_tellMan_138 ?_
  obtain ⟨c5, h6, hf⟩ := bnd hf
  refine Wp.callVv (pc := 139) (st := []) (as := [.int (4 : Int32)]) (c_X12_must hG h6) ml_RX12_321 mv_X12_must mb_X12_must hX (Nat.le_of_ble_eq_true rfl) (by decide) rfl (hG.t 56 rfl) rfl (by simp) dX12_tellMan_139 rfl ?_
  refine Wp.aload_n (pc := 142) 0 rfl rfl dX12_tellMan_142 ?_
  refine Wp.getI2 (pc := 143) (hG.t 56 rfl) fk_RX12_254 rfl dX12_tellMan_143 ?_
  refine Wp.if_le (pc := 146) 150 dX12_tellMan_146 (by decide) (fun hc7 => ?_) (fun hc7 => ?_)
  · rw [if_pos hc7] at hf
    refine Wp.aload_n (pc := 150) 0 rfl rfl dX12_tellMan_150 ?_
    refine Wp.iload_n (pc := 151) 2 rfl rfl dX12_tellMan_151 ?_
    refine Wp.iconst (pc := 152) (-1 : Int32) (by decide) dX12_tellMan_152 ?_
    obtain ⟨c8, h9, hf⟩ := bnd hf
    refine Wp.callVv (pc := 153) (st := []) (as := [.int x2, .int (-1 : Int32)]) (c_X12_notes hG h9) ml_RX12_347 mv_X12_notes mb_X12_notes hX (Nat.le_of_ble_eq_true rfl) (by decide) rfl (hG.t 56 rfl) rfl (by simp) dX12_tellMan_153 rfl ?_
    refine Wp.aload_n (pc := 156) 0 rfl rfl dX12_tellMan_156 ?_
    refine Wp.getR2 (pc := 157) (hG.r 56 32 rfl) (hG.t 56 rfl) fk_RX12_70 rfl dX12_tellMan_157 ?_
    refine Wp.aload_n (pc := 160) 0 rfl rfl dX12_tellMan_160 ?_
    refine Wp.getI2 (pc := 161) (hG.t 56 rfl) fk_RX12_287 rfl dX12_tellMan_161 ?_
    refine Wp.dup2 (pc := 164) rfl rfl dX12_tellMan_164 ?_
    obtain ⟨v10, h11, hf⟩ := bnd hf
    refine Wp.iald2 (pc := 165) h11 (hG.a 74 0 rfl) dX12_tellMan_165 ?_
    refine Wp.iconst (pc := 166) (1 : Int32) (by decide) dX12_tellMan_166 ?_
    refine Wp.iadd (pc := 167) dX12_tellMan_167 ?_
    obtain ⟨m12, h13, hf⟩ := bnd hf
    refine Wp.iast2 (pc := 168) h13 (hG.a 74 0 rfl) dX12_tellMan_168 ?_
    cases hf
    exact hk _ _ dX12_tellMan_169
  · rw [if_neg hc7] at hf
    cases hf
    exact hk _ _ dX12_tellMan_149
set_option maxHeartbeats 4000000 in
set_option maxRecDepth 100000 in
theorem w_X12_tellMan_105 {X : CX} {T : List Dsc} {R : RM} {c e : Nat} {n1 n2 : Nat} {x1 : Int32} {x2 : Int32} {x3 : Int32} {m : M2} {r : M2} (hX : XR X 5 n1 n2) (hG : Geo T R c e) (hf : f_X12_tellMan_105 x1 x2 x3 m = some r) (hk : FnV X cX12_tellMan RX12 5 T n1 n2 (mk r R)) : Wp X cX12_tellMan RX12 5 T (mk m R) n1 n2 105 [(0, .ref 56), (1, .int x1), (2, .int x2), (3, .int x3)] [] := by
  unfold f_X12_tellMan_105 at hf
  refine Wp.aload_n (pc := 105) 0 rfl rfl dX12_tellMan_105 ?_
  refine Wp.getI2 (pc := 106) (hG.t 56 rfl) fk_RX12_254 rfl dX12_tellMan_106 ?_
  refine Wp.if_ne (pc := 109) 127 dX12_tellMan_109 (by decide) (fun hc1 => ?_) (fun hc1 => ?_)
  · rw [if_neg hc1] at hf
    refine Wp.lo' (lo' := [(0, .ref 56), (1, .int x1), (2, .int x2)]) [0, 1, 2] rfl ?_
    exact w_X12_tellMan_127 hX hG hf hk
  · rw [if_pos hc1] at hf
    refine Wp.aload_n (pc := 112) 0 rfl rfl dX12_tellMan_112 ?_
    refine Wp.getR2 (pc := 113) (hG.r 56 33 rfl) (hG.t 56 rfl) fk_RX12_73 rfl dX12_tellMan_113 ?_
    refine Wp.iload_n (pc := 116) 1 rfl rfl dX12_tellMan_116 ?_
    obtain ⟨v2, h3, hf⟩ := bnd hf
    refine Wp.iald2 (pc := 117) h3 (hG.a 75 0 rfl) dX12_tellMan_117 ?_
    refine Wp.if_ge (pc := 118) 127 dX12_tellMan_118 (by decide) (fun hc4 => ?_) (fun hc4 => ?_)
    · rw [if_pos hc4] at hf
      refine Wp.lo' (lo' := [(0, .ref 56), (1, .int x1), (2, .int x2)]) [0, 1, 2] rfl ?_
      exact w_X12_tellMan_127 hX hG hf hk
    · rw [if_neg hc4] at hf
      refine Wp.aload_n (pc := 121) 0 rfl rfl dX12_tellMan_121 ?_
      refine Wp.iconst (pc := 122) (4 : Int32) (by decide) dX12_tellMan_122 ?_
      refine Wp.iload_n (pc := 123) 3 rfl rfl dX12_tellMan_123 ?_
      obtain ⟨c5, h6, hf⟩ := bnd hf
      refine Wp.callVv (pc := 124) (st := []) (as := [.int (4 : Int32), .int x3]) (c_X12_wrong hG h6) ml_RX12_341 mv_X12_wrong mb_X12_wrong hX (Nat.le_of_ble_eq_true rfl) (by decide) rfl (hG.t 56 rfl) rfl (by simp) dX12_tellMan_124 rfl ?_
      refine Wp.lo' (lo' := [(0, .ref 56), (1, .int x1), (2, .int x2)]) [0, 1, 2] rfl ?_
      exact w_X12_tellMan_127 hX hG hf hk
set_option maxHeartbeats 4000000 in
set_option maxRecDepth 100000 in
theorem w_X12_tellMan {X : CX} {T : List Dsc} {R : RM} {c e : Nat} {n1 n2 : Nat} {m : M2} {r : M2} (hX : XR X 5 n1 n2) (hG : Geo T R c e) (hf : F_X12_tellMan m = some r) (hk : FnV X cX12_tellMan RX12 5 T n1 n2 (mk r R)) : Wp X cX12_tellMan RX12 5 T (mk m R) n1 n2 0 [(0, .ref 56)] [] := by
  unfold F_X12_tellMan at hf
  refine Wp.bipush (pc := 0) (12 : Int32) (by decide) dX12_tellMan_0 ?_
  refine Wp.aload_n (pc := 2) 0 rfl rfl dX12_tellMan_2 ?_
  refine Wp.getI2 (pc := 3) (hG.t 56 rfl) fk_RX12_287 rfl dX12_tellMan_3 ?_
  refine Wp.imul (pc := 6) dX12_tellMan_6 ?_
  refine Wp.aload_n (pc := 7) 0 rfl rfl dX12_tellMan_7 ?_
  refine Wp.getR2 (pc := 8) (hG.r 56 32 rfl) (hG.t 56 rfl) fk_RX12_70 rfl dX12_tellMan_8 ?_
  refine Wp.aload_n (pc := 11) 0 rfl rfl dX12_tellMan_11 ?_
  refine Wp.getI2 (pc := 12) (hG.t 56 rfl) fk_RX12_287 rfl dX12_tellMan_12 ?_
  obtain ⟨v1, h2, hf⟩ := bnd hf
  refine Wp.iald2 (pc := 15) h2 (hG.a 74 0 rfl) dX12_tellMan_15 ?_
  refine Wp.iadd (pc := 16) dX12_tellMan_16 ?_
  obtain ⟨v3, h4, hf⟩ := bnd hf
  refine Wp.nI' h4 ?_
  refine Wp.istore_n (pc := 17) (lo' := [(0, .ref 56), (1, .int v3)]) [1, 0] rfl (by decide) rfl dX12_tellMan_17 ?_
  refine Wp.aload_n (pc := 18) 0 rfl rfl dX12_tellMan_18 ?_
  obtain ⟨c5, h6, hf⟩ := bnd hf
  refine Wp.callVi (pc := 19) (st := []) (as := []) (c_X12_named hG h6) ml_RX12_344 mv_X12_named mb_X12_named hX (Nat.le_of_ble_eq_true rfl) (by decide) rfl (hG.t 56 rfl) rfl (by simp) dX12_tellMan_19 rfl ?_
  refine Wp.istore_n (pc := 22) (lo' := [(0, .ref 56), (1, .int v3), (2, .int c5.1)]) [1, 2, 0] rfl (by decide) rfl dX12_tellMan_22 ?_
  refine Wp.aload_n (pc := 23) 0 rfl rfl dX12_tellMan_23 ?_
  refine Wp.getI2 (pc := 24) (hG.t 56 rfl) fk_RX12_257 rfl dX12_tellMan_24 ?_
  obtain ⟨v7, h8, hf⟩ := bnd hf
  refine Wp.nI' h8 ?_
  refine Wp.istore_n (pc := 27) (lo' := [(0, .ref 56), (1, .int v3), (2, .int c5.1), (3, .int v7)]) [1, 2, 3, 0] rfl (by decide) rfl dX12_tellMan_27 ?_
  refine Wp.aload_n (pc := 28) 0 rfl rfl dX12_tellMan_28 ?_
  refine Wp.iconst (pc := 29) (1 : Int32) (by decide) dX12_tellMan_29 ?_
  obtain ⟨c9, h10, hf⟩ := bnd hf
  refine Wp.callVv (pc := 30) (st := []) (as := [.int (1 : Int32)]) (c_X12_must hG h10) ml_RX12_321 mv_X12_must mb_X12_must hX (Nat.le_of_ble_eq_true rfl) (by decide) rfl (hG.t 56 rfl) rfl (by simp) dX12_tellMan_30 rfl ?_
  refine Wp.aload_n (pc := 33) 0 rfl rfl dX12_tellMan_33 ?_
  refine Wp.getR2 (pc := 34) (hG.r 56 33 rfl) (hG.t 56 rfl) fk_RX12_73 rfl dX12_tellMan_34 ?_
  refine Wp.iload_n (pc := 37) 1 rfl rfl dX12_tellMan_37 ?_
  refine Wp.iconst (pc := 38) (-1 : Int32) (by decide) dX12_tellMan_38 ?_
  obtain ⟨m11, h12, hf⟩ := bnd hf
  refine Wp.iast2 (pc := 39) h12 (hG.a 75 0 rfl) dX12_tellMan_39 ?_
  refine Wp.iconst (pc := 40) (0 : Int32) (by decide) dX12_tellMan_40 ?_
  refine Wp.istore (pc := 41) (lo' := [(0, .ref 56), (1, .int v3), (2, .int c5.1), (3, .int v7), (4, .int (0 : Int32))]) [1, 2, 3, 4, 0] rfl (by decide) dX12_tellMan_41 ?_
  obtain ⟨e13, h14, hf⟩ := bnd hf
  refine wl_X12_tellMan_43 hX hG h14 ?_
  exact w_X12_tellMan_105 hX hG hf hk
theorem c_X12_tellMan {T : List Dsc} {R : RM} {c e : Nat} {m : M2} {r : M2} (hG : Geo T R c e) (hf : F_X12_tellMan m = some r) : Ct 5 yX12_tellMan cX12_tellMan 5 none T (mk m R) [.ref 56] none (mk r R) := Ct.ofV (r := mk r R) (by decide +kernel) (Nat.le_of_ble_eq_true rfl) (fun X hX hk => w_X12_tellMan hX hG hf hk)
theorem dX12_tellFog_0 : decode cX12_tellFog 0 = .ok (.iconst 4, 1) := by decide +kernel
theorem dX12_tellFog_1 : decode cX12_tellFog 1 = .ok (.aload_n 0, 1) := by decide +kernel
theorem dX12_tellFog_2 : decode cX12_tellFog 2 = .ok (.getfield 287, 3) := by decide +kernel
theorem dX12_tellFog_5 : decode cX12_tellFog 5 = .ok (.imul, 1) := by decide +kernel
theorem dX12_tellFog_6 : decode cX12_tellFog 6 = .ok (.aload_n 0, 1) := by decide +kernel
theorem dX12_tellFog_7 : decode cX12_tellFog 7 = .ok (.getfield 88, 3) := by decide +kernel
theorem dX12_tellFog_10 : decode cX12_tellFog 10 = .ok (.aload_n 0, 1) := by decide +kernel
theorem dX12_tellFog_11 : decode cX12_tellFog 11 = .ok (.getfield 287, 3) := by decide +kernel
theorem dX12_tellFog_14 : decode cX12_tellFog 14 = .ok (.iaload, 1) := by decide +kernel
theorem dX12_tellFog_15 : decode cX12_tellFog 15 = .ok (.iadd, 1) := by decide +kernel
theorem dX12_tellFog_16 : decode cX12_tellFog 16 = .ok (.istore_n 1, 1) := by decide +kernel
theorem dX12_tellFog_17 : decode cX12_tellFog 17 = .ok (.aload_n 0, 1) := by decide +kernel
theorem dX12_tellFog_18 : decode cX12_tellFog 18 = .ok (.getfield 91, 3) := by decide +kernel
theorem dX12_tellFog_21 : decode cX12_tellFog 21 = .ok (.iload_n 1, 1) := by decide +kernel
theorem dX12_tellFog_22 : decode cX12_tellFog 22 = .ok (.aload_n 0, 1) := by decide +kernel
theorem dX12_tellFog_23 : decode cX12_tellFog 23 = .ok (.iconst 0, 1) := by decide +kernel
theorem dX12_tellFog_24 : decode cX12_tellFog 24 = .ok (.sipush 999, 3) := by decide +kernel
theorem dX12_tellFog_27 : decode cX12_tellFog 27 = .ok (.invokevirtual 317, 3) := by decide +kernel
theorem dX12_tellFog_30 : decode cX12_tellFog 30 = .ok (.iastore, 1) := by decide +kernel
theorem dX12_tellFog_31 : decode cX12_tellFog 31 = .ok (.aload_n 0, 1) := by decide +kernel
theorem dX12_tellFog_32 : decode cX12_tellFog 32 = .ok (.getfield 94, 3) := by decide +kernel
theorem dX12_tellFog_35 : decode cX12_tellFog 35 = .ok (.iload_n 1, 1) := by decide +kernel
theorem dX12_tellFog_36 : decode cX12_tellFog 36 = .ok (.aload_n 0, 1) := by decide +kernel
theorem dX12_tellFog_37 : decode cX12_tellFog 37 = .ok (.aload_n 0, 1) := by decide +kernel
theorem dX12_tellFog_38 : decode cX12_tellFog 38 = .ok (.getfield 91, 3) := by decide +kernel
theorem dX12_tellFog_41 : decode cX12_tellFog 41 = .ok (.iload_n 1, 1) := by decide +kernel
theorem dX12_tellFog_42 : decode cX12_tellFog 42 = .ok (.iaload, 1) := by decide +kernel
theorem dX12_tellFog_43 : decode cX12_tellFog 43 = .ok (.sipush 999, 3) := by decide +kernel
theorem dX12_tellFog_46 : decode cX12_tellFog 46 = .ok (.invokevirtual 317, 3) := by decide +kernel
theorem dX12_tellFog_49 : decode cX12_tellFog 49 = .ok (.iastore, 1) := by decide +kernel
theorem dX12_tellFog_50 : decode cX12_tellFog 50 = .ok (.aload_n 0, 1) := by decide +kernel
theorem dX12_tellFog_51 : decode cX12_tellFog 51 = .ok (.iconst 4, 1) := by decide +kernel
theorem dX12_tellFog_52 : decode cX12_tellFog 52 = .ok (.invokevirtual 321, 3) := by decide +kernel
theorem dX12_tellFog_55 : decode cX12_tellFog 55 = .ok (.aload_n 0, 1) := by decide +kernel
theorem dX12_tellFog_56 : decode cX12_tellFog 56 = .ok (.getfield 254, 3) := by decide +kernel
theorem dX12_tellFog_59 : decode cX12_tellFog 59 = .ok (.ifCond .ne 16, 3) := by decide +kernel
theorem dX12_tellFog_62 : decode cX12_tellFog 62 = .ok (.aload_n 0, 1) := by decide +kernel
theorem dX12_tellFog_63 : decode cX12_tellFog 63 = .ok (.getfield 88, 3) := by decide +kernel
theorem dX12_tellFog_66 : decode cX12_tellFog 66 = .ok (.aload_n 0, 1) := by decide +kernel
theorem dX12_tellFog_67 : decode cX12_tellFog 67 = .ok (.getfield 287, 3) := by decide +kernel
theorem dX12_tellFog_70 : decode cX12_tellFog 70 = .ok (.dup2, 1) := by decide +kernel
theorem dX12_tellFog_71 : decode cX12_tellFog 71 = .ok (.iaload, 1) := by decide +kernel
theorem dX12_tellFog_72 : decode cX12_tellFog 72 = .ok (.iconst 1, 1) := by decide +kernel
theorem dX12_tellFog_73 : decode cX12_tellFog 73 = .ok (.iadd, 1) := by decide +kernel
theorem dX12_tellFog_74 : decode cX12_tellFog 74 = .ok (.iastore, 1) := by decide +kernel
theorem dX12_tellFog_75 : decode cX12_tellFog 75 = .ok (.return_, 1) := by decide +kernel
set_option maxHeartbeats 4000000 in
set_option maxRecDepth 100000 in
theorem w_X12_tellFog_75 {X : CX} {T : List Dsc} {R : RM} {c e : Nat} {n1 n2 : Nat} {m : M2} {r : M2} (hX : XR X 4 n1 n2) (hG : Geo T R c e) (hf : f_X12_tellFog_75 m = some r) (hk : FnV X cX12_tellFog RX12 2 T n1 n2 (mk r R)) : Wp X cX12_tellFog RX12 2 T (mk m R) n1 n2 75 [] [] := by
  unfold f_X12_tellFog_75 at hf
  cases hf
  exact hk _ _ dX12_tellFog_75
set_option maxHeartbeats 4000000 in
set_option maxRecDepth 100000 in
theorem w_X12_tellFog {X : CX} {T : List Dsc} {R : RM} {c e : Nat} {n1 n2 : Nat} {m : M2} {r : M2} (hX : XR X 4 n1 n2) (hG : Geo T R c e) (hf : F_X12_tellFog m = some r) (hk : FnV X cX12_tellFog RX12 2 T n1 n2 (mk r R)) : Wp X cX12_tellFog RX12 2 T (mk m R) n1 n2 0 [(0, .ref 56)] [] := by
  unfold F_X12_tellFog at hf
  refine Wp.iconst (pc := 0) (4 : Int32) (by decide) dX12_tellFog_0 ?_
  refine Wp.aload_n (pc := 1) 0 rfl rfl dX12_tellFog_1 ?_
  refine Wp.getI2 (pc := 2) (hG.t 56 rfl) fk_RX12_287 rfl dX12_tellFog_2 ?_
  refine Wp.imul (pc := 5) dX12_tellFog_5 ?_
  refine Wp.aload_n (pc := 6) 0 rfl rfl dX12_tellFog_6 ?_
  refine Wp.getR2 (pc := 7) (hG.r 56 38 rfl) (hG.t 56 rfl) fk_RX12_88 rfl dX12_tellFog_7 ?_
  refine Wp.aload_n (pc := 10) 0 rfl rfl dX12_tellFog_10 ?_
  refine Wp.getI2 (pc := 11) (hG.t 56 rfl) fk_RX12_287 rfl dX12_tellFog_11 ?_
  obtain ⟨v1, h2, hf⟩ := bnd hf
  refine Wp.iald2 (pc := 14) h2 (hG.a 80 0 rfl) dX12_tellFog_14 ?_
  refine Wp.iadd (pc := 15) dX12_tellFog_15 ?_
  obtain ⟨v3, h4, hf⟩ := bnd hf
  refine Wp.nI' h4 ?_
  refine Wp.istore_n (pc := 16) (lo' := [(0, .ref 56), (1, .int v3)]) [1, 0] rfl (by decide) rfl dX12_tellFog_16 ?_
  refine Wp.aload_n (pc := 17) 0 rfl rfl dX12_tellFog_17 ?_
  refine Wp.getR2 (pc := 18) (hG.r 56 39 rfl) (hG.t 56 rfl) fk_RX12_91 rfl dX12_tellFog_18 ?_
  refine Wp.iload_n (pc := 21) 1 rfl rfl dX12_tellFog_21 ?_
  refine Wp.aload_n (pc := 22) 0 rfl rfl dX12_tellFog_22 ?_
  refine Wp.iconst (pc := 23) (0 : Int32) (by decide) dX12_tellFog_23 ?_
  refine Wp.sipush (pc := 24) (999 : Int32) (by decide) dX12_tellFog_24 ?_
  obtain ⟨c5, h6, hf⟩ := bnd hf
  refine Wp.callVi (pc := 27) (st := [.int v3, .ref 81]) (as := [.int (0 : Int32), .int (999 : Int32)]) (c_X12_bounded hG h6) ml_RX12_317 mv_X12_bounded mb_X12_bounded hX (Nat.le_of_ble_eq_true rfl) (by decide) rfl (hG.t 56 rfl) rfl (by simp [Value.category]) dX12_tellFog_27 rfl ?_
  obtain ⟨m7, h8, hf⟩ := bnd hf
  refine Wp.iast2 (pc := 30) h8 (hG.a 81 0 rfl) dX12_tellFog_30 ?_
  refine Wp.aload_n (pc := 31) 0 rfl rfl dX12_tellFog_31 ?_
  refine Wp.getR2 (pc := 32) (hG.r 56 40 rfl) (hG.t 56 rfl) fk_RX12_94 rfl dX12_tellFog_32 ?_
  refine Wp.iload_n (pc := 35) 1 rfl rfl dX12_tellFog_35 ?_
  refine Wp.aload_n (pc := 36) 0 rfl rfl dX12_tellFog_36 ?_
  refine Wp.aload_n (pc := 37) 0 rfl rfl dX12_tellFog_37 ?_
  refine Wp.getR2 (pc := 38) (hG.r 56 39 rfl) (hG.t 56 rfl) fk_RX12_91 rfl dX12_tellFog_38 ?_
  refine Wp.iload_n (pc := 41) 1 rfl rfl dX12_tellFog_41 ?_
  obtain ⟨v9, h10, hf⟩ := bnd hf
  refine Wp.iald2 (pc := 42) h10 (hG.a 81 0 rfl) dX12_tellFog_42 ?_
  refine Wp.sipush (pc := 43) (999 : Int32) (by decide) dX12_tellFog_43 ?_
  obtain ⟨c11, h12, hf⟩ := bnd hf
  refine Wp.callVi (pc := 46) (st := [.int v3, .ref 82]) (as := [.int v9, .int (999 : Int32)]) (c_X12_bounded hG h12) ml_RX12_317 mv_X12_bounded mb_X12_bounded hX (Nat.le_of_ble_eq_true rfl) (by decide) rfl (hG.t 56 rfl) rfl (by simp [Value.category]) dX12_tellFog_46 rfl ?_
  obtain ⟨m13, h14, hf⟩ := bnd hf
  refine Wp.iast2 (pc := 49) h14 (hG.a 82 0 rfl) dX12_tellFog_49 ?_
  refine Wp.aload_n (pc := 50) 0 rfl rfl dX12_tellFog_50 ?_
  refine Wp.iconst (pc := 51) (4 : Int32) (by decide) dX12_tellFog_51 ?_
  obtain ⟨c15, h16, hf⟩ := bnd hf
  refine Wp.callVv (pc := 52) (st := []) (as := [.int (4 : Int32)]) (c_X12_must hG h16) ml_RX12_321 mv_X12_must mb_X12_must hX (Nat.le_of_ble_eq_true rfl) (by decide) rfl (hG.t 56 rfl) rfl (by simp) dX12_tellFog_52 rfl ?_
  refine Wp.aload_n (pc := 55) 0 rfl rfl dX12_tellFog_55 ?_
  refine Wp.getI2 (pc := 56) (hG.t 56 rfl) fk_RX12_254 rfl dX12_tellFog_56 ?_
  refine Wp.if_ne (pc := 59) 75 dX12_tellFog_59 (by decide) (fun hc17 => ?_) (fun hc17 => ?_)
  · rw [if_neg hc17] at hf
    refine Wp.lo' (lo' := []) [] rfl ?_
    exact w_X12_tellFog_75 hX hG hf hk
  · rw [if_pos hc17] at hf
    refine Wp.aload_n (pc := 62) 0 rfl rfl dX12_tellFog_62 ?_
    refine Wp.getR2 (pc := 63) (hG.r 56 38 rfl) (hG.t 56 rfl) fk_RX12_88 rfl dX12_tellFog_63 ?_
    refine Wp.aload_n (pc := 66) 0 rfl rfl dX12_tellFog_66 ?_
    refine Wp.getI2 (pc := 67) (hG.t 56 rfl) fk_RX12_287 rfl dX12_tellFog_67 ?_
    refine Wp.dup2 (pc := 70) rfl rfl dX12_tellFog_70 ?_
    obtain ⟨v18, h19, hf⟩ := bnd hf
    refine Wp.iald2 (pc := 71) h19 (hG.a 80 0 rfl) dX12_tellFog_71 ?_
    refine Wp.iconst (pc := 72) (1 : Int32) (by decide) dX12_tellFog_72 ?_
    refine Wp.iadd (pc := 73) dX12_tellFog_73 ?_
    obtain ⟨m20, h21, hf⟩ := bnd hf
    refine Wp.iast2 (pc := 74) h21 (hG.a 80 0 rfl) dX12_tellFog_74 ?_
    refine Wp.lo' (lo' := []) [] rfl ?_
    exact w_X12_tellFog_75 hX hG hf hk
theorem c_X12_tellFog {T : List Dsc} {R : RM} {c e : Nat} {m : M2} {r : M2} (hG : Geo T R c e) (hf : F_X12_tellFog m = some r) : Ct 4 yX12_tellFog cX12_tellFog 2 none T (mk m R) [.ref 56] none (mk r R) := Ct.ofV (r := mk r R) (by decide +kernel) (Nat.le_of_ble_eq_true rfl) (fun X hX hk => w_X12_tellFog hX hG hf hk)
theorem dX12_tell_0 : decode cX12_tell 0 = .ok (.aload_n 0, 1) := by decide +kernel
theorem dX12_tell_1 : decode cX12_tell 1 = .ok (.getfield 20, 3) := by decide +kernel
theorem dX12_tell_4 : decode cX12_tell 4 = .ok (.aload_n 0, 1) := by decide +kernel
theorem dX12_tell_5 : decode cX12_tell 5 = .ok (.getfield 257, 3) := by decide +kernel
theorem dX12_tell_8 : decode cX12_tell 8 = .ok (.iaload, 1) := by decide +kernel
theorem dX12_tell_9 : decode cX12_tell 9 = .ok (.tableswitch 231 20 28 #[51, 79, 231, 231, 231, 108, 137, 178, 203], 51) := by decide +kernel
theorem dX12_tell_60 : decode cX12_tell 60 = .ok (.aload_n 0, 1) := by decide +kernel
theorem dX12_tell_61 : decode cX12_tell 61 = .ok (.invokevirtual 275, 3) := by decide +kernel
theorem dX12_tell_64 : decode cX12_tell 64 = .ok (.aload_n 0, 1) := by decide +kernel
theorem dX12_tell_65 : decode cX12_tell 65 = .ok (.getfield 46, 3) := by decide +kernel
theorem dX12_tell_68 : decode cX12_tell 68 = .ok (.aload_n 0, 1) := by decide +kernel
theorem dX12_tell_69 : decode cX12_tell 69 = .ok (.getfield 287, 3) := by decide +kernel
theorem dX12_tell_72 : decode cX12_tell 72 = .ok (.aload_n 0, 1) := by decide +kernel
theorem dX12_tell_73 : decode cX12_tell 73 = .ok (.iconst 3, 1) := by decide +kernel
theorem dX12_tell_74 : decode cX12_tell 74 = .ok (.bipush 24, 2) := by decide +kernel
theorem dX12_tell_76 : decode cX12_tell 76 = .ok (.invokevirtual 317, 3) := by decide +kernel
theorem dX12_tell_79 : decode cX12_tell 79 = .ok (.iastore, 1) := by decide +kernel
theorem dX12_tell_80 : decode cX12_tell 80 = .ok (.aload_n 0, 1) := by decide +kernel
theorem dX12_tell_81 : decode cX12_tell 81 = .ok (.iconst 4, 1) := by decide +kernel
theorem dX12_tell_82 : decode cX12_tell 82 = .ok (.invokevirtual 321, 3) := by decide +kernel
theorem dX12_tell_85 : decode cX12_tell 85 = .ok (.goto 160, 3) := by decide +kernel
theorem dX12_tell_88 : decode cX12_tell 88 = .ok (.aload_n 0, 1) := by decide +kernel
theorem dX12_tell_89 : decode cX12_tell 89 = .ok (.aload_n 0, 1) := by decide +kernel
theorem dX12_tell_90 : decode cX12_tell 90 = .ok (.getfield 49, 3) := by decide +kernel
theorem dX12_tell_93 : decode cX12_tell 93 = .ok (.aload_n 0, 1) := by decide +kernel
theorem dX12_tell_94 : decode cX12_tell 94 = .ok (.getfield 287, 3) := by decide +kernel
theorem dX12_tell_97 : decode cX12_tell 97 = .ok (.iaload, 1) := by decide +kernel
theorem dX12_tell_98 : decode cX12_tell 98 = .ok (.bipush 6, 2) := by decide +kernel
theorem dX12_tell_100 : decode cX12_tell 100 = .ok (.invokevirtual 324, 3) := by decide +kernel
theorem dX12_tell_103 : decode cX12_tell 103 = .ok (.aload_n 0, 1) := by decide +kernel
theorem dX12_tell_104 : decode cX12_tell 104 = .ok (.getfield 254, 3) := by decide +kernel
theorem dX12_tell_107 : decode cX12_tell 107 = .ok (.ifCond .ne 138, 3) := by decide +kernel
theorem dX12_tell_110 : decode cX12_tell 110 = .ok (.aload_n 0, 1) := by decide +kernel
theorem dX12_tell_111 : decode cX12_tell 111 = .ok (.invokevirtual 328, 3) := by decide +kernel
theorem dX12_tell_114 : decode cX12_tell 114 = .ok (.goto 131, 3) := by decide +kernel
theorem dX12_tell_117 : decode cX12_tell 117 = .ok (.aload_n 0, 1) := by decide +kernel
theorem dX12_tell_118 : decode cX12_tell 118 = .ok (.aload_n 0, 1) := by decide +kernel
theorem dX12_tell_119 : decode cX12_tell 119 = .ok (.getfield 70, 3) := by decide +kernel
theorem dX12_tell_122 : decode cX12_tell 122 = .ok (.aload_n 0, 1) := by decide +kernel
theorem dX12_tell_123 : decode cX12_tell 123 = .ok (.getfield 287, 3) := by decide +kernel
theorem dX12_tell_126 : decode cX12_tell 126 = .ok (.iaload, 1) := by decide +kernel
theorem dX12_tell_127 : decode cX12_tell 127 = .ok (.bipush 12, 2) := by decide +kernel
theorem dX12_tell_129 : decode cX12_tell 129 = .ok (.invokevirtual 324, 3) := by decide +kernel
theorem dX12_tell_132 : decode cX12_tell 132 = .ok (.aload_n 0, 1) := by decide +kernel
theorem dX12_tell_133 : decode cX12_tell 133 = .ok (.getfield 254, 3) := by decide +kernel
theorem dX12_tell_136 : decode cX12_tell 136 = .ok (.ifCond .ne 109, 3) := by decide +kernel
theorem dX12_tell_139 : decode cX12_tell 139 = .ok (.aload_n 0, 1) := by decide +kernel
theorem dX12_tell_140 : decode cX12_tell 140 = .ok (.invokevirtual 331, 3) := by decide +kernel
theorem dX12_tell_143 : decode cX12_tell 143 = .ok (.goto 102, 3) := by decide +kernel
theorem dX12_tell_146 : decode cX12_tell 146 = .ok (.aload_n 0, 1) := by decide +kernel
theorem dX12_tell_147 : decode cX12_tell 147 = .ok (.invokevirtual 275, 3) := by decide +kernel
theorem dX12_tell_150 : decode cX12_tell 150 = .ok (.aload_n 0, 1) := by decide +kernel
theorem dX12_tell_151 : decode cX12_tell 151 = .ok (.getfield 79, 3) := by decide +kernel
theorem dX12_tell_154 : decode cX12_tell 154 = .ok (.aload_n 0, 1) := by decide +kernel
theorem dX12_tell_155 : decode cX12_tell 155 = .ok (.getfield 287, 3) := by decide +kernel
theorem dX12_tell_158 : decode cX12_tell 158 = .ok (.aload_n 0, 1) := by decide +kernel
theorem dX12_tell_159 : decode cX12_tell 159 = .ok (.invokevirtual 334, 3) := by decide +kernel
theorem dX12_tell_162 : decode cX12_tell 162 = .ok (.iastore, 1) := by decide +kernel
theorem dX12_tell_163 : decode cX12_tell 163 = .ok (.aload_n 0, 1) := by decide +kernel
theorem dX12_tell_164 : decode cX12_tell 164 = .ok (.getfield 82, 3) := by decide +kernel
theorem dX12_tell_167 : decode cX12_tell 167 = .ok (.aload_n 0, 1) := by decide +kernel
theorem dX12_tell_168 : decode cX12_tell 168 = .ok (.getfield 287, 3) := by decide +kernel
theorem dX12_tell_171 : decode cX12_tell 171 = .ok (.aload_n 0, 1) := by decide +kernel
theorem dX12_tell_172 : decode cX12_tell 172 = .ok (.iconst 0, 1) := by decide +kernel
theorem dX12_tell_173 : decode cX12_tell 173 = .ok (.bipush 23, 2) := by decide +kernel
theorem dX12_tell_175 : decode cX12_tell 175 = .ok (.invokevirtual 317, 3) := by decide +kernel
theorem dX12_tell_178 : decode cX12_tell 178 = .ok (.iastore, 1) := by decide +kernel
theorem dX12_tell_179 : decode cX12_tell 179 = .ok (.aload_n 0, 1) := by decide +kernel
theorem dX12_tell_180 : decode cX12_tell 180 = .ok (.iconst 4, 1) := by decide +kernel
theorem dX12_tell_181 : decode cX12_tell 181 = .ok (.invokevirtual 321, 3) := by decide +kernel
theorem dX12_tell_184 : decode cX12_tell 184 = .ok (.goto 61, 3) := by decide +kernel
theorem dX12_tell_187 : decode cX12_tell 187 = .ok (.aload_n 0, 1) := by decide +kernel
theorem dX12_tell_188 : decode cX12_tell 188 = .ok (.invokevirtual 275, 3) := by decide +kernel
theorem dX12_tell_191 : decode cX12_tell 191 = .ok (.aload_n 0, 1) := by decide +kernel
theorem dX12_tell_192 : decode cX12_tell 192 = .ok (.getfield 85, 3) := by decide +kernel
theorem dX12_tell_195 : decode cX12_tell 195 = .ok (.aload_n 0, 1) := by decide +kernel
theorem dX12_tell_196 : decode cX12_tell 196 = .ok (.getfield 287, 3) := by decide +kernel
theorem dX12_tell_199 : decode cX12_tell 199 = .ok (.aload_n 0, 1) := by decide +kernel
theorem dX12_tell_200 : decode cX12_tell 200 = .ok (.invokevirtual 334, 3) := by decide +kernel
theorem dX12_tell_203 : decode cX12_tell 203 = .ok (.iastore, 1) := by decide +kernel
theorem dX12_tell_204 : decode cX12_tell 204 = .ok (.aload_n 0, 1) := by decide +kernel
theorem dX12_tell_205 : decode cX12_tell 205 = .ok (.iconst 4, 1) := by decide +kernel
theorem dX12_tell_206 : decode cX12_tell 206 = .ok (.invokevirtual 321, 3) := by decide +kernel
theorem dX12_tell_209 : decode cX12_tell 209 = .ok (.goto 36, 3) := by decide +kernel
theorem dX12_tell_212 : decode cX12_tell 212 = .ok (.aload_n 0, 1) := by decide +kernel
theorem dX12_tell_213 : decode cX12_tell 213 = .ok (.aload_n 0, 1) := by decide +kernel
theorem dX12_tell_214 : decode cX12_tell 214 = .ok (.getfield 88, 3) := by decide +kernel
theorem dX12_tell_217 : decode cX12_tell 217 = .ok (.aload_n 0, 1) := by decide +kernel
theorem dX12_tell_218 : decode cX12_tell 218 = .ok (.getfield 287, 3) := by decide +kernel
theorem dX12_tell_221 : decode cX12_tell 221 = .ok (.iaload, 1) := by decide +kernel
theorem dX12_tell_222 : decode cX12_tell 222 = .ok (.iconst 4, 1) := by decide +kernel
theorem dX12_tell_223 : decode cX12_tell 223 = .ok (.invokevirtual 324, 3) := by decide +kernel
theorem dX12_tell_226 : decode cX12_tell 226 = .ok (.aload_n 0, 1) := by decide +kernel
theorem dX12_tell_227 : decode cX12_tell 227 = .ok (.getfield 254, 3) := by decide +kernel
theorem dX12_tell_230 : decode cX12_tell 230 = .ok (.ifCond .ne 15, 3) := by decide +kernel
theorem dX12_tell_233 : decode cX12_tell 233 = .ok (.aload_n 0, 1) := by decide +kernel
theorem dX12_tell_234 : decode cX12_tell 234 = .ok (.invokevirtual 338, 3) := by decide +kernel
theorem dX12_tell_237 : decode cX12_tell 237 = .ok (.goto 8, 3) := by decide +kernel
theorem dX12_tell_240 : decode cX12_tell 240 = .ok (.aload_n 0, 1) := by decide +kernel
theorem dX12_tell_241 : decode cX12_tell 241 = .ok (.iconst 1, 1) := by decide +kernel
theorem dX12_tell_242 : decode cX12_tell 242 = .ok (.invokevirtual 269, 3) := by decide +kernel
theorem dX12_tell_245 : decode cX12_tell 245 = .ok (.return_, 1) := by decide +kernel
set_option maxHeartbeats 4000000 in
set_option maxRecDepth 100000 in
theorem w_X12_tell_245 {X : CX} {T : List Dsc} {R : RM} {c e : Nat} {n1 n2 : Nat} {m : M2} {r : M2} (hX : XR X 8 n1 n2) (hG : Geo T R c e) (hf : f_X12_tell_245 m = some r) (hk : FnV X cX12_tell RX12 1 T n1 n2 (mk r R)) : Wp X cX12_tell RX12 1 T (mk m R) n1 n2 245 [] [] := by
  unfold f_X12_tell_245 at hf
  cases hf
  exact hk _ _ dX12_tell_245
set_option maxHeartbeats 4000000 in
set_option maxRecDepth 100000 in
theorem w_X12_tell {X : CX} {T : List Dsc} {R : RM} {c e : Nat} {n1 n2 : Nat} {m : M2} {r : M2} (hX : XR X 8 n1 n2) (hG : Geo T R c e) (hf : F_X12_tell m = some r) (hk : FnV X cX12_tell RX12 1 T n1 n2 (mk r R)) : Wp X cX12_tell RX12 1 T (mk m R) n1 n2 0 [(0, .ref 56)] [] := by
  unfold F_X12_tell at hf
  refine Wp.aload_n (pc := 0) 0 rfl rfl dX12_tell_0 ?_
  refine Wp.getR2 (pc := 1) (hG.r 56 5 rfl) (hG.t 56 rfl) fk_RX12_20 rfl dX12_tell_1 ?_
  refine Wp.aload_n (pc := 4) 0 rfl rfl dX12_tell_4 ?_
  refine Wp.getI2 (pc := 5) (hG.t 56 rfl) fk_RX12_257 rfl dX12_tell_5 ?_
  obtain ⟨v1, h2, hf⟩ := bnd hf
  refine Wp.iald2 (pc := 8) h2 (hG.a 59 0 rfl) dX12_tell_8 ?_
  by_cases hc3 : v1 = (20 : Int32)
  · rw [if_pos hc3] at hf
    refine Wp.swIn (pc := 9) 60 dX12_tell_9 hc3 (by decide) (by decide) rfl (by decide) ?_
    refine Wp.aload_n (pc := 60) 0 rfl rfl dX12_tell_60 ?_
    obtain ⟨c4, h5, hf⟩ := bnd hf
    refine Wp.callVv (pc := 61) (st := []) (as := []) (c_X12_goesOn hG h5) ml_RX12_275 mv_X12_goesOn mb_X12_goesOn hX (Nat.le_of_ble_eq_true rfl) (by decide) rfl (hG.t 56 rfl) rfl (by simp) dX12_tell_61 rfl ?_
    refine Wp.aload_n (pc := 64) 0 rfl rfl dX12_tell_64 ?_
    refine Wp.getR2 (pc := 65) (hG.r 56 23 rfl) (hG.t 56 rfl) fk_RX12_46 rfl dX12_tell_65 ?_
    refine Wp.aload_n (pc := 68) 0 rfl rfl dX12_tell_68 ?_
    refine Wp.getI2 (pc := 69) (hG.t 56 rfl) fk_RX12_287 rfl dX12_tell_69 ?_
    refine Wp.aload_n (pc := 72) 0 rfl rfl dX12_tell_72 ?_
    refine Wp.iconst (pc := 73) (3 : Int32) (by decide) dX12_tell_73 ?_
    refine Wp.bipush (pc := 74) (24 : Int32) (by decide) dX12_tell_74 ?_
    obtain ⟨c6, h7, hf⟩ := bnd hf
    refine Wp.callVi (pc := 76) (st := [.int (hI c4 56 19), .ref 66]) (as := [.int (3 : Int32), .int (24 : Int32)]) (c_X12_bounded hG h7) ml_RX12_317 mv_X12_bounded mb_X12_bounded hX (Nat.le_of_ble_eq_true rfl) (by decide) rfl (hG.t 56 rfl) rfl (by simp [Value.category]) dX12_tell_76 rfl ?_
    obtain ⟨m8, h9, hf⟩ := bnd hf
    refine Wp.iast2 (pc := 79) h9 (hG.a 66 0 rfl) dX12_tell_79 ?_
    refine Wp.aload_n (pc := 80) 0 rfl rfl dX12_tell_80 ?_
    refine Wp.iconst (pc := 81) (4 : Int32) (by decide) dX12_tell_81 ?_
    obtain ⟨c10, h11, hf⟩ := bnd hf
    refine Wp.callVv (pc := 82) (st := []) (as := [.int (4 : Int32)]) (c_X12_must hG h11) ml_RX12_321 mv_X12_must mb_X12_must hX (Nat.le_of_ble_eq_true rfl) (by decide) rfl (hG.t 56 rfl) rfl (by simp) dX12_tell_82 rfl ?_
    refine Wp.goto (pc := 85) 245 dX12_tell_85 (by decide) ?_
    refine Wp.lo' (lo' := []) [] rfl ?_
    exact w_X12_tell_245 hX hG hf hk
  · rw [if_neg hc3] at hf
    by_cases hc12 : v1 = (21 : Int32)
    · rw [if_pos hc12] at hf
      refine Wp.swIn (pc := 9) 88 dX12_tell_9 hc12 (by decide) (by decide) rfl (by decide) ?_
      refine Wp.aload_n (pc := 88) 0 rfl rfl dX12_tell_88 ?_
      refine Wp.aload_n (pc := 89) 0 rfl rfl dX12_tell_89 ?_
      refine Wp.getR2 (pc := 90) (hG.r 56 24 rfl) (hG.t 56 rfl) fk_RX12_49 rfl dX12_tell_90 ?_
      refine Wp.aload_n (pc := 93) 0 rfl rfl dX12_tell_93 ?_
      refine Wp.getI2 (pc := 94) (hG.t 56 rfl) fk_RX12_287 rfl dX12_tell_94 ?_
      obtain ⟨v13, h14, hf⟩ := bnd hf
      refine Wp.iald2 (pc := 97) h14 (hG.a 67 0 rfl) dX12_tell_97 ?_
      refine Wp.bipush (pc := 98) (6 : Int32) (by decide) dX12_tell_98 ?_
      obtain ⟨c15, h16, hf⟩ := bnd hf
      refine Wp.callVv (pc := 100) (st := []) (as := [.int v13, .int (6 : Int32)]) (c_X12_roomFor hG h16) ml_RX12_324 mv_X12_roomFor mb_X12_roomFor hX (Nat.le_of_ble_eq_true rfl) (by decide) rfl (hG.t 56 rfl) rfl (by simp) dX12_tell_100 rfl ?_
      refine Wp.aload_n (pc := 103) 0 rfl rfl dX12_tell_103 ?_
      refine Wp.getI2 (pc := 104) (hG.t 56 rfl) fk_RX12_254 rfl dX12_tell_104 ?_
      refine Wp.if_ne (pc := 107) 245 dX12_tell_107 (by decide) (fun hc17 => ?_) (fun hc17 => ?_)
      · rw [if_neg hc17] at hf
        refine Wp.lo' (lo' := []) [] rfl ?_
        exact w_X12_tell_245 hX hG hf hk
      · rw [if_pos hc17] at hf
        refine Wp.aload_n (pc := 110) 0 rfl rfl dX12_tell_110 ?_
        obtain ⟨c18, h19, hf⟩ := bnd hf
        refine Wp.callVv (pc := 111) (st := []) (as := []) (c_X12_tellLaw hG h19) ml_RX12_328 mv_X12_tellLaw mb_X12_tellLaw hX (Nat.le_of_ble_eq_true rfl) (by decide) rfl (hG.t 56 rfl) rfl (by simp) dX12_tell_111 rfl ?_
        refine Wp.goto (pc := 114) 245 dX12_tell_114 (by decide) ?_
        refine Wp.lo' (lo' := []) [] rfl ?_
        exact w_X12_tell_245 hX hG hf hk
    · rw [if_neg hc12] at hf
      by_cases hc20 : v1 = (22 : Int32)
      · rw [if_pos hc20] at hf
        refine Wp.swIn (pc := 9) 240 dX12_tell_9 hc20 (by decide) (by decide) rfl (by decide) ?_
        refine Wp.aload_n (pc := 240) 0 rfl rfl dX12_tell_240 ?_
        refine Wp.iconst (pc := 241) (1 : Int32) (by decide) dX12_tell_241 ?_
        obtain ⟨c21, h22, hf⟩ := bnd hf
        refine Wp.callVv (pc := 242) (st := []) (as := [.int (1 : Int32)]) (c_X12_fail hG h22) ml_RX12_269 mv_X12_fail mb_X12_fail hX (Nat.le_of_ble_eq_true rfl) (by decide) rfl (hG.t 56 rfl) rfl (by simp) dX12_tell_242 rfl ?_
        refine Wp.lo' (lo' := []) [] rfl ?_
        exact w_X12_tell_245 hX hG hf hk
      · rw [if_neg hc20] at hf
        by_cases hc23 : v1 = (23 : Int32)
        · rw [if_pos hc23] at hf
          refine Wp.swIn (pc := 9) 240 dX12_tell_9 hc23 (by decide) (by decide) rfl (by decide) ?_
          refine Wp.aload_n (pc := 240) 0 rfl rfl dX12_tell_240 ?_
          refine Wp.iconst (pc := 241) (1 : Int32) (by decide) dX12_tell_241 ?_
          obtain ⟨c24, h25, hf⟩ := bnd hf
          refine Wp.callVv (pc := 242) (st := []) (as := [.int (1 : Int32)]) (c_X12_fail hG h25) ml_RX12_269 mv_X12_fail mb_X12_fail hX (Nat.le_of_ble_eq_true rfl) (by decide) rfl (hG.t 56 rfl) rfl (by simp) dX12_tell_242 rfl ?_
          refine Wp.lo' (lo' := []) [] rfl ?_
          exact w_X12_tell_245 hX hG hf hk
        · rw [if_neg hc23] at hf
          by_cases hc26 : v1 = (24 : Int32)
          · rw [if_pos hc26] at hf
            refine Wp.swIn (pc := 9) 240 dX12_tell_9 hc26 (by decide) (by decide) rfl (by decide) ?_
            refine Wp.aload_n (pc := 240) 0 rfl rfl dX12_tell_240 ?_
            refine Wp.iconst (pc := 241) (1 : Int32) (by decide) dX12_tell_241 ?_
            obtain ⟨c27, h28, hf⟩ := bnd hf
            refine Wp.callVv (pc := 242) (st := []) (as := [.int (1 : Int32)]) (c_X12_fail hG h28) ml_RX12_269 mv_X12_fail mb_X12_fail hX (Nat.le_of_ble_eq_true rfl) (by decide) rfl (hG.t 56 rfl) rfl (by simp) dX12_tell_242 rfl ?_
            refine Wp.lo' (lo' := []) [] rfl ?_
            exact w_X12_tell_245 hX hG hf hk
          · rw [if_neg hc26] at hf
            by_cases hc29 : v1 = (25 : Int32)
            · rw [if_pos hc29] at hf
              refine Wp.swIn (pc := 9) 117 dX12_tell_9 hc29 (by decide) (by decide) rfl (by decide) ?_
              refine Wp.aload_n (pc := 117) 0 rfl rfl dX12_tell_117 ?_
              refine Wp.aload_n (pc := 118) 0 rfl rfl dX12_tell_118 ?_
              refine Wp.getR2 (pc := 119) (hG.r 56 32 rfl) (hG.t 56 rfl) fk_RX12_70 rfl dX12_tell_119 ?_
              refine Wp.aload_n (pc := 122) 0 rfl rfl dX12_tell_122 ?_
              refine Wp.getI2 (pc := 123) (hG.t 56 rfl) fk_RX12_287 rfl dX12_tell_123 ?_
              obtain ⟨v30, h31, hf⟩ := bnd hf
              refine Wp.iald2 (pc := 126) h31 (hG.a 74 0 rfl) dX12_tell_126 ?_
              refine Wp.bipush (pc := 127) (12 : Int32) (by decide) dX12_tell_127 ?_
              obtain ⟨c32, h33, hf⟩ := bnd hf
              refine Wp.callVv (pc := 129) (st := []) (as := [.int v30, .int (12 : Int32)]) (c_X12_roomFor hG h33) ml_RX12_324 mv_X12_roomFor mb_X12_roomFor hX (Nat.le_of_ble_eq_true rfl) (by decide) rfl (hG.t 56 rfl) rfl (by simp) dX12_tell_129 rfl ?_
              refine Wp.aload_n (pc := 132) 0 rfl rfl dX12_tell_132 ?_
              refine Wp.getI2 (pc := 133) (hG.t 56 rfl) fk_RX12_254 rfl dX12_tell_133 ?_
              refine Wp.if_ne (pc := 136) 245 dX12_tell_136 (by decide) (fun hc34 => ?_) (fun hc34 => ?_)
              · rw [if_neg hc34] at hf
                refine Wp.lo' (lo' := []) [] rfl ?_
                exact w_X12_tell_245 hX hG hf hk
              · rw [if_pos hc34] at hf
                refine Wp.aload_n (pc := 139) 0 rfl rfl dX12_tell_139 ?_
                obtain ⟨c35, h36, hf⟩ := bnd hf
                refine Wp.callVv (pc := 140) (st := []) (as := []) (c_X12_tellMan hG h36) ml_RX12_331 mv_X12_tellMan mb_X12_tellMan hX (Nat.le_of_ble_eq_true rfl) (by decide) rfl (hG.t 56 rfl) rfl (by simp) dX12_tell_140 rfl ?_
                refine Wp.goto (pc := 143) 245 dX12_tell_143 (by decide) ?_
                refine Wp.lo' (lo' := []) [] rfl ?_
                exact w_X12_tell_245 hX hG hf hk
            · rw [if_neg hc29] at hf
              by_cases hc37 : v1 = (26 : Int32)
              · rw [if_pos hc37] at hf
                refine Wp.swIn (pc := 9) 146 dX12_tell_9 hc37 (by decide) (by decide) rfl (by decide) ?_
                refine Wp.aload_n (pc := 146) 0 rfl rfl dX12_tell_146 ?_
                obtain ⟨c38, h39, hf⟩ := bnd hf
                refine Wp.callVv (pc := 147) (st := []) (as := []) (c_X12_goesOn hG h39) ml_RX12_275 mv_X12_goesOn mb_X12_goesOn hX (Nat.le_of_ble_eq_true rfl) (by decide) rfl (hG.t 56 rfl) rfl (by simp) dX12_tell_147 rfl ?_
                refine Wp.aload_n (pc := 150) 0 rfl rfl dX12_tell_150 ?_
                refine Wp.getR2 (pc := 151) (hG.r 56 35 rfl) (hG.t 56 rfl) fk_RX12_79 rfl dX12_tell_151 ?_
                refine Wp.aload_n (pc := 154) 0 rfl rfl dX12_tell_154 ?_
                refine Wp.getI2 (pc := 155) (hG.t 56 rfl) fk_RX12_287 rfl dX12_tell_155 ?_
                refine Wp.aload_n (pc := 158) 0 rfl rfl dX12_tell_158 ?_
                obtain ⟨c40, h41, hf⟩ := bnd hf
                refine Wp.callVi (pc := 159) (st := [.int (hI c38 56 19), .ref 77]) (as := []) (c_X12_part hG h41) ml_RX12_334 mv_X12_part mb_X12_part hX (Nat.le_of_ble_eq_true rfl) (by decide) rfl (hG.t 56 rfl) rfl (by simp [Value.category]) dX12_tell_159 rfl ?_
                obtain ⟨m42, h43, hf⟩ := bnd hf
                refine Wp.iast2 (pc := 162) h43 (hG.a 77 0 rfl) dX12_tell_162 ?_
                refine Wp.aload_n (pc := 163) 0 rfl rfl dX12_tell_163 ?_
                refine Wp.getR2 (pc := 164) (hG.r 56 36 rfl) (hG.t 56 rfl) fk_RX12_82 rfl dX12_tell_164 ?_
                refine Wp.aload_n (pc := 167) 0 rfl rfl dX12_tell_167 ?_
                refine Wp.getI2 (pc := 168) (hG.t 56 rfl) fk_RX12_287 rfl dX12_tell_168 ?_
                refine Wp.aload_n (pc := 171) 0 rfl rfl dX12_tell_171 ?_
                refine Wp.iconst (pc := 172) (0 : Int32) (by decide) dX12_tell_172 ?_
                refine Wp.bipush (pc := 173) (23 : Int32) (by decide) dX12_tell_173 ?_
                obtain ⟨c44, h45, hf⟩ := bnd hf
                refine Wp.callVi (pc := 175) (st := [.int (hI m42 56 19), .ref 78]) (as := [.int (0 : Int32), .int (23 : Int32)]) (c_X12_bounded hG h45) ml_RX12_317 mv_X12_bounded mb_X12_bounded hX (Nat.le_of_ble_eq_true rfl) (by decide) rfl (hG.t 56 rfl) rfl (by simp [Value.category]) dX12_tell_175 rfl ?_
                obtain ⟨m46, h47, hf⟩ := bnd hf
                refine Wp.iast2 (pc := 178) h47 (hG.a 78 0 rfl) dX12_tell_178 ?_
                refine Wp.aload_n (pc := 179) 0 rfl rfl dX12_tell_179 ?_
                refine Wp.iconst (pc := 180) (4 : Int32) (by decide) dX12_tell_180 ?_
                obtain ⟨c48, h49, hf⟩ := bnd hf
                refine Wp.callVv (pc := 181) (st := []) (as := [.int (4 : Int32)]) (c_X12_must hG h49) ml_RX12_321 mv_X12_must mb_X12_must hX (Nat.le_of_ble_eq_true rfl) (by decide) rfl (hG.t 56 rfl) rfl (by simp) dX12_tell_181 rfl ?_
                refine Wp.goto (pc := 184) 245 dX12_tell_184 (by decide) ?_
                refine Wp.lo' (lo' := []) [] rfl ?_
                exact w_X12_tell_245 hX hG hf hk
              · rw [if_neg hc37] at hf
                by_cases hc50 : v1 = (27 : Int32)
                · rw [if_pos hc50] at hf
                  refine Wp.swIn (pc := 9) 187 dX12_tell_9 hc50 (by decide) (by decide) rfl (by decide) ?_
                  refine Wp.aload_n (pc := 187) 0 rfl rfl dX12_tell_187 ?_
                  obtain ⟨c51, h52, hf⟩ := bnd hf
                  refine Wp.callVv (pc := 188) (st := []) (as := []) (c_X12_goesOn hG h52) ml_RX12_275 mv_X12_goesOn mb_X12_goesOn hX (Nat.le_of_ble_eq_true rfl) (by decide) rfl (hG.t 56 rfl) rfl (by simp) dX12_tell_188 rfl ?_
                  refine Wp.aload_n (pc := 191) 0 rfl rfl dX12_tell_191 ?_
                  refine Wp.getR2 (pc := 192) (hG.r 56 37 rfl) (hG.t 56 rfl) fk_RX12_85 rfl dX12_tell_192 ?_
                  refine Wp.aload_n (pc := 195) 0 rfl rfl dX12_tell_195 ?_
                  refine Wp.getI2 (pc := 196) (hG.t 56 rfl) fk_RX12_287 rfl dX12_tell_196 ?_
                  refine Wp.aload_n (pc := 199) 0 rfl rfl dX12_tell_199 ?_
                  obtain ⟨c53, h54, hf⟩ := bnd hf
                  refine Wp.callVi (pc := 200) (st := [.int (hI c51 56 19), .ref 79]) (as := []) (c_X12_part hG h54) ml_RX12_334 mv_X12_part mb_X12_part hX (Nat.le_of_ble_eq_true rfl) (by decide) rfl (hG.t 56 rfl) rfl (by simp [Value.category]) dX12_tell_200 rfl ?_
                  obtain ⟨m55, h56, hf⟩ := bnd hf
                  refine Wp.iast2 (pc := 203) h56 (hG.a 79 0 rfl) dX12_tell_203 ?_
                  refine Wp.aload_n (pc := 204) 0 rfl rfl dX12_tell_204 ?_
                  refine Wp.iconst (pc := 205) (4 : Int32) (by decide) dX12_tell_205 ?_
                  obtain ⟨c57, h58, hf⟩ := bnd hf
                  refine Wp.callVv (pc := 206) (st := []) (as := [.int (4 : Int32)]) (c_X12_must hG h58) ml_RX12_321 mv_X12_must mb_X12_must hX (Nat.le_of_ble_eq_true rfl) (by decide) rfl (hG.t 56 rfl) rfl (by simp) dX12_tell_206 rfl ?_
                  refine Wp.goto (pc := 209) 245 dX12_tell_209 (by decide) ?_
                  refine Wp.lo' (lo' := []) [] rfl ?_
                  exact w_X12_tell_245 hX hG hf hk
                · rw [if_neg hc50] at hf
                  by_cases hc59 : v1 = (28 : Int32)
                  · rw [if_pos hc59] at hf
                    refine Wp.swIn (pc := 9) 212 dX12_tell_9 hc59 (by decide) (by decide) rfl (by decide) ?_
                    refine Wp.aload_n (pc := 212) 0 rfl rfl dX12_tell_212 ?_
                    refine Wp.aload_n (pc := 213) 0 rfl rfl dX12_tell_213 ?_
                    refine Wp.getR2 (pc := 214) (hG.r 56 38 rfl) (hG.t 56 rfl) fk_RX12_88 rfl dX12_tell_214 ?_
                    refine Wp.aload_n (pc := 217) 0 rfl rfl dX12_tell_217 ?_
                    refine Wp.getI2 (pc := 218) (hG.t 56 rfl) fk_RX12_287 rfl dX12_tell_218 ?_
                    obtain ⟨v60, h61, hf⟩ := bnd hf
                    refine Wp.iald2 (pc := 221) h61 (hG.a 80 0 rfl) dX12_tell_221 ?_
                    refine Wp.iconst (pc := 222) (4 : Int32) (by decide) dX12_tell_222 ?_
                    obtain ⟨c62, h63, hf⟩ := bnd hf
                    refine Wp.callVv (pc := 223) (st := []) (as := [.int v60, .int (4 : Int32)]) (c_X12_roomFor hG h63) ml_RX12_324 mv_X12_roomFor mb_X12_roomFor hX (Nat.le_of_ble_eq_true rfl) (by decide) rfl (hG.t 56 rfl) rfl (by simp) dX12_tell_223 rfl ?_
                    refine Wp.aload_n (pc := 226) 0 rfl rfl dX12_tell_226 ?_
                    refine Wp.getI2 (pc := 227) (hG.t 56 rfl) fk_RX12_254 rfl dX12_tell_227 ?_
                    refine Wp.if_ne (pc := 230) 245 dX12_tell_230 (by decide) (fun hc64 => ?_) (fun hc64 => ?_)
                    · rw [if_neg hc64] at hf
                      refine Wp.lo' (lo' := []) [] rfl ?_
                      exact w_X12_tell_245 hX hG hf hk
                    · rw [if_pos hc64] at hf
                      refine Wp.aload_n (pc := 233) 0 rfl rfl dX12_tell_233 ?_
                      obtain ⟨c65, h66, hf⟩ := bnd hf
                      refine Wp.callVv (pc := 234) (st := []) (as := []) (c_X12_tellFog hG h66) ml_RX12_338 mv_X12_tellFog mb_X12_tellFog hX (Nat.le_of_ble_eq_true rfl) (by decide) rfl (hG.t 56 rfl) rfl (by simp) dX12_tell_234 rfl ?_
                      refine Wp.goto (pc := 237) 245 dX12_tell_237 (by decide) ?_
                      refine Wp.lo' (lo' := []) [] rfl ?_
                      exact w_X12_tell_245 hX hG hf hk
                  · rw [if_neg hc59] at hf
                    refine Wp.swOut (pc := 9) 240 dX12_tell_9 (swx (fun k h1 h2 => ?_)) (by decide) ?_
                    · have z0 := lv_neT hc3 (a := 20) (by decide); have z1 := lv_neT hc12 (a := 21) (by decide); have z2 := lv_neT hc20 (a := 22) (by decide); have z3 := lv_neT hc23 (a := 23) (by decide); have z4 := lv_neT hc26 (a := 24) (by decide); have z5 := lv_neT hc29 (a := 25) (by decide); have z6 := lv_neT hc37 (a := 26) (by decide); have z7 := lv_neT hc50 (a := 27) (by decide); have z8 := lv_neT hc59 (a := 28) (by decide); omega
                    · skip
                      refine Wp.aload_n (pc := 240) 0 rfl rfl dX12_tell_240 ?_
                      refine Wp.iconst (pc := 241) (1 : Int32) (by decide) dX12_tell_241 ?_
                      obtain ⟨c67, h68, hf⟩ := bnd hf
                      refine Wp.callVv (pc := 242) (st := []) (as := [.int (1 : Int32)]) (c_X12_fail hG h68) ml_RX12_269 mv_X12_fail mb_X12_fail hX (Nat.le_of_ble_eq_true rfl) (by decide) rfl (hG.t 56 rfl) rfl (by simp) dX12_tell_242 rfl ?_
                      refine Wp.lo' (lo' := []) [] rfl ?_
                      exact w_X12_tell_245 hX hG hf hk
theorem c_X12_tell {T : List Dsc} {R : RM} {c e : Nat} {m : M2} {r : M2} (hG : Geo T R c e) (hf : F_X12_tell m = some r) : Ct 8 yX12_tell cX12_tell 1 none T (mk m R) [.ref 56] none (mk r R) := Ct.ofV (r := mk r R) (by decide +kernel) (Nat.le_of_ble_eq_true rfl) (fun X hX hk => w_X12_tell hX hG hf hk)
theorem dX12_menNow_0 : decode cX12_menNow 0 = .ok (.aload_n 0, 1) := by decide +kernel
theorem dX12_menNow_1 : decode cX12_menNow 1 = .ok (.getfield 70, 3) := by decide +kernel
theorem dX12_menNow_4 : decode cX12_menNow 4 = .ok (.aload_n 0, 1) := by decide +kernel
theorem dX12_menNow_5 : decode cX12_menNow 5 = .ok (.getfield 284, 3) := by decide +kernel
theorem dX12_menNow_8 : decode cX12_menNow 8 = .ok (.iaload, 1) := by decide +kernel
theorem dX12_menNow_9 : decode cX12_menNow 9 = .ok (.ireturn, 1) := by decide +kernel
set_option maxHeartbeats 4000000 in
set_option maxRecDepth 100000 in
theorem w_X12_menNow {X : CX} {T : List Dsc} {R : RM} {c e : Nat} {n1 n2 : Nat} {m : M2} {r : (Int32 × M2)} (hX : XR X 1 n1 n2) (hG : Geo T R c e) (hf : F_X12_menNow m = some r) (hk : FnI X cX12_menNow RX12 1 T n1 n2 (r.1, mk r.2 R)) : Wp X cX12_menNow RX12 1 T (mk m R) n1 n2 0 [(0, .ref 56)] [] := by
  unfold F_X12_menNow at hf
  refine Wp.aload_n (pc := 0) 0 rfl rfl dX12_menNow_0 ?_
  refine Wp.getR2 (pc := 1) (hG.r 56 32 rfl) (hG.t 56 rfl) fk_RX12_70 rfl dX12_menNow_1 ?_
  refine Wp.aload_n (pc := 4) 0 rfl rfl dX12_menNow_4 ?_
  refine Wp.getI2 (pc := 5) (hG.t 56 rfl) fk_RX12_284 rfl dX12_menNow_5 ?_
  obtain ⟨v1, h2, hf⟩ := bnd hf
  refine Wp.iald2 (pc := 8) h2 (hG.a 74 0 rfl) dX12_menNow_8 ?_
  cases hf
  exact hk _ _ dX12_menNow_9
theorem c_X12_menNow {T : List Dsc} {R : RM} {c e : Nat} {m : M2} {r : (Int32 × M2)} (hG : Geo T R c e) (hf : F_X12_menNow m = some r) : Ct 1 yX12_menNow cX12_menNow 1 (some .int) T (mk m R) [.ref 56] (some (.int r.1)) (mk r.2 R) := Ct.ofI (r := (r.1, mk r.2 R)) (by decide +kernel) (Nat.le_of_ble_eq_true rfl) (fun X hX hk => w_X12_menNow hX hG hf hk)
theorem dX12_begins_0 : decode cX12_begins 0 = .ok (.iconst 0, 1) := by decide +kernel
theorem dX12_begins_1 : decode cX12_begins 1 = .ok (.istore_n 1, 1) := by decide +kernel
theorem dX12_begins_2 : decode cX12_begins 2 = .ok (.iload_n 1, 1) := by decide +kernel
theorem dX12_begins_3 : decode cX12_begins 3 = .ok (.aload_n 0, 1) := by decide +kernel
theorem dX12_begins_4 : decode cX12_begins 4 = .ok (.invokevirtual 390, 3) := by decide +kernel
theorem dX12_begins_7 : decode cX12_begins 7 = .ok (.if_icmp .ge 56, 3) := by decide +kernel
theorem dX12_begins_10 : decode cX12_begins 10 = .ok (.aload_n 0, 1) := by decide +kernel
theorem dX12_begins_11 : decode cX12_begins 11 = .ok (.getfield 128, 3) := by decide +kernel
theorem dX12_begins_14 : decode cX12_begins 14 = .ok (.iload_n 1, 1) := by decide +kernel
theorem dX12_begins_15 : decode cX12_begins 15 = .ok (.aload_n 0, 1) := by decide +kernel
theorem dX12_begins_16 : decode cX12_begins 16 = .ok (.getfield 76, 3) := by decide +kernel
theorem dX12_begins_19 : decode cX12_begins 19 = .ok (.bipush 12, 2) := by decide +kernel
theorem dX12_begins_21 : decode cX12_begins 21 = .ok (.aload_n 0, 1) := by decide +kernel
theorem dX12_begins_22 : decode cX12_begins 22 = .ok (.getfield 284, 3) := by decide +kernel
theorem dX12_begins_25 : decode cX12_begins 25 = .ok (.imul, 1) := by decide +kernel
theorem dX12_begins_26 : decode cX12_begins 26 = .ok (.iload_n 1, 1) := by decide +kernel
theorem dX12_begins_27 : decode cX12_begins 27 = .ok (.iadd, 1) := by decide +kernel
theorem dX12_begins_28 : decode cX12_begins 28 = .ok (.iaload, 1) := by decide +kernel
theorem dX12_begins_29 : decode cX12_begins 29 = .ok (.iastore, 1) := by decide +kernel
theorem dX12_begins_30 : decode cX12_begins 30 = .ok (.aload_n 0, 1) := by decide +kernel
theorem dX12_begins_31 : decode cX12_begins 31 = .ok (.getfield 131, 3) := by decide +kernel
theorem dX12_begins_34 : decode cX12_begins 34 = .ok (.iload_n 1, 1) := by decide +kernel
theorem dX12_begins_35 : decode cX12_begins 35 = .ok (.iload_n 1, 1) := by decide +kernel
theorem dX12_begins_36 : decode cX12_begins 36 = .ok (.iastore, 1) := by decide +kernel
theorem dX12_begins_37 : decode cX12_begins 37 = .ok (.aload_n 0, 1) := by decide +kernel
theorem dX12_begins_38 : decode cX12_begins 38 = .ok (.getfield 134, 3) := by decide +kernel
theorem dX12_begins_41 : decode cX12_begins 41 = .ok (.iload_n 1, 1) := by decide +kernel
theorem dX12_begins_42 : decode cX12_begins 42 = .ok (.aload_n 0, 1) := by decide +kernel
theorem dX12_begins_43 : decode cX12_begins 43 = .ok (.getfield 73, 3) := by decide +kernel
theorem dX12_begins_46 : decode cX12_begins 46 = .ok (.bipush 12, 2) := by decide +kernel
theorem dX12_begins_48 : decode cX12_begins 48 = .ok (.aload_n 0, 1) := by decide +kernel
theorem dX12_begins_49 : decode cX12_begins 49 = .ok (.getfield 284, 3) := by decide +kernel
theorem dX12_begins_52 : decode cX12_begins 52 = .ok (.imul, 1) := by decide +kernel
theorem dX12_begins_53 : decode cX12_begins 53 = .ok (.iload_n 1, 1) := by decide +kernel
theorem dX12_begins_54 : decode cX12_begins 54 = .ok (.iadd, 1) := by decide +kernel
theorem dX12_begins_55 : decode cX12_begins 55 = .ok (.iaload, 1) := by decide +kernel
theorem dX12_begins_56 : decode cX12_begins 56 = .ok (.iastore, 1) := by decide +kernel
theorem dX12_begins_57 : decode cX12_begins 57 = .ok (.iinc 1 1, 3) := by decide +kernel
theorem dX12_begins_60 : decode cX12_begins 60 = .ok (.goto (-58), 3) := by decide +kernel
theorem dX12_begins_63 : decode cX12_begins 63 = .ok (.aload_n 0, 1) := by decide +kernel
theorem dX12_begins_64 : decode cX12_begins 64 = .ok (.aload_n 0, 1) := by decide +kernel
theorem dX12_begins_65 : decode cX12_begins 65 = .ok (.getfield 79, 3) := by decide +kernel
theorem dX12_begins_68 : decode cX12_begins 68 = .ok (.aload_n 0, 1) := by decide +kernel
theorem dX12_begins_69 : decode cX12_begins 69 = .ok (.getfield 284, 3) := by decide +kernel
theorem dX12_begins_72 : decode cX12_begins 72 = .ok (.iaload, 1) := by decide +kernel
theorem dX12_begins_73 : decode cX12_begins 73 = .ok (.putfield 209, 3) := by decide +kernel
theorem dX12_begins_76 : decode cX12_begins 76 = .ok (.aload_n 0, 1) := by decide +kernel
theorem dX12_begins_77 : decode cX12_begins 77 = .ok (.aload_n 0, 1) := by decide +kernel
theorem dX12_begins_78 : decode cX12_begins 78 = .ok (.getfield 82, 3) := by decide +kernel
theorem dX12_begins_81 : decode cX12_begins 81 = .ok (.aload_n 0, 1) := by decide +kernel
theorem dX12_begins_82 : decode cX12_begins 82 = .ok (.getfield 284, 3) := by decide +kernel
theorem dX12_begins_85 : decode cX12_begins 85 = .ok (.iaload, 1) := by decide +kernel
theorem dX12_begins_86 : decode cX12_begins 86 = .ok (.putfield 393, 3) := by decide +kernel
theorem dX12_begins_89 : decode cX12_begins 89 = .ok (.aload_n 0, 1) := by decide +kernel
theorem dX12_begins_90 : decode cX12_begins 90 = .ok (.iconst 0, 1) := by decide +kernel
theorem dX12_begins_91 : decode cX12_begins 91 = .ok (.putfield 396, 3) := by decide +kernel
theorem dX12_begins_94 : decode cX12_begins 94 = .ok (.return_, 1) := by decide +kernel
def k_X12_begins_2 (X : CX) (T : List Dsc) (R : RM) (n1 n2 : Nat) (r : ((Int32 × M2) ⊕ ((M2)))) : Prop := match r with
  | .inl s => Wp X cX12_begins RX12 2 T (mk s.2 R) n1 n2 2 [(0, .ref 56), (1, .int s.1)] []
  | .inr e => Wp X cX12_begins RX12 2 T (mk e R) n1 n2 63 [(0, .ref 56)] []
set_option maxHeartbeats 4000000 in
set_option maxRecDepth 100000 in
theorem w_X12_begins_2 {X : CX} {T : List Dsc} {R : RM} {c e : Nat} {n1 n2 : Nat} {x1 : Int32} {m : M2} {r : ((Int32 × M2) ⊕ ((M2)))} (hX : XR X 2 n1 n2) (hG : Geo T R c e) (hf : f_X12_begins_2 x1 m = some r) (hk : k_X12_begins_2 X T R n1 n2 r) : Wp X cX12_begins RX12 2 T (mk m R) n1 n2 2 [(0, .ref 56), (1, .int x1)] [] := by
  unfold f_X12_begins_2 at hf
  refine Wp.iload_n (pc := 2) 1 rfl rfl dX12_begins_2 ?_
  refine Wp.aload_n (pc := 3) 0 rfl rfl dX12_begins_3 ?_
  obtain ⟨c1, h2, hf⟩ := bnd hf
  refine Wp.callVi (pc := 4) (st := [.int x1]) (as := []) (c_X12_menNow hG h2) ml_RX12_390 mv_X12_menNow mb_X12_menNow hX (Nat.le_of_ble_eq_true rfl) (by decide) rfl (hG.t 56 rfl) rfl (by simp [Value.category]) dX12_begins_4 rfl ?_
  refine Wp.icmp_ge (pc := 7) 63 dX12_begins_7 (by decide) (fun hc3 => ?_) (fun hc3 => ?_)
  · rw [if_pos hc3] at hf
    refine Wp.lo' (lo' := [(0, .ref 56)]) [0] rfl ?_
    cases hf
    exact hk
  · rw [if_neg hc3] at hf
    refine Wp.aload_n (pc := 10) 0 rfl rfl dX12_begins_10 ?_
    refine Wp.getR2 (pc := 11) (hG.r 56 55 rfl) (hG.t 56 rfl) fk_RX12_128 rfl dX12_begins_11 ?_
    refine Wp.iload_n (pc := 14) 1 rfl rfl dX12_begins_14 ?_
    refine Wp.aload_n (pc := 15) 0 rfl rfl dX12_begins_15 ?_
    refine Wp.getR2 (pc := 16) (hG.r 56 34 rfl) (hG.t 56 rfl) fk_RX12_76 rfl dX12_begins_16 ?_
    refine Wp.bipush (pc := 19) (12 : Int32) (by decide) dX12_begins_19 ?_
    refine Wp.aload_n (pc := 21) 0 rfl rfl dX12_begins_21 ?_
    refine Wp.getI2 (pc := 22) (hG.t 56 rfl) fk_RX12_284 rfl dX12_begins_22 ?_
    refine Wp.imul (pc := 25) dX12_begins_25 ?_
    refine Wp.iload_n (pc := 26) 1 rfl rfl dX12_begins_26 ?_
    refine Wp.iadd (pc := 27) dX12_begins_27 ?_
    obtain ⟨v4, h5, hf⟩ := bnd hf
    refine Wp.iald2 (pc := 28) h5 (hG.a 76 0 rfl) dX12_begins_28 ?_
    obtain ⟨m6, h7, hf⟩ := bnd hf
    refine Wp.iast2 (pc := 29) h7 (hG.a 93 0 rfl) dX12_begins_29 ?_
    refine Wp.aload_n (pc := 30) 0 rfl rfl dX12_begins_30 ?_
    refine Wp.getR2 (pc := 31) (hG.r 56 56 rfl) (hG.t 56 rfl) fk_RX12_131 rfl dX12_begins_31 ?_
    refine Wp.iload_n (pc := 34) 1 rfl rfl dX12_begins_34 ?_
    refine Wp.iload_n (pc := 35) 1 rfl rfl dX12_begins_35 ?_
    obtain ⟨m8, h9, hf⟩ := bnd hf
    refine Wp.iast2 (pc := 36) h9 (hG.a 94 0 rfl) dX12_begins_36 ?_
    refine Wp.aload_n (pc := 37) 0 rfl rfl dX12_begins_37 ?_
    refine Wp.getR2 (pc := 38) (hG.r 56 57 rfl) (hG.t 56 rfl) fk_RX12_134 rfl dX12_begins_38 ?_
    refine Wp.iload_n (pc := 41) 1 rfl rfl dX12_begins_41 ?_
    refine Wp.aload_n (pc := 42) 0 rfl rfl dX12_begins_42 ?_
    refine Wp.getR2 (pc := 43) (hG.r 56 33 rfl) (hG.t 56 rfl) fk_RX12_73 rfl dX12_begins_43 ?_
    refine Wp.bipush (pc := 46) (12 : Int32) (by decide) dX12_begins_46 ?_
    refine Wp.aload_n (pc := 48) 0 rfl rfl dX12_begins_48 ?_
    refine Wp.getI2 (pc := 49) (hG.t 56 rfl) fk_RX12_284 rfl dX12_begins_49 ?_
    refine Wp.imul (pc := 52) dX12_begins_52 ?_
    refine Wp.iload_n (pc := 53) 1 rfl rfl dX12_begins_53 ?_
    refine Wp.iadd (pc := 54) dX12_begins_54 ?_
    obtain ⟨v10, h11, hf⟩ := bnd hf
    refine Wp.iald2 (pc := 55) h11 (hG.a 75 0 rfl) dX12_begins_55 ?_
    obtain ⟨m12, h13, hf⟩ := bnd hf
    refine Wp.iast2 (pc := 56) h13 (hG.a 95 0 rfl) dX12_begins_56 ?_
    obtain ⟨v14, h15, hf⟩ := bnd hf
    refine Wp.iincN (pc := 57) (lo' := [(0, .ref 56), (1, .int v14)]) (1 : Int32) (by decide) h15 1 rfl [1, 0] rfl (by decide) dX12_begins_57 ?_
    refine Wp.goto (pc := 60) 2 dX12_begins_60 (by decide) ?_
    cases hf
    exact hk
theorem wl_X12_begins_2 {X : CX} {T : List Dsc} {R : RM} {c e : Nat} {n1 n2 : Nat} {x1 : Int32} {m : M2} {e1 : ((M2))} (hX : XR X 2 n1 n2) (hG : Geo T R c e) (h : loop (g_X12_begins_2) (x1, m) = some e1) (he : Wp X cX12_begins RX12 2 T (mk e1 R) n1 n2 63 [(0, .ref 56)] []) : Wp X cX12_begins RX12 2 T (mk m R) n1 n2 2 [(0, .ref 56), (1, .int x1)] [] :=
  loop_ok (K := k_X12_begins_2 X T R n1 n2) (fun s r hf hk => w_X12_begins_2 hX hG hf hk) h he
set_option maxHeartbeats 4000000 in
set_option maxRecDepth 100000 in
theorem w_X12_begins {X : CX} {T : List Dsc} {R : RM} {c e : Nat} {n1 n2 : Nat} {m : M2} {r : M2} (hX : XR X 2 n1 n2) (hG : Geo T R c e) (hf : F_X12_begins m = some r) (hk : FnV X cX12_begins RX12 2 T n1 n2 (mk r R)) : Wp X cX12_begins RX12 2 T (mk m R) n1 n2 0 [(0, .ref 56)] [] := by
  unfold F_X12_begins at hf
  refine Wp.iconst (pc := 0) (0 : Int32) (by decide) dX12_begins_0 ?_
  refine Wp.istore_n (pc := 1) (lo' := [(0, .ref 56), (1, .int (0 : Int32))]) [1, 0] rfl (by decide) rfl dX12_begins_1 ?_
  obtain ⟨e1, h2, hf⟩ := bnd hf
  refine wl_X12_begins_2 hX hG h2 ?_
  refine Wp.aload_n (pc := 63) 0 rfl rfl dX12_begins_63 ?_
  refine Wp.aload_n (pc := 64) 0 rfl rfl dX12_begins_64 ?_
  refine Wp.getR2 (pc := 65) (hG.r 56 35 rfl) (hG.t 56 rfl) fk_RX12_79 rfl dX12_begins_65 ?_
  refine Wp.aload_n (pc := 68) 0 rfl rfl dX12_begins_68 ?_
  refine Wp.getI2 (pc := 69) (hG.t 56 rfl) fk_RX12_284 rfl dX12_begins_69 ?_
  obtain ⟨v3, h4, hf⟩ := bnd hf
  refine Wp.iald2 (pc := 72) h4 (hG.a 77 0 rfl) dX12_begins_72 ?_
  obtain ⟨m5, h6, hf⟩ := bnd hf
  refine Wp.ptI2 (pc := 73) h6 (hG.t 56 rfl) fk_RX12_209 ff_RX12_11_58 rfl dX12_begins_73 ?_
  refine Wp.aload_n (pc := 76) 0 rfl rfl dX12_begins_76 ?_
  refine Wp.aload_n (pc := 77) 0 rfl rfl dX12_begins_77 ?_
  refine Wp.getR2 (pc := 78) (hG.r 56 36 rfl) (hG.t 56 rfl) fk_RX12_82 rfl dX12_begins_78 ?_
  refine Wp.aload_n (pc := 81) 0 rfl rfl dX12_begins_81 ?_
  refine Wp.getI2 (pc := 82) (hG.t 56 rfl) fk_RX12_284 rfl dX12_begins_82 ?_
  obtain ⟨v7, h8, hf⟩ := bnd hf
  refine Wp.iald2 (pc := 85) h8 (hG.a 78 0 rfl) dX12_begins_85 ?_
  obtain ⟨m9, h10, hf⟩ := bnd hf
  refine Wp.ptI2 (pc := 86) h10 (hG.t 56 rfl) fk_RX12_393 ff_RX12_11_59 rfl dX12_begins_86 ?_
  refine Wp.aload_n (pc := 89) 0 rfl rfl dX12_begins_89 ?_
  refine Wp.iconst (pc := 90) (0 : Int32) (by decide) dX12_begins_90 ?_
  obtain ⟨m11, h12, hf⟩ := bnd hf
  refine Wp.ptI2 (pc := 91) h12 (hG.t 56 rfl) fk_RX12_396 ff_RX12_11_60 rfl dX12_begins_91 ?_
  cases hf
  exact hk _ _ dX12_begins_94
theorem c_X12_begins {T : List Dsc} {R : RM} {c e : Nat} {m : M2} {r : M2} (hG : Geo T R c e) (hf : F_X12_begins m = some r) : Ct 2 yX12_begins cX12_begins 2 none T (mk m R) [.ref 56] none (mk r R) := Ct.ofV (r := mk r R) (by decide +kernel) (Nat.le_of_ble_eq_true rfl) (fun X hX hk => w_X12_begins hX hG hf hk)
