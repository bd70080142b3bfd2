theorem dX12_better_0 : decode cX12_better 0 = .ok (.aload_n 0, 1) := by decide +kernel
theorem dX12_better_1 : decode cX12_better 1 = .ok (.iload_n 1, 1) := by decide +kernel
theorem dX12_better_2 : decode cX12_better 2 = .ok (.iload_n 2, 1) := by decide +kernel
theorem dX12_better_3 : decode cX12_better 3 = .ok (.invokevirtual 484, 3) := by decide +kernel
theorem dX12_better_6 : decode cX12_better 6 = .ok (.ifCond .ne 5, 3) := by decide +kernel
theorem dX12_better_9 : decode cX12_better 9 = .ok (.iconst (-1), 1) := by decide +kernel
theorem dX12_better_10 : decode cX12_better 10 = .ok (.ireturn, 1) := by decide +kernel
theorem dX12_better_11 : decode cX12_better 11 = .ok (.iconst 0, 1) := by decide +kernel
theorem dX12_better_12 : decode cX12_better 12 = .ok (.istore_n 3, 1) := by decide +kernel
theorem dX12_better_13 : decode cX12_better 13 = .ok (.iload_n 3, 1) := by decide +kernel
theorem dX12_better_14 : decode cX12_better 14 = .ok (.aload_n 0, 1) := by decide +kernel
theorem dX12_better_15 : decode cX12_better 15 = .ok (.invokevirtual 390, 3) := by decide +kernel
theorem dX12_better_18 : decode cX12_better 18 = .ok (.if_icmp .ge 16, 3) := by decide +kernel
theorem dX12_better_21 : decode cX12_better 21 = .ok (.aload_n 0, 1) := by decide +kernel
theorem dX12_better_22 : decode cX12_better 22 = .ok (.getfield 164, 3) := by decide +kernel
theorem dX12_better_25 : decode cX12_better 25 = .ok (.iload_n 3, 1) := by decide +kernel
theorem dX12_better_26 : decode cX12_better 26 = .ok (.iload_n 3, 1) := by decide +kernel
theorem dX12_better_27 : decode cX12_better 27 = .ok (.iastore, 1) := by decide +kernel
theorem dX12_better_28 : decode cX12_better 28 = .ok (.iinc 3 1, 3) := by decide +kernel
theorem dX12_better_31 : decode cX12_better 31 = .ok (.goto (-18), 3) := by decide +kernel
theorem dX12_better_34 : decode cX12_better 34 = .ok (.aload_n 0, 1) := by decide +kernel
theorem dX12_better_35 : decode cX12_better 35 = .ok (.iload_n 1, 1) := by decide +kernel
theorem dX12_better_36 : decode cX12_better 36 = .ok (.iload_n 2, 1) := by decide +kernel
theorem dX12_better_37 : decode cX12_better 37 = .ok (.invokevirtual 475, 3) := by decide +kernel
theorem dX12_better_40 : decode cX12_better 40 = .ok (.istore_n 3, 1) := by decide +kernel
theorem dX12_better_41 : decode cX12_better 41 = .ok (.bipush (-2), 2) := by decide +kernel
theorem dX12_better_43 : decode cX12_better 43 = .ok (.istore 4, 2) := by decide +kernel
theorem dX12_better_45 : decode cX12_better 45 = .ok (.iconst 0, 1) := by decide +kernel
theorem dX12_better_46 : decode cX12_better 46 = .ok (.istore 5, 2) := by decide +kernel
theorem dX12_better_48 : decode cX12_better 48 = .ok (.iload 5, 2) := by decide +kernel
theorem dX12_better_50 : decode cX12_better 50 = .ok (.aload_n 0, 1) := by decide +kernel
theorem dX12_better_51 : decode cX12_better 51 = .ok (.invokevirtual 390, 3) := by decide +kernel
theorem dX12_better_54 : decode cX12_better 54 = .ok (.if_icmp .ge 100, 3) := by decide +kernel
theorem dX12_better_57 : decode cX12_better 57 = .ok (.iload 5, 2) := by decide +kernel
theorem dX12_better_59 : decode cX12_better 59 = .ok (.iconst 1, 1) := by decide +kernel
theorem dX12_better_60 : decode cX12_better 60 = .ok (.iadd, 1) := by decide +kernel
theorem dX12_better_61 : decode cX12_better 61 = .ok (.istore 6, 2) := by decide +kernel
theorem dX12_better_63 : decode cX12_better 63 = .ok (.iload 6, 2) := by decide +kernel
theorem dX12_better_65 : decode cX12_better 65 = .ok (.aload_n 0, 1) := by decide +kernel
theorem dX12_better_66 : decode cX12_better 66 = .ok (.invokevirtual 390, 3) := by decide +kernel
theorem dX12_better_69 : decode cX12_better 69 = .ok (.if_icmp .ge 79, 3) := by decide +kernel
theorem dX12_better_72 : decode cX12_better 72 = .ok (.aload_n 0, 1) := by decide +kernel
theorem dX12_better_73 : decode cX12_better 73 = .ok (.getfield 164, 3) := by decide +kernel
theorem dX12_better_76 : decode cX12_better 76 = .ok (.iload 5, 2) := by decide +kernel
theorem dX12_better_78 : decode cX12_better 78 = .ok (.iload 6, 2) := by decide +kernel
theorem dX12_better_80 : decode cX12_better 80 = .ok (.iastore, 1) := by decide +kernel
theorem dX12_better_81 : decode cX12_better 81 = .ok (.aload_n 0, 1) := by decide +kernel
theorem dX12_better_82 : decode cX12_better 82 = .ok (.getfield 164, 3) := by decide +kernel
theorem dX12_better_85 : decode cX12_better 85 = .ok (.iload 6, 2) := by decide +kernel
theorem dX12_better_87 : decode cX12_better 87 = .ok (.iload 5, 2) := by decide +kernel
theorem dX12_better_89 : decode cX12_better 89 = .ok (.iastore, 1) := by decide +kernel
theorem dX12_better_90 : decode cX12_better 90 = .ok (.aload_n 0, 1) := by decide +kernel
theorem dX12_better_91 : decode cX12_better 91 = .ok (.iload_n 1, 1) := by decide +kernel
theorem dX12_better_92 : decode cX12_better 92 = .ok (.iload_n 2, 1) := by decide +kernel
theorem dX12_better_93 : decode cX12_better 93 = .ok (.invokevirtual 475, 3) := by decide +kernel
theorem dX12_better_96 : decode cX12_better 96 = .ok (.istore 7, 2) := by decide +kernel
theorem dX12_better_98 : decode cX12_better 98 = .ok (.aload_n 0, 1) := by decide +kernel
theorem dX12_better_99 : decode cX12_better 99 = .ok (.getfield 164, 3) := by decide +kernel
theorem dX12_better_102 : decode cX12_better 102 = .ok (.iload 5, 2) := by decide +kernel
theorem dX12_better_104 : decode cX12_better 104 = .ok (.iload 5, 2) := by decide +kernel
theorem dX12_better_106 : decode cX12_better 106 = .ok (.iastore, 1) := by decide +kernel
theorem dX12_better_107 : decode cX12_better 107 = .ok (.aload_n 0, 1) := by decide +kernel
theorem dX12_better_108 : decode cX12_better 108 = .ok (.getfield 164, 3) := by decide +kernel
theorem dX12_better_111 : decode cX12_better 111 = .ok (.iload 6, 2) := by decide +kernel
theorem dX12_better_113 : decode cX12_better 113 = .ok (.iload 6, 2) := by decide +kernel
theorem dX12_better_115 : decode cX12_better 115 = .ok (.iastore, 1) := by decide +kernel
theorem dX12_better_116 : decode cX12_better 116 = .ok (.iload_n 1, 1) := by decide +kernel
theorem dX12_better_117 : decode cX12_better 117 = .ok (.iload 7, 2) := by decide +kernel
theorem dX12_better_119 : decode cX12_better 119 = .ok (.iload_n 3, 1) := by decide +kernel
theorem dX12_better_120 : decode cX12_better 120 = .ok (.invokestatic 478, 3) := by decide +kernel
theorem dX12_better_123 : decode cX12_better 123 = .ok (.ifCond .ne 6, 3) := by decide +kernel
theorem dX12_better_126 : decode cX12_better 126 = .ok (.goto 16, 3) := by decide +kernel
theorem dX12_better_129 : decode cX12_better 129 = .ok (.iload 7, 2) := by decide +kernel
theorem dX12_better_131 : decode cX12_better 131 = .ok (.istore_n 3, 1) := by decide +kernel
theorem dX12_better_132 : decode cX12_better 132 = .ok (.bipush 100, 2) := by decide +kernel
theorem dX12_better_134 : decode cX12_better 134 = .ok (.iload 5, 2) := by decide +kernel
theorem dX12_better_136 : decode cX12_better 136 = .ok (.imul, 1) := by decide +kernel
theorem dX12_better_137 : decode cX12_better 137 = .ok (.iload 6, 2) := by decide +kernel
theorem dX12_better_139 : decode cX12_better 139 = .ok (.iadd, 1) := by decide +kernel
theorem dX12_better_140 : decode cX12_better 140 = .ok (.istore 4, 2) := by decide +kernel
theorem dX12_better_142 : decode cX12_better 142 = .ok (.iinc 6 1, 3) := by decide +kernel
theorem dX12_better_145 : decode cX12_better 145 = .ok (.goto (-82), 3) := by decide +kernel
theorem dX12_better_148 : decode cX12_better 148 = .ok (.iinc 5 1, 3) := by decide +kernel
theorem dX12_better_151 : decode cX12_better 151 = .ok (.goto (-103), 3) := by decide +kernel
theorem dX12_better_154 : decode cX12_better 154 = .ok (.iload 4, 2) := by decide +kernel
theorem dX12_better_156 : decode cX12_better 156 = .ok (.ireturn, 1) := by decide +kernel
def k_X12_better_13 (X : CX) (T : List Dsc) (R : RM) (n1 n2 : Nat) (x1 : Int32) (x2 : Int32) (r : ((Int32 × M2) ⊕ ((M2)))) : Prop := match r with
  | .inl s => Wp X cX12_better RX12 8 T (mk s.2 R) n1 n2 13 [(0, .ref 56), (1, .int x1), (2, .int x2), (3, .int s.1)] []
  | .inr e => Wp X cX12_better RX12 8 T (mk e R) n1 n2 34 [(0, .ref 56), (1, .int x1), (2, .int x2)] []
def k_X12_better_63 (X : CX) (T : List Dsc) (R : RM) (n1 n2 : Nat) (x1 : Int32) (x2 : Int32) (x5 : Int32) (r : ((Int32 × Int32 × Int32 × M2) ⊕ ((Int32 × Int32 × M2)))) : Prop := match r with
  | .inl s => Wp X cX12_better RX12 8 T (mk s.2.2.2 R) n1 n2 63 [(0, .ref 56), (1, .int x1), (2, .int x2), (3, .int s.1), (4, .int s.2.1), (5, .int x5), (6, .int s.2.2.1)] []
  | .inr e => Wp X cX12_better RX12 8 T (mk e.2.2 R) n1 n2 148 [(0, .ref 56), (1, .int x1), (2, .int x2), (3, .int e.1), (4, .int e.2.1), (5, .int x5)] []
def k_X12_better_48 (X : CX) (T : List Dsc) (R : RM) (n1 n2 : Nat) (x1 : Int32) (x2 : Int32) (r : ((Int32 × Int32 × Int32 × M2) ⊕ ((Int32 × M2)))) : Prop := match r with
  | .inl s => Wp X cX12_better RX12 8 T (mk s.2.2.2 R) n1 n2 48 [(0, .ref 56), (1, .int x1), (2, .int x2), (3, .int s.1), (4, .int s.2.1), (5, .int s.2.2.1)] []
  | .inr e => Wp X cX12_better RX12 8 T (mk e.2 R) n1 n2 154 [(4, .int e.1)] []
set_option maxHeartbeats 4000000 in
set_option maxRecDepth 100000 in
theorem w_X12_better_13 {X : CX} {T : List Dsc} {R : RM} {c e : Nat} {n1 n2 : Nat} {x1 : Int32} {x2 : Int32} {x3 : Int32} {m : M2} {r : ((Int32 × M2) ⊕ ((M2)))} (hX : XR X 11 n1 n2) (hG : Geo T R c e) (hf : f_X12_better_13 x1 x2 x3 m = some r) (hk : k_X12_better_13 X T R n1 n2 x1 x2 r) : Wp X cX12_better RX12 8 T (mk m R) n1 n2 13 [(0, .ref 56), (1, .int x1), (2, .int x2), (3, .int x3)] [] := by
  unfold f_X12_better_13 at hf
  refine Wp.iload_n (pc := 13) 3 rfl rfl dX12_better_13 ?_
  refine Wp.aload_n (pc := 14) 0 rfl rfl dX12_better_14 ?_
  obtain ⟨c1, h2, hf⟩ := bnd hf
  refine Wp.callVi (pc := 15) (st := [.int x3]) (as := []) (c_X12_menNow hG h2) ml_RX12_390 mv_X12_menNow mb_X12_menNow hX (Nat.le_of_ble_eq_true rfl) (by decide) rfl (hG.t 56 rfl) rfl (by simp [Value.category]) dX12_better_15 rfl ?_
  refine Wp.icmp_ge (pc := 18) 34 dX12_better_18 (by decide) (fun hc3 => ?_) (fun hc3 => ?_)
  · rw [if_pos hc3] at hf
    refine Wp.lo' (lo' := [(0, .ref 56), (1, .int x1), (2, .int x2)]) [0, 1, 2] rfl ?_
    cases hf
    exact hk
  · rw [if_neg hc3] at hf
    refine Wp.aload_n (pc := 21) 0 rfl rfl dX12_better_21 ?_
    refine Wp.getR2 (pc := 22) (hG.r 56 75 rfl) (hG.t 56 rfl) fk_RX12_164 rfl dX12_better_22 ?_
    refine Wp.iload_n (pc := 25) 3 rfl rfl dX12_better_25 ?_
    refine Wp.iload_n (pc := 26) 3 rfl rfl dX12_better_26 ?_
    obtain ⟨m4, h5, hf⟩ := bnd hf
    refine Wp.iast2 (pc := 27) h5 (hG.a 105 0 rfl) dX12_better_27 ?_
    obtain ⟨v6, h7, hf⟩ := bnd hf
    refine Wp.iincN (pc := 28) (lo' := [(0, .ref 56), (1, .int x1), (2, .int x2), (3, .int v6)]) (1 : Int32) (by decide) h7 3 rfl [1, 2, 3, 0] rfl (by decide) dX12_better_28 ?_
    refine Wp.goto (pc := 31) 13 dX12_better_31 (by decide) ?_
    cases hf
    exact hk
theorem wl_X12_better_13 {X : CX} {T : List Dsc} {R : RM} {c e : Nat} {n1 n2 : Nat} {x1 : Int32} {x2 : Int32} {x3 : Int32} {m : M2} {e1 : ((M2))} (hX : XR X 11 n1 n2) (hG : Geo T R c e) (h : loop (g_X12_better_13 x1 x2) (x3, m) = some e1) (he : Wp X cX12_better RX12 8 T (mk e1 R) n1 n2 34 [(0, .ref 56), (1, .int x1), (2, .int x2)] []) : Wp X cX12_better RX12 8 T (mk m R) n1 n2 13 [(0, .ref 56), (1, .int x1), (2, .int x2), (3, .int x3)] [] :=
  loop_ok (K := k_X12_better_13 X T R n1 n2 x1 x2) (fun s r hf hk => w_X12_better_13 hX hG hf hk) h he
set_option maxHeartbeats 4000000 in
set_option maxRecDepth 100000 in
theorem w_X12_better_142 {X : CX} {T : List Dsc} {R : RM} {c e : Nat} {n1 n2 : Nat} {x1 : Int32} {x2 : Int32} {x3 : Int32} {x4 : Int32} {x5 : Int32} {x6 : Int32} {m : M2} {r : ((Int32 × Int32 × Int32 × M2) ⊕ ((Int32 × Int32 × M2)))} (hX : XR X 11 n1 n2) (hG : Geo T R c e) (hf : f_X12_better_142 x1 x2 x3 x4 x5 x6 m = some r) (hk : k_X12_better_63 X T R n1 n2 x1 x2 x5 r) : Wp X cX12_better RX12 8 T (mk m R) n1 n2 142 [(0, .ref 56), (1, .int x1), (2, .int x2), (3, .int x3), (4, .int x4), (5, .int x5), (6, .int x6)] [] := by
  unfold f_X12_better_142 at hf
  obtain ⟨v1, h2, hf⟩ := bnd hf
  refine Wp.iincN (pc := 142) (lo' := [(0, .ref 56), (1, .int x1), (2, .int x2), (3, .int x3), (4, .int x4), (5, .int x5), (6, .int v1)]) (1 : Int32) (by decide) h2 6 rfl [1, 2, 3, 4, 5, 6, 0] rfl (by decide) dX12_better_142 ?_
  refine Wp.goto (pc := 145) 63 dX12_better_145 (by decide) ?_
  cases hf
  exact hk
set_option maxHeartbeats 4000000 in
set_option maxRecDepth 100000 in
theorem w_X12_better_63 {X : CX} {T : List Dsc} {R : RM} {c e : Nat} {n1 n2 : Nat} {x1 : Int32} {x2 : Int32} {x3 : Int32} {x4 : Int32} {x5 : Int32} {x6 : Int32} {m : M2} {r : ((Int32 × Int32 × Int32 × M2) ⊕ ((Int32 × Int32 × M2)))} (hX : XR X 11 n1 n2) (hG : Geo T R c e) (hf : f_X12_better_63 x1 x2 x3 x4 x5 x6 m = some r) (hk : k_X12_better_63 X T R n1 n2 x1 x2 x5 r) : Wp X cX12_better RX12 8 T (mk m R) n1 n2 63 [(0, .ref 56), (1, .int x1), (2, .int x2), (3, .int x3), (4, .int x4), (5, .int x5), (6, .int x6)] [] := by
  unfold f_X12_better_63 at hf
  refine Wp.iload (pc := 63) 6 rfl dX12_better_63 ?_
  refine Wp.aload_n (pc := 65) 0 rfl rfl dX12_better_65 ?_
  obtain ⟨c1, h2, hf⟩ := bnd hf
  refine Wp.callVi (pc := 66) (st := [.int x6]) (as := []) (c_X12_menNow hG h2) ml_RX12_390 mv_X12_menNow mb_X12_menNow hX (Nat.le_of_ble_eq_true rfl) (by decide) rfl (hG.t 56 rfl) rfl (by simp [Value.category]) dX12_better_66 rfl ?_
  refine Wp.icmp_ge (pc := 69) 148 dX12_better_69 (by decide) (fun hc3 => ?_) (fun hc3 => ?_)
  · rw [if_pos hc3] at hf
    refine Wp.lo' (lo' := [(0, .ref 56), (1, .int x1), (2, .int x2), (3, .int x3), (4, .int x4), (5, .int x5)]) [0, 1, 2, 3, 4, 5] rfl ?_
    cases hf
    exact hk
  · rw [if_neg hc3] at hf
    refine Wp.aload_n (pc := 72) 0 rfl rfl dX12_better_72 ?_
    refine Wp.getR2 (pc := 73) (hG.r 56 75 rfl) (hG.t 56 rfl) fk_RX12_164 rfl dX12_better_73 ?_
    refine Wp.iload (pc := 76) 5 rfl dX12_better_76 ?_
    refine Wp.iload (pc := 78) 6 rfl dX12_better_78 ?_
    obtain ⟨m4, h5, hf⟩ := bnd hf
    refine Wp.iast2 (pc := 80) h5 (hG.a 105 0 rfl) dX12_better_80 ?_
    refine Wp.aload_n (pc := 81) 0 rfl rfl dX12_better_81 ?_
    refine Wp.getR2 (pc := 82) (hG.r 56 75 rfl) (hG.t 56 rfl) fk_RX12_164 rfl dX12_better_82 ?_
    refine Wp.iload (pc := 85) 6 rfl dX12_better_85 ?_
    refine Wp.iload (pc := 87) 5 rfl dX12_better_87 ?_
    obtain ⟨m6, h7, hf⟩ := bnd hf
    refine Wp.iast2 (pc := 89) h7 (hG.a 105 0 rfl) dX12_better_89 ?_
    refine Wp.aload_n (pc := 90) 0 rfl rfl dX12_better_90 ?_
    refine Wp.iload_n (pc := 91) 1 rfl rfl dX12_better_91 ?_
    refine Wp.iload_n (pc := 92) 2 rfl rfl dX12_better_92 ?_
    obtain ⟨c8, h9, hf⟩ := bnd hf
    refine Wp.callVi (pc := 93) (st := []) (as := [.int x1, .int x2]) (c_X12_comesTo hG h9) ml_RX12_475 mv_X12_comesTo mb_X12_comesTo hX (Nat.le_of_ble_eq_true rfl) (by decide) rfl (hG.t 56 rfl) rfl (by simp) dX12_better_93 rfl ?_
    refine Wp.istore (pc := 96) (lo' := [(0, .ref 56), (1, .int x1), (2, .int x2), (3, .int x3), (4, .int x4), (5, .int x5), (6, .int x6), (7, .int c8.1)]) [1, 2, 3, 4, 5, 6, 7, 0] rfl (by decide) dX12_better_96 ?_
    refine Wp.aload_n (pc := 98) 0 rfl rfl dX12_better_98 ?_
    refine Wp.getR2 (pc := 99) (hG.r 56 75 rfl) (hG.t 56 rfl) fk_RX12_164 rfl dX12_better_99 ?_
    refine Wp.iload (pc := 102) 5 rfl dX12_better_102 ?_
    refine Wp.iload (pc := 104) 5 rfl dX12_better_104 ?_
    obtain ⟨m10, h11, hf⟩ := bnd hf
    refine Wp.iast2 (pc := 106) h11 (hG.a 105 0 rfl) dX12_better_106 ?_
    refine Wp.aload_n (pc := 107) 0 rfl rfl dX12_better_107 ?_
    refine Wp.getR2 (pc := 108) (hG.r 56 75 rfl) (hG.t 56 rfl) fk_RX12_164 rfl dX12_better_108 ?_
    refine Wp.iload (pc := 111) 6 rfl dX12_better_111 ?_
    refine Wp.iload (pc := 113) 6 rfl dX12_better_113 ?_
    obtain ⟨m12, h13, hf⟩ := bnd hf
    refine Wp.iast2 (pc := 115) h13 (hG.a 105 0 rfl) dX12_better_115 ?_
    refine Wp.iload_n (pc := 116) 1 rfl rfl dX12_better_116 ?_
    refine Wp.iload (pc := 117) 7 rfl dX12_better_117 ?_
    refine Wp.iload_n (pc := 119) 3 rfl rfl dX12_better_119 ?_
    obtain ⟨c14, h15, hf⟩ := bnd hf
    refine Wp.callSi (pc := 120) (st := []) (as := [.int x1, .int c8.1, .int x3]) (c_X12_isBetter hG h15) ml_RX12_478 ms_X12_isBetter mb_X12_isBetter hX (Nat.le_of_ble_eq_true rfl) (by decide) rfl (by simp) dX12_better_120 rfl ?_
    refine Wp.if_ne (pc := 123) 129 dX12_better_123 (by decide) (fun hc16 => ?_) (fun hc16 => ?_)
    · rw [if_neg hc16] at hf
      refine Wp.iload (pc := 129) 7 rfl dX12_better_129 ?_
      refine Wp.istore_n (pc := 131) (lo' := [(0, .ref 56), (1, .int x1), (2, .int x2), (3, .int c8.1), (5, .int x5), (6, .int x6)]) [1, 2, 3, 0, 5, 6] rfl (by decide) rfl dX12_better_131 ?_
      refine Wp.bipush (pc := 132) (100 : Int32) (by decide) dX12_better_132 ?_
      refine Wp.iload (pc := 134) 4 rfl dX12_better_134 ?_
      refine Wp.imul (pc := 136) dX12_better_136 ?_
      refine Wp.iload (pc := 137) 5 rfl dX12_better_137 ?_
      refine Wp.iadd (pc := 139) dX12_better_139 ?_
      obtain ⟨v17, h18, hf⟩ := bnd hf
      refine Wp.nI' h18 ?_
      refine Wp.istore (pc := 140) (lo' := [(0, .ref 56), (1, .int x1), (2, .int x2), (3, .int c8.1), (4, .int v17), (5, .int x5), (6, .int x6)]) [1, 2, 3, 4, 0, 5, 6] rfl (by decide) dX12_better_140 ?_
      exact w_X12_better_142 hX hG hf hk
    · rw [if_pos hc16] at hf
      refine Wp.goto (pc := 126) 142 dX12_better_126 (by decide) ?_
      refine Wp.lo' (lo' := [(0, .ref 56), (1, .int x1), (2, .int x2), (3, .int x3), (4, .int x4), (5, .int x5), (6, .int x6)]) [0, 1, 2, 3, 4, 5, 6] rfl ?_
      exact w_X12_better_142 hX hG hf hk
theorem wl_X12_better_63 {X : CX} {T : List Dsc} {R : RM} {c e : Nat} {n1 n2 : Nat} {x1 : Int32} {x2 : Int32} {x3 : Int32} {x4 : Int32} {x5 : Int32} {x6 : Int32} {m : M2} {e1 : ((Int32 × Int32 × M2))} (hX : XR X 11 n1 n2) (hG : Geo T R c e) (h : loop (g_X12_better_63 x1 x2 x5) (x3, x4, x6, m) = some e1) (he : Wp X cX12_better RX12 8 T (mk e1.2.2 R) n1 n2 148 [(0, .ref 56), (1, .int x1), (2, .int x2), (3, .int e1.1), (4, .int e1.2.1), (5, .int x5)] []) : Wp X cX12_better RX12 8 T (mk m R) n1 n2 63 [(0, .ref 56), (1, .int x1), (2, .int x2), (3, .int x3), (4, .int x4), (5, .int x5), (6, .int x6)] [] :=
  loop_ok (K := k_X12_better_63 X T R n1 n2 x1 x2 x5) (fun s r hf hk => w_X12_better_63 hX hG hf hk) h he
set_option maxHeartbeats 4000000 in
set_option maxRecDepth 100000 in
theorem w_X12_better_48 {X : CX} {T : List Dsc} {R : RM} {c e : Nat} {n1 n2 : Nat} {x1 : Int32} {x2 : Int32} {x3 : Int32} {x4 : Int32} {x5 : Int32} {m : M2} {r : ((Int32 × Int32 × Int32 × M2) ⊕ ((Int32 × M2)))} (hX : XR X 11 n1 n2) (hG : Geo T R c e) (hf : f_X12_better_48 x1 x2 x3 x4 x5 m = some r) (hk : k_X12_better_48 X T R n1 n2 x1 x2 r) : Wp X cX12_better RX12 8 T (mk m R) n1 n2 48 [(0, .ref 56), (1, .int x1), (2, .int x2), (3, .int x3), (4, .int x4), (5, .int x5)] [] := by
  unfold f_X12_better_48 at hf
  refine Wp.iload (pc := 48) 5 rfl dX12_better_48 ?_
  refine Wp.aload_n (pc := 50) 0 rfl rfl dX12_better_50 ?_
  obtain ⟨c1, h2, hf⟩ := bnd hf
  refine Wp.callVi (pc := 51) (st := [.int x5]) (as := []) (c_X12_menNow hG h2) ml_RX12_390 mv_X12_menNow mb_X12_menNow hX (Nat.le_of_ble_eq_true rfl) (by decide) rfl (hG.t 56 rfl) rfl (by simp [Value.category]) dX12_better_51 rfl ?_
  refine Wp.icmp_ge (pc := 54) 154 dX12_better_54 (by decide) (fun hc3 => ?_) (fun hc3 => ?_)
  · rw [if_pos hc3] at hf
    refine Wp.lo' (lo' := [(4, .int x4)]) [4] rfl ?_
    cases hf
    exact hk
  · rw [if_neg hc3] at hf
    refine Wp.iload (pc := 57) 5 rfl dX12_better_57 ?_
    refine Wp.iconst (pc := 59) (1 : Int32) (by decide) dX12_better_59 ?_
    refine Wp.iadd (pc := 60) dX12_better_60 ?_
    obtain ⟨v4, h5, hf⟩ := bnd hf
    refine Wp.nI' h5 ?_
    refine Wp.istore (pc := 61) (lo' := [(0, .ref 56), (1, .int x1), (2, .int x2), (3, .int x3), (4, .int x4), (5, .int x5), (6, .int v4)]) [1, 2, 3, 4, 5, 6, 0] rfl (by decide) dX12_better_61 ?_
    obtain ⟨e6, h7, hf⟩ := bnd hf
    refine wl_X12_better_63 hX hG h7 ?_
    obtain ⟨v8, h9, hf⟩ := bnd hf
    refine Wp.iincN (pc := 148) (lo' := [(0, .ref 56), (1, .int x1), (2, .int x2), (3, .int e6.1), (4, .int e6.2.1), (5, .int v8)]) (1 : Int32) (by decide) h9 5 rfl [1, 2, 3, 4, 5, 0] rfl (by decide) dX12_better_148 ?_
    refine Wp.goto (pc := 151) 48 dX12_better_151 (by decide) ?_
    cases hf
    exact hk
theorem wl_X12_better_48 {X : CX} {T : List Dsc} {R : RM} {c e : Nat} {n1 n2 : Nat} {x1 : Int32} {x2 : Int32} {x3 : Int32} {x4 : Int32} {x5 : Int32} {m : M2} {e1 : ((Int32 × M2))} (hX : XR X 11 n1 n2) (hG : Geo T R c e) (h : loop (g_X12_better_48 x1 x2) (x3, x4, x5, m) = some e1) (he : Wp X cX12_better RX12 8 T (mk e1.2 R) n1 n2 154 [(4, .int e1.1)] []) : Wp X cX12_better RX12 8 T (mk m R) n1 n2 48 [(0, .ref 56), (1, .int x1), (2, .int x2), (3, .int x3), (4, .int x4), (5, .int x5)] [] :=
  loop_ok (K := k_X12_better_48 X T R n1 n2 x1 x2) (fun s r hf hk => w_X12_better_48 hX hG hf hk) h he
set_option maxHeartbeats 4000000 in
set_option maxRecDepth 100000 in
theorem w_X12_better {X : CX} {T : List Dsc} {R : RM} {c e : Nat} {n1 n2 : Nat} {x1 : Int32} {x2 : Int32} {m : M2} {r : (Int32 × M2)} (hX : XR X 11 n1 n2) (hG : Geo T R c e) (hf : F_X12_better x1 x2 m = some r) (hk : FnI X cX12_better RX12 8 T n1 n2 (r.1, mk r.2 R)) : Wp X cX12_better RX12 8 T (mk m R) n1 n2 0 [(0, .ref 56), (1, .int x1), (2, .int x2)] [] := by
  unfold F_X12_better at hf
  refine Wp.aload_n (pc := 0) 0 rfl rfl dX12_better_0 ?_
  refine Wp.iload_n (pc := 1) 1 rfl rfl dX12_better_1 ?_
  refine Wp.iload_n (pc := 2) 2 rfl rfl dX12_better_2 ?_
  obtain ⟨c1, h2, hf⟩ := bnd hf
  refine Wp.callVi (pc := 3) (st := []) (as := [.int x1, .int x2]) (c_X12_canSeat hG h2) ml_RX12_484 mv_X12_canSeat mb_X12_canSeat hX (Nat.le_of_ble_eq_true rfl) (by decide) rfl (hG.t 56 rfl) rfl (by simp) dX12_better_3 rfl ?_
  refine Wp.if_ne (pc := 6) 11 dX12_better_6 (by decide) (fun hc3 => ?_) (fun hc3 => ?_)
  · rw [if_neg hc3] at hf
    refine Wp.iconst (pc := 11) (0 : Int32) (by decide) dX12_better_11 ?_
    refine Wp.istore_n (pc := 12) (lo' := [(0, .ref 56), (1, .int x1), (2, .int x2), (3, .int (0 : Int32))]) [1, 2, 3, 0] rfl (by decide) rfl dX12_better_12 ?_
    obtain ⟨e4, h5, hf⟩ := bnd hf
    refine wl_X12_better_13 hX hG h5 ?_
    refine Wp.aload_n (pc := 34) 0 rfl rfl dX12_better_34 ?_
    refine Wp.iload_n (pc := 35) 1 rfl rfl dX12_better_35 ?_
    refine Wp.iload_n (pc := 36) 2 rfl rfl dX12_better_36 ?_
    obtain ⟨c6, h7, hf⟩ := bnd hf
    refine Wp.callVi (pc := 37) (st := []) (as := [.int x1, .int x2]) (c_X12_comesTo hG h7) ml_RX12_475 mv_X12_comesTo mb_X12_comesTo hX (Nat.le_of_ble_eq_true rfl) (by decide) rfl (hG.t 56 rfl) rfl (by simp) dX12_better_37 rfl ?_
    refine Wp.istore_n (pc := 40) (lo' := [(0, .ref 56), (1, .int x1), (2, .int x2), (3, .int c6.1)]) [1, 2, 3, 0] rfl (by decide) rfl dX12_better_40 ?_
    refine Wp.bipush (pc := 41) (-2 : Int32) (by decide) dX12_better_41 ?_
    refine Wp.istore (pc := 43) (lo' := [(0, .ref 56), (1, .int x1), (2, .int x2), (3, .int c6.1), (4, .int (-2 : Int32))]) [1, 2, 3, 4, 0] rfl (by decide) dX12_better_43 ?_
    refine Wp.iconst (pc := 45) (0 : Int32) (by decide) dX12_better_45 ?_
    refine Wp.istore (pc := 46) (lo' := [(0, .ref 56), (1, .int x1), (2, .int x2), (3, .int c6.1), (4, .int (-2 : Int32)), (5, .int (0 : Int32))]) [1, 2, 3, 4, 5, 0] rfl (by decide) dX12_better_46 ?_
    obtain ⟨e8, h9, hf⟩ := bnd hf
    refine wl_X12_better_48 hX hG h9 ?_
    refine Wp.iload (pc := 154) 0 rfl dX12_better_154 ?_
    cases hf
    exact hk _ _ dX12_better_156
  · rw [if_pos hc3] at hf
    refine Wp.iconst (pc := 9) (-1 : Int32) (by decide) dX12_better_9 ?_
    cases hf
    exact hk _ _ dX12_better_10
theorem c_X12_better {T : List Dsc} {R : RM} {c e : Nat} {x1 : Int32} {x2 : Int32} {m : M2} {r : (Int32 × M2)} (hG : Geo T R c e) (hf : F_X12_better x1 x2 m = some r) : Ct 11 yX12_better cX12_better 8 (some .int) T (mk m R) [.ref 56, .int x1, .int x2] (some (.int r.1)) (mk r.2 R) := Ct.ofI (r := (r.1, mk r.2 R)) (by decide +kernel) (Nat.le_of_ble_eq_true rfl) (fun X hX hk => w_X12_better hX hG hf hk)
theorem dX12_numberOf_0 : decode cX12_numberOf 0 = .ok (.iconst 0, 1) := by decide +kernel
theorem dX12_numberOf_1 : decode cX12_numberOf 1 = .ok (.istore_n 2, 1) := by decide +kernel
theorem dX12_numberOf_2 : decode cX12_numberOf 2 = .ok (.iload_n 1, 1) := by decide +kernel
theorem dX12_numberOf_3 : decode cX12_numberOf 3 = .ok (.iconst 1, 1) := by decide +kernel
theorem dX12_numberOf_4 : decode cX12_numberOf 4 = .ok (.isub, 1) := by decide +kernel
theorem dX12_numberOf_5 : decode cX12_numberOf 5 = .ok (.istore_n 3, 1) := by decide +kernel
theorem dX12_numberOf_6 : decode cX12_numberOf 6 = .ok (.iload_n 3, 1) := by decide +kernel
theorem dX12_numberOf_7 : decode cX12_numberOf 7 = .ok (.ifCond .lt 23, 3) := by decide +kernel
theorem dX12_numberOf_10 : decode cX12_numberOf 10 = .ok (.iload_n 2, 1) := by decide +kernel
theorem dX12_numberOf_11 : decode cX12_numberOf 11 = .ok (.aload_n 0, 1) := by decide +kernel
theorem dX12_numberOf_12 : decode cX12_numberOf 12 = .ok (.invokevirtual 408, 3) := by decide +kernel
theorem dX12_numberOf_15 : decode cX12_numberOf 15 = .ok (.imul, 1) := by decide +kernel
theorem dX12_numberOf_16 : decode cX12_numberOf 16 = .ok (.aload_n 0, 1) := by decide +kernel
theorem dX12_numberOf_17 : decode cX12_numberOf 17 = .ok (.getfield 140, 3) := by decide +kernel
theorem dX12_numberOf_20 : decode cX12_numberOf 20 = .ok (.iload_n 3, 1) := by decide +kernel
theorem dX12_numberOf_21 : decode cX12_numberOf 21 = .ok (.iaload, 1) := by decide +kernel
theorem dX12_numberOf_22 : decode cX12_numberOf 22 = .ok (.iadd, 1) := by decide +kernel
theorem dX12_numberOf_23 : decode cX12_numberOf 23 = .ok (.istore_n 2, 1) := by decide +kernel
theorem dX12_numberOf_24 : decode cX12_numberOf 24 = .ok (.iinc 3 (-1), 3) := by decide +kernel
theorem dX12_numberOf_27 : decode cX12_numberOf 27 = .ok (.goto (-21), 3) := by decide +kernel
theorem dX12_numberOf_30 : decode cX12_numberOf 30 = .ok (.iload_n 2, 1) := by decide +kernel
theorem dX12_numberOf_31 : decode cX12_numberOf 31 = .ok (.ireturn, 1) := by decide +kernel
def k_X12_numberOf_6 (X : CX) (T : List Dsc) (R : RM) (n1 n2 : Nat) (r : ((Int32 × Int32 × M2) ⊕ ((Int32 × M2)))) : Prop := match r with
  | .inl s => Wp X cX12_numberOf RX12 4 T (mk s.2.2 R) n1 n2 6 [(0, .ref 56), (2, .int s.1), (3, .int s.2.1)] []
  | .inr e => Wp X cX12_numberOf RX12 4 T (mk e.2 R) n1 n2 30 [(2, .int e.1)] []
set_option maxHeartbeats 4000000 in
set_option maxRecDepth 100000 in
theorem w_X12_numberOf_6 {X : CX} {T : List Dsc} {R : RM} {c e : Nat} {n1 n2 : Nat} {x2 : Int32} {x3 : Int32} {m : M2} {r : ((Int32 × Int32 × M2) ⊕ ((Int32 × M2)))} (hX : XR X 2 n1 n2) (hG : Geo T R c e) (hf : f_X12_numberOf_6 x2 x3 m = some r) (hk : k_X12_numberOf_6 X T R n1 n2 r) : Wp X cX12_numberOf RX12 4 T (mk m R) n1 n2 6 [(0, .ref 56), (2, .int x2), (3, .int x3)] [] := by
  unfold f_X12_numberOf_6 at hf
  refine Wp.iload_n (pc := 6) 2 rfl rfl dX12_numberOf_6 ?_
  refine Wp.if_lt (pc := 7) 30 dX12_numberOf_7 (by decide) (fun hc1 => ?_) (fun hc1 => ?_)
  · rw [if_pos hc1] at hf
    refine Wp.lo' (lo' := [(2, .int x2)]) [1] rfl ?_
    cases hf
    exact hk
  · rw [if_neg hc1] at hf
    refine Wp.iload_n (pc := 10) 1 rfl rfl dX12_numberOf_10 ?_
    refine Wp.aload_n (pc := 11) 0 rfl rfl dX12_numberOf_11 ?_
    obtain ⟨c2, h3, hf⟩ := bnd hf
    refine Wp.callVi (pc := 12) (st := [.int x2]) (as := []) (c_X12_all hG h3) ml_RX12_408 mv_X12_all mb_X12_all hX (Nat.le_of_ble_eq_true rfl) (by decide) rfl (hG.t 56 rfl) rfl (by simp [Value.category]) dX12_numberOf_12 rfl ?_
    refine Wp.imul (pc := 15) dX12_numberOf_15 ?_
    refine Wp.aload_n (pc := 16) 0 rfl rfl dX12_numberOf_16 ?_
    refine Wp.getR2 (pc := 17) (hG.r 56 63 rfl) (hG.t 56 rfl) fk_RX12_140 rfl dX12_numberOf_17 ?_
    refine Wp.iload_n (pc := 20) 2 rfl rfl dX12_numberOf_20 ?_
    obtain ⟨v4, h5, hf⟩ := bnd hf
    refine Wp.iald2 (pc := 21) h5 (hG.a 97 0 rfl) dX12_numberOf_21 ?_
    refine Wp.iadd (pc := 22) dX12_numberOf_22 ?_
    obtain ⟨v6, h7, hf⟩ := bnd hf
    refine Wp.nI' h7 ?_
    refine Wp.istore_n (pc := 23) (lo' := [(0, .ref 56), (2, .int v6), (3, .int x3)]) [1, 0, 2] rfl (by decide) rfl dX12_numberOf_23 ?_
    obtain ⟨v8, h9, hf⟩ := bnd hf
    refine Wp.iincN (pc := 24) (lo' := [(0, .ref 56), (2, .int v6), (3, .int v8)]) (-1 : Int32) (by decide) h9 2 rfl [1, 2, 0] rfl (by decide) dX12_numberOf_24 ?_
    refine Wp.goto (pc := 27) 6 dX12_numberOf_27 (by decide) ?_
    cases hf
    exact hk
theorem wl_X12_numberOf_6 {X : CX} {T : List Dsc} {R : RM} {c e : Nat} {n1 n2 : Nat} {x2 : Int32} {x3 : Int32} {m : M2} {e1 : ((Int32 × M2))} (hX : XR X 2 n1 n2) (hG : Geo T R c e) (h : loop (g_X12_numberOf_6) (x2, x3, m) = some e1) (he : Wp X cX12_numberOf RX12 4 T (mk e1.2 R) n1 n2 30 [(2, .int e1.1)] []) : Wp X cX12_numberOf RX12 4 T (mk m R) n1 n2 6 [(0, .ref 56), (2, .int x2), (3, .int x3)] [] :=
  loop_ok (K := k_X12_numberOf_6 X T R n1 n2) (fun s r hf hk => w_X12_numberOf_6 hX hG hf hk) h he
set_option maxHeartbeats 4000000 in
set_option maxRecDepth 100000 in
theorem w_X12_numberOf {X : CX} {T : List Dsc} {R : RM} {c e : Nat} {n1 n2 : Nat} {x1 : Int32} {m : M2} {r : (Int32 × M2)} (hX : XR X 2 n1 n2) (hG : Geo T R c e) (hf : F_X12_numberOf x1 m = some r) (hk : FnI X cX12_numberOf RX12 4 T n1 n2 (r.1, mk r.2 R)) : Wp X cX12_numberOf RX12 4 T (mk m R) n1 n2 0 [(0, .ref 56), (1, .int x1)] [] := by
  unfold F_X12_numberOf at hf
  refine Wp.iconst (pc := 0) (0 : Int32) (by decide) dX12_numberOf_0 ?_
  refine Wp.istore_n (pc := 1) (lo' := [(0, .ref 56), (1, .int x1), (2, .int (0 : Int32))]) [1, 2, 0] rfl (by decide) rfl dX12_numberOf_1 ?_
  refine Wp.iload_n (pc := 2) 1 rfl rfl dX12_numberOf_2 ?_
  refine Wp.iconst (pc := 3) (1 : Int32) (by decide) dX12_numberOf_3 ?_
  refine Wp.isub (pc := 4) dX12_numberOf_4 ?_
  obtain ⟨v1, h2, hf⟩ := bnd hf
  refine Wp.nI' h2 ?_
  refine Wp.istore_n (pc := 5) (lo' := [(0, .ref 56), (2, .int (0 : Int32)), (3, .int v1)]) [1, 3, 0] rfl (by decide) rfl dX12_numberOf_5 ?_
  obtain ⟨e3, h4, hf⟩ := bnd hf
  refine wl_X12_numberOf_6 hX hG h4 ?_
  refine Wp.iload_n (pc := 30) 0 rfl rfl dX12_numberOf_30 ?_
  cases hf
  exact hk _ _ dX12_numberOf_31
theorem c_X12_numberOf {T : List Dsc} {R : RM} {c e : Nat} {x1 : Int32} {m : M2} {r : (Int32 × M2)} (hG : Geo T R c e) (hf : F_X12_numberOf x1 m = some r) : Ct 2 yX12_numberOf cX12_numberOf 4 (some .int) T (mk m R) [.ref 56, .int x1] (some (.int r.1)) (mk r.2 R) := Ct.ofI (r := (r.1, mk r.2 R)) (by decide +kernel) (Nat.le_of_ble_eq_true rfl) (fun X hX hk => w_X12_numberOf hX hG hf hk)
theorem dX12_follows_0 : decode cX12_follows 0 = .ok (.iload_n 1, 1) := by decide +kernel
theorem dX12_follows_1 : decode cX12_follows 1 = .ok (.istore_n 2, 1) := by decide +kernel
theorem dX12_follows_2 : decode cX12_follows 2 = .ok (.iconst 0, 1) := by decide +kernel
theorem dX12_follows_3 : decode cX12_follows 3 = .ok (.istore_n 3, 1) := by decide +kernel
theorem dX12_follows_4 : decode cX12_follows 4 = .ok (.aload_n 0, 1) := by decide +kernel
theorem dX12_follows_5 : decode cX12_follows 5 = .ok (.getfield 173, 3) := by decide +kernel
theorem dX12_follows_8 : decode cX12_follows 8 = .ok (.iload_n 2, 1) := by decide +kernel
theorem dX12_follows_9 : decode cX12_follows 9 = .ok (.iaload, 1) := by decide +kernel
theorem dX12_follows_10 : decode cX12_follows 10 = .ok (.iconst (-1), 1) := by decide +kernel
theorem dX12_follows_11 : decode cX12_follows 11 = .ok (.if_icmp .ne 24, 3) := by decide +kernel
theorem dX12_follows_14 : decode cX12_follows 14 = .ok (.aload_n 0, 1) := by decide +kernel
theorem dX12_follows_15 : decode cX12_follows 15 = .ok (.getfield 173, 3) := by decide +kernel
theorem dX12_follows_18 : decode cX12_follows 18 = .ok (.iload_n 2, 1) := by decide +kernel
theorem dX12_follows_19 : decode cX12_follows 19 = .ok (.bipush (-3), 2) := by decide +kernel
theorem dX12_follows_21 : decode cX12_follows 21 = .ok (.iastore, 1) := by decide +kernel
theorem dX12_follows_22 : decode cX12_follows 22 = .ok (.aload_n 0, 1) := by decide +kernel
theorem dX12_follows_23 : decode cX12_follows 23 = .ok (.getfield 170, 3) := by decide +kernel
theorem dX12_follows_26 : decode cX12_follows 26 = .ok (.iload_n 2, 1) := by decide +kernel
theorem dX12_follows_27 : decode cX12_follows 27 = .ok (.iaload, 1) := by decide +kernel
theorem dX12_follows_28 : decode cX12_follows 28 = .ok (.istore_n 2, 1) := by decide +kernel
theorem dX12_follows_29 : decode cX12_follows 29 = .ok (.iinc 3 1, 3) := by decide +kernel
theorem dX12_follows_32 : decode cX12_follows 32 = .ok (.goto (-28), 3) := by decide +kernel
theorem dX12_follows_35 : decode cX12_follows 35 = .ok (.aload_n 0, 1) := by decide +kernel
theorem dX12_follows_36 : decode cX12_follows 36 = .ok (.getfield 173, 3) := by decide +kernel
theorem dX12_follows_39 : decode cX12_follows 39 = .ok (.iload_n 2, 1) := by decide +kernel
theorem dX12_follows_40 : decode cX12_follows 40 = .ok (.iaload, 1) := by decide +kernel
theorem dX12_follows_41 : decode cX12_follows 41 = .ok (.istore 4, 2) := by decide +kernel
theorem dX12_follows_43 : decode cX12_follows 43 = .ok (.iload_n 1, 1) := by decide +kernel
theorem dX12_follows_44 : decode cX12_follows 44 = .ok (.istore_n 2, 1) := by decide +kernel
theorem dX12_follows_45 : decode cX12_follows 45 = .ok (.iload_n 3, 1) := by decide +kernel
theorem dX12_follows_46 : decode cX12_follows 46 = .ok (.ifCond .le 36, 3) := by decide +kernel
theorem dX12_follows_49 : decode cX12_follows 49 = .ok (.aload_n 0, 1) := by decide +kernel
theorem dX12_follows_50 : decode cX12_follows 50 = .ok (.getfield 173, 3) := by decide +kernel
theorem dX12_follows_53 : decode cX12_follows 53 = .ok (.iload_n 2, 1) := by decide +kernel
theorem dX12_follows_54 : decode cX12_follows 54 = .ok (.iload 4, 2) := by decide +kernel
theorem dX12_follows_56 : decode cX12_follows 56 = .ok (.ifCond .ge 8, 3) := by decide +kernel
theorem dX12_follows_59 : decode cX12_follows 59 = .ok (.bipush (-2), 2) := by decide +kernel
theorem dX12_follows_61 : decode cX12_follows 61 = .ok (.goto 7, 3) := by decide +kernel
theorem dX12_follows_64 : decode cX12_follows 64 = .ok (.iload 4, 2) := by decide +kernel
theorem dX12_follows_66 : decode cX12_follows 66 = .ok (.iload_n 3, 1) := by decide +kernel
theorem dX12_follows_67 : decode cX12_follows 67 = .ok (.iadd, 1) := by decide +kernel
theorem dX12_follows_68 : decode cX12_follows 68 = .ok (.iastore, 1) := by decide +kernel
theorem dX12_follows_69 : decode cX12_follows 69 = .ok (.aload_n 0, 1) := by decide +kernel
theorem dX12_follows_70 : decode cX12_follows 70 = .ok (.getfield 170, 3) := by decide +kernel
theorem dX12_follows_73 : decode cX12_follows 73 = .ok (.iload_n 2, 1) := by decide +kernel
theorem dX12_follows_74 : decode cX12_follows 74 = .ok (.iaload, 1) := by decide +kernel
theorem dX12_follows_75 : decode cX12_follows 75 = .ok (.istore_n 2, 1) := by decide +kernel
theorem dX12_follows_76 : decode cX12_follows 76 = .ok (.iinc 3 (-1), 3) := by decide +kernel
theorem dX12_follows_79 : decode cX12_follows 79 = .ok (.goto (-34), 3) := by decide +kernel
theorem dX12_follows_82 : decode cX12_follows 82 = .ok (.return_, 1) := by decide +kernel
def k_X12_follows_4 (X : CX) (T : List Dsc) (R : RM) (n1 n2 : Nat) (x1 : Int32) (r : ((Int32 × Int32 × M2) ⊕ ((Int32 × Int32 × M2)))) : Prop := match r with
  | .inl s => Wp X cX12_follows RX12 5 T (mk s.2.2 R) n1 n2 4 [(0, .ref 56), (1, .int x1), (2, .int s.1), (3, .int s.2.1)] []
  | .inr e => Wp X cX12_follows RX12 5 T (mk e.2.2 R) n1 n2 35 [(0, .ref 56), (1, .int x1), (2, .int e.1), (3, .int e.2.1)] []
def k_X12_follows_45 (X : CX) (T : List Dsc) (R : RM) (n1 n2 : Nat) (x4 : Int32) (r : ((Int32 × Int32 × M2) ⊕ ((M2)))) : Prop := match r with
  | .inl s => Wp X cX12_follows RX12 5 T (mk s.2.2 R) n1 n2 45 [(0, .ref 56), (2, .int s.1), (3, .int s.2.1), (4, .int x4)] []
  | .inr e => Wp X cX12_follows RX12 5 T (mk e R) n1 n2 82 [] []
set_option maxHeartbeats 4000000 in
set_option maxRecDepth 100000 in
theorem w_X12_follows_4 {X : CX} {T : List Dsc} {R : RM} {c e : Nat} {n1 n2 : Nat} {x1 : Int32} {x2 : Int32} {x3 : Int32} {m : M2} {r : ((Int32 × Int32 × M2) ⊕ ((Int32 × Int32 × M2)))} (hX : XR X 1 n1 n2) (hG : Geo T R c e) (hf : f_X12_follows_4 x1 x2 x3 m = some r) (hk : k_X12_follows_4 X T R n1 n2 x1 r) : Wp X cX12_follows RX12 5 T (mk m R) n1 n2 4 [(0, .ref 56), (1, .int x1), (2, .int x2), (3, .int x3)] [] := by
  unfold f_X12_follows_4 at hf
  refine Wp.aload_n (pc := 4) 0 rfl rfl dX12_follows_4 ?_
  refine Wp.getR2 (pc := 5) (hG.r 56 78 rfl) (hG.t 56 rfl) fk_RX12_173 rfl dX12_follows_5 ?_
  refine Wp.iload_n (pc := 8) 2 rfl rfl dX12_follows_8 ?_
  obtain ⟨v1, h2, hf⟩ := bnd hf
  refine Wp.iald2 (pc := 9) h2 (hG.a 108 0 rfl) dX12_follows_9 ?_
  refine Wp.iconst (pc := 10) (-1 : Int32) (by decide) dX12_follows_10 ?_
  refine Wp.icmp_ne (pc := 11) 35 dX12_follows_11 (by decide) (fun hc3 => ?_) (fun hc3 => ?_)
  · rw [if_neg hc3] at hf
    cases hf
    exact hk
  · rw [if_pos hc3] at hf
    refine Wp.aload_n (pc := 14) 0 rfl rfl dX12_follows_14 ?_
    refine Wp.getR2 (pc := 15) (hG.r 56 78 rfl) (hG.t 56 rfl) fk_RX12_173 rfl dX12_follows_15 ?_
    refine Wp.iload_n (pc := 18) 2 rfl rfl dX12_follows_18 ?_
    refine Wp.bipush (pc := 19) (-3 : Int32) (by decide) dX12_follows_19 ?_
    obtain ⟨m4, h5, hf⟩ := bnd hf
    refine Wp.iast2 (pc := 21) h5 (hG.a 108 0 rfl) dX12_follows_21 ?_
    refine Wp.aload_n (pc := 22) 0 rfl rfl dX12_follows_22 ?_
    refine Wp.getR2 (pc := 23) (hG.r 56 77 rfl) (hG.t 56 rfl) fk_RX12_170 rfl dX12_follows_23 ?_
    refine Wp.iload_n (pc := 26) 2 rfl rfl dX12_follows_26 ?_
    obtain ⟨v6, h7, hf⟩ := bnd hf
    refine Wp.iald2 (pc := 27) h7 (hG.a 107 0 rfl) dX12_follows_27 ?_
    refine Wp.istore_n (pc := 28) (lo' := [(0, .ref 56), (1, .int x1), (2, .int v6), (3, .int x3)]) [1, 2, 0, 3] rfl (by decide) rfl dX12_follows_28 ?_
    obtain ⟨v8, h9, hf⟩ := bnd hf
    refine Wp.iincN (pc := 29) (lo' := [(0, .ref 56), (1, .int x1), (2, .int v6), (3, .int v8)]) (1 : Int32) (by decide) h9 3 rfl [1, 2, 3, 0] rfl (by decide) dX12_follows_29 ?_
    refine Wp.goto (pc := 32) 4 dX12_follows_32 (by decide) ?_
    cases hf
    exact hk
theorem wl_X12_follows_4 {X : CX} {T : List Dsc} {R : RM} {c e : Nat} {n1 n2 : Nat} {x1 : Int32} {x2 : Int32} {x3 : Int32} {m : M2} {e1 : ((Int32 × Int32 × M2))} (hX : XR X 1 n1 n2) (hG : Geo T R c e) (h : loop (g_X12_follows_4 x1) (x2, x3, m) = some e1) (he : Wp X cX12_follows RX12 5 T (mk e1.2.2 R) n1 n2 35 [(0, .ref 56), (1, .int x1), (2, .int e1.1), (3, .int e1.2.1)] []) : Wp X cX12_follows RX12 5 T (mk m R) n1 n2 4 [(0, .ref 56), (1, .int x1), (2, .int x2), (3, .int x3)] [] :=
  loop_ok (K := k_X12_follows_4 X T R n1 n2 x1) (fun s r hf hk => w_X12_follows_4 hX hG hf hk) h he
set_option maxHeartbeats 4000000 in
set_option maxRecDepth 100000 in
theorem w_X12_follows_68 {X : CX} {T : List Dsc} {R : RM} {c e : Nat} {n1 n2 : Nat} {x2 : Int32} {x3 : Int32} {x4 : Int32} {s1 : Int32} {s2 : Int32} {m : M2} {r : ((Int32 × Int32 × M2) ⊕ ((M2)))} (hX : XR X 1 n1 n2) (hG : Geo T R c e) (hf : f_X12_follows_68 x2 x3 x4 s1 s2 m = some r) (hk : k_X12_follows_45 X T R n1 n2 x4 r) : Wp X cX12_follows RX12 5 T (mk m R) n1 n2 68 [(0, .ref 56), (2, .int x2), (3, .int x3), (4, .int x4)] [.int s2, .int s1, .ref 108] := by
  unfold f_X12_follows_68 at hf
  obtain ⟨m1, h2, hf⟩ := bnd hf
  refine Wp.iast2 (pc := 68) h2 (hG.a 108 0 rfl) dX12_follows_68 ?_
  refine Wp.aload_n (pc := 69) 0 rfl rfl dX12_follows_69 ?_
  refine Wp.getR2 (pc := 70) (hG.r 56 77 rfl) (hG.t 56 rfl) fk_RX12_170 rfl dX12_follows_70 ?_
  refine Wp.iload_n (pc := 73) 1 rfl rfl dX12_follows_73 ?_
  obtain ⟨v3, h4, hf⟩ := bnd hf
  refine Wp.iald2 (pc := 74) h4 (hG.a 107 0 rfl) dX12_follows_74 ?_
  refine Wp.istore_n (pc := 75) (lo' := [(0, .ref 56), (2, .int v3), (3, .int x3), (4, .int x4)]) [1, 0, 2, 3] rfl (by decide) rfl dX12_follows_75 ?_
  obtain ⟨v5, h6, hf⟩ := bnd hf
  refine Wp.iincN (pc := 76) (lo' := [(0, .ref 56), (2, .int v3), (3, .int v5), (4, .int x4)]) (-1 : Int32) (by decide) h6 2 rfl [1, 2, 0, 3] rfl (by decide) dX12_follows_76 ?_
  refine Wp.goto (pc := 79) 45 dX12_follows_79 (by decide) ?_
  cases hf
  exact hk
set_option maxHeartbeats 4000000 in
set_option maxRecDepth 100000 in
theorem w_X12_follows_45 {X : CX} {T : List Dsc} {R : RM} {c e : Nat} {n1 n2 : Nat} {x2 : Int32} {x3 : Int32} {x4 : Int32} {m : M2} {r : ((Int32 × Int32 × M2) ⊕ ((M2)))} (hX : XR X 1 n1 n2) (hG : Geo T R c e) (hf : f_X12_follows_45 x2 x3 x4 m = some r) (hk : k_X12_follows_45 X T R n1 n2 x4 r) : Wp X cX12_follows RX12 5 T (mk m R) n1 n2 45 [(0, .ref 56), (2, .int x2), (3, .int x3), (4, .int x4)] [] := by
  unfold f_X12_follows_45 at hf
  refine Wp.iload_n (pc := 45) 2 rfl rfl dX12_follows_45 ?_
  refine Wp.if_le (pc := 46) 82 dX12_follows_46 (by decide) (fun hc1 => ?_) (fun hc1 => ?_)
  · rw [if_pos hc1] at hf
    refine Wp.lo' (lo' := []) [] rfl ?_
    cases hf
    exact hk
  · rw [if_neg hc1] at hf
    refine Wp.aload_n (pc := 49) 0 rfl rfl dX12_follows_49 ?_
    refine Wp.getR2 (pc := 50) (hG.r 56 78 rfl) (hG.t 56 rfl) fk_RX12_173 rfl dX12_follows_50 ?_
    refine Wp.iload_n (pc := 53) 1 rfl rfl dX12_follows_53 ?_
    refine Wp.iload (pc := 54) 3 rfl dX12_follows_54 ?_
    refine Wp.if_ge (pc := 56) 64 dX12_follows_56 (by decide) (fun hc2 => ?_) (fun hc2 => ?_)
    · rw [if_pos hc2] at hf
      refine Wp.iload (pc := 64) 3 rfl dX12_follows_64 ?_
      refine Wp.iload_n (pc := 66) 2 rfl rfl dX12_follows_66 ?_
      refine Wp.iadd (pc := 67) dX12_follows_67 ?_
      exact w_X12_follows_68 hX hG hf hk
    · rw [if_neg hc2] at hf
      refine Wp.bipush (pc := 59) (-2 : Int32) (by decide) dX12_follows_59 ?_
      refine Wp.goto (pc := 61) 68 dX12_follows_61 (by decide) ?_
      exact w_X12_follows_68 hX hG hf hk
theorem wl_X12_follows_45 {X : CX} {T : List Dsc} {R : RM} {c e : Nat} {n1 n2 : Nat} {x2 : Int32} {x3 : Int32} {x4 : Int32} {m : M2} {e1 : ((M2))} (hX : XR X 1 n1 n2) (hG : Geo T R c e) (h : loop (g_X12_follows_45 x4) (x2, x3, m) = some e1) (he : Wp X cX12_follows RX12 5 T (mk e1 R) n1 n2 82 [] []) : Wp X cX12_follows RX12 5 T (mk m R) n1 n2 45 [(0, .ref 56), (2, .int x2), (3, .int x3), (4, .int x4)] [] :=
  loop_ok (K := k_X12_follows_45 X T R n1 n2 x4) (fun s r hf hk => w_X12_follows_45 hX hG hf hk) h he
set_option maxHeartbeats 4000000 in
set_option maxRecDepth 100000 in
theorem w_X12_follows {X : CX} {T : List Dsc} {R : RM} {c e : Nat} {n1 n2 : Nat} {x1 : Int32} {m : M2} {r : M2} (hX : XR X 1 n1 n2) (hG : Geo T R c e) (hf : F_X12_follows x1 m = some r) (hk : FnV X cX12_follows RX12 5 T n1 n2 (mk r R)) : Wp X cX12_follows RX12 5 T (mk m R) n1 n2 0 [(0, .ref 56), (1, .int x1)] [] := by
  unfold F_X12_follows at hf
  refine Wp.iload_n (pc := 0) 1 rfl rfl dX12_follows_0 ?_
  refine Wp.istore_n (pc := 1) (lo' := [(0, .ref 56), (1, .int x1), (2, .int x1)]) [1, 2, 0] rfl (by decide) rfl dX12_follows_1 ?_
  refine Wp.iconst (pc := 2) (0 : Int32) (by decide) dX12_follows_2 ?_
  refine Wp.istore_n (pc := 3) (lo' := [(0, .ref 56), (1, .int x1), (2, .int x1), (3, .int (0 : Int32))]) [1, 2, 3, 0] rfl (by decide) rfl dX12_follows_3 ?_
  obtain ⟨e1, h2, hf⟩ := bnd hf
  refine wl_X12_follows_4 hX hG h2 ?_
  refine Wp.aload_n (pc := 35) 0 rfl rfl dX12_follows_35 ?_
  refine Wp.getR2 (pc := 36) (hG.r 56 78 rfl) (hG.t 56 rfl) fk_RX12_173 rfl dX12_follows_36 ?_
  refine Wp.iload_n (pc := 39) 2 rfl rfl dX12_follows_39 ?_
  obtain ⟨v3, h4, hf⟩ := bnd hf
  refine Wp.iald2 (pc := 40) h4 (hG.a 108 0 rfl) dX12_follows_40 ?_
  refine Wp.istore (pc := 41) (lo' := [(0, .ref 56), (1, .int x1), (3, .int e1.2.1), (4, .int v3)]) [1, 2, 4, 0] rfl (by decide) dX12_follows_41 ?_
  refine Wp.iload_n (pc := 43) 1 rfl rfl dX12_follows_43 ?_
  refine Wp.istore_n (pc := 44) (lo' := [(0, .ref 56), (2, .int x1), (3, .int e1.2.1), (4, .int v3)]) [1, 0, 3, 4] rfl (by decide) rfl dX12_follows_44 ?_
  obtain ⟨e5, h6, hf⟩ := bnd hf
  refine wl_X12_follows_45 hX hG h6 ?_
  cases hf
  exact hk _ _ dX12_follows_82
theorem c_X12_follows {T : List Dsc} {R : RM} {c e : Nat} {x1 : Int32} {m : M2} {r : M2} (hG : Geo T R c e) (hf : F_X12_follows x1 m = some r) : Ct 1 yX12_follows cX12_follows 5 none T (mk m R) [.ref 56, .int x1] none (mk r R) := Ct.ofV (r := mk r R) (by decide +kernel) (Nat.le_of_ble_eq_true rfl) (fun X hX hk => w_X12_follows hX hG hf hk)
theorem dX12_fillEvery_0 : decode cX12_fillEvery 0 = .ok (.aload_n 0, 1) := by decide +kernel
theorem dX12_fillEvery_1 : decode cX12_fillEvery 1 = .ok (.invokevirtual 444, 3) := by decide +kernel
theorem dX12_fillEvery_4 : decode cX12_fillEvery 4 = .ok (.aload_n 0, 1) := by decide +kernel
theorem dX12_fillEvery_5 : decode cX12_fillEvery 5 = .ok (.iload_n 2, 1) := by decide +kernel
theorem dX12_fillEvery_6 : decode cX12_fillEvery 6 = .ok (.putfield 399, 3) := by decide +kernel
theorem dX12_fillEvery_9 : decode cX12_fillEvery 9 = .ok (.iconst 0, 1) := by decide +kernel
theorem dX12_fillEvery_10 : decode cX12_fillEvery 10 = .ok (.istore 4, 2) := by decide +kernel
theorem dX12_fillEvery_12 : decode cX12_fillEvery 12 = .ok (.iload 4, 2) := by decide +kernel
theorem dX12_fillEvery_14 : decode cX12_fillEvery 14 = .ok (.iload_n 3, 1) := by decide +kernel
theorem dX12_fillEvery_15 : decode cX12_fillEvery 15 = .ok (.if_icmp .ge 100, 3) := by decide +kernel
theorem dX12_fillEvery_18 : decode cX12_fillEvery 18 = .ok (.iload 4, 2) := by decide +kernel
theorem dX12_fillEvery_20 : decode cX12_fillEvery 20 = .ok (.istore 5, 2) := by decide +kernel
theorem dX12_fillEvery_22 : decode cX12_fillEvery 22 = .ok (.iconst 0, 1) := by decide +kernel
theorem dX12_fillEvery_23 : decode cX12_fillEvery 23 = .ok (.istore 6, 2) := by decide +kernel
theorem dX12_fillEvery_25 : decode cX12_fillEvery 25 = .ok (.iload 6, 2) := by decide +kernel
theorem dX12_fillEvery_27 : decode cX12_fillEvery 27 = .ok (.iload_n 2, 1) := by decide +kernel
theorem dX12_fillEvery_28 : decode cX12_fillEvery 28 = .ok (.if_icmp .ge 40, 3) := by decide +kernel
theorem dX12_fillEvery_31 : decode cX12_fillEvery 31 = .ok (.aload_n 0, 1) := by decide +kernel
theorem dX12_fillEvery_32 : decode cX12_fillEvery 32 = .ok (.getfield 140, 3) := by decide +kernel
theorem dX12_fillEvery_35 : decode cX12_fillEvery 35 = .ok (.iload 6, 2) := by decide +kernel
theorem dX12_fillEvery_37 : decode cX12_fillEvery 37 = .ok (.iload 5, 2) := by decide +kernel
theorem dX12_fillEvery_39 : decode cX12_fillEvery 39 = .ok (.aload_n 0, 1) := by decide +kernel
theorem dX12_fillEvery_40 : decode cX12_fillEvery 40 = .ok (.invokevirtual 408, 3) := by decide +kernel
theorem dX12_fillEvery_43 : decode cX12_fillEvery 43 = .ok (.irem, 1) := by decide +kernel
theorem dX12_fillEvery_44 : decode cX12_fillEvery 44 = .ok (.iastore, 1) := by decide +kernel
theorem dX12_fillEvery_45 : decode cX12_fillEvery 45 = .ok (.aload_n 0, 1) := by decide +kernel
theorem dX12_fillEvery_46 : decode cX12_fillEvery 46 = .ok (.getfield 143, 3) := by decide +kernel
theorem dX12_fillEvery_49 : decode cX12_fillEvery 49 = .ok (.iload 6, 2) := by decide +kernel
theorem dX12_fillEvery_51 : decode cX12_fillEvery 51 = .ok (.iload_n 1, 1) := by decide +kernel
theorem dX12_fillEvery_52 : decode cX12_fillEvery 52 = .ok (.iastore, 1) := by decide +kernel
theorem dX12_fillEvery_53 : decode cX12_fillEvery 53 = .ok (.iload 5, 2) := by decide +kernel
theorem dX12_fillEvery_55 : decode cX12_fillEvery 55 = .ok (.aload_n 0, 1) := by decide +kernel
theorem dX12_fillEvery_56 : decode cX12_fillEvery 56 = .ok (.invokevirtual 408, 3) := by decide +kernel
theorem dX12_fillEvery_59 : decode cX12_fillEvery 59 = .ok (.idiv, 1) := by decide +kernel
theorem dX12_fillEvery_60 : decode cX12_fillEvery 60 = .ok (.istore 5, 2) := by decide +kernel
theorem dX12_fillEvery_62 : decode cX12_fillEvery 62 = .ok (.iinc 6 1, 3) := by decide +kernel
theorem dX12_fillEvery_65 : decode cX12_fillEvery 65 = .ok (.goto (-40), 3) := by decide +kernel
theorem dX12_fillEvery_68 : decode cX12_fillEvery 68 = .ok (.aload_n 0, 1) := by decide +kernel
theorem dX12_fillEvery_69 : decode cX12_fillEvery 69 = .ok (.iconst 0, 1) := by decide +kernel
theorem dX12_fillEvery_70 : decode cX12_fillEvery 70 = .ok (.invokevirtual 450, 3) := by decide +kernel
theorem dX12_fillEvery_73 : decode cX12_fillEvery 73 = .ok (.aload_n 0, 1) := by decide +kernel
theorem dX12_fillEvery_74 : decode cX12_fillEvery 74 = .ok (.getfield 170, 3) := by decide +kernel
theorem dX12_fillEvery_77 : decode cX12_fillEvery 77 = .ok (.iload 4, 2) := by decide +kernel
theorem dX12_fillEvery_79 : decode cX12_fillEvery 79 = .ok (.aload_n 0, 1) := by decide +kernel
theorem dX12_fillEvery_80 : decode cX12_fillEvery 80 = .ok (.iload_n 2, 1) := by decide +kernel
theorem dX12_fillEvery_81 : decode cX12_fillEvery 81 = .ok (.invokevirtual 491, 3) := by decide +kernel
theorem dX12_fillEvery_84 : decode cX12_fillEvery 84 = .ok (.iastore, 1) := by decide +kernel
theorem dX12_fillEvery_85 : decode cX12_fillEvery 85 = .ok (.aload_n 0, 1) := by decide +kernel
theorem dX12_fillEvery_86 : decode cX12_fillEvery 86 = .ok (.getfield 173, 3) := by decide +kernel
theorem dX12_fillEvery_89 : decode cX12_fillEvery 89 = .ok (.iload 4, 2) := by decide +kernel
theorem dX12_fillEvery_91 : decode cX12_fillEvery 91 = .ok (.aload_n 0, 1) := by decide +kernel
theorem dX12_fillEvery_92 : decode cX12_fillEvery 92 = .ok (.getfield 170, 3) := by decide +kernel
theorem dX12_fillEvery_95 : decode cX12_fillEvery 95 = .ok (.iload 4, 2) := by decide +kernel
theorem dX12_fillEvery_97 : decode cX12_fillEvery 97 = .ok (.iaload, 1) := by decide +kernel
theorem dX12_fillEvery_98 : decode cX12_fillEvery 98 = .ok (.iload 4, 2) := by decide +kernel
theorem dX12_fillEvery_100 : decode cX12_fillEvery 100 = .ok (.if_icmp .ne 7, 3) := by decide +kernel
theorem dX12_fillEvery_103 : decode cX12_fillEvery 103 = .ok (.iconst 0, 1) := by decide +kernel
theorem dX12_fillEvery_104 : decode cX12_fillEvery 104 = .ok (.goto 4, 3) := by decide +kernel
theorem dX12_fillEvery_107 : decode cX12_fillEvery 107 = .ok (.iconst (-1), 1) := by decide +kernel
theorem dX12_fillEvery_108 : decode cX12_fillEvery 108 = .ok (.iastore, 1) := by decide +kernel
theorem dX12_fillEvery_109 : decode cX12_fillEvery 109 = .ok (.iinc 4 1, 3) := by decide +kernel
theorem dX12_fillEvery_112 : decode cX12_fillEvery 112 = .ok (.goto (-100), 3) := by decide +kernel
theorem dX12_fillEvery_115 : decode cX12_fillEvery 115 = .ok (.iconst 0, 1) := by decide +kernel
theorem dX12_fillEvery_116 : decode cX12_fillEvery 116 = .ok (.istore 4, 2) := by decide +kernel
theorem dX12_fillEvery_118 : decode cX12_fillEvery 118 = .ok (.iload 4, 2) := by decide +kernel
theorem dX12_fillEvery_120 : decode cX12_fillEvery 120 = .ok (.iload_n 3, 1) := by decide +kernel
theorem dX12_fillEvery_121 : decode cX12_fillEvery 121 = .ok (.if_icmp .ge 15, 3) := by decide +kernel
theorem dX12_fillEvery_124 : decode cX12_fillEvery 124 = .ok (.aload_n 0, 1) := by decide +kernel
theorem dX12_fillEvery_125 : decode cX12_fillEvery 125 = .ok (.iload 4, 2) := by decide +kernel
theorem dX12_fillEvery_127 : decode cX12_fillEvery 127 = .ok (.invokevirtual 494, 3) := by decide +kernel
theorem dX12_fillEvery_130 : decode cX12_fillEvery 130 = .ok (.iinc 4 1, 3) := by decide +kernel
theorem dX12_fillEvery_133 : decode cX12_fillEvery 133 = .ok (.goto (-15), 3) := by decide +kernel
theorem dX12_fillEvery_136 : decode cX12_fillEvery 136 = .ok (.return_, 1) := by decide +kernel
def k_X12_fillEvery_25 (X : CX) (T : List Dsc) (R : RM) (n1 n2 : Nat) (x1 : Int32) (x2 : Int32) (x3 : Int32) (x4 : Int32) (r : ((Int32 × Int32 × M2) ⊕ ((M2)))) : Prop := match r with
  | .inl s => Wp X cX12_fillEvery RX12 7 T (mk s.2.2 R) n1 n2 25 [(0, .ref 56), (1, .int x1), (2, .int x2), (3, .int x3), (4, .int x4), (5, .int s.1), (6, .int s.2.1)] []
  | .inr e => Wp X cX12_fillEvery RX12 7 T (mk e R) n1 n2 68 [(0, .ref 56), (1, .int x1), (2, .int x2), (3, .int x3), (4, .int x4)] []
def k_X12_fillEvery_12 (X : CX) (T : List Dsc) (R : RM) (n1 n2 : Nat) (x1 : Int32) (x2 : Int32) (x3 : Int32) (r : ((Int32 × M2) ⊕ ((M2)))) : Prop := match r with
  | .inl s => Wp X cX12_fillEvery RX12 7 T (mk s.2 R) n1 n2 12 [(0, .ref 56), (1, .int x1), (2, .int x2), (3, .int x3), (4, .int s.1)] []
  | .inr e => Wp X cX12_fillEvery RX12 7 T (mk e R) n1 n2 115 [(0, .ref 56), (3, .int x3)] []
def k_X12_fillEvery_118 (X : CX) (T : List Dsc) (R : RM) (n1 n2 : Nat) (x3 : Int32) (r : ((Int32 × M2) ⊕ ((M2)))) : Prop := match r with
  | .inl s => Wp X cX12_fillEvery RX12 7 T (mk s.2 R) n1 n2 118 [(0, .ref 56), (3, .int x3), (4, .int s.1)] []
  | .inr e => Wp X cX12_fillEvery RX12 7 T (mk e R) n1 n2 136 [] []
set_option maxHeartbeats 4000000 in
set_option maxRecDepth 100000 in
theorem w_X12_fillEvery_25 {X : CX} {T : List Dsc} {R : RM} {c e : Nat} {n1 n2 : Nat} {x1 : Int32} {x2 : Int32} {x3 : Int32} {x4 : Int32} {x5 : Int32} {x6 : Int32} {m : M2} {r : ((Int32 × Int32 × M2) ⊕ ((M2)))} (hX : XR X 9 n1 n2) (hG : Geo T R c e) (hf : f_X12_fillEvery_25 x1 x2 x3 x4 x5 x6 m = some r) (hk : k_X12_fillEvery_25 X T R n1 n2 x1 x2 x3 x4 r) : Wp X cX12_fillEvery RX12 7 T (mk m R) n1 n2 25 [(0, .ref 56), (1, .int x1), (2, .int x2), (3, .int x3), (4, .int x4), (5, .int x5), (6, .int x6)] [] := by
  unfold f_X12_fillEvery_25 at hf
  refine Wp.iload (pc := 25) 6 rfl dX12_fillEvery_25 ?_
  refine Wp.iload_n (pc := 27) 2 rfl rfl dX12_fillEvery_27 ?_
  refine Wp.icmp_ge (pc := 28) 68 dX12_fillEvery_28 (by decide) (fun hc1 => ?_) (fun hc1 => ?_)
  · rw [if_pos hc1] at hf
    refine Wp.lo' (lo' := [(0, .ref 56), (1, .int x1), (2, .int x2), (3, .int x3), (4, .int x4)]) [0, 1, 2, 3, 4] rfl ?_
    cases hf
    exact hk
  · rw [if_neg hc1] at hf
    refine Wp.aload_n (pc := 31) 0 rfl rfl dX12_fillEvery_31 ?_
    refine Wp.getR2 (pc := 32) (hG.r 56 63 rfl) (hG.t 56 rfl) fk_RX12_140 rfl dX12_fillEvery_32 ?_
    refine Wp.iload (pc := 35) 6 rfl dX12_fillEvery_35 ?_
    refine Wp.iload (pc := 37) 5 rfl dX12_fillEvery_37 ?_
    refine Wp.aload_n (pc := 39) 0 rfl rfl dX12_fillEvery_39 ?_
    obtain ⟨c2, h3, hf⟩ := bnd hf
    refine Wp.callVi (pc := 40) (st := [.int x5, .int x6, .ref 97]) (as := []) (c_X12_all hG h3) ml_RX12_408 mv_X12_all mb_X12_all hX (Nat.le_of_ble_eq_true rfl) (by decide) rfl (hG.t 56 rfl) rfl (by simp [Value.category]) dX12_fillEvery_40 rfl ?_
    obtain ⟨v4, h5, hf⟩ := bnd hf
    refine Wp.rm (pc := 43) h5 dX12_fillEvery_43 ?_
    obtain ⟨m6, h7, hf⟩ := bnd hf
    refine Wp.iast2 (pc := 44) h7 (hG.a 97 0 rfl) dX12_fillEvery_44 ?_
    refine Wp.aload_n (pc := 45) 0 rfl rfl dX12_fillEvery_45 ?_
    refine Wp.getR2 (pc := 46) (hG.r 56 64 rfl) (hG.t 56 rfl) fk_RX12_143 rfl dX12_fillEvery_46 ?_
    refine Wp.iload (pc := 49) 6 rfl dX12_fillEvery_49 ?_
    refine Wp.iload_n (pc := 51) 1 rfl rfl dX12_fillEvery_51 ?_
    obtain ⟨m8, h9, hf⟩ := bnd hf
    refine Wp.iast2 (pc := 52) h9 (hG.a 98 0 rfl) dX12_fillEvery_52 ?_
    refine Wp.iload (pc := 53) 5 rfl dX12_fillEvery_53 ?_
    refine Wp.aload_n (pc := 55) 0 rfl rfl dX12_fillEvery_55 ?_
    obtain ⟨c10, h11, hf⟩ := bnd hf
    refine Wp.callVi (pc := 56) (st := [.int x5]) (as := []) (c_X12_all hG h11) ml_RX12_408 mv_X12_all mb_X12_all hX (Nat.le_of_ble_eq_true rfl) (by decide) rfl (hG.t 56 rfl) rfl (by simp [Value.category]) dX12_fillEvery_56 rfl ?_
    obtain ⟨v12, h13, hf⟩ := bnd hf
    refine Wp.dv (pc := 59) h13 dX12_fillEvery_59 ?_
    refine Wp.istore (pc := 60) (lo' := [(0, .ref 56), (1, .int x1), (2, .int x2), (3, .int x3), (4, .int x4), (5, .int v12), (6, .int x6)]) [1, 2, 3, 4, 5, 0, 6] rfl (by decide) dX12_fillEvery_60 ?_
    obtain ⟨v14, h15, hf⟩ := bnd hf
    refine Wp.iincN (pc := 62) (lo' := [(0, .ref 56), (1, .int x1), (2, .int x2), (3, .int x3), (4, .int x4), (5, .int v12), (6, .int v14)]) (1 : Int32) (by decide) h15 6 rfl [1, 2, 3, 4, 5, 6, 0] rfl (by decide) dX12_fillEvery_62 ?_
    refine Wp.goto (pc := 65) 25 dX12_fillEvery_65 (by decide) ?_
    cases hf
    exact hk
theorem wl_X12_fillEvery_25 {X : CX} {T : List Dsc} {R : RM} {c e : Nat} {n1 n2 : Nat} {x1 : Int32} {x2 : Int32} {x3 : Int32} {x4 : Int32} {x5 : Int32} {x6 : Int32} {m : M2} {e1 : ((M2))} (hX : XR X 9 n1 n2) (hG : Geo T R c e) (h : loop (g_X12_fillEvery_25 x1 x2 x3 x4) (x5, x6, m) = some e1) (he : Wp X cX12_fillEvery RX12 7 T (mk e1 R) n1 n2 68 [(0, .ref 56), (1, .int x1), (2, .int x2), (3, .int x3), (4, .int x4)] []) : Wp X cX12_fillEvery RX12 7 T (mk m R) n1 n2 25 [(0, .ref 56), (1, .int x1), (2, .int x2), (3, .int x3), (4, .int x4), (5, .int x5), (6, .int x6)] [] :=
  loop_ok (K := k_X12_fillEvery_25 X T R n1 n2 x1 x2 x3 x4) (fun s r hf hk => w_X12_fillEvery_25 hX hG hf hk) h he
set_option maxHeartbeats 4000000 in
set_option maxRecDepth 100000 in
theorem w_X12_fillEvery_108 {X : CX} {T : List Dsc} {R : RM} {c e : Nat} {n1 n2 : Nat} {x1 : Int32} {x2 : Int32} {x3 : Int32} {x4 : Int32} {s1 : Int32} {s2 : Int32} {m : M2} {r : ((Int32 × M2) ⊕ ((M2)))} (hX : XR X 9 n1 n2) (hG : Geo T R c e) (hf : f_X12_fillEvery_108 x1 x2 x3 x4 s1 s2 m = some r) (hk : k_X12_fillEvery_12 X T R n1 n2 x1 x2 x3 r) : Wp X cX12_fillEvery RX12 7 T (mk m R) n1 n2 108 [(0, .ref 56), (1, .int x1), (2, .int x2), (3, .int x3), (4, .int x4)] [.int s2, .int s1, .ref 108] := by
  unfold f_X12_fillEvery_108 at hf
  obtain ⟨m1, h2, hf⟩ := bnd hf
  refine Wp.iast2 (pc := 108) h2 (hG.a 108 0 rfl) dX12_fillEvery_108 ?_
  obtain ⟨v3, h4, hf⟩ := bnd hf
  refine Wp.iincN (pc := 109) (lo' := [(0, .ref 56), (1, .int x1), (2, .int x2), (3, .int x3), (4, .int v3)]) (1 : Int32) (by decide) h4 4 rfl [1, 2, 3, 4, 0] rfl (by decide) dX12_fillEvery_109 ?_
  refine Wp.goto (pc := 112) 12 dX12_fillEvery_112 (by decide) ?_
  cases hf
  exact hk
set_option maxHeartbeats 4000000 in
set_option maxRecDepth 100000 in
theorem w_X12_fillEvery_12 {X : CX} {T : List Dsc} {R : RM} {c e : Nat} {n1 n2 : Nat} {x1 : Int32} {x2 : Int32} {x3 : Int32} {x4 : Int32} {m : M2} {r : ((Int32 × M2) ⊕ ((M2)))} (hX : XR X 9 n1 n2) (hG : Geo T R c e) (hf : f_X12_fillEvery_12 x1 x2 x3 x4 m = some r) (hk : k_X12_fillEvery_12 X T R n1 n2 x1 x2 x3 r) : Wp X cX12_fillEvery RX12 7 T (mk m R) n1 n2 12 [(0, .ref 56), (1, .int x1), (2, .int x2), (3, .int x3), (4, .int x4)] [] := by
  unfold f_X12_fillEvery_12 at hf
  refine Wp.iload (pc := 12) 4 rfl dX12_fillEvery_12 ?_
  refine Wp.iload_n (pc := 14) 3 rfl rfl dX12_fillEvery_14 ?_
  refine Wp.icmp_ge (pc := 15) 115 dX12_fillEvery_15 (by decide) (fun hc1 => ?_) (fun hc1 => ?_)
  · rw [if_pos hc1] at hf
    refine Wp.lo' (lo' := [(0, .ref 56), (3, .int x3)]) [0, 3] rfl ?_
    cases hf
    exact hk
  · rw [if_neg hc1] at hf
    refine Wp.iload (pc := 18) 4 rfl dX12_fillEvery_18 ?_
    refine Wp.istore (pc := 20) (lo' := [(0, .ref 56), (1, .int x1), (2, .int x2), (3, .int x3), (4, .int x4), (5, .int x4)]) [1, 2, 3, 4, 5, 0] rfl (by decide) dX12_fillEvery_20 ?_
    refine Wp.iconst (pc := 22) (0 : Int32) (by decide) dX12_fillEvery_22 ?_
    refine Wp.istore (pc := 23) (lo' := [(0, .ref 56), (1, .int x1), (2, .int x2), (3, .int x3), (4, .int x4), (5, .int x4), (6, .int (0 : Int32))]) [1, 2, 3, 4, 5, 6, 0] rfl (by decide) dX12_fillEvery_23 ?_
    obtain ⟨e2, h3, hf⟩ := bnd hf
    refine wl_X12_fillEvery_25 hX hG h3 ?_
    refine Wp.aload_n (pc := 68) 0 rfl rfl dX12_fillEvery_68 ?_
    refine Wp.iconst (pc := 69) (0 : Int32) (by decide) dX12_fillEvery_69 ?_
    obtain ⟨c4, h5, hf⟩ := bnd hf
    refine Wp.callVv (pc := 70) (st := []) (as := [.int (0 : Int32)]) (c_X12_strikes hG h5) ml_RX12_450 mv_X12_strikes mb_X12_strikes hX (Nat.le_of_ble_eq_true rfl) (by decide) rfl (hG.t 56 rfl) rfl (by simp) dX12_fillEvery_70 rfl ?_
    refine Wp.aload_n (pc := 73) 0 rfl rfl dX12_fillEvery_73 ?_
    refine Wp.getR2 (pc := 74) (hG.r 56 77 rfl) (hG.t 56 rfl) fk_RX12_170 rfl dX12_fillEvery_74 ?_
    refine Wp.iload (pc := 77) 4 rfl dX12_fillEvery_77 ?_
    refine Wp.aload_n (pc := 79) 0 rfl rfl dX12_fillEvery_79 ?_
    refine Wp.iload_n (pc := 80) 2 rfl rfl dX12_fillEvery_80 ?_
    obtain ⟨c6, h7, hf⟩ := bnd hf
    refine Wp.callVi (pc := 81) (st := [.int x4, .ref 107]) (as := [.int x2]) (c_X12_numberOf hG h7) ml_RX12_491 mv_X12_numberOf mb_X12_numberOf hX (Nat.le_of_ble_eq_true rfl) (by decide) rfl (hG.t 56 rfl) rfl (by simp [Value.category]) dX12_fillEvery_81 rfl ?_
    obtain ⟨m8, h9, hf⟩ := bnd hf
    refine Wp.iast2 (pc := 84) h9 (hG.a 107 0 rfl) dX12_fillEvery_84 ?_
    refine Wp.aload_n (pc := 85) 0 rfl rfl dX12_fillEvery_85 ?_
    refine Wp.getR2 (pc := 86) (hG.r 56 78 rfl) (hG.t 56 rfl) fk_RX12_173 rfl dX12_fillEvery_86 ?_
    refine Wp.iload (pc := 89) 4 rfl dX12_fillEvery_89 ?_
    refine Wp.aload_n (pc := 91) 0 rfl rfl dX12_fillEvery_91 ?_
    refine Wp.getR2 (pc := 92) (hG.r 56 77 rfl) (hG.t 56 rfl) fk_RX12_170 rfl dX12_fillEvery_92 ?_
    refine Wp.iload (pc := 95) 4 rfl dX12_fillEvery_95 ?_
    obtain ⟨v10, h11, hf⟩ := bnd hf
    refine Wp.iald2 (pc := 97) h11 (hG.a 107 0 rfl) dX12_fillEvery_97 ?_
    refine Wp.iload (pc := 98) 4 rfl dX12_fillEvery_98 ?_
    refine Wp.icmp_ne (pc := 100) 107 dX12_fillEvery_100 (by decide) (fun hc12 => ?_) (fun hc12 => ?_)
    · rw [if_neg hc12] at hf
      refine Wp.iconst (pc := 107) (-1 : Int32) (by decide) dX12_fillEvery_107 ?_
      exact w_X12_fillEvery_108 hX hG hf hk
    · rw [if_pos hc12] at hf
      refine Wp.iconst (pc := 103) (0 : Int32) (by decide) dX12_fillEvery_103 ?_
      refine Wp.goto (pc := 104) 108 dX12_fillEvery_104 (by decide) ?_
      exact w_X12_fillEvery_108 hX hG hf hk
theorem wl_X12_fillEvery_12 {X : CX} {T : List Dsc} {R : RM} {c e : Nat} {n1 n2 : Nat} {x1 : Int32} {x2 : Int32} {x3 : Int32} {x4 : Int32} {m : M2} {e1 : ((M2))} (hX : XR X 9 n1 n2) (hG : Geo T R c e) (h : loop (g_X12_fillEvery_12 x1 x2 x3) (x4, m) = some e1) (he : Wp X cX12_fillEvery RX12 7 T (mk e1 R) n1 n2 115 [(0, .ref 56), (3, .int x3)] []) : Wp X cX12_fillEvery RX12 7 T (mk m R) n1 n2 12 [(0, .ref 56), (1, .int x1), (2, .int x2), (3, .int x3), (4, .int x4)] [] :=
  loop_ok (K := k_X12_fillEvery_12 X T R n1 n2 x1 x2 x3) (fun s r hf hk => w_X12_fillEvery_12 hX hG hf hk) h he
set_option maxHeartbeats 4000000 in
set_option maxRecDepth 100000 in
theorem w_X12_fillEvery_118 {X : CX} {T : List Dsc} {R : RM} {c e : Nat} {n1 n2 : Nat} {x3 : Int32} {x4 : Int32} {m : M2} {r : ((Int32 × M2) ⊕ ((M2)))} (hX : XR X 9 n1 n2) (hG : Geo T R c e) (hf : f_X12_fillEvery_118 x3 x4 m = some r) (hk : k_X12_fillEvery_118 X T R n1 n2 x3 r) : Wp X cX12_fillEvery RX12 7 T (mk m R) n1 n2 118 [(0, .ref 56), (3, .int x3), (4, .int x4)] [] := by
  unfold f_X12_fillEvery_118 at hf
  refine Wp.iload (pc := 118) 2 rfl dX12_fillEvery_118 ?_
  refine Wp.iload_n (pc := 120) 1 rfl rfl dX12_fillEvery_120 ?_
  refine Wp.icmp_ge (pc := 121) 136 dX12_fillEvery_121 (by decide) (fun hc1 => ?_) (fun hc1 => ?_)
  · rw [if_pos hc1] at hf
    refine Wp.lo' (lo' := []) [] rfl ?_
    cases hf
    exact hk
  · rw [if_neg hc1] at hf
    refine Wp.aload_n (pc := 124) 0 rfl rfl dX12_fillEvery_124 ?_
    refine Wp.iload (pc := 125) 2 rfl dX12_fillEvery_125 ?_
    obtain ⟨c2, h3, hf⟩ := bnd hf
    refine Wp.callVv (pc := 127) (st := []) (as := [.int x4]) (c_X12_follows hG h3) ml_RX12_494 mv_X12_follows mb_X12_follows hX (Nat.le_of_ble_eq_true rfl) (by decide) rfl (hG.t 56 rfl) rfl (by simp) dX12_fillEvery_127 rfl ?_
    obtain ⟨v4, h5, hf⟩ := bnd hf
    refine Wp.iincN (pc := 130) (lo' := [(0, .ref 56), (3, .int x3), (4, .int v4)]) (1 : Int32) (by decide) h5 2 rfl [1, 2, 0] rfl (by decide) dX12_fillEvery_130 ?_
    refine Wp.goto (pc := 133) 118 dX12_fillEvery_133 (by decide) ?_
    cases hf
    exact hk
theorem wl_X12_fillEvery_118 {X : CX} {T : List Dsc} {R : RM} {c e : Nat} {n1 n2 : Nat} {x3 : Int32} {x4 : Int32} {m : M2} {e1 : ((M2))} (hX : XR X 9 n1 n2) (hG : Geo T R c e) (h : loop (g_X12_fillEvery_118 x3) (x4, m) = some e1) (he : Wp X cX12_fillEvery RX12 7 T (mk e1 R) n1 n2 136 [] []) : Wp X cX12_fillEvery RX12 7 T (mk m R) n1 n2 118 [(0, .ref 56), (3, .int x3), (4, .int x4)] [] :=
  loop_ok (K := k_X12_fillEvery_118 X T R n1 n2 x3) (fun s r hf hk => w_X12_fillEvery_118 hX hG hf hk) h he
set_option maxHeartbeats 4000000 in
set_option maxRecDepth 100000 in
theorem w_X12_fillEvery {X : CX} {T : List Dsc} {R : RM} {c e : Nat} {n1 n2 : Nat} {x1 : Int32} {x2 : Int32} {x3 : Int32} {m : M2} {r : M2} (hX : XR X 9 n1 n2) (hG : Geo T R c e) (hf : F_X12_fillEvery x1 x2 x3 m = some r) (hk : FnV X cX12_fillEvery RX12 7 T n1 n2 (mk r R)) : Wp X cX12_fillEvery RX12 7 T (mk m R) n1 n2 0 [(0, .ref 56), (1, .int x1), (2, .int x2), (3, .int x3)] [] := by
  unfold F_X12_fillEvery at hf
  refine Wp.aload_n (pc := 0) 0 rfl rfl dX12_fillEvery_0 ?_
  obtain ⟨c1, h2, hf⟩ := bnd hf
  refine Wp.callVv (pc := 1) (st := []) (as := []) (c_X12_takes hG h2) ml_RX12_444 mv_X12_takes mb_X12_takes hX (Nat.le_of_ble_eq_true rfl) (by decide) rfl (hG.t 56 rfl) rfl (by simp) dX12_fillEvery_1 rfl ?_
  refine Wp.aload_n (pc := 4) 0 rfl rfl dX12_fillEvery_4 ?_
  refine Wp.iload_n (pc := 5) 2 rfl rfl dX12_fillEvery_5 ?_
  obtain ⟨m3, h4, hf⟩ := bnd hf
  refine Wp.ptI2 (pc := 6) h4 (hG.t 56 rfl) fk_RX12_399 ff_RX12_11_65 rfl dX12_fillEvery_6 ?_
  refine Wp.iconst (pc := 9) (0 : Int32) (by decide) dX12_fillEvery_9 ?_
  refine Wp.istore (pc := 10) (lo' := [(0, .ref 56), (1, .int x1), (2, .int x2), (3, .int x3), (4, .int (0 : Int32))]) [1, 2, 3, 4, 0] rfl (by decide) dX12_fillEvery_10 ?_
  obtain ⟨e5, h6, hf⟩ := bnd hf
  refine wl_X12_fillEvery_12 hX hG h6 ?_
  refine Wp.iconst (pc := 115) (0 : Int32) (by decide) dX12_fillEvery_115 ?_
  refine Wp.istore (pc := 116) (lo' := [(0, .ref 56), (3, .int x3), (4, .int (0 : Int32))]) [1, 2, 0] rfl (by decide) dX12_fillEvery_116 ?_
  obtain ⟨e7, h8, hf⟩ := bnd hf
  refine wl_X12_fillEvery_118 hX hG h8 ?_
  cases hf
  exact hk _ _ dX12_fillEvery_136
theorem c_X12_fillEvery {T : List Dsc} {R : RM} {c e : Nat} {x1 : Int32} {x2 : Int32} {x3 : Int32} {m : M2} {r : M2} (hG : Geo T R c e) (hf : F_X12_fillEvery x1 x2 x3 m = some r) : Ct 9 yX12_fillEvery cX12_fillEvery 7 none T (mk m R) [.ref 56, .int x1, .int x2, .int x3] none (mk r R) := Ct.ofV (r := mk r R) (by decide +kernel) (Nat.le_of_ble_eq_true rfl) (fun X hX hk => w_X12_fillEvery hX hG hf hk)
theorem dX12_every_0 : decode cX12_every 0 = .ok (.iload_n 1, 1) := by decide +kernel
theorem dX12_every_1 : decode cX12_every 1 = .ok (.iconst 0, 1) := by decide +kernel
theorem dX12_every_2 : decode cX12_every 2 = .ok (.aload_n 0, 1) := by decide +kernel
theorem dX12_every_3 : decode cX12_every 3 = .ok (.getfield 49, 3) := by decide +kernel
theorem dX12_every_6 : decode cX12_every 6 = .ok (.aload_n 0, 1) := by decide +kernel
theorem dX12_every_7 : decode cX12_every 7 = .ok (.getfield 284, 3) := by decide +kernel
theorem dX12_every_10 : decode cX12_every 10 = .ok (.iaload, 1) := by decide +kernel
theorem dX12_every_11 : decode cX12_every 11 = .ok (.iconst 1, 1) := by decide +kernel
theorem dX12_every_12 : decode cX12_every 12 = .ok (.isub, 1) := by decide +kernel
theorem dX12_every_13 : decode cX12_every 13 = .ok (.invokestatic 414, 3) := by decide +kernel
theorem dX12_every_16 : decode cX12_every 16 = .ok (.ifCond .eq 21, 3) := by decide +kernel
theorem dX12_every_19 : decode cX12_every 19 = .ok (.iload_n 2, 1) := by decide +kernel
theorem dX12_every_20 : decode cX12_every 20 = .ok (.iconst 1, 1) := by decide +kernel
theorem dX12_every_21 : decode cX12_every 21 = .ok (.iconst 4, 1) := by decide +kernel
theorem dX12_every_22 : decode cX12_every 22 = .ok (.invokestatic 414, 3) := by decide +kernel
theorem dX12_every_25 : decode cX12_every 25 = .ok (.ifCond .eq 12, 3) := by decide +kernel
theorem dX12_every_28 : decode cX12_every 28 = .ok (.iload_n 3, 1) := by decide +kernel
theorem dX12_every_29 : decode cX12_every 29 = .ok (.iconst 0, 1) := by decide +kernel
theorem dX12_every_30 : decode cX12_every 30 = .ok (.iconst 2, 1) := by decide +kernel
theorem dX12_every_31 : decode cX12_every 31 = .ok (.invokestatic 414, 3) := by decide +kernel
theorem dX12_every_34 : decode cX12_every 34 = .ok (.ifCond .ne 5, 3) := by decide +kernel
theorem dX12_every_37 : decode cX12_every 37 = .ok (.iconst (-1), 1) := by decide +kernel
theorem dX12_every_38 : decode cX12_every 38 = .ok (.ireturn, 1) := by decide +kernel
theorem dX12_every_39 : decode cX12_every 39 = .ok (.iconst 1, 1) := by decide +kernel
theorem dX12_every_40 : decode cX12_every 40 = .ok (.istore 4, 2) := by decide +kernel
theorem dX12_every_42 : decode cX12_every 42 = .ok (.iconst 0, 1) := by decide +kernel
theorem dX12_every_43 : decode cX12_every 43 = .ok (.istore 5, 2) := by decide +kernel
theorem dX12_every_45 : decode cX12_every 45 = .ok (.iload 5, 2) := by decide +kernel
theorem dX12_every_47 : decode cX12_every 47 = .ok (.iload_n 2, 1) := by decide +kernel
theorem dX12_every_48 : decode cX12_every 48 = .ok (.if_icmp .ge 18, 3) := by decide +kernel
theorem dX12_every_51 : decode cX12_every 51 = .ok (.iload 4, 2) := by decide +kernel
theorem dX12_every_53 : decode cX12_every 53 = .ok (.aload_n 0, 1) := by decide +kernel
theorem dX12_every_54 : decode cX12_every 54 = .ok (.invokevirtual 408, 3) := by decide +kernel
theorem dX12_every_57 : decode cX12_every 57 = .ok (.imul, 1) := by decide +kernel
theorem dX12_every_58 : decode cX12_every 58 = .ok (.istore 4, 2) := by decide +kernel
theorem dX12_every_60 : decode cX12_every 60 = .ok (.iinc 5 1, 3) := by decide +kernel
theorem dX12_every_63 : decode cX12_every 63 = .ok (.goto (-18), 3) := by decide +kernel
theorem dX12_every_66 : decode cX12_every 66 = .ok (.iload 4, 2) := by decide +kernel
theorem dX12_every_68 : decode cX12_every 68 = .ok (.sipush 20736, 3) := by decide +kernel
theorem dX12_every_71 : decode cX12_every 71 = .ok (.if_icmp .le 6, 3) := by decide +kernel
theorem dX12_every_74 : decode cX12_every 74 = .ok (.bipush (-2), 2) := by decide +kernel
theorem dX12_every_76 : decode cX12_every 76 = .ok (.ireturn, 1) := by decide +kernel
theorem dX12_every_77 : decode cX12_every 77 = .ok (.iload_n 3, 1) := by decide +kernel
theorem dX12_every_78 : decode cX12_every 78 = .ok (.iconst 2, 1) := by decide +kernel
theorem dX12_every_79 : decode cX12_every 79 = .ok (.if_icmp .ne 6, 3) := by decide +kernel
theorem dX12_every_82 : decode cX12_every 82 = .ok (.iload 4, 2) := by decide +kernel
theorem dX12_every_84 : decode cX12_every 84 = .ok (.ireturn, 1) := by decide +kernel
theorem dX12_every_85 : decode cX12_every 85 = .ok (.aload_n 0, 1) := by decide +kernel
theorem dX12_every_86 : decode cX12_every 86 = .ok (.iload_n 1, 1) := by decide +kernel
theorem dX12_every_87 : decode cX12_every 87 = .ok (.iload_n 2, 1) := by decide +kernel
theorem dX12_every_88 : decode cX12_every 88 = .ok (.iload 4, 2) := by decide +kernel
theorem dX12_every_90 : decode cX12_every 90 = .ok (.invokevirtual 497, 3) := by decide +kernel
theorem dX12_every_93 : decode cX12_every 93 = .ok (.iconst 0, 1) := by decide +kernel
theorem dX12_every_94 : decode cX12_every 94 = .ok (.istore 5, 2) := by decide +kernel
theorem dX12_every_96 : decode cX12_every 96 = .ok (.iconst 0, 1) := by decide +kernel
theorem dX12_every_97 : decode cX12_every 97 = .ok (.istore 6, 2) := by decide +kernel
theorem dX12_every_99 : decode cX12_every 99 = .ok (.iconst 0, 1) := by decide +kernel
theorem dX12_every_100 : decode cX12_every 100 = .ok (.istore 7, 2) := by decide +kernel
theorem dX12_every_102 : decode cX12_every 102 = .ok (.iload 7, 2) := by decide +kernel
theorem dX12_every_104 : decode cX12_every 104 = .ok (.iload 4, 2) := by decide +kernel
theorem dX12_every_106 : decode cX12_every 106 = .ok (.if_icmp .ge 46, 3) := by decide +kernel
theorem dX12_every_109 : decode cX12_every 109 = .ok (.aload_n 0, 1) := by decide +kernel
theorem dX12_every_110 : decode cX12_every 110 = .ok (.getfield 173, 3) := by decide +kernel
theorem dX12_every_113 : decode cX12_every 113 = .ok (.iload 7, 2) := by decide +kernel
theorem dX12_every_115 : decode cX12_every 115 = .ok (.iaload, 1) := by decide +kernel
theorem dX12_every_116 : decode cX12_every 116 = .ok (.ifCond .ge 6, 3) := by decide +kernel
theorem dX12_every_119 : decode cX12_every 119 = .ok (.goto 27, 3) := by decide +kernel
theorem dX12_every_122 : decode cX12_every 122 = .ok (.iinc 5 1, 3) := by decide +kernel
theorem dX12_every_125 : decode cX12_every 125 = .ok (.aload_n 0, 1) := by decide +kernel
theorem dX12_every_126 : decode cX12_every 126 = .ok (.getfield 173, 3) := by decide +kernel
theorem dX12_every_129 : decode cX12_every 129 = .ok (.iload 7, 2) := by decide +kernel
theorem dX12_every_131 : decode cX12_every 131 = .ok (.iaload, 1) := by decide +kernel
theorem dX12_every_132 : decode cX12_every 132 = .ok (.iload 6, 2) := by decide +kernel
theorem dX12_every_134 : decode cX12_every 134 = .ok (.if_icmp .le 12, 3) := by decide +kernel
theorem dX12_every_137 : decode cX12_every 137 = .ok (.aload_n 0, 1) := by decide +kernel
theorem dX12_every_138 : decode cX12_every 138 = .ok (.getfield 173, 3) := by decide +kernel
theorem dX12_every_141 : decode cX12_every 141 = .ok (.iload 7, 2) := by decide +kernel
theorem dX12_every_143 : decode cX12_every 143 = .ok (.iaload, 1) := by decide +kernel
theorem dX12_every_144 : decode cX12_every 144 = .ok (.istore 6, 2) := by decide +kernel
theorem dX12_every_146 : decode cX12_every 146 = .ok (.iinc 7 1, 3) := by decide +kernel
theorem dX12_every_149 : decode cX12_every 149 = .ok (.goto (-47), 3) := by decide +kernel
theorem dX12_every_152 : decode cX12_every 152 = .ok (.iload_n 3, 1) := by decide +kernel
theorem dX12_every_153 : decode cX12_every 153 = .ok (.ifCond .ne 8, 3) := by decide +kernel
theorem dX12_every_156 : decode cX12_every 156 = .ok (.iload 5, 2) := by decide +kernel
theorem dX12_every_158 : decode cX12_every 158 = .ok (.goto 5, 3) := by decide +kernel
theorem dX12_every_161 : decode cX12_every 161 = .ok (.iload 6, 2) := by decide +kernel
theorem dX12_every_163 : decode cX12_every 163 = .ok (.ireturn, 1) := by decide +kernel
def k_X12_every_45 (X : CX) (T : List Dsc) (R : RM) (n1 n2 : Nat) (x1 : Int32) (x2 : Int32) (x3 : Int32) (r : ((Int32 × Int32 × M2) ⊕ ((Int32 × M2)))) : Prop := match r with
  | .inl s => Wp X cX12_every RX12 8 T (mk s.2.2 R) n1 n2 45 [(0, .ref 56), (1, .int x1), (2, .int x2), (3, .int x3), (4, .int s.1), (5, .int s.2.1)] []
  | .inr e => Wp X cX12_every RX12 8 T (mk e.2 R) n1 n2 66 [(0, .ref 56), (1, .int x1), (2, .int x2), (3, .int x3), (4, .int e.1)] []
def k_X12_every_102 (X : CX) (T : List Dsc) (R : RM) (n1 n2 : Nat) (x3 : Int32) (x4 : Int32) (r : ((Int32 × Int32 × Int32 × M2) ⊕ ((Int32 × Int32 × M2)))) : Prop := match r with
  | .inl s => Wp X cX12_every RX12 8 T (mk s.2.2.2 R) n1 n2 102 [(0, .ref 56), (3, .int x3), (4, .int x4), (5, .int s.1), (6, .int s.2.1), (7, .int s.2.2.1)] []
  | .inr e => Wp X cX12_every RX12 8 T (mk e.2.2 R) n1 n2 152 [(3, .int x3), (5, .int e.1), (6, .int e.2.1)] []
set_option maxHeartbeats 4000000 in
set_option maxRecDepth 100000 in
theorem w_X12_every_37 {X : CX} {T : List Dsc} {R : RM} {c e : Nat} {n1 n2 : Nat} {m : M2} {r : (Int32 × M2)} (hX : XR X 10 n1 n2) (hG : Geo T R c e) (hf : f_X12_every_37 m = some r) (hk : FnI X cX12_every RX12 8 T n1 n2 (r.1, mk r.2 R)) : Wp X cX12_every RX12 8 T (mk m R) n1 n2 37 [] [] := by
  unfold f_X12_every_37 at hf
  refine Wp.iconst (pc := 37) (-1 : Int32) (by decide) dX12_every_37 ?_
  cases hf
  exact hk _ _ dX12_every_38
set_option maxHeartbeats 4000000 in
set_option maxRecDepth 100000 in
theorem w_X12_every_45 {X : CX} {T : List Dsc} {R : RM} {c e : Nat} {n1 n2 : Nat} {x1 : Int32} {x2 : Int32} {x3 : Int32} {x4 : Int32} {x5 : Int32} {m : M2} {r : ((Int32 × Int32 × M2) ⊕ ((Int32 × M2)))} (hX : XR X 10 n1 n2) (hG : Geo T R c e) (hf : f_X12_every_45 x1 x2 x3 x4 x5 m = some r) (hk : k_X12_every_45 X T R n1 n2 x1 x2 x3 r) : Wp X cX12_every RX12 8 T (mk m R) n1 n2 45 [(0, .ref 56), (1, .int x1), (2, .int x2), (3, .int x3), (4, .int x4), (5, .int x5)] [] := by
  unfold f_X12_every_45 at hf
  refine Wp.iload (pc := 45) 5 rfl dX12_every_45 ?_
  refine Wp.iload_n (pc := 47) 2 rfl rfl dX12_every_47 ?_
  refine Wp.icmp_ge (pc := 48) 66 dX12_every_48 (by decide) (fun hc1 => ?_) (fun hc1 => ?_)
  · rw [if_pos hc1] at hf
    refine Wp.lo' (lo' := [(0, .ref 56), (1, .int x1), (2, .int x2), (3, .int x3), (4, .int x4)]) [0, 1, 2, 3, 4] rfl ?_
    cases hf
    exact hk
  · rw [if_neg hc1] at hf
    refine Wp.iload (pc := 51) 4 rfl dX12_every_51 ?_
    refine Wp.aload_n (pc := 53) 0 rfl rfl dX12_every_53 ?_
    obtain ⟨c2, h3, hf⟩ := bnd hf
    refine Wp.callVi (pc := 54) (st := [.int x4]) (as := []) (c_X12_all hG h3) ml_RX12_408 mv_X12_all mb_X12_all hX (Nat.le_of_ble_eq_true rfl) (by decide) rfl (hG.t 56 rfl) rfl (by simp [Value.category]) dX12_every_54 rfl ?_
    refine Wp.imul (pc := 57) dX12_every_57 ?_
    obtain ⟨v4, h5, hf⟩ := bnd hf
    refine Wp.nI' h5 ?_
    refine Wp.istore (pc := 58) (lo' := [(0, .ref 56), (1, .int x1), (2, .int x2), (3, .int x3), (4, .int v4), (5, .int x5)]) [1, 2, 3, 4, 0, 5] rfl (by decide) dX12_every_58 ?_
    obtain ⟨v6, h7, hf⟩ := bnd hf
    refine Wp.iincN (pc := 60) (lo' := [(0, .ref 56), (1, .int x1), (2, .int x2), (3, .int x3), (4, .int v4), (5, .int v6)]) (1 : Int32) (by decide) h7 5 rfl [1, 2, 3, 4, 5, 0] rfl (by decide) dX12_every_60 ?_
    refine Wp.goto (pc := 63) 45 dX12_every_63 (by decide) ?_
    cases hf
    exact hk
theorem wl_X12_every_45 {X : CX} {T : List Dsc} {R : RM} {c e : Nat} {n1 n2 : Nat} {x1 : Int32} {x2 : Int32} {x3 : Int32} {x4 : Int32} {x5 : Int32} {m : M2} {e1 : ((Int32 × M2))} (hX : XR X 10 n1 n2) (hG : Geo T R c e) (h : loop (g_X12_every_45 x1 x2 x3) (x4, x5, m) = some e1) (he : Wp X cX12_every RX12 8 T (mk e1.2 R) n1 n2 66 [(0, .ref 56), (1, .int x1), (2, .int x2), (3, .int x3), (4, .int e1.1)] []) : Wp X cX12_every RX12 8 T (mk m R) n1 n2 45 [(0, .ref 56), (1, .int x1), (2, .int x2), (3, .int x3), (4, .int x4), (5, .int x5)] [] :=
  loop_ok (K := k_X12_every_45 X T R n1 n2 x1 x2 x3) (fun s r hf hk => w_X12_every_45 hX hG hf hk) h he
set_option maxHeartbeats 4000000 in
set_option maxRecDepth 100000 in
theorem w_X12_every_146 {X : CX} {T : List Dsc} {R : RM} {c e : Nat} {n1 n2 : Nat} {x3 : Int32} {x4 : Int32} {x5 : Int32} {x6 : Int32} {x7 : Int32} {m : M2} {r : ((Int32 × Int32 × Int32 × M2) ⊕ ((Int32 × Int32 × M2)))} (hX : XR X 10 n1 n2) (hG : Geo T R c e) (hf : f_X12_every_146 x3 x4 x5 x6 x7 m = some r) (hk : k_X12_every_102 X T R n1 n2 x3 x4 r) : Wp X cX12_every RX12 8 T (mk m R) n1 n2 146 [(0, .ref 56), (3, .int x3), (4, .int x4), (5, .int x5), (6, .int x6), (7, .int x7)] [] := by
  unfold f_X12_every_146 at hf
  obtain ⟨v1, h2, hf⟩ := bnd hf
  refine Wp.iincN (pc := 146) (lo' := [(0, .ref 56), (3, .int x3), (4, .int x4), (5, .int x5), (6, .int x6), (7, .int v1)]) (1 : Int32) (by decide) h2 5 rfl [1, 2, 3, 4, 5, 0] rfl (by decide) dX12_every_146 ?_
  refine Wp.goto (pc := 149) 102 dX12_every_149 (by decide) ?_
  cases hf
  exact hk
set_option maxHeartbeats 4000000 in
set_option maxRecDepth 100000 in
theorem w_X12_every_102 {X : CX} {T : List Dsc} {R : RM} {c e : Nat} {n1 n2 : Nat} {x3 : Int32} {x4 : Int32} {x5 : Int32} {x6 : Int32} {x7 : Int32} {m : M2} {r : ((Int32 × Int32 × Int32 × M2) ⊕ ((Int32 × Int32 × M2)))} (hX : XR X 10 n1 n2) (hG : Geo T R c e) (hf : f_X12_every_102 x3 x4 x5 x6 x7 m = some r) (hk : k_X12_every_102 X T R n1 n2 x3 x4 r) : Wp X cX12_every RX12 8 T (mk m R) n1 n2 102 [(0, .ref 56), (3, .int x3), (4, .int x4), (5, .int x5), (6, .int x6), (7, .int x7)] [] := by
  unfold f_X12_every_102 at hf
  refine Wp.iload (pc := 102) 5 rfl dX12_every_102 ?_
  refine Wp.iload (pc := 104) 2 rfl dX12_every_104 ?_
  refine Wp.icmp_ge (pc := 106) 152 dX12_every_106 (by decide) (fun hc1 => ?_) (fun hc1 => ?_)
  · rw [if_pos hc1] at hf
    refine Wp.lo' (lo' := [(3, .int x3), (5, .int x5), (6, .int x6)]) [1, 3, 4] rfl ?_
    cases hf
    exact hk
  · rw [if_neg hc1] at hf
    refine Wp.aload_n (pc := 109) 0 rfl rfl dX12_every_109 ?_
    refine Wp.getR2 (pc := 110) (hG.r 56 78 rfl) (hG.t 56 rfl) fk_RX12_173 rfl dX12_every_110 ?_
    refine Wp.iload (pc := 113) 5 rfl dX12_every_113 ?_
    obtain ⟨v2, h3, hf⟩ := bnd hf
    refine Wp.iald2 (pc := 115) h3 (hG.a 108 0 rfl) dX12_every_115 ?_
    refine Wp.if_ge (pc := 116) 122 dX12_every_116 (by decide) (fun hc4 => ?_) (fun hc4 => ?_)
    · rw [if_pos hc4] at hf
      obtain ⟨v5, h6, hf⟩ := bnd hf
      refine Wp.iincN (pc := 122) (lo' := [(0, .ref 56), (3, .int x3), (4, .int x4), (5, .int v5), (6, .int x6), (7, .int x7)]) (1 : Int32) (by decide) h6 3 rfl [1, 2, 3, 0, 4, 5] rfl (by decide) dX12_every_122 ?_
      refine Wp.aload_n (pc := 125) 0 rfl rfl dX12_every_125 ?_
      refine Wp.getR2 (pc := 126) (hG.r 56 78 rfl) (hG.t 56 rfl) fk_RX12_173 rfl dX12_every_126 ?_
      refine Wp.iload (pc := 129) 5 rfl dX12_every_129 ?_
      obtain ⟨v7, h8, hf⟩ := bnd hf
      refine Wp.iald2 (pc := 131) h8 (hG.a 108 0 rfl) dX12_every_131 ?_
      refine Wp.iload (pc := 132) 4 rfl dX12_every_132 ?_
      refine Wp.icmp_le (pc := 134) 146 dX12_every_134 (by decide) (fun hc9 => ?_) (fun hc9 => ?_)
      · rw [if_pos hc9] at hf
        exact w_X12_every_146 hX hG hf hk
      · rw [if_neg hc9] at hf
        refine Wp.aload_n (pc := 137) 0 rfl rfl dX12_every_137 ?_
        refine Wp.getR2 (pc := 138) (hG.r 56 78 rfl) (hG.t 56 rfl) fk_RX12_173 rfl dX12_every_138 ?_
        refine Wp.iload (pc := 141) 5 rfl dX12_every_141 ?_
        obtain ⟨v10, h11, hf⟩ := bnd hf
        refine Wp.iald2 (pc := 143) h11 (hG.a 108 0 rfl) dX12_every_143 ?_
        refine Wp.istore (pc := 144) (lo' := [(0, .ref 56), (3, .int x3), (4, .int x4), (5, .int v5), (6, .int v10), (7, .int x7)]) [1, 2, 3, 4, 0, 5] rfl (by decide) dX12_every_144 ?_
        exact w_X12_every_146 hX hG hf hk
    · rw [if_neg hc4] at hf
      refine Wp.goto (pc := 119) 146 dX12_every_119 (by decide) ?_
      exact w_X12_every_146 hX hG hf hk
theorem wl_X12_every_102 {X : CX} {T : List Dsc} {R : RM} {c e : Nat} {n1 n2 : Nat} {x3 : Int32} {x4 : Int32} {x5 : Int32} {x6 : Int32} {x7 : Int32} {m : M2} {e1 : ((Int32 × Int32 × M2))} (hX : XR X 10 n1 n2) (hG : Geo T R c e) (h : loop (g_X12_every_102 x3 x4) (x5, x6, x7, m) = some e1) (he : Wp X cX12_every RX12 8 T (mk e1.2.2 R) n1 n2 152 [(3, .int x3), (5, .int e1.1), (6, .int e1.2.1)] []) : Wp X cX12_every RX12 8 T (mk m R) n1 n2 102 [(0, .ref 56), (3, .int x3), (4, .int x4), (5, .int x5), (6, .int x6), (7, .int x7)] [] :=
  loop_ok (K := k_X12_every_102 X T R n1 n2 x3 x4) (fun s r hf hk => w_X12_every_102 hX hG hf hk) h he
set_option maxHeartbeats 4000000 in
set_option maxRecDepth 100000 in
theorem w_X12_every_163 {X : CX} {T : List Dsc} {R : RM} {c e : Nat} {n1 n2 : Nat} {s0 : Int32} {m : M2} {r : (Int32 × M2)} (hX : XR X 10 n1 n2) (hG : Geo T R c e) (hf : f_X12_every_163 s0 m = some r) (hk : FnI X cX12_every RX12 8 T n1 n2 (r.1, mk r.2 R)) : Wp X cX12_every RX12 8 T (mk m R) n1 n2 163 [] [.int s0] := by
  unfold f_X12_every_163 at hf
  cases hf
  exact hk _ _ dX12_every_163
set_option maxHeartbeats 4000000 in
set_option maxRecDepth 100000 in
theorem w_X12_every {X : CX} {T : List Dsc} {R : RM} {c e : Nat} {n1 n2 : Nat} {x1 : Int32} {x2 : Int32} {x3 : Int32} {m : M2} {r : (Int32 × M2)} (hX : XR X 10 n1 n2) (hG : Geo T R c e) (hf : F_X12_every x1 x2 x3 m = some r) (hk : FnI X cX12_every RX12 8 T n1 n2 (r.1, mk r.2 R)) : Wp X cX12_every RX12 8 T (mk m R) n1 n2 0 [(0, .ref 56), (1, .int x1), (2, .int x2), (3, .int x3)] [] := by
  unfold F_X12_every at hf
  refine Wp.iload_n (pc := 0) 1 rfl rfl dX12_every_0 ?_
  refine Wp.iconst (pc := 1) (0 : Int32) (by decide) dX12_every_1 ?_
  refine Wp.aload_n (pc := 2) 0 rfl rfl dX12_every_2 ?_
  refine Wp.getR2 (pc := 3) (hG.r 56 24 rfl) (hG.t 56 rfl) fk_RX12_49 rfl dX12_every_3 ?_
  refine Wp.aload_n (pc := 6) 0 rfl rfl dX12_every_6 ?_
  refine Wp.getI2 (pc := 7) (hG.t 56 rfl) fk_RX12_284 rfl dX12_every_7 ?_
  obtain ⟨v1, h2, hf⟩ := bnd hf
  refine Wp.iald2 (pc := 10) h2 (hG.a 67 0 rfl) dX12_every_10 ?_
  refine Wp.iconst (pc := 11) (1 : Int32) (by decide) dX12_every_11 ?_
  refine Wp.isub (pc := 12) dX12_every_12 ?_
  obtain ⟨c3, h4, hf⟩ := bnd hf
  refine Wp.callSi (pc := 13) (st := []) (as := [.int x1, .int (0 : Int32), .int (v1 - (1 : Int32))]) (c_X12_in hG h4) ml_RX12_414 ms_X12_in mb_X12_in hX (Nat.le_of_ble_eq_true rfl) (by decide) rfl (by simp) dX12_every_13 rfl ?_
  refine Wp.if_eq (pc := 16) 37 dX12_every_16 (by decide) (fun hc5 => ?_) (fun hc5 => ?_)
  · rw [if_pos hc5] at hf
    refine Wp.lo' (lo' := []) [] rfl ?_
    exact w_X12_every_37 hX hG hf hk
  · rw [if_neg hc5] at hf
    refine Wp.iload_n (pc := 19) 2 rfl rfl dX12_every_19 ?_
    refine Wp.iconst (pc := 20) (1 : Int32) (by decide) dX12_every_20 ?_
    refine Wp.iconst (pc := 21) (4 : Int32) (by decide) dX12_every_21 ?_
    obtain ⟨c6, h7, hf⟩ := bnd hf
    refine Wp.callSi (pc := 22) (st := []) (as := [.int x2, .int (1 : Int32), .int (4 : Int32)]) (c_X12_in hG h7) ml_RX12_414 ms_X12_in mb_X12_in hX (Nat.le_of_ble_eq_true rfl) (by decide) rfl (by simp) dX12_every_22 rfl ?_
    refine Wp.if_eq (pc := 25) 37 dX12_every_25 (by decide) (fun hc8 => ?_) (fun hc8 => ?_)
    · rw [if_pos hc8] at hf
      refine Wp.lo' (lo' := []) [] rfl ?_
      exact w_X12_every_37 hX hG hf hk
    · rw [if_neg hc8] at hf
      refine Wp.iload_n (pc := 28) 3 rfl rfl dX12_every_28 ?_
      refine Wp.iconst (pc := 29) (0 : Int32) (by decide) dX12_every_29 ?_
      refine Wp.iconst (pc := 30) (2 : Int32) (by decide) dX12_every_30 ?_
      obtain ⟨c9, h10, hf⟩ := bnd hf
      refine Wp.callSi (pc := 31) (st := []) (as := [.int x3, .int (0 : Int32), .int (2 : Int32)]) (c_X12_in hG h10) ml_RX12_414 ms_X12_in mb_X12_in hX (Nat.le_of_ble_eq_true rfl) (by decide) rfl (by simp) dX12_every_31 rfl ?_
      refine Wp.if_ne (pc := 34) 39 dX12_every_34 (by decide) (fun hc11 => ?_) (fun hc11 => ?_)
      · rw [if_neg hc11] at hf
        refine Wp.iconst (pc := 39) (1 : Int32) (by decide) dX12_every_39 ?_
        refine Wp.istore (pc := 40) (lo' := [(0, .ref 56), (1, .int x1), (2, .int x2), (3, .int x3), (4, .int (1 : Int32))]) [1, 2, 3, 4, 0] rfl (by decide) dX12_every_40 ?_
        refine Wp.iconst (pc := 42) (0 : Int32) (by decide) dX12_every_42 ?_
        refine Wp.istore (pc := 43) (lo' := [(0, .ref 56), (1, .int x1), (2, .int x2), (3, .int x3), (4, .int (1 : Int32)), (5, .int (0 : Int32))]) [1, 2, 3, 4, 5, 0] rfl (by decide) dX12_every_43 ?_
        obtain ⟨e12, h13, hf⟩ := bnd hf
        refine wl_X12_every_45 hX hG h13 ?_
        refine Wp.iload (pc := 66) 4 rfl dX12_every_66 ?_
        refine Wp.sipush (pc := 68) (20736 : Int32) (by decide) dX12_every_68 ?_
        refine Wp.icmp_le (pc := 71) 77 dX12_every_71 (by decide) (fun hc14 => ?_) (fun hc14 => ?_)
        · rw [if_pos hc14] at hf
          refine Wp.iload_n (pc := 77) 3 rfl rfl dX12_every_77 ?_
          refine Wp.iconst (pc := 78) (2 : Int32) (by decide) dX12_every_78 ?_
          refine Wp.icmp_ne (pc := 79) 85 dX12_every_79 (by decide) (fun hc15 => ?_) (fun hc15 => ?_)
          · rw [if_neg hc15] at hf
            refine Wp.aload_n (pc := 85) 0 rfl rfl dX12_every_85 ?_
            refine Wp.iload_n (pc := 86) 1 rfl rfl dX12_every_86 ?_
            refine Wp.iload_n (pc := 87) 2 rfl rfl dX12_every_87 ?_
            refine Wp.iload (pc := 88) 4 rfl dX12_every_88 ?_
            obtain ⟨c16, h17, hf⟩ := bnd hf
            refine Wp.callVv (pc := 90) (st := []) (as := [.int x1, .int x2, .int e12.1]) (c_X12_fillEvery hG h17) ml_RX12_497 mv_X12_fillEvery mb_X12_fillEvery hX (Nat.le_of_ble_eq_true rfl) (by decide) rfl (hG.t 56 rfl) rfl (by simp) dX12_every_90 rfl ?_
            refine Wp.iconst (pc := 93) (0 : Int32) (by decide) dX12_every_93 ?_
            refine Wp.istore (pc := 94) (lo' := [(0, .ref 56), (3, .int x3), (4, .int e12.1), (5, .int (0 : Int32))]) [1, 4, 5, 0] rfl (by decide) dX12_every_94 ?_
            refine Wp.iconst (pc := 96) (0 : Int32) (by decide) dX12_every_96 ?_
            refine Wp.istore (pc := 97) (lo' := [(0, .ref 56), (3, .int x3), (4, .int e12.1), (5, .int (0 : Int32)), (6, .int (0 : Int32))]) [1, 2, 3, 4, 0] rfl (by decide) dX12_every_97 ?_
            refine Wp.iconst (pc := 99) (0 : Int32) (by decide) dX12_every_99 ?_
            refine Wp.istore (pc := 100) (lo' := [(0, .ref 56), (3, .int x3), (4, .int e12.1), (5, .int (0 : Int32)), (6, .int (0 : Int32)), (7, .int (0 : Int32))]) [1, 2, 3, 4, 5, 0] rfl (by decide) dX12_every_100 ?_
            obtain ⟨e18, h19, hf⟩ := bnd hf
            refine wl_X12_every_102 hX hG h19 ?_
            refine Wp.iload_n (pc := 152) 0 rfl rfl dX12_every_152 ?_
            refine Wp.if_ne (pc := 153) 161 dX12_every_153 (by decide) (fun hc20 => ?_) (fun hc20 => ?_)
            · rw [if_neg hc20] at hf
              refine Wp.iload (pc := 161) 2 rfl dX12_every_161 ?_
              refine Wp.lo' (lo' := []) [] rfl ?_
              exact w_X12_every_163 hX hG hf hk
            · rw [if_pos hc20] at hf
              refine Wp.iload (pc := 156) 1 rfl dX12_every_156 ?_
              refine Wp.goto (pc := 158) 163 dX12_every_158 (by decide) ?_
              refine Wp.lo' (lo' := []) [] rfl ?_
              exact w_X12_every_163 hX hG hf hk
          · rw [if_pos hc15] at hf
            refine Wp.iload (pc := 82) 4 rfl dX12_every_82 ?_
            cases hf
            exact hk _ _ dX12_every_84
        · rw [if_neg hc14] at hf
          refine Wp.bipush (pc := 74) (-2 : Int32) (by decide) dX12_every_74 ?_
          cases hf
          exact hk _ _ dX12_every_76
      · rw [if_pos hc11] at hf
        refine Wp.lo' (lo' := []) [] rfl ?_
        exact w_X12_every_37 hX hG hf hk
theorem c_X12_every {T : List Dsc} {R : RM} {c e : Nat} {x1 : Int32} {x2 : Int32} {x3 : Int32} {m : M2} {r : (Int32 × M2)} (hG : Geo T R c e) (hf : F_X12_every x1 x2 x3 m = some r) : Ct 10 yX12_every cX12_every 8 (some .int) T (mk m R) [.ref 56, .int x1, .int x2, .int x3] (some (.int r.1)) (mk r.2 R) := Ct.ofI (r := (r.1, mk r.2 R)) (by decide +kernel) (Nat.le_of_ble_eq_true rfl) (fun X hX hk => w_X12_every hX hG hf hk)
theorem dX12_ram_0 : decode cX12_ram 0 = .ok (.iload_n 1, 1) := by decide +kernel
theorem dX12_ram_1 : decode cX12_ram 1 = .ok (.iconst 1, 1) := by decide +kernel
theorem dX12_ram_2 : decode cX12_ram 2 = .ok (.bipush 60, 2) := by decide +kernel
theorem dX12_ram_4 : decode cX12_ram 4 = .ok (.invokestatic 414, 3) := by decide +kernel
theorem dX12_ram_7 : decode cX12_ram 7 = .ok (.ifCond .eq 19, 3) := by decide +kernel
theorem dX12_ram_10 : decode cX12_ram 10 = .ok (.iload_n 2, 1) := by decide +kernel
theorem dX12_ram_11 : decode cX12_ram 11 = .ok (.iconst 0, 1) := by decide +kernel
theorem dX12_ram_12 : decode cX12_ram 12 = .ok (.iconst 2, 1) := by decide +kernel
theorem dX12_ram_13 : decode cX12_ram 13 = .ok (.invokestatic 414, 3) := by decide +kernel
theorem dX12_ram_16 : decode cX12_ram 16 = .ok (.ifCond .eq 10, 3) := by decide +kernel
theorem dX12_ram_19 : decode cX12_ram 19 = .ok (.aload_n 0, 1) := by decide +kernel
theorem dX12_ram_20 : decode cX12_ram 20 = .ok (.invokevirtual 390, 3) := by decide +kernel
theorem dX12_ram_23 : decode cX12_ram 23 = .ok (.ifCond .ne 5, 3) := by decide +kernel
theorem dX12_ram_26 : decode cX12_ram 26 = .ok (.iconst (-1), 1) := by decide +kernel
theorem dX12_ram_27 : decode cX12_ram 27 = .ok (.ireturn, 1) := by decide +kernel
theorem dX12_ram_28 : decode cX12_ram 28 = .ok (.aload_n 0, 1) := by decide +kernel
theorem dX12_ram_29 : decode cX12_ram 29 = .ok (.getfield 209, 3) := by decide +kernel
theorem dX12_ram_32 : decode cX12_ram 32 = .ok (.iconst (-1), 1) := by decide +kernel
theorem dX12_ram_33 : decode cX12_ram 33 = .ok (.if_icmp .ne 6, 3) := by decide +kernel
theorem dX12_ram_36 : decode cX12_ram 36 = .ok (.bipush (-2), 2) := by decide +kernel
theorem dX12_ram_38 : decode cX12_ram 38 = .ok (.ireturn, 1) := by decide +kernel
theorem dX12_ram_39 : decode cX12_ram 39 = .ok (.iconst (-1), 1) := by decide +kernel
theorem dX12_ram_40 : decode cX12_ram 40 = .ok (.istore_n 3, 1) := by decide +kernel
theorem dX12_ram_41 : decode cX12_ram 41 = .ok (.iconst 0, 1) := by decide +kernel
theorem dX12_ram_42 : decode cX12_ram 42 = .ok (.istore 4, 2) := by decide +kernel
theorem dX12_ram_44 : decode cX12_ram 44 = .ok (.iconst 0, 1) := by decide +kernel
theorem dX12_ram_45 : decode cX12_ram 45 = .ok (.istore 5, 2) := by decide +kernel
theorem dX12_ram_47 : decode cX12_ram 47 = .ok (.iload_n 1, 1) := by decide +kernel
theorem dX12_ram_48 : decode cX12_ram 48 = .ok (.istore 6, 2) := by decide +kernel
theorem dX12_ram_50 : decode cX12_ram 50 = .ok (.iload 6, 2) := by decide +kernel
theorem dX12_ram_52 : decode cX12_ram 52 = .ok (.ifCond .le 102, 3) := by decide +kernel
theorem dX12_ram_55 : decode cX12_ram 55 = .ok (.iconst 0, 1) := by decide +kernel
theorem dX12_ram_56 : decode cX12_ram 56 = .ok (.istore 7, 2) := by decide +kernel
theorem dX12_ram_58 : decode cX12_ram 58 = .ok (.iload 7, 2) := by decide +kernel
theorem dX12_ram_60 : decode cX12_ram 60 = .ok (.aload_n 0, 1) := by decide +kernel
theorem dX12_ram_61 : decode cX12_ram 61 = .ok (.invokevirtual 408, 3) := by decide +kernel
theorem dX12_ram_64 : decode cX12_ram 64 = .ok (.if_icmp .ge 84, 3) := by decide +kernel
theorem dX12_ram_67 : decode cX12_ram 67 = .ok (.aload_n 0, 1) := by decide +kernel
theorem dX12_ram_68 : decode cX12_ram 68 = .ok (.invokevirtual 444, 3) := by decide +kernel
theorem dX12_ram_71 : decode cX12_ram 71 = .ok (.iconst 1, 1) := by decide +kernel
theorem dX12_ram_72 : decode cX12_ram 72 = .ok (.istore 8, 2) := by decide +kernel
theorem dX12_ram_74 : decode cX12_ram 74 = .ok (.iload 8, 2) := by decide +kernel
theorem dX12_ram_76 : decode cX12_ram 76 = .ok (.iload_n 1, 1) := by decide +kernel
theorem dX12_ram_77 : decode cX12_ram 77 = .ok (.if_icmp .gt 39, 3) := by decide +kernel
theorem dX12_ram_80 : decode cX12_ram 80 = .ok (.iload 8, 2) := by decide +kernel
theorem dX12_ram_82 : decode cX12_ram 82 = .ok (.iload 6, 2) := by decide +kernel
theorem dX12_ram_84 : decode cX12_ram 84 = .ok (.if_icmp .ne 9, 3) := by decide +kernel
theorem dX12_ram_87 : decode cX12_ram 87 = .ok (.aload_n 0, 1) := by decide +kernel
theorem dX12_ram_88 : decode cX12_ram 88 = .ok (.iload 7, 2) := by decide +kernel
theorem dX12_ram_90 : decode cX12_ram 90 = .ok (.putfield 402, 3) := by decide +kernel
theorem dX12_ram_93 : decode cX12_ram 93 = .ok (.aload_n 0, 1) := by decide +kernel
theorem dX12_ram_94 : decode cX12_ram 94 = .ok (.aload_n 0, 1) := by decide +kernel
theorem dX12_ram_95 : decode cX12_ram 95 = .ok (.aload_n 0, 1) := by decide +kernel
theorem dX12_ram_96 : decode cX12_ram 96 = .ok (.getfield 396, 3) := by decide +kernel
theorem dX12_ram_99 : decode cX12_ram 99 = .ok (.iload 8, 2) := by decide +kernel
theorem dX12_ram_101 : decode cX12_ram 101 = .ok (.iadd, 1) := by decide +kernel
theorem dX12_ram_102 : decode cX12_ram 102 = .ok (.iconst 1, 1) := by decide +kernel
theorem dX12_ram_103 : decode cX12_ram 103 = .ok (.isub, 1) := by decide +kernel
theorem dX12_ram_104 : decode cX12_ram 104 = .ok (.invokevirtual 447, 3) := by decide +kernel
theorem dX12_ram_107 : decode cX12_ram 107 = .ok (.invokevirtual 450, 3) := by decide +kernel
theorem dX12_ram_110 : decode cX12_ram 110 = .ok (.iinc 8 1, 3) := by decide +kernel
theorem dX12_ram_113 : decode cX12_ram 113 = .ok (.goto (-39), 3) := by decide +kernel
theorem dX12_ram_116 : decode cX12_ram 116 = .ok (.aload_n 0, 1) := by decide +kernel
theorem dX12_ram_117 : decode cX12_ram 117 = .ok (.invokevirtual 459, 3) := by decide +kernel
theorem dX12_ram_120 : decode cX12_ram 120 = .ok (.istore 8, 2) := by decide +kernel
theorem dX12_ram_122 : decode cX12_ram 122 = .ok (.iload 8, 2) := by decide +kernel
theorem dX12_ram_124 : decode cX12_ram 124 = .ok (.iload_n 3, 1) := by decide +kernel
theorem dX12_ram_125 : decode cX12_ram 125 = .ok (.if_icmp .gt 6, 3) := by decide +kernel
theorem dX12_ram_128 : decode cX12_ram 128 = .ok (.goto 14, 3) := by decide +kernel
theorem dX12_ram_131 : decode cX12_ram 131 = .ok (.iload 8, 2) := by decide +kernel
theorem dX12_ram_133 : decode cX12_ram 133 = .ok (.istore_n 3, 1) := by decide +kernel
theorem dX12_ram_134 : decode cX12_ram 134 = .ok (.iload 6, 2) := by decide +kernel
theorem dX12_ram_136 : decode cX12_ram 136 = .ok (.istore 4, 2) := by decide +kernel
theorem dX12_ram_138 : decode cX12_ram 138 = .ok (.iload 7, 2) := by decide +kernel
theorem dX12_ram_140 : decode cX12_ram 140 = .ok (.istore 5, 2) := by decide +kernel
theorem dX12_ram_142 : decode cX12_ram 142 = .ok (.iinc 7 1, 3) := by decide +kernel
theorem dX12_ram_145 : decode cX12_ram 145 = .ok (.goto (-87), 3) := by decide +kernel
theorem dX12_ram_148 : decode cX12_ram 148 = .ok (.iinc 6 (-1), 3) := by decide +kernel
theorem dX12_ram_151 : decode cX12_ram 151 = .ok (.goto (-101), 3) := by decide +kernel
theorem dX12_ram_154 : decode cX12_ram 154 = .ok (.iload_n 2, 1) := by decide +kernel
theorem dX12_ram_155 : decode cX12_ram 155 = .ok (.ifCond .ne 7, 3) := by decide +kernel
theorem dX12_ram_158 : decode cX12_ram 158 = .ok (.iload_n 3, 1) := by decide +kernel
theorem dX12_ram_159 : decode cX12_ram 159 = .ok (.goto 15, 3) := by decide +kernel
theorem dX12_ram_162 : decode cX12_ram 162 = .ok (.iload_n 2, 1) := by decide +kernel
theorem dX12_ram_163 : decode cX12_ram 163 = .ok (.iconst 1, 1) := by decide +kernel
theorem dX12_ram_164 : decode cX12_ram 164 = .ok (.if_icmp .ne 8, 3) := by decide +kernel
theorem dX12_ram_167 : decode cX12_ram 167 = .ok (.iload 4, 2) := by decide +kernel
theorem dX12_ram_169 : decode cX12_ram 169 = .ok (.goto 5, 3) := by decide +kernel
theorem dX12_ram_172 : decode cX12_ram 172 = .ok (.iload 5, 2) := by decide +kernel
theorem dX12_ram_174 : decode cX12_ram 174 = .ok (.ireturn, 1) := by decide +kernel
def k_X12_ram_74 (X : CX) (T : List Dsc) (R : RM) (n1 n2 : Nat) (x1 : Int32) (x2 : Int32) (x3 : Int32) (x4 : Int32) (x5 : Int32) (x6 : Int32) (x7 : Int32) (r : ((Int32 × M2) ⊕ ((M2)))) : Prop := match r with
  | .inl s => Wp X cX12_ram RX12 9 T (mk s.2 R) n1 n2 74 [(0, .ref 56), (1, .int x1), (2, .int x2), (3, .int x3), (4, .int x4), (5, .int x5), (6, .int x6), (7, .int x7), (8, .int s.1)] []
  | .inr e => Wp X cX12_ram RX12 9 T (mk e R) n1 n2 116 [(0, .ref 56), (1, .int x1), (2, .int x2), (3, .int x3), (4, .int x4), (5, .int x5), (6, .int x6), (7, .int x7)] []
def k_X12_ram_58 (X : CX) (T : List Dsc) (R : RM) (n1 n2 : Nat) (x1 : Int32) (x2 : Int32) (x6 : Int32) (r : ((Int32 × Int32 × Int32 × Int32 × M2) ⊕ ((Int32 × Int32 × Int32 × M2)))) : Prop := match r with
  | .inl s => Wp X cX12_ram RX12 9 T (mk s.2.2.2.2 R) n1 n2 58 [(0, .ref 56), (1, .int x1), (2, .int x2), (3, .int s.1), (4, .int s.2.1), (5, .int s.2.2.1), (6, .int x6), (7, .int s.2.2.2.1)] []
  | .inr e => Wp X cX12_ram RX12 9 T (mk e.2.2.2 R) n1 n2 148 [(0, .ref 56), (1, .int x1), (2, .int x2), (3, .int e.1), (4, .int e.2.1), (5, .int e.2.2.1), (6, .int x6)] []
def k_X12_ram_50 (X : CX) (T : List Dsc) (R : RM) (n1 n2 : Nat) (x1 : Int32) (x2 : Int32) (r : ((Int32 × Int32 × Int32 × Int32 × M2) ⊕ ((Int32 × Int32 × Int32 × M2)))) : Prop := match r with
  | .inl s => Wp X cX12_ram RX12 9 T (mk s.2.2.2.2 R) n1 n2 50 [(0, .ref 56), (1, .int x1), (2, .int x2), (3, .int s.1), (4, .int s.2.1), (5, .int s.2.2.1), (6, .int s.2.2.2.1)] []
  | .inr e => Wp X cX12_ram RX12 9 T (mk e.2.2.2 R) n1 n2 154 [(2, .int x2), (3, .int e.1), (4, .int e.2.1), (5, .int e.2.2.1)] []
set_option maxHeartbeats 4000000 in
set_option maxRecDepth 100000 in
theorem w_X12_ram_26 {X : CX} {T : List Dsc} {R : RM} {c e : Nat} {n1 n2 : Nat} {m : M2} {r : (Int32 × M2)} (hX : XR X 9 n1 n2) (hG : Geo T R c e) (hf : f_X12_ram_26 m = some r) (hk : FnI X cX12_ram RX12 9 T n1 n2 (r.1, mk r.2 R)) : Wp X cX12_ram RX12 9 T (mk m R) n1 n2 26 [] [] := by
  unfold f_X12_ram_26 at hf
  refine Wp.iconst (pc := 26) (-1 : Int32) (by decide) dX12_ram_26 ?_
  cases hf
  exact hk _ _ dX12_ram_27
set_option maxHeartbeats 4000000 in
set_option maxRecDepth 100000 in
theorem w_X12_ram_93 {X : CX} {T : List Dsc} {R : RM} {c e : Nat} {n1 n2 : Nat} {x1 : Int32} {x2 : Int32} {x3 : Int32} {x4 : Int32} {x5 : Int32} {x6 : Int32} {x7 : Int32} {x8 : Int32} {m : M2} {r : ((Int32 × M2) ⊕ ((M2)))} (hX : XR X 9 n1 n2) (hG : Geo T R c e) (hf : f_X12_ram_93 x1 x2 x3 x4 x5 x6 x7 x8 m = some r) (hk : k_X12_ram_74 X T R n1 n2 x1 x2 x3 x4 x5 x6 x7 r) : Wp X cX12_ram RX12 9 T (mk m R) n1 n2 93 [(0, .ref 56), (1, .int x1), (2, .int x2), (3, .int x3), (4, .int x4), (5, .int x5), (6, .int x6), (7, .int x7), (8, .int x8)] [] := by
  unfold f_X12_ram_93 at hf
  refine Wp.aload_n (pc := 93) 0 rfl rfl dX12_ram_93 ?_
  refine Wp.aload_n (pc := 94) 0 rfl rfl dX12_ram_94 ?_
  refine Wp.aload_n (pc := 95) 0 rfl rfl dX12_ram_95 ?_
  refine Wp.getI2 (pc := 96) (hG.t 56 rfl) fk_RX12_396 rfl dX12_ram_96 ?_
  refine Wp.iload (pc := 99) 8 rfl dX12_ram_99 ?_
  refine Wp.iadd (pc := 101) dX12_ram_101 ?_
  refine Wp.iconst (pc := 102) (1 : Int32) (by decide) dX12_ram_102 ?_
  refine Wp.isub (pc := 103) dX12_ram_103 ?_
  obtain ⟨c1, h2, hf⟩ := bnd hf
  refine Wp.callVi (pc := 104) (st := [.ref 56]) (as := [.int (((hI m 56 60) + x8) - (1 : Int32))]) (c_X12_isFog hG h2) ml_RX12_447 mv_X12_isFog mb_X12_isFog hX (Nat.le_of_ble_eq_true rfl) (by decide) rfl (hG.t 56 rfl) rfl (by simp [Value.category]) dX12_ram_104 rfl ?_
  obtain ⟨c3, h4, hf⟩ := bnd hf
  refine Wp.callVv (pc := 107) (st := []) (as := [.int c1.1]) (c_X12_strikes hG h4) ml_RX12_450 mv_X12_strikes mb_X12_strikes hX (Nat.le_of_ble_eq_true rfl) (by decide) rfl (hG.t 56 rfl) rfl (by simp) dX12_ram_107 rfl ?_
  obtain ⟨v5, h6, hf⟩ := bnd hf
  refine Wp.iincN (pc := 110) (lo' := [(0, .ref 56), (1, .int x1), (2, .int x2), (3, .int x3), (4, .int x4), (5, .int x5), (6, .int x6), (7, .int x7), (8, .int v5)]) (1 : Int32) (by decide) h6 8 rfl [1, 2, 3, 4, 5, 6, 7, 8, 0] rfl (by decide) dX12_ram_110 ?_
  refine Wp.goto (pc := 113) 74 dX12_ram_113 (by decide) ?_
  cases hf
  exact hk
set_option maxHeartbeats 4000000 in
set_option maxRecDepth 100000 in
theorem w_X12_ram_74 {X : CX} {T : List Dsc} {R : RM} {c e : Nat} {n1 n2 : Nat} {x1 : Int32} {x2 : Int32} {x3 : Int32} {x4 : Int32} {x5 : Int32} {x6 : Int32} {x7 : Int32} {x8 : Int32} {m : M2} {r : ((Int32 × M2) ⊕ ((M2)))} (hX : XR X 9 n1 n2) (hG : Geo T R c e) (hf : f_X12_ram_74 x1 x2 x3 x4 x5 x6 x7 x8 m = some r) (hk : k_X12_ram_74 X T R n1 n2 x1 x2 x3 x4 x5 x6 x7 r) : Wp X cX12_ram RX12 9 T (mk m R) n1 n2 74 [(0, .ref 56), (1, .int x1), (2, .int x2), (3, .int x3), (4, .int x4), (5, .int x5), (6, .int x6), (7, .int x7), (8, .int x8)] [] := by
  unfold f_X12_ram_74 at hf
  refine Wp.iload (pc := 74) 8 rfl dX12_ram_74 ?_
  refine Wp.iload_n (pc := 76) 1 rfl rfl dX12_ram_76 ?_
  refine Wp.icmp_gt (pc := 77) 116 dX12_ram_77 (by decide) (fun hc1 => ?_) (fun hc1 => ?_)
  · rw [if_pos hc1] at hf
    refine Wp.lo' (lo' := [(0, .ref 56), (1, .int x1), (2, .int x2), (3, .int x3), (4, .int x4), (5, .int x5), (6, .int x6), (7, .int x7)]) [0, 1, 2, 3, 4, 5, 6, 7] rfl ?_
    cases hf
    exact hk
  · rw [if_neg hc1] at hf
    refine Wp.iload (pc := 80) 8 rfl dX12_ram_80 ?_
    refine Wp.iload (pc := 82) 6 rfl dX12_ram_82 ?_
    refine Wp.icmp_ne (pc := 84) 93 dX12_ram_84 (by decide) (fun hc2 => ?_) (fun hc2 => ?_)
    · rw [if_neg hc2] at hf
      exact w_X12_ram_93 hX hG hf hk
    · rw [if_pos hc2] at hf
      refine Wp.aload_n (pc := 87) 0 rfl rfl dX12_ram_87 ?_
      refine Wp.iload (pc := 88) 7 rfl dX12_ram_88 ?_
      obtain ⟨m3, h4, hf⟩ := bnd hf
      refine Wp.ptI2 (pc := 90) h4 (hG.t 56 rfl) fk_RX12_402 ff_RX12_11_66 rfl dX12_ram_90 ?_
      exact w_X12_ram_93 hX hG hf hk
theorem wl_X12_ram_74 {X : CX} {T : List Dsc} {R : RM} {c e : Nat} {n1 n2 : Nat} {x1 : Int32} {x2 : Int32} {x3 : Int32} {x4 : Int32} {x5 : Int32} {x6 : Int32} {x7 : Int32} {x8 : Int32} {m : M2} {e1 : ((M2))} (hX : XR X 9 n1 n2) (hG : Geo T R c e) (h : loop (g_X12_ram_74 x1 x2 x3 x4 x5 x6 x7) (x8, m) = some e1) (he : Wp X cX12_ram RX12 9 T (mk e1 R) n1 n2 116 [(0, .ref 56), (1, .int x1), (2, .int x2), (3, .int x3), (4, .int x4), (5, .int x5), (6, .int x6), (7, .int x7)] []) : Wp X cX12_ram RX12 9 T (mk m R) n1 n2 74 [(0, .ref 56), (1, .int x1), (2, .int x2), (3, .int x3), (4, .int x4), (5, .int x5), (6, .int x6), (7, .int x7), (8, .int x8)] [] :=
  loop_ok (K := k_X12_ram_74 X T R n1 n2 x1 x2 x3 x4 x5 x6 x7) (fun s r hf hk => w_X12_ram_74 hX hG hf hk) h he
set_option maxHeartbeats 4000000 in
set_option maxRecDepth 100000 in
theorem w_X12_ram_142 {X : CX} {T : List Dsc} {R : RM} {c e : Nat} {n1 n2 : Nat} {x1 : Int32} {x2 : Int32} {x3 : Int32} {x4 : Int32} {x5 : Int32} {x6 : Int32} {x7 : Int32} {m : M2} {r : ((Int32 × Int32 × Int32 × Int32 × M2) ⊕ ((Int32 × Int32 × Int32 × M2)))} (hX : XR X 9 n1 n2) (hG : Geo T R c e) (hf : f_X12_ram_142 x1 x2 x3 x4 x5 x6 x7 m = some r) (hk : k_X12_ram_58 X T R n1 n2 x1 x2 x6 r) : Wp X cX12_ram RX12 9 T (mk m R) n1 n2 142 [(0, .ref 56), (1, .int x1), (2, .int x2), (3, .int x3), (4, .int x4), (5, .int x5), (6, .int x6), (7, .int x7)] [] := by
  unfold f_X12_ram_142 at hf
  obtain ⟨v1, h2, hf⟩ := bnd hf
  refine Wp.iincN (pc := 142) (lo' := [(0, .ref 56), (1, .int x1), (2, .int x2), (3, .int x3), (4, .int x4), (5, .int x5), (6, .int x6), (7, .int v1)]) (1 : Int32) (by decide) h2 7 rfl [1, 2, 3, 4, 5, 6, 7, 0] rfl (by decide) dX12_ram_142 ?_
  refine Wp.goto (pc := 145) 58 dX12_ram_145 (by decide) ?_
  cases hf
  exact hk
set_option maxHeartbeats 4000000 in
set_option maxRecDepth 100000 in
theorem w_X12_ram_58 {X : CX} {T : List Dsc} {R : RM} {c e : Nat} {n1 n2 : Nat} {x1 : Int32} {x2 : Int32} {x3 : Int32} {x4 : Int32} {x5 : Int32} {x6 : Int32} {x7 : Int32} {m : M2} {r : ((Int32 × Int32 × Int32 × Int32 × M2) ⊕ ((Int32 × Int32 × Int32 × M2)))} (hX : XR X 9 n1 n2) (hG : Geo T R c e) (hf : f_X12_ram_58 x1 x2 x3 x4 x5 x6 x7 m = some r) (hk : k_X12_ram_58 X T R n1 n2 x1 x2 x6 r) : Wp X cX12_ram RX12 9 T (mk m R) n1 n2 58 [(0, .ref 56), (1, .int x1), (2, .int x2), (3, .int x3), (4, .int x4), (5, .int x5), (6, .int x6), (7, .int x7)] [] := by
  unfold f_X12_ram_58 at hf
  refine Wp.iload (pc := 58) 7 rfl dX12_ram_58 ?_
  refine Wp.aload_n (pc := 60) 0 rfl rfl dX12_ram_60 ?_
  obtain ⟨c1, h2, hf⟩ := bnd hf
  refine Wp.callVi (pc := 61) (st := [.int x7]) (as := []) (c_X12_all hG h2) ml_RX12_408 mv_X12_all mb_X12_all hX (Nat.le_of_ble_eq_true rfl) (by decide) rfl (hG.t 56 rfl) rfl (by simp [Value.category]) dX12_ram_61 rfl ?_
  refine Wp.icmp_ge (pc := 64) 148 dX12_ram_64 (by decide) (fun hc3 => ?_) (fun hc3 => ?_)
  · rw [if_pos hc3] at hf
    refine Wp.lo' (lo' := [(0, .ref 56), (1, .int x1), (2, .int x2), (3, .int x3), (4, .int x4), (5, .int x5), (6, .int x6)]) [0, 1, 2, 3, 4, 5, 6] rfl ?_
    cases hf
    exact hk
  · rw [if_neg hc3] at hf
    refine Wp.aload_n (pc := 67) 0 rfl rfl dX12_ram_67 ?_
    obtain ⟨c4, h5, hf⟩ := bnd hf
    refine Wp.callVv (pc := 68) (st := []) (as := []) (c_X12_takes hG h5) ml_RX12_444 mv_X12_takes mb_X12_takes hX (Nat.le_of_ble_eq_true rfl) (by decide) rfl (hG.t 56 rfl) rfl (by simp) dX12_ram_68 rfl ?_
    refine Wp.iconst (pc := 71) (1 : Int32) (by decide) dX12_ram_71 ?_
    refine Wp.istore (pc := 72) (lo' := [(0, .ref 56), (1, .int x1), (2, .int x2), (3, .int x3), (4, .int x4), (5, .int x5), (6, .int x6), (7, .int x7), (8, .int (1 : Int32))]) [1, 2, 3, 4, 5, 6, 7, 8, 0] rfl (by decide) dX12_ram_72 ?_
    obtain ⟨e6, h7, hf⟩ := bnd hf
    refine wl_X12_ram_74 hX hG h7 ?_
    refine Wp.aload_n (pc := 116) 0 rfl rfl dX12_ram_116 ?_
    obtain ⟨c8, h9, hf⟩ := bnd hf
    refine Wp.callVi (pc := 117) (st := []) (as := []) (c_X12_wayNow hG h9) ml_RX12_459 mv_X12_wayNow mb_X12_wayNow hX (Nat.le_of_ble_eq_true rfl) (by decide) rfl (hG.t 56 rfl) rfl (by simp) dX12_ram_117 rfl ?_
    refine Wp.istore (pc := 120) (lo' := [(0, .ref 56), (1, .int x1), (2, .int x2), (3, .int x3), (4, .int x4), (5, .int x5), (6, .int x6), (7, .int x7), (8, .int c8.1)]) [1, 2, 3, 4, 5, 6, 7, 8, 0] rfl (by decide) dX12_ram_120 ?_
    refine Wp.iload (pc := 122) 8 rfl dX12_ram_122 ?_
    refine Wp.iload_n (pc := 124) 3 rfl rfl dX12_ram_124 ?_
    refine Wp.icmp_gt (pc := 125) 131 dX12_ram_125 (by decide) (fun hc10 => ?_) (fun hc10 => ?_)
    · rw [if_pos hc10] at hf
      refine Wp.iload (pc := 131) 8 rfl dX12_ram_131 ?_
      refine Wp.istore_n (pc := 133) (lo' := [(0, .ref 56), (1, .int x1), (2, .int x2), (3, .int c8.1), (6, .int x6), (7, .int x7)]) [1, 2, 3, 0, 6, 7] rfl (by decide) rfl dX12_ram_133 ?_
      refine Wp.iload (pc := 134) 4 rfl dX12_ram_134 ?_
      refine Wp.istore (pc := 136) (lo' := [(0, .ref 56), (1, .int x1), (2, .int x2), (3, .int c8.1), (4, .int x6), (6, .int x6), (7, .int x7)]) [1, 2, 3, 4, 0, 5, 6] rfl (by decide) dX12_ram_136 ?_
      refine Wp.iload (pc := 138) 6 rfl dX12_ram_138 ?_
      refine Wp.istore (pc := 140) (lo' := [(0, .ref 56), (1, .int x1), (2, .int x2), (3, .int c8.1), (4, .int x6), (5, .int x7), (6, .int x6), (7, .int x7)]) [1, 2, 3, 4, 5, 0, 6, 7] rfl (by decide) dX12_ram_140 ?_
      exact w_X12_ram_142 hX hG hf hk
    · rw [if_neg hc10] at hf
      refine Wp.goto (pc := 128) 142 dX12_ram_128 (by decide) ?_
      refine Wp.lo' (lo' := [(0, .ref 56), (1, .int x1), (2, .int x2), (3, .int x3), (4, .int x4), (5, .int x5), (6, .int x6), (7, .int x7)]) [0, 1, 2, 3, 4, 5, 6, 7] rfl ?_
      exact w_X12_ram_142 hX hG hf hk
theorem wl_X12_ram_58 {X : CX} {T : List Dsc} {R : RM} {c e : Nat} {n1 n2 : Nat} {x1 : Int32} {x2 : Int32} {x3 : Int32} {x4 : Int32} {x5 : Int32} {x6 : Int32} {x7 : Int32} {m : M2} {e1 : ((Int32 × Int32 × Int32 × M2))} (hX : XR X 9 n1 n2) (hG : Geo T R c e) (h : loop (g_X12_ram_58 x1 x2 x6) (x3, x4, x5, x7, m) = some e1) (he : Wp X cX12_ram RX12 9 T (mk e1.2.2.2 R) n1 n2 148 [(0, .ref 56), (1, .int x1), (2, .int x2), (3, .int e1.1), (4, .int e1.2.1), (5, .int e1.2.2.1), (6, .int x6)] []) : Wp X cX12_ram RX12 9 T (mk m R) n1 n2 58 [(0, .ref 56), (1, .int x1), (2, .int x2), (3, .int x3), (4, .int x4), (5, .int x5), (6, .int x6), (7, .int x7)] [] :=
  loop_ok (K := k_X12_ram_58 X T R n1 n2 x1 x2 x6) (fun s r hf hk => w_X12_ram_58 hX hG hf hk) h he
set_option maxHeartbeats 4000000 in
set_option maxRecDepth 100000 in
theorem w_X12_ram_50 {X : CX} {T : List Dsc} {R : RM} {c e : Nat} {n1 n2 : Nat} {x1 : Int32} {x2 : Int32} {x3 : Int32} {x4 : Int32} {x5 : Int32} {x6 : Int32} {m : M2} {r : ((Int32 × Int32 × Int32 × Int32 × M2) ⊕ ((Int32 × Int32 × Int32 × M2)))} (hX : XR X 9 n1 n2) (hG : Geo T R c e) (hf : f_X12_ram_50 x1 x2 x3 x4 x5 x6 m = some r) (hk : k_X12_ram_50 X T R n1 n2 x1 x2 r) : Wp X cX12_ram RX12 9 T (mk m R) n1 n2 50 [(0, .ref 56), (1, .int x1), (2, .int x2), (3, .int x3), (4, .int x4), (5, .int x5), (6, .int x6)] [] := by
  unfold f_X12_ram_50 at hf
  refine Wp.iload (pc := 50) 6 rfl dX12_ram_50 ?_
  refine Wp.if_le (pc := 52) 154 dX12_ram_52 (by decide) (fun hc1 => ?_) (fun hc1 => ?_)
  · rw [if_pos hc1] at hf
    refine Wp.lo' (lo' := [(2, .int x2), (3, .int x3), (4, .int x4), (5, .int x5)]) [2, 3, 4, 5] rfl ?_
    cases hf
    exact hk
  · rw [if_neg hc1] at hf
    refine Wp.iconst (pc := 55) (0 : Int32) (by decide) dX12_ram_55 ?_
    refine Wp.istore (pc := 56) (lo' := [(0, .ref 56), (1, .int x1), (2, .int x2), (3, .int x3), (4, .int x4), (5, .int x5), (6, .int x6), (7, .int (0 : Int32))]) [1, 2, 3, 4, 5, 6, 7, 0] rfl (by decide) dX12_ram_56 ?_
    obtain ⟨e2, h3, hf⟩ := bnd hf
    refine wl_X12_ram_58 hX hG h3 ?_
    obtain ⟨v4, h5, hf⟩ := bnd hf
    refine Wp.iincN (pc := 148) (lo' := [(0, .ref 56), (1, .int x1), (2, .int x2), (3, .int e2.1), (4, .int e2.2.1), (5, .int e2.2.2.1), (6, .int v4)]) (-1 : Int32) (by decide) h5 6 rfl [1, 2, 3, 4, 5, 6, 0] rfl (by decide) dX12_ram_148 ?_
    refine Wp.goto (pc := 151) 50 dX12_ram_151 (by decide) ?_
    cases hf
    exact hk
theorem wl_X12_ram_50 {X : CX} {T : List Dsc} {R : RM} {c e : Nat} {n1 n2 : Nat} {x1 : Int32} {x2 : Int32} {x3 : Int32} {x4 : Int32} {x5 : Int32} {x6 : Int32} {m : M2} {e1 : ((Int32 × Int32 × Int32 × M2))} (hX : XR X 9 n1 n2) (hG : Geo T R c e) (h : loop (g_X12_ram_50 x1 x2) (x3, x4, x5, x6, m) = some e1) (he : Wp X cX12_ram RX12 9 T (mk e1.2.2.2 R) n1 n2 154 [(2, .int x2), (3, .int e1.1), (4, .int e1.2.1), (5, .int e1.2.2.1)] []) : Wp X cX12_ram RX12 9 T (mk m R) n1 n2 50 [(0, .ref 56), (1, .int x1), (2, .int x2), (3, .int x3), (4, .int x4), (5, .int x5), (6, .int x6)] [] :=
  loop_ok (K := k_X12_ram_50 X T R n1 n2 x1 x2) (fun s r hf hk => w_X12_ram_50 hX hG hf hk) h he
set_option maxHeartbeats 4000000 in
set_option maxRecDepth 100000 in
theorem w_X12_ram_174 {X : CX} {T : List Dsc} {R : RM} {c e : Nat} {n1 n2 : Nat} {s0 : Int32} {m : M2} {r : (Int32 × M2)} (hX : XR X 9 n1 n2) (hG : Geo T R c e) (hf : f_X12_ram_174 s0 m = some r) (hk : FnI X cX12_ram RX12 9 T n1 n2 (r.1, mk r.2 R)) : Wp X cX12_ram RX12 9 T (mk m R) n1 n2 174 [] [.int s0] := by
  unfold f_X12_ram_174 at hf
  cases hf
  exact hk _ _ dX12_ram_174
set_option maxHeartbeats 4000000 in
set_option maxRecDepth 100000 in
theorem w_X12_ram {X : CX} {T : List Dsc} {R : RM} {c e : Nat} {n1 n2 : Nat} {x1 : Int32} {x2 : Int32} {m : M2} {r : (Int32 × M2)} (hX : XR X 9 n1 n2) (hG : Geo T R c e) (hf : F_X12_ram x1 x2 m = some r) (hk : FnI X cX12_ram RX12 9 T n1 n2 (r.1, mk r.2 R)) : Wp X cX12_ram RX12 9 T (mk m R) n1 n2 0 [(0, .ref 56), (1, .int x1), (2, .int x2)] [] := by
  unfold F_X12_ram at hf
  refine Wp.iload_n (pc := 0) 1 rfl rfl dX12_ram_0 ?_
  refine Wp.iconst (pc := 1) (1 : Int32) (by decide) dX12_ram_1 ?_
  refine Wp.bipush (pc := 2) (60 : Int32) (by decide) dX12_ram_2 ?_
  obtain ⟨c1, h2, hf⟩ := bnd hf
  refine Wp.callSi (pc := 4) (st := []) (as := [.int x1, .int (1 : Int32), .int (60 : Int32)]) (c_X12_in hG h2) ml_RX12_414 ms_X12_in mb_X12_in hX (Nat.le_of_ble_eq_true rfl) (by decide) rfl (by simp) dX12_ram_4 rfl ?_
  refine Wp.if_eq (pc := 7) 26 dX12_ram_7 (by decide) (fun hc3 => ?_) (fun hc3 => ?_)
  · rw [if_pos hc3] at hf
    refine Wp.lo' (lo' := []) [] rfl ?_
    exact w_X12_ram_26 hX hG hf hk
  · rw [if_neg hc3] at hf
    refine Wp.iload_n (pc := 10) 2 rfl rfl dX12_ram_10 ?_
    refine Wp.iconst (pc := 11) (0 : Int32) (by decide) dX12_ram_11 ?_
    refine Wp.iconst (pc := 12) (2 : Int32) (by decide) dX12_ram_12 ?_
    obtain ⟨c4, h5, hf⟩ := bnd hf
    refine Wp.callSi (pc := 13) (st := []) (as := [.int x2, .int (0 : Int32), .int (2 : Int32)]) (c_X12_in hG h5) ml_RX12_414 ms_X12_in mb_X12_in hX (Nat.le_of_ble_eq_true rfl) (by decide) rfl (by simp) dX12_ram_13 rfl ?_
    refine Wp.if_eq (pc := 16) 26 dX12_ram_16 (by decide) (fun hc6 => ?_) (fun hc6 => ?_)
    · rw [if_pos hc6] at hf
      refine Wp.lo' (lo' := []) [] rfl ?_
      exact w_X12_ram_26 hX hG hf hk
    · rw [if_neg hc6] at hf
      refine Wp.aload_n (pc := 19) 0 rfl rfl dX12_ram_19 ?_
      obtain ⟨c7, h8, hf⟩ := bnd hf
      refine Wp.callVi (pc := 20) (st := []) (as := []) (c_X12_menNow hG h8) ml_RX12_390 mv_X12_menNow mb_X12_menNow hX (Nat.le_of_ble_eq_true rfl) (by decide) rfl (hG.t 56 rfl) rfl (by simp) dX12_ram_20 rfl ?_
      refine Wp.if_ne (pc := 23) 28 dX12_ram_23 (by decide) (fun hc9 => ?_) (fun hc9 => ?_)
      · rw [if_neg hc9] at hf
        refine Wp.aload_n (pc := 28) 0 rfl rfl dX12_ram_28 ?_
        refine Wp.getI2 (pc := 29) (hG.t 56 rfl) fk_RX12_209 rfl dX12_ram_29 ?_
        refine Wp.iconst (pc := 32) (-1 : Int32) (by decide) dX12_ram_32 ?_
        refine Wp.icmp_ne (pc := 33) 39 dX12_ram_33 (by decide) (fun hc10 => ?_) (fun hc10 => ?_)
        · rw [if_neg hc10] at hf
          refine Wp.iconst (pc := 39) (-1 : Int32) (by decide) dX12_ram_39 ?_
          refine Wp.istore_n (pc := 40) (lo' := [(0, .ref 56), (1, .int x1), (2, .int x2), (3, .int (-1 : Int32))]) [1, 2, 3, 0] rfl (by decide) rfl dX12_ram_40 ?_
          refine Wp.iconst (pc := 41) (0 : Int32) (by decide) dX12_ram_41 ?_
          refine Wp.istore (pc := 42) (lo' := [(0, .ref 56), (1, .int x1), (2, .int x2), (3, .int (-1 : Int32)), (4, .int (0 : Int32))]) [1, 2, 3, 4, 0] rfl (by decide) dX12_ram_42 ?_
          refine Wp.iconst (pc := 44) (0 : Int32) (by decide) dX12_ram_44 ?_
          refine Wp.istore (pc := 45) (lo' := [(0, .ref 56), (1, .int x1), (2, .int x2), (3, .int (-1 : Int32)), (4, .int (0 : Int32)), (5, .int (0 : Int32))]) [1, 2, 3, 4, 5, 0] rfl (by decide) dX12_ram_45 ?_
          refine Wp.iload_n (pc := 47) 1 rfl rfl dX12_ram_47 ?_
          refine Wp.istore (pc := 48) (lo' := [(0, .ref 56), (1, .int x1), (2, .int x2), (3, .int (-1 : Int32)), (4, .int (0 : Int32)), (5, .int (0 : Int32)), (6, .int x1)]) [1, 2, 3, 4, 5, 6, 0] rfl (by decide) dX12_ram_48 ?_
          obtain ⟨e11, h12, hf⟩ := bnd hf
          refine wl_X12_ram_50 hX hG h12 ?_
          refine Wp.iload_n (pc := 154) 0 rfl rfl dX12_ram_154 ?_
          refine Wp.if_ne (pc := 155) 162 dX12_ram_155 (by decide) (fun hc13 => ?_) (fun hc13 => ?_)
          · rw [if_neg hc13] at hf
            refine Wp.iload_n (pc := 162) 0 rfl rfl dX12_ram_162 ?_
            refine Wp.iconst (pc := 163) (1 : Int32) (by decide) dX12_ram_163 ?_
            refine Wp.icmp_ne (pc := 164) 172 dX12_ram_164 (by decide) (fun hc14 => ?_) (fun hc14 => ?_)
            · rw [if_neg hc14] at hf
              refine Wp.iload (pc := 172) 3 rfl dX12_ram_172 ?_
              refine Wp.lo' (lo' := []) [] rfl ?_
              exact w_X12_ram_174 hX hG hf hk
            · rw [if_pos hc14] at hf
              refine Wp.iload (pc := 167) 2 rfl dX12_ram_167 ?_
              refine Wp.goto (pc := 169) 174 dX12_ram_169 (by decide) ?_
              refine Wp.lo' (lo' := []) [] rfl ?_
              exact w_X12_ram_174 hX hG hf hk
          · rw [if_pos hc13] at hf
            refine Wp.iload_n (pc := 158) 1 rfl rfl dX12_ram_158 ?_
            refine Wp.goto (pc := 159) 174 dX12_ram_159 (by decide) ?_
            refine Wp.lo' (lo' := []) [] rfl ?_
            exact w_X12_ram_174 hX hG hf hk
        · rw [if_pos hc10] at hf
          refine Wp.bipush (pc := 36) (-2 : Int32) (by decide) dX12_ram_36 ?_
          cases hf
          exact hk _ _ dX12_ram_38
      · rw [if_pos hc9] at hf
        refine Wp.lo' (lo' := []) [] rfl ?_
        exact w_X12_ram_26 hX hG hf hk
theorem c_X12_ram {T : List Dsc} {R : RM} {c e : Nat} {x1 : Int32} {x2 : Int32} {m : M2} {r : (Int32 × M2)} (hG : Geo T R c e) (hf : F_X12_ram x1 x2 m = some r) : Ct 9 yX12_ram cX12_ram 9 (some .int) T (mk m R) [.ref 56, .int x1, .int x2] (some (.int r.1)) (mk r.2 R) := Ct.ofI (r := (r.1, mk r.2 R)) (by decide +kernel) (Nat.le_of_ble_eq_true rfl) (fun X hX hk => w_X12_ram hX hG hf hk)
theorem dX12_odds_0 : decode cX12_odds 0 = .ok (.iload_n 1, 1) := by decide +kernel
theorem dX12_odds_1 : decode cX12_odds 1 = .ok (.iconst 1, 1) := by decide +kernel
theorem dX12_odds_2 : decode cX12_odds 2 = .ok (.bipush 10, 2) := by decide +kernel
theorem dX12_odds_4 : decode cX12_odds 4 = .ok (.invokestatic 414, 3) := by decide +kernel
theorem dX12_odds_7 : decode cX12_odds 7 = .ok (.ifCond .eq 29, 3) := by decide +kernel
theorem dX12_odds_10 : decode cX12_odds 10 = .ok (.iload_n 3, 1) := by decide +kernel
theorem dX12_odds_11 : decode cX12_odds 11 = .ok (.iconst 1, 1) := by decide +kernel
theorem dX12_odds_12 : decode cX12_odds 12 = .ok (.bipush 9, 2) := by decide +kernel
theorem dX12_odds_14 : decode cX12_odds 14 = .ok (.invokestatic 414, 3) := by decide +kernel
theorem dX12_odds_17 : decode cX12_odds 17 = .ok (.ifCond .eq 19, 3) := by decide +kernel
theorem dX12_odds_20 : decode cX12_odds 20 = .ok (.iload_n 2, 1) := by decide +kernel
theorem dX12_odds_21 : decode cX12_odds 21 = .ok (.iconst 0, 1) := by decide +kernel
theorem dX12_odds_22 : decode cX12_odds 22 = .ok (.iload_n 3, 1) := by decide +kernel
theorem dX12_odds_23 : decode cX12_odds 23 = .ok (.invokestatic 414, 3) := by decide +kernel
theorem dX12_odds_26 : decode cX12_odds 26 = .ok (.ifCond .eq 10, 3) := by decide +kernel
theorem dX12_odds_29 : decode cX12_odds 29 = .ok (.aload_n 0, 1) := by decide +kernel
theorem dX12_odds_30 : decode cX12_odds 30 = .ok (.invokevirtual 390, 3) := by decide +kernel
theorem dX12_odds_33 : decode cX12_odds 33 = .ok (.ifCond .ne 7, 3) := by decide +kernel
theorem dX12_odds_36 : decode cX12_odds 36 = .ok (.ldc2_w 501, 3) := by decide +kernel
theorem dX12_odds_39 : decode cX12_odds 39 = .ok (.lreturn, 1) := by decide +kernel
theorem dX12_odds_40 : decode cX12_odds 40 = .ok (.lconst 0, 1) := by decide +kernel
theorem dX12_odds_41 : decode cX12_odds 41 = .ok (.lstore 4, 2) := by decide +kernel
theorem dX12_odds_43 : decode cX12_odds 43 = .ok (.iconst 0, 1) := by decide +kernel
theorem dX12_odds_44 : decode cX12_odds 44 = .ok (.istore 6, 2) := by decide +kernel
theorem dX12_odds_46 : decode cX12_odds 46 = .ok (.iload 6, 2) := by decide +kernel
theorem dX12_odds_48 : decode cX12_odds 48 = .ok (.iconst 1, 1) := by decide +kernel
theorem dX12_odds_49 : decode cX12_odds 49 = .ok (.iload_n 1, 1) := by decide +kernel
theorem dX12_odds_50 : decode cX12_odds 50 = .ok (.ishl, 1) := by decide +kernel
theorem dX12_odds_51 : decode cX12_odds 51 = .ok (.if_icmp .ge 87, 3) := by decide +kernel
theorem dX12_odds_54 : decode cX12_odds 54 = .ok (.aload_n 0, 1) := by decide +kernel
theorem dX12_odds_55 : decode cX12_odds 55 = .ok (.invokevirtual 444, 3) := by decide +kernel
theorem dX12_odds_58 : decode cX12_odds 58 = .ok (.lconst 1, 1) := by decide +kernel
theorem dX12_odds_59 : decode cX12_odds 59 = .ok (.lstore 7, 2) := by decide +kernel
theorem dX12_odds_61 : decode cX12_odds 61 = .ok (.iconst 0, 1) := by decide +kernel
theorem dX12_odds_62 : decode cX12_odds 62 = .ok (.istore 9, 2) := by decide +kernel
theorem dX12_odds_64 : decode cX12_odds 64 = .ok (.iload 9, 2) := by decide +kernel
theorem dX12_odds_66 : decode cX12_odds 66 = .ok (.iload_n 1, 1) := by decide +kernel
theorem dX12_odds_67 : decode cX12_odds 67 = .ok (.if_icmp .ge 52, 3) := by decide +kernel
theorem dX12_odds_70 : decode cX12_odds 70 = .ok (.iload 6, 2) := by decide +kernel
theorem dX12_odds_72 : decode cX12_odds 72 = .ok (.iload 9, 2) := by decide +kernel
theorem dX12_odds_74 : decode cX12_odds 74 = .ok (.ishr, 1) := by decide +kernel
theorem dX12_odds_75 : decode cX12_odds 75 = .ok (.iconst 1, 1) := by decide +kernel
theorem dX12_odds_76 : decode cX12_odds 76 = .ok (.iand, 1) := by decide +kernel
theorem dX12_odds_77 : decode cX12_odds 77 = .ok (.iconst 1, 1) := by decide +kernel
theorem dX12_odds_78 : decode cX12_odds 78 = .ok (.if_icmp .ne 7, 3) := by decide +kernel
theorem dX12_odds_81 : decode cX12_odds 81 = .ok (.iconst 1, 1) := by decide +kernel
theorem dX12_odds_82 : decode cX12_odds 82 = .ok (.goto 4, 3) := by decide +kernel
theorem dX12_odds_85 : decode cX12_odds 85 = .ok (.iconst 0, 1) := by decide +kernel
theorem dX12_odds_86 : decode cX12_odds 86 = .ok (.istore 10, 2) := by decide +kernel
theorem dX12_odds_88 : decode cX12_odds 88 = .ok (.lload 7, 2) := by decide +kernel
theorem dX12_odds_90 : decode cX12_odds 90 = .ok (.iload 10, 2) := by decide +kernel
theorem dX12_odds_92 : decode cX12_odds 92 = .ok (.ifCond .eq 8, 3) := by decide +kernel
theorem dX12_odds_95 : decode cX12_odds 95 = .ok (.iload_n 2, 1) := by decide +kernel
theorem dX12_odds_96 : decode cX12_odds 96 = .ok (.i2l, 1) := by decide +kernel
theorem dX12_odds_97 : decode cX12_odds 97 = .ok (.goto 7, 3) := by decide +kernel
theorem dX12_odds_100 : decode cX12_odds 100 = .ok (.iload_n 3, 1) := by decide +kernel
theorem dX12_odds_101 : decode cX12_odds 101 = .ok (.iload_n 2, 1) := by decide +kernel
theorem dX12_odds_102 : decode cX12_odds 102 = .ok (.isub, 1) := by decide +kernel
theorem dX12_odds_103 : decode cX12_odds 103 = .ok (.i2l, 1) := by decide +kernel
theorem dX12_odds_104 : decode cX12_odds 104 = .ok (.lmul, 1) := by decide +kernel
theorem dX12_odds_105 : decode cX12_odds 105 = .ok (.lstore 7, 2) := by decide +kernel
theorem dX12_odds_107 : decode cX12_odds 107 = .ok (.aload_n 0, 1) := by decide +kernel
theorem dX12_odds_108 : decode cX12_odds 108 = .ok (.iload 10, 2) := by decide +kernel
theorem dX12_odds_110 : decode cX12_odds 110 = .ok (.invokevirtual 450, 3) := by decide +kernel
theorem dX12_odds_113 : decode cX12_odds 113 = .ok (.iinc 9 1, 3) := by decide +kernel
theorem dX12_odds_116 : decode cX12_odds 116 = .ok (.goto (-52), 3) := by decide +kernel
theorem dX12_odds_119 : decode cX12_odds 119 = .ok (.lload 4, 2) := by decide +kernel
theorem dX12_odds_121 : decode cX12_odds 121 = .ok (.lload 7, 2) := by decide +kernel
theorem dX12_odds_123 : decode cX12_odds 123 = .ok (.aload_n 0, 1) := by decide +kernel
theorem dX12_odds_124 : decode cX12_odds 124 = .ok (.invokevirtual 459, 3) := by decide +kernel
theorem dX12_odds_127 : decode cX12_odds 127 = .ok (.i2l, 1) := by decide +kernel
theorem dX12_odds_128 : decode cX12_odds 128 = .ok (.lmul, 1) := by decide +kernel
theorem dX12_odds_129 : decode cX12_odds 129 = .ok (.ladd, 1) := by decide +kernel
theorem dX12_odds_130 : decode cX12_odds 130 = .ok (.lstore 4, 2) := by decide +kernel
theorem dX12_odds_132 : decode cX12_odds 132 = .ok (.iinc 6 1, 3) := by decide +kernel
theorem dX12_odds_135 : decode cX12_odds 135 = .ok (.goto (-89), 3) := by decide +kernel
theorem dX12_odds_138 : decode cX12_odds 138 = .ok (.lload 4, 2) := by decide +kernel
theorem dX12_odds_140 : decode cX12_odds 140 = .ok (.lreturn, 1) := by decide +kernel
def k_X12_odds_64 (X : CX) (T : List Dsc) (R : RM) (n1 n2 : Nat) (x1 : Int32) (x2 : Int32) (x3 : Int32) (x4 : Int64) (x6 : Int32) (r : ((Int64 × Int32 × M2) ⊕ ((Int64 × M2)))) : Prop := match r with
  | .inl s => Wp X cX12_odds RX12 11 T (mk s.2.2 R) n1 n2 64 [(0, .ref 56), (1, .int x1), (2, .int x2), (3, .int x3), (4, .long x4), (6, .int x6), (7, .long s.1), (9, .int s.2.1)] []
  | .inr e => Wp X cX12_odds RX12 11 T (mk e.2 R) n1 n2 119 [(0, .ref 56), (1, .int x1), (2, .int x2), (3, .int x3), (4, .long x4), (6, .int x6), (7, .long e.1)] []
def k_X12_odds_46 (X : CX) (T : List Dsc) (R : RM) (n1 n2 : Nat) (x1 : Int32) (x2 : Int32) (x3 : Int32) (r : ((Int64 × Int32 × M2) ⊕ ((Int64 × M2)))) : Prop := match r with
  | .inl s => Wp X cX12_odds RX12 11 T (mk s.2.2 R) n1 n2 46 [(0, .ref 56), (1, .int x1), (2, .int x2), (3, .int x3), (4, .long s.1), (6, .int s.2.1)] []
  | .inr e => Wp X cX12_odds RX12 11 T (mk e.2 R) n1 n2 138 [(4, .long e.1)] []
set_option maxHeartbeats 4000000 in
set_option maxRecDepth 100000 in
theorem w_X12_odds_36 {X : CX} {T : List Dsc} {R : RM} {c e : Nat} {n1 n2 : Nat} {m : M2} {r : (Int64 × M2)} (hX : XR X 9 n1 n2) (hG : Geo T R c e) (hf : f_X12_odds_36 m = some r) (hk : FnJ X cX12_odds RX12 11 T n1 n2 (r.1, mk r.2 R)) : Wp X cX12_odds RX12 11 T (mk m R) n1 n2 36 [] [] := by
  unfold f_X12_odds_36 at hf
  refine Wp.ldc2 (pc := 36) (v := (-1 : Int64)) (gw_tb 1661 (by decide +kernel) rfl) dX12_odds_36 ?_
  cases hf
  exact hk _ _ dX12_odds_39
set_option maxHeartbeats 4000000 in
set_option maxRecDepth 100000 in
theorem w_X12_odds_104 {X : CX} {T : List Dsc} {R : RM} {c e : Nat} {n1 n2 : Nat} {x1 : Int32} {x2 : Int32} {x3 : Int32} {x4 : Int64} {x6 : Int32} {x9 : Int32} {x10 : Int32} {s0 : Int64} {s1 : Int64} {m : M2} {r : ((Int64 × Int32 × M2) ⊕ ((Int64 × M2)))} (hX : XR X 9 n1 n2) (hG : Geo T R c e) (hf : f_X12_odds_104 x1 x2 x3 x4 x6 x9 x10 s0 s1 m = some r) (hk : k_X12_odds_64 X T R n1 n2 x1 x2 x3 x4 x6 r) : Wp X cX12_odds RX12 11 T (mk m R) n1 n2 104 [(0, .ref 56), (1, .int x1), (2, .int x2), (3, .int x3), (4, .long x4), (6, .int x6), (9, .int x9), (10, .int x10)] [.long s1, .long s0] := by
  unfold f_X12_odds_104 at hf
  refine Wp.lmul (pc := 104) dX12_odds_104 ?_
  obtain ⟨v1, h2, hf⟩ := bnd hf
  refine Wp.nJ' h2 ?_
  refine Wp.lstore (pc := 105) (lo' := [(0, .ref 56), (1, .int x1), (2, .int x2), (3, .int x3), (4, .long x4), (6, .int x6), (7, .long v1), (9, .int x9), (10, .int x10)]) [1, 2, 3, 4, 5, 6, 0, 7, 8] rfl (by decide) dX12_odds_105 ?_
  refine Wp.aload_n (pc := 107) 0 rfl rfl dX12_odds_107 ?_
  refine Wp.iload (pc := 108) 8 rfl dX12_odds_108 ?_
  obtain ⟨c3, h4, hf⟩ := bnd hf
  refine Wp.callVv (pc := 110) (st := []) (as := [.int x10]) (c_X12_strikes hG h4) ml_RX12_450 mv_X12_strikes mb_X12_strikes hX (Nat.le_of_ble_eq_true rfl) (by decide) rfl (hG.t 56 rfl) rfl (by simp) dX12_odds_110 rfl ?_
  obtain ⟨v5, h6, hf⟩ := bnd hf
  refine Wp.iincN (pc := 113) (lo' := [(0, .ref 56), (1, .int x1), (2, .int x2), (3, .int x3), (4, .long x4), (6, .int x6), (7, .long v1), (9, .int v5)]) (1 : Int32) (by decide) h6 7 rfl [1, 2, 3, 4, 5, 6, 7, 0] rfl (by decide) dX12_odds_113 ?_
  refine Wp.goto (pc := 116) 64 dX12_odds_116 (by decide) ?_
  cases hf
  exact hk
set_option maxHeartbeats 4000000 in
set_option maxRecDepth 100000 in
theorem w_X12_odds_86 {X : CX} {T : List Dsc} {R : RM} {c e : Nat} {n1 n2 : Nat} {x1 : Int32} {x2 : Int32} {x3 : Int32} {x4 : Int64} {x6 : Int32} {x7 : Int64} {x9 : Int32} {s0 : Int32} {m : M2} {r : ((Int64 × Int32 × M2) ⊕ ((Int64 × M2)))} (hX : XR X 9 n1 n2) (hG : Geo T R c e) (hf : f_X12_odds_86 x1 x2 x3 x4 x6 x7 x9 s0 m = some r) (hk : k_X12_odds_64 X T R n1 n2 x1 x2 x3 x4 x6 r) : Wp X cX12_odds RX12 11 T (mk m R) n1 n2 86 [(0, .ref 56), (1, .int x1), (2, .int x2), (3, .int x3), (4, .long x4), (6, .int x6), (7, .long x7), (9, .int x9)] [.int s0] := by
  unfold f_X12_odds_86 at hf
  refine Wp.istore (pc := 86) (lo' := [(0, .ref 56), (1, .int x1), (2, .int x2), (3, .int x3), (4, .long x4), (6, .int x6), (7, .long x7), (9, .int x9), (10, .int s0)]) [1, 2, 3, 4, 5, 6, 7, 8, 0] rfl (by decide) dX12_odds_86 ?_
  refine Wp.lload (pc := 88) 6 rfl dX12_odds_88 ?_
  refine Wp.iload (pc := 90) 8 rfl dX12_odds_90 ?_
  refine Wp.if_eq (pc := 92) 100 dX12_odds_92 (by decide) (fun hc1 => ?_) (fun hc1 => ?_)
  · rw [if_pos hc1] at hf
    refine Wp.iload_n (pc := 100) 3 rfl rfl dX12_odds_100 ?_
    refine Wp.iload_n (pc := 101) 2 rfl rfl dX12_odds_101 ?_
    refine Wp.isub (pc := 102) dX12_odds_102 ?_
    refine Wp.i2l (pc := 103) dX12_odds_103 ?_
    refine Wp.lo' (lo' := [(0, .ref 56), (1, .int x1), (2, .int x2), (3, .int x3), (4, .long x4), (6, .int x6), (9, .int x9), (10, .int s0)]) [0, 1, 2, 3, 4, 5, 7, 8] rfl ?_
    exact w_X12_odds_104 hX hG hf hk
  · rw [if_neg hc1] at hf
    refine Wp.iload_n (pc := 95) 2 rfl rfl dX12_odds_95 ?_
    refine Wp.i2l (pc := 96) dX12_odds_96 ?_
    refine Wp.goto (pc := 97) 104 dX12_odds_97 (by decide) ?_
    refine Wp.lo' (lo' := [(0, .ref 56), (1, .int x1), (2, .int x2), (3, .int x3), (4, .long x4), (6, .int x6), (9, .int x9), (10, .int s0)]) [0, 1, 2, 3, 4, 5, 7, 8] rfl ?_
    exact w_X12_odds_104 hX hG hf hk
set_option maxHeartbeats 4000000 in
set_option maxRecDepth 100000 in
theorem w_X12_odds_64 {X : CX} {T : List Dsc} {R : RM} {c e : Nat} {n1 n2 : Nat} {x1 : Int32} {x2 : Int32} {x3 : Int32} {x4 : Int64} {x6 : Int32} {x7 : Int64} {x9 : Int32} {m : M2} {r : ((Int64 × Int32 × M2) ⊕ ((Int64 × M2)))} (hX : XR X 9 n1 n2) (hG : Geo T R c e) (hf : f_X12_odds_64 x1 x2 x3 x4 x6 x7 x9 m = some r) (hk : k_X12_odds_64 X T R n1 n2 x1 x2 x3 x4 x6 r) : Wp X cX12_odds RX12 11 T (mk m R) n1 n2 64 [(0, .ref 56), (1, .int x1), (2, .int x2), (3, .int x3), (4, .long x4), (6, .int x6), (7, .long x7), (9, .int x9)] [] := by
  unfold f_X12_odds_64 at hf
  refine Wp.iload (pc := 64) 7 rfl dX12_odds_64 ?_
  refine Wp.iload_n (pc := 66) 1 rfl rfl dX12_odds_66 ?_
  refine Wp.icmp_ge (pc := 67) 119 dX12_odds_67 (by decide) (fun hc1 => ?_) (fun hc1 => ?_)
  · rw [if_pos hc1] at hf
    refine Wp.lo' (lo' := [(0, .ref 56), (1, .int x1), (2, .int x2), (3, .int x3), (4, .long x4), (6, .int x6), (7, .long x7)]) [0, 1, 2, 3, 4, 5, 6] rfl ?_
    cases hf
    exact hk
  · rw [if_neg hc1] at hf
    refine Wp.iload (pc := 70) 5 rfl dX12_odds_70 ?_
    refine Wp.iload (pc := 72) 7 rfl dX12_odds_72 ?_
    refine Wp.ishr (pc := 74) dX12_odds_74 ?_
    refine Wp.iconst (pc := 75) (1 : Int32) (by decide) dX12_odds_75 ?_
    refine Wp.iand (pc := 76) dX12_odds_76 ?_
    refine Wp.iconst (pc := 77) (1 : Int32) (by decide) dX12_odds_77 ?_
    refine Wp.icmp_ne (pc := 78) 85 dX12_odds_78 (by decide) (fun hc2 => ?_) (fun hc2 => ?_)
    · rw [if_neg hc2] at hf
      refine Wp.iconst (pc := 85) (0 : Int32) (by decide) dX12_odds_85 ?_
      exact w_X12_odds_86 hX hG hf hk
    · rw [if_pos hc2] at hf
      refine Wp.iconst (pc := 81) (1 : Int32) (by decide) dX12_odds_81 ?_
      refine Wp.goto (pc := 82) 86 dX12_odds_82 (by decide) ?_
      exact w_X12_odds_86 hX hG hf hk
theorem wl_X12_odds_64 {X : CX} {T : List Dsc} {R : RM} {c e : Nat} {n1 n2 : Nat} {x1 : Int32} {x2 : Int32} {x3 : Int32} {x4 : Int64} {x6 : Int32} {x7 : Int64} {x9 : Int32} {m : M2} {e1 : ((Int64 × M2))} (hX : XR X 9 n1 n2) (hG : Geo T R c e) (h : loop (g_X12_odds_64 x1 x2 x3 x4 x6) (x7, x9, m) = some e1) (he : Wp X cX12_odds RX12 11 T (mk e1.2 R) n1 n2 119 [(0, .ref 56), (1, .int x1), (2, .int x2), (3, .int x3), (4, .long x4), (6, .int x6), (7, .long e1.1)] []) : Wp X cX12_odds RX12 11 T (mk m R) n1 n2 64 [(0, .ref 56), (1, .int x1), (2, .int x2), (3, .int x3), (4, .long x4), (6, .int x6), (7, .long x7), (9, .int x9)] [] :=
  loop_ok (K := k_X12_odds_64 X T R n1 n2 x1 x2 x3 x4 x6) (fun s r hf hk => w_X12_odds_64 hX hG hf hk) h he
set_option maxHeartbeats 4000000 in
set_option maxRecDepth 100000 in
theorem w_X12_odds_46 {X : CX} {T : List Dsc} {R : RM} {c e : Nat} {n1 n2 : Nat} {x1 : Int32} {x2 : Int32} {x3 : Int32} {x4 : Int64} {x6 : Int32} {m : M2} {r : ((Int64 × Int32 × M2) ⊕ ((Int64 × M2)))} (hX : XR X 9 n1 n2) (hG : Geo T R c e) (hf : f_X12_odds_46 x1 x2 x3 x4 x6 m = some r) (hk : k_X12_odds_46 X T R n1 n2 x1 x2 x3 r) : Wp X cX12_odds RX12 11 T (mk m R) n1 n2 46 [(0, .ref 56), (1, .int x1), (2, .int x2), (3, .int x3), (4, .long x4), (6, .int x6)] [] := by
  unfold f_X12_odds_46 at hf
  refine Wp.iload (pc := 46) 5 rfl dX12_odds_46 ?_
  refine Wp.iconst (pc := 48) (1 : Int32) (by decide) dX12_odds_48 ?_
  refine Wp.iload_n (pc := 49) 1 rfl rfl dX12_odds_49 ?_
  refine Wp.ishl (pc := 50) dX12_odds_50 ?_
  refine Wp.icmp_ge (pc := 51) 138 dX12_odds_51 (by decide) (fun hc1 => ?_) (fun hc1 => ?_)
  · rw [if_pos hc1] at hf
    refine Wp.lo' (lo' := [(4, .long x4)]) [4] rfl ?_
    cases hf
    exact hk
  · rw [if_neg hc1] at hf
    refine Wp.aload_n (pc := 54) 0 rfl rfl dX12_odds_54 ?_
    obtain ⟨c2, h3, hf⟩ := bnd hf
    refine Wp.callVv (pc := 55) (st := []) (as := []) (c_X12_takes hG h3) ml_RX12_444 mv_X12_takes mb_X12_takes hX (Nat.le_of_ble_eq_true rfl) (by decide) rfl (hG.t 56 rfl) rfl (by simp) dX12_odds_55 rfl ?_
    refine Wp.lconst (pc := 58) (1 : Int64) (by decide) dX12_odds_58 ?_
    refine Wp.lstore (pc := 59) (lo' := [(0, .ref 56), (1, .int x1), (2, .int x2), (3, .int x3), (4, .long x4), (6, .int x6), (7, .long (1 : Int64))]) [1, 2, 3, 4, 5, 6, 0] rfl (by decide) dX12_odds_59 ?_
    refine Wp.iconst (pc := 61) (0 : Int32) (by decide) dX12_odds_61 ?_
    refine Wp.istore (pc := 62) (lo' := [(0, .ref 56), (1, .int x1), (2, .int x2), (3, .int x3), (4, .long x4), (6, .int x6), (7, .long (1 : Int64)), (9, .int (0 : Int32))]) [1, 2, 3, 4, 5, 6, 7, 0] rfl (by decide) dX12_odds_62 ?_
    obtain ⟨e4, h5, hf⟩ := bnd hf
    refine wl_X12_odds_64 hX hG h5 ?_
    refine Wp.lload (pc := 119) 4 rfl dX12_odds_119 ?_
    refine Wp.lload (pc := 121) 6 rfl dX12_odds_121 ?_
    refine Wp.aload_n (pc := 123) 0 rfl rfl dX12_odds_123 ?_
    obtain ⟨c6, h7, hf⟩ := bnd hf
    refine Wp.callVi (pc := 124) (st := [.long e4.1, .long x4]) (as := []) (c_X12_wayNow hG h7) ml_RX12_459 mv_X12_wayNow mb_X12_wayNow hX (Nat.le_of_ble_eq_true rfl) (by decide) rfl (hG.t 56 rfl) rfl (by simp [Value.category]) dX12_odds_124 rfl ?_
    refine Wp.i2l (pc := 127) dX12_odds_127 ?_
    refine Wp.lmul (pc := 128) dX12_odds_128 ?_
    refine Wp.ladd (pc := 129) dX12_odds_129 ?_
    obtain ⟨v8, h9, hf⟩ := bnd hf
    refine Wp.nJ' h9 ?_
    refine Wp.lstore (pc := 130) (lo' := [(0, .ref 56), (1, .int x1), (2, .int x2), (3, .int x3), (4, .long v8), (6, .int x6)]) [1, 2, 3, 4, 0, 5] rfl (by decide) dX12_odds_130 ?_
    obtain ⟨v10, h11, hf⟩ := bnd hf
    refine Wp.iincN (pc := 132) (lo' := [(0, .ref 56), (1, .int x1), (2, .int x2), (3, .int x3), (4, .long v8), (6, .int v10)]) (1 : Int32) (by decide) h11 5 rfl [1, 2, 3, 4, 5, 0] rfl (by decide) dX12_odds_132 ?_
    refine Wp.goto (pc := 135) 46 dX12_odds_135 (by decide) ?_
    cases hf
    exact hk
theorem wl_X12_odds_46 {X : CX} {T : List Dsc} {R : RM} {c e : Nat} {n1 n2 : Nat} {x1 : Int32} {x2 : Int32} {x3 : Int32} {x4 : Int64} {x6 : Int32} {m : M2} {e1 : ((Int64 × M2))} (hX : XR X 9 n1 n2) (hG : Geo T R c e) (h : loop (g_X12_odds_46 x1 x2 x3) (x4, x6, m) = some e1) (he : Wp X cX12_odds RX12 11 T (mk e1.2 R) n1 n2 138 [(4, .long e1.1)] []) : Wp X cX12_odds RX12 11 T (mk m R) n1 n2 46 [(0, .ref 56), (1, .int x1), (2, .int x2), (3, .int x3), (4, .long x4), (6, .int x6)] [] :=
  loop_ok (K := k_X12_odds_46 X T R n1 n2 x1 x2 x3) (fun s r hf hk => w_X12_odds_46 hX hG hf hk) h he
set_option maxHeartbeats 4000000 in
set_option maxRecDepth 100000 in
theorem w_X12_odds {X : CX} {T : List Dsc} {R : RM} {c e : Nat} {n1 n2 : Nat} {x1 : Int32} {x2 : Int32} {x3 : Int32} {m : M2} {r : (Int64 × M2)} (hX : XR X 9 n1 n2) (hG : Geo T R c e) (hf : F_X12_odds x1 x2 x3 m = some r) (hk : FnJ X cX12_odds RX12 11 T n1 n2 (r.1, mk r.2 R)) : Wp X cX12_odds RX12 11 T (mk m R) n1 n2 0 [(0, .ref 56), (1, .int x1), (2, .int x2), (3, .int x3)] [] := by
  unfold F_X12_odds at hf
  refine Wp.iload_n (pc := 0) 1 rfl rfl dX12_odds_0 ?_
  refine Wp.iconst (pc := 1) (1 : Int32) (by decide) dX12_odds_1 ?_
  refine Wp.bipush (pc := 2) (10 : Int32) (by decide) dX12_odds_2 ?_
  obtain ⟨c1, h2, hf⟩ := bnd hf
  refine Wp.callSi (pc := 4) (st := []) (as := [.int x1, .int (1 : Int32), .int (10 : Int32)]) (c_X12_in hG h2) ml_RX12_414 ms_X12_in mb_X12_in hX (Nat.le_of_ble_eq_true rfl) (by decide) rfl (by simp) dX12_odds_4 rfl ?_
  refine Wp.if_eq (pc := 7) 36 dX12_odds_7 (by decide) (fun hc3 => ?_) (fun hc3 => ?_)
  · rw [if_pos hc3] at hf
    refine Wp.lo' (lo' := []) [] rfl ?_
    exact w_X12_odds_36 hX hG hf hk
  · rw [if_neg hc3] at hf
    refine Wp.iload_n (pc := 10) 3 rfl rfl dX12_odds_10 ?_
    refine Wp.iconst (pc := 11) (1 : Int32) (by decide) dX12_odds_11 ?_
    refine Wp.bipush (pc := 12) (9 : Int32) (by decide) dX12_odds_12 ?_
    obtain ⟨c4, h5, hf⟩ := bnd hf
    refine Wp.callSi (pc := 14) (st := []) (as := [.int x3, .int (1 : Int32), .int (9 : Int32)]) (c_X12_in hG h5) ml_RX12_414 ms_X12_in mb_X12_in hX (Nat.le_of_ble_eq_true rfl) (by decide) rfl (by simp) dX12_odds_14 rfl ?_
    refine Wp.if_eq (pc := 17) 36 dX12_odds_17 (by decide) (fun hc6 => ?_) (fun hc6 => ?_)
    · rw [if_pos hc6] at hf
      refine Wp.lo' (lo' := []) [] rfl ?_
      exact w_X12_odds_36 hX hG hf hk
    · rw [if_neg hc6] at hf
      refine Wp.iload_n (pc := 20) 2 rfl rfl dX12_odds_20 ?_
      refine Wp.iconst (pc := 21) (0 : Int32) (by decide) dX12_odds_21 ?_
      refine Wp.iload_n (pc := 22) 3 rfl rfl dX12_odds_22 ?_
      obtain ⟨c7, h8, hf⟩ := bnd hf
      refine Wp.callSi (pc := 23) (st := []) (as := [.int x2, .int (0 : Int32), .int x3]) (c_X12_in hG h8) ml_RX12_414 ms_X12_in mb_X12_in hX (Nat.le_of_ble_eq_true rfl) (by decide) rfl (by simp) dX12_odds_23 rfl ?_
      refine Wp.if_eq (pc := 26) 36 dX12_odds_26 (by decide) (fun hc9 => ?_) (fun hc9 => ?_)
      · rw [if_pos hc9] at hf
        refine Wp.lo' (lo' := []) [] rfl ?_
        exact w_X12_odds_36 hX hG hf hk
      · rw [if_neg hc9] at hf
        refine Wp.aload_n (pc := 29) 0 rfl rfl dX12_odds_29 ?_
        obtain ⟨c10, h11, hf⟩ := bnd hf
        refine Wp.callVi (pc := 30) (st := []) (as := []) (c_X12_menNow hG h11) ml_RX12_390 mv_X12_menNow mb_X12_menNow hX (Nat.le_of_ble_eq_true rfl) (by decide) rfl (hG.t 56 rfl) rfl (by simp) dX12_odds_30 rfl ?_
        refine Wp.if_ne (pc := 33) 40 dX12_odds_33 (by decide) (fun hc12 => ?_) (fun hc12 => ?_)
        · rw [if_neg hc12] at hf
          refine Wp.lconst (pc := 40) (0 : Int64) (by decide) dX12_odds_40 ?_
          refine Wp.lstore (pc := 41) (lo' := [(0, .ref 56), (1, .int x1), (2, .int x2), (3, .int x3), (4, .long (0 : Int64))]) [1, 2, 3, 4, 0] rfl (by decide) dX12_odds_41 ?_
          refine Wp.iconst (pc := 43) (0 : Int32) (by decide) dX12_odds_43 ?_
          refine Wp.istore (pc := 44) (lo' := [(0, .ref 56), (1, .int x1), (2, .int x2), (3, .int x3), (4, .long (0 : Int64)), (6, .int (0 : Int32))]) [1, 2, 3, 4, 5, 0] rfl (by decide) dX12_odds_44 ?_
          obtain ⟨e13, h14, hf⟩ := bnd hf
          refine wl_X12_odds_46 hX hG h14 ?_
          refine Wp.lload (pc := 138) 0 rfl dX12_odds_138 ?_
          cases hf
          exact hk _ _ dX12_odds_140
        · rw [if_pos hc12] at hf
          refine Wp.lo' (lo' := []) [] rfl ?_
          exact w_X12_odds_36 hX hG hf hk
theorem c_X12_odds {T : List Dsc} {R : RM} {c e : Nat} {x1 : Int32} {x2 : Int32} {x3 : Int32} {m : M2} {r : (Int64 × M2)} (hG : Geo T R c e) (hf : F_X12_odds x1 x2 x3 m = some r) : Ct 9 yX12_odds cX12_odds 11 (some .long) T (mk m R) [.ref 56, .int x1, .int x2, .int x3] (some (.long r.1)) (mk r.2 R) := Ct.ofJ (r := (r.1, mk r.2 R)) (by decide +kernel) (Nat.le_of_ble_eq_true rfl) (fun X hX hk => w_X12_odds hX hG hf hk)
theorem dX12_tell__0 : decode cX12_tell_ 0 = .ok (.aload_n 0, 1) := by decide +kernel
theorem dX12_tell__1 : decode cX12_tell_ 1 = .ok (.getfield 314, 3) := by decide +kernel
theorem dX12_tell__4 : decode cX12_tell_ 4 = .ok (.bipush 20, 2) := by decide +kernel
theorem dX12_tell__6 : decode cX12_tell_ 6 = .ok (.if_icmp .eq 27, 3) := by decide +kernel
theorem dX12_tell__9 : decode cX12_tell_ 9 = .ok (.iload_n 1, 1) := by decide +kernel
theorem dX12_tell__10 : decode cX12_tell_ 10 = .ok (.iconst 0, 1) := by decide +kernel
theorem dX12_tell__11 : decode cX12_tell_ 11 = .ok (.bipush 99, 2) := by decide +kernel
theorem dX12_tell__13 : decode cX12_tell_ 13 = .ok (.invokestatic 414, 3) := by decide +kernel
theorem dX12_tell__16 : decode cX12_tell_ 16 = .ok (.ifCond .eq 17, 3) := by decide +kernel
theorem dX12_tell__19 : decode cX12_tell_ 19 = .ok (.iload_n 2, 1) := by decide +kernel
theorem dX12_tell__20 : decode cX12_tell_ 20 = .ok (.iconst 1, 1) := by decide +kernel
theorem dX12_tell__21 : decode cX12_tell_ 21 = .ok (.aload_n 0, 1) := by decide +kernel
theorem dX12_tell__22 : decode cX12_tell_ 22 = .ok (.invokevirtual 390, 3) := by decide +kernel
theorem dX12_tell__25 : decode cX12_tell_ 25 = .ok (.iconst 1, 1) := by decide +kernel
theorem dX12_tell__26 : decode cX12_tell_ 26 = .ok (.isub, 1) := by decide +kernel
theorem dX12_tell__27 : decode cX12_tell_ 27 = .ok (.invokestatic 414, 3) := by decide +kernel
theorem dX12_tell__30 : decode cX12_tell_ 30 = .ok (.ifCond .ne 5, 3) := by decide +kernel
theorem dX12_tell__33 : decode cX12_tell_ 33 = .ok (.iconst (-1), 1) := by decide +kernel
theorem dX12_tell__34 : decode cX12_tell_ 34 = .ok (.ireturn, 1) := by decide +kernel
theorem dX12_tell__35 : decode cX12_tell_ 35 = .ok (.aload_n 0, 1) := by decide +kernel
theorem dX12_tell__36 : decode cX12_tell_ 36 = .ok (.getfield 176, 3) := by decide +kernel
theorem dX12_tell__39 : decode cX12_tell_ 39 = .ok (.aload_n 0, 1) := by decide +kernel
theorem dX12_tell__40 : decode cX12_tell_ 40 = .ok (.getfield 314, 3) := by decide +kernel
theorem dX12_tell__43 : decode cX12_tell_ 43 = .ok (.iload_n 1, 1) := by decide +kernel
theorem dX12_tell__44 : decode cX12_tell_ 44 = .ok (.iastore, 1) := by decide +kernel
theorem dX12_tell__45 : decode cX12_tell_ 45 = .ok (.aload_n 0, 1) := by decide +kernel
theorem dX12_tell__46 : decode cX12_tell_ 46 = .ok (.getfield 179, 3) := by decide +kernel
theorem dX12_tell__49 : decode cX12_tell_ 49 = .ok (.aload_n 0, 1) := by decide +kernel
theorem dX12_tell__50 : decode cX12_tell_ 50 = .ok (.getfield 314, 3) := by decide +kernel
theorem dX12_tell__53 : decode cX12_tell_ 53 = .ok (.iload_n 2, 1) := by decide +kernel
theorem dX12_tell__54 : decode cX12_tell_ 54 = .ok (.iastore, 1) := by decide +kernel
theorem dX12_tell__55 : decode cX12_tell_ 55 = .ok (.aload_n 0, 1) := by decide +kernel
theorem dX12_tell__56 : decode cX12_tell_ 56 = .ok (.getfield 182, 3) := by decide +kernel
theorem dX12_tell__59 : decode cX12_tell_ 59 = .ok (.aload_n 0, 1) := by decide +kernel
theorem dX12_tell__60 : decode cX12_tell_ 60 = .ok (.getfield 314, 3) := by decide +kernel
theorem dX12_tell__63 : decode cX12_tell_ 63 = .ok (.iload_n 3, 1) := by decide +kernel
theorem dX12_tell__64 : decode cX12_tell_ 64 = .ok (.bastore, 1) := by decide +kernel
theorem dX12_tell__65 : decode cX12_tell_ 65 = .ok (.aload_n 0, 1) := by decide +kernel
theorem dX12_tell__66 : decode cX12_tell_ 66 = .ok (.dup, 1) := by decide +kernel
theorem dX12_tell__67 : decode cX12_tell_ 67 = .ok (.getfield 314, 3) := by decide +kernel
theorem dX12_tell__70 : decode cX12_tell_ 70 = .ok (.iconst 1, 1) := by decide +kernel
theorem dX12_tell__71 : decode cX12_tell_ 71 = .ok (.iadd, 1) := by decide +kernel
theorem dX12_tell__72 : decode cX12_tell_ 72 = .ok (.putfield 314, 3) := by decide +kernel
theorem dX12_tell__75 : decode cX12_tell_ 75 = .ok (.aload_n 0, 1) := by decide +kernel
theorem dX12_tell__76 : decode cX12_tell_ 76 = .ok (.getfield 314, 3) := by decide +kernel
theorem dX12_tell__79 : decode cX12_tell_ 79 = .ok (.iconst 1, 1) := by decide +kernel
theorem dX12_tell__80 : decode cX12_tell_ 80 = .ok (.isub, 1) := by decide +kernel
theorem dX12_tell__81 : decode cX12_tell_ 81 = .ok (.ireturn, 1) := by decide +kernel
set_option maxHeartbeats 4000000 in
set_option maxRecDepth 100000 in
theorem w_X12_tell__33 {X : CX} {T : List Dsc} {R : RM} {c e : Nat} {n1 n2 : Nat} {m : M2} {r : (Int32 × M2)} (hX : XR X 2 n1 n2) (hG : Geo T R c e) (hf : f_X12_tell__33 m = some r) (hk : FnI X cX12_tell_ RX12 4 T n1 n2 (r.1, mk r.2 R)) : Wp X cX12_tell_ RX12 4 T (mk m R) n1 n2 33 [] [] := by
  unfold f_X12_tell__33 at hf
  refine Wp.iconst (pc := 33) (-1 : Int32) (by decide) dX12_tell__33 ?_
  cases hf
  exact hk _ _ dX12_tell__34
set_option maxHeartbeats 4000000 in
set_option maxRecDepth 100000 in
theorem w_X12_tell_ {X : CX} {T : List Dsc} {R : RM} {c e : Nat} {n1 n2 : Nat} {x1 : Int32} {x2 : Int32} {x3 : Int32} {m : M2} {r : (Int32 × M2)} (hX : XR X 2 n1 n2) (hG : Geo T R c e) (hf : F_X12_tell_ x1 x2 x3 m = some r) (hk : FnI X cX12_tell_ RX12 4 T n1 n2 (r.1, mk r.2 R)) : Wp X cX12_tell_ RX12 4 T (mk m R) n1 n2 0 [(0, .ref 56), (1, .int x1), (2, .int x2), (3, .int x3)] [] := by
  unfold F_X12_tell_ at hf
  refine Wp.aload_n (pc := 0) 0 rfl rfl dX12_tell__0 ?_
  refine Wp.getI2 (pc := 1) (hG.t 56 rfl) fk_RX12_314 rfl dX12_tell__1 ?_
  refine Wp.bipush (pc := 4) (20 : Int32) (by decide) dX12_tell__4 ?_
  refine Wp.icmp_eq (pc := 6) 33 dX12_tell__6 (by decide) (fun hc1 => ?_) (fun hc1 => ?_)
  · rw [if_pos hc1] at hf
    refine Wp.lo' (lo' := []) [] rfl ?_
    exact w_X12_tell__33 hX hG hf hk
  · rw [if_neg hc1] at hf
    refine Wp.iload_n (pc := 9) 1 rfl rfl dX12_tell__9 ?_
    refine Wp.iconst (pc := 10) (0 : Int32) (by decide) dX12_tell__10 ?_
    refine Wp.bipush (pc := 11) (99 : Int32) (by decide) dX12_tell__11 ?_
    obtain ⟨c2, h3, hf⟩ := bnd hf
    refine Wp.callSi (pc := 13) (st := []) (as := [.int x1, .int (0 : Int32), .int (99 : Int32)]) (c_X12_in hG h3) ml_RX12_414 ms_X12_in mb_X12_in hX (Nat.le_of_ble_eq_true rfl) (by decide) rfl (by simp) dX12_tell__13 rfl ?_
    refine Wp.if_eq (pc := 16) 33 dX12_tell__16 (by decide) (fun hc4 => ?_) (fun hc4 => ?_)
    · rw [if_pos hc4] at hf
      refine Wp.lo' (lo' := []) [] rfl ?_
      exact w_X12_tell__33 hX hG hf hk
    · rw [if_neg hc4] at hf
      refine Wp.iload_n (pc := 19) 2 rfl rfl dX12_tell__19 ?_
      refine Wp.iconst (pc := 20) (1 : Int32) (by decide) dX12_tell__20 ?_
      refine Wp.aload_n (pc := 21) 0 rfl rfl dX12_tell__21 ?_
      obtain ⟨c5, h6, hf⟩ := bnd hf
      refine Wp.callVi (pc := 22) (st := [.int (1 : Int32), .int x2]) (as := []) (c_X12_menNow hG h6) ml_RX12_390 mv_X12_menNow mb_X12_menNow hX (Nat.le_of_ble_eq_true rfl) (by decide) rfl (hG.t 56 rfl) rfl (by simp [Value.category]) dX12_tell__22 rfl ?_
      refine Wp.iconst (pc := 25) (1 : Int32) (by decide) dX12_tell__25 ?_
      refine Wp.isub (pc := 26) dX12_tell__26 ?_
      obtain ⟨c7, h8, hf⟩ := bnd hf
      refine Wp.callSi (pc := 27) (st := []) (as := [.int x2, .int (1 : Int32), .int (c5.1 - (1 : Int32))]) (c_X12_in hG h8) ml_RX12_414 ms_X12_in mb_X12_in hX (Nat.le_of_ble_eq_true rfl) (by decide) rfl (by simp) dX12_tell__27 rfl ?_
      refine Wp.if_ne (pc := 30) 35 dX12_tell__30 (by decide) (fun hc9 => ?_) (fun hc9 => ?_)
      · rw [if_neg hc9] at hf
        refine Wp.aload_n (pc := 35) 0 rfl rfl dX12_tell__35 ?_
        refine Wp.getR2 (pc := 36) (hG.r 56 80 rfl) (hG.t 56 rfl) fk_RX12_176 rfl dX12_tell__36 ?_
        refine Wp.aload_n (pc := 39) 0 rfl rfl dX12_tell__39 ?_
        refine Wp.getI2 (pc := 40) (hG.t 56 rfl) fk_RX12_314 rfl dX12_tell__40 ?_
        refine Wp.iload_n (pc := 43) 1 rfl rfl dX12_tell__43 ?_
        obtain ⟨m10, h11, hf⟩ := bnd hf
        refine Wp.iast2 (pc := 44) h11 (hG.a 109 0 rfl) dX12_tell__44 ?_
        refine Wp.aload_n (pc := 45) 0 rfl rfl dX12_tell__45 ?_
        refine Wp.getR2 (pc := 46) (hG.r 56 81 rfl) (hG.t 56 rfl) fk_RX12_179 rfl dX12_tell__46 ?_
        refine Wp.aload_n (pc := 49) 0 rfl rfl dX12_tell__49 ?_
        refine Wp.getI2 (pc := 50) (hG.t 56 rfl) fk_RX12_314 rfl dX12_tell__50 ?_
        refine Wp.iload_n (pc := 53) 2 rfl rfl dX12_tell__53 ?_
        obtain ⟨m12, h13, hf⟩ := bnd hf
        refine Wp.iast2 (pc := 54) h13 (hG.a 110 0 rfl) dX12_tell__54 ?_
        refine Wp.aload_n (pc := 55) 0 rfl rfl dX12_tell__55 ?_
        refine Wp.getR2 (pc := 56) (hG.r 56 82 rfl) (hG.t 56 rfl) fk_RX12_182 rfl dX12_tell__56 ?_
        refine Wp.aload_n (pc := 59) 0 rfl rfl dX12_tell__59 ?_
        refine Wp.getI2 (pc := 60) (hG.t 56 rfl) fk_RX12_314 rfl dX12_tell__60 ?_
        refine Wp.iload_n (pc := 63) 3 rfl rfl dX12_tell__63 ?_
        obtain ⟨v14, h15, hf⟩ := bnd hf
        refine Wp.zb' h15 (fun h15 => ?_)
        obtain ⟨m16, h17, hf⟩ := bnd hf
        refine Wp.zast2 (pc := 64) h15 h17 (hG.a 111 3 rfl) dX12_tell__64 ?_
        refine Wp.aload_n (pc := 65) 0 rfl rfl dX12_tell__65 ?_
        refine Wp.dup (pc := 66) rfl dX12_tell__66 ?_
        refine Wp.getI2 (pc := 67) (hG.t 56 rfl) fk_RX12_314 rfl dX12_tell__67 ?_
        refine Wp.iconst (pc := 70) (1 : Int32) (by decide) dX12_tell__70 ?_
        refine Wp.iadd (pc := 71) dX12_tell__71 ?_
        obtain ⟨m18, h19, hf⟩ := bnd hf
        refine Wp.ptI2 (pc := 72) h19 (hG.t 56 rfl) fk_RX12_314 ff_RX12_11_79 rfl dX12_tell__72 ?_
        refine Wp.aload_n (pc := 75) 0 rfl rfl dX12_tell__75 ?_
        refine Wp.getI2 (pc := 76) (hG.t 56 rfl) fk_RX12_314 rfl dX12_tell__76 ?_
        refine Wp.iconst (pc := 79) (1 : Int32) (by decide) dX12_tell__79 ?_
        refine Wp.isub (pc := 80) dX12_tell__80 ?_
        cases hf
        exact hk _ _ dX12_tell__81
      · rw [if_pos hc9] at hf
        refine Wp.lo' (lo' := []) [] rfl ?_
        exact w_X12_tell__33 hX hG hf hk
theorem c_X12_tell_ {T : List Dsc} {R : RM} {c e : Nat} {x1 : Int32} {x2 : Int32} {x3 : Int32} {m : M2} {r : (Int32 × M2)} (hG : Geo T R c e) (hf : F_X12_tell_ x1 x2 x3 m = some r) : Ct 2 yX12_tell_ cX12_tell_ 4 (some .int) T (mk m R) [.ref 56, .int x1, .int x2, .int x3] (some (.int r.1)) (mk r.2 R) := Ct.ofI (r := (r.1, mk r.2 R)) (by decide +kernel) (Nat.le_of_ble_eq_true rfl) (fun X hX hk => w_X12_tell_ hX hG hf hk)
theorem dX12_forget_0 : decode cX12_forget 0 = .ok (.aload_n 0, 1) := by decide +kernel
theorem dX12_forget_1 : decode cX12_forget 1 = .ok (.getfield 314, 3) := by decide +kernel
theorem dX12_forget_4 : decode cX12_forget 4 = .ok (.istore_n 1, 1) := by decide +kernel
theorem dX12_forget_5 : decode cX12_forget 5 = .ok (.aload_n 0, 1) := by decide +kernel
theorem dX12_forget_6 : decode cX12_forget 6 = .ok (.iconst 0, 1) := by decide +kernel
theorem dX12_forget_7 : decode cX12_forget 7 = .ok (.putfield 314, 3) := by decide +kernel
theorem dX12_forget_10 : decode cX12_forget 10 = .ok (.iload_n 1, 1) := by decide +kernel
theorem dX12_forget_11 : decode cX12_forget 11 = .ok (.ireturn, 1) := by decide +kernel
set_option maxHeartbeats 4000000 in
set_option maxRecDepth 100000 in
theorem w_X12_forget {X : CX} {T : List Dsc} {R : RM} {c e : Nat} {n1 n2 : Nat} {m : M2} {r : (Int32 × M2)} (hX : XR X 1 n1 n2) (hG : Geo T R c e) (hf : F_X12_forget m = some r) (hk : FnI X cX12_forget RX12 2 T n1 n2 (r.1, mk r.2 R)) : Wp X cX12_forget RX12 2 T (mk m R) n1 n2 0 [(0, .ref 56)] [] := by
  unfold F_X12_forget at hf
  refine Wp.aload_n (pc := 0) 0 rfl rfl dX12_forget_0 ?_
  refine Wp.getI2 (pc := 1) (hG.t 56 rfl) fk_RX12_314 rfl dX12_forget_1 ?_
  obtain ⟨v1, h2, hf⟩ := bnd hf
  refine Wp.nI' h2 ?_
  refine Wp.istore_n (pc := 4) (lo' := [(0, .ref 56), (1, .int v1)]) [1, 0] rfl (by decide) rfl dX12_forget_4 ?_
  refine Wp.aload_n (pc := 5) 0 rfl rfl dX12_forget_5 ?_
  refine Wp.iconst (pc := 6) (0 : Int32) (by decide) dX12_forget_6 ?_
  obtain ⟨m3, h4, hf⟩ := bnd hf
  refine Wp.ptI2 (pc := 7) h4 (hG.t 56 rfl) fk_RX12_314 ff_RX12_11_79 rfl dX12_forget_7 ?_
  refine Wp.iload_n (pc := 10) 1 rfl rfl dX12_forget_10 ?_
  cases hf
  exact hk _ _ dX12_forget_11
theorem c_X12_forget {T : List Dsc} {R : RM} {c e : Nat} {m : M2} {r : (Int32 × M2)} (hG : Geo T R c e) (hf : F_X12_forget m = some r) : Ct 1 yX12_forget cX12_forget 2 (some .int) T (mk m R) [.ref 56] (some (.int r.1)) (mk r.2 R) := Ct.ofI (r := (r.1, mk r.2 R)) (by decide +kernel) (Nat.le_of_ble_eq_true rfl) (fun X hX hk => w_X12_forget hX hG hf hk)
theorem dX12_breaks_0 : decode cX12_breaks 0 = .ok (.aload_n 0, 1) := by decide +kernel
theorem dX12_breaks_1 : decode cX12_breaks 1 = .ok (.aload_n 0, 1) := by decide +kernel
theorem dX12_breaks_2 : decode cX12_breaks 2 = .ok (.invokevirtual 390, 3) := by decide +kernel
theorem dX12_breaks_5 : decode cX12_breaks 5 = .ok (.putfield 399, 3) := by decide +kernel
theorem dX12_breaks_8 : decode cX12_breaks 8 = .ok (.aload_n 0, 1) := by decide +kernel
theorem dX12_breaks_9 : decode cX12_breaks 9 = .ok (.aload_n 0, 1) := by decide +kernel
theorem dX12_breaks_10 : decode cX12_breaks 10 = .ok (.getfield 79, 3) := by decide +kernel
theorem dX12_breaks_13 : decode cX12_breaks 13 = .ok (.aload_n 0, 1) := by decide +kernel
theorem dX12_breaks_14 : decode cX12_breaks 14 = .ok (.getfield 284, 3) := by decide +kernel
theorem dX12_breaks_17 : decode cX12_breaks 17 = .ok (.iaload, 1) := by decide +kernel
theorem dX12_breaks_18 : decode cX12_breaks 18 = .ok (.putfield 402, 3) := by decide +kernel
theorem dX12_breaks_21 : decode cX12_breaks 21 = .ok (.aload_n 0, 1) := by decide +kernel
theorem dX12_breaks_22 : decode cX12_breaks 22 = .ok (.aload_n 0, 1) := by decide +kernel
theorem dX12_breaks_23 : decode cX12_breaks 23 = .ok (.getfield 82, 3) := by decide +kernel
theorem dX12_breaks_26 : decode cX12_breaks 26 = .ok (.aload_n 0, 1) := by decide +kernel
theorem dX12_breaks_27 : decode cX12_breaks 27 = .ok (.getfield 284, 3) := by decide +kernel
theorem dX12_breaks_30 : decode cX12_breaks 30 = .ok (.iaload, 1) := by decide +kernel
theorem dX12_breaks_31 : decode cX12_breaks 31 = .ok (.putfield 405, 3) := by decide +kernel
theorem dX12_breaks_34 : decode cX12_breaks 34 = .ok (.iconst 0, 1) := by decide +kernel
theorem dX12_breaks_35 : decode cX12_breaks 35 = .ok (.istore_n 2, 1) := by decide +kernel
theorem dX12_breaks_36 : decode cX12_breaks 36 = .ok (.iload_n 2, 1) := by decide +kernel
theorem dX12_breaks_37 : decode cX12_breaks 37 = .ok (.aload_n 0, 1) := by decide +kernel
theorem dX12_breaks_38 : decode cX12_breaks 38 = .ok (.getfield 399, 3) := by decide +kernel
theorem dX12_breaks_41 : decode cX12_breaks 41 = .ok (.if_icmp .ge 62, 3) := by decide +kernel
theorem dX12_breaks_44 : decode cX12_breaks 44 = .ok (.aload_n 0, 1) := by decide +kernel
theorem dX12_breaks_45 : decode cX12_breaks 45 = .ok (.getfield 140, 3) := by decide +kernel
theorem dX12_breaks_48 : decode cX12_breaks 48 = .ok (.iload_n 2, 1) := by decide +kernel
theorem dX12_breaks_49 : decode cX12_breaks 49 = .ok (.aload_n 0, 1) := by decide +kernel
theorem dX12_breaks_50 : decode cX12_breaks 50 = .ok (.getfield 76, 3) := by decide +kernel
theorem dX12_breaks_53 : decode cX12_breaks 53 = .ok (.bipush 12, 2) := by decide +kernel
theorem dX12_breaks_55 : decode cX12_breaks 55 = .ok (.aload_n 0, 1) := by decide +kernel
theorem dX12_breaks_56 : decode cX12_breaks 56 = .ok (.getfield 284, 3) := by decide +kernel
theorem dX12_breaks_59 : decode cX12_breaks 59 = .ok (.imul, 1) := by decide +kernel
theorem dX12_breaks_60 : decode cX12_breaks 60 = .ok (.iload_n 2, 1) := by decide +kernel
theorem dX12_breaks_61 : decode cX12_breaks 61 = .ok (.iadd, 1) := by decide +kernel
theorem dX12_breaks_62 : decode cX12_breaks 62 = .ok (.iaload, 1) := by decide +kernel
theorem dX12_breaks_63 : decode cX12_breaks 63 = .ok (.iastore, 1) := by decide +kernel
theorem dX12_breaks_64 : decode cX12_breaks 64 = .ok (.aload_n 0, 1) := by decide +kernel
theorem dX12_breaks_65 : decode cX12_breaks 65 = .ok (.getfield 143, 3) := by decide +kernel
theorem dX12_breaks_68 : decode cX12_breaks 68 = .ok (.iload_n 2, 1) := by decide +kernel
theorem dX12_breaks_69 : decode cX12_breaks 69 = .ok (.iload_n 1, 1) := by decide +kernel
theorem dX12_breaks_70 : decode cX12_breaks 70 = .ok (.iload_n 2, 1) := by decide +kernel
theorem dX12_breaks_71 : decode cX12_breaks 71 = .ok (.ishr, 1) := by decide +kernel
theorem dX12_breaks_72 : decode cX12_breaks 72 = .ok (.iconst 1, 1) := by decide +kernel
theorem dX12_breaks_73 : decode cX12_breaks 73 = .ok (.iand, 1) := by decide +kernel
theorem dX12_breaks_74 : decode cX12_breaks 74 = .ok (.iconst 1, 1) := by decide +kernel
theorem dX12_breaks_75 : decode cX12_breaks 75 = .ok (.if_icmp .ne 7, 3) := by decide +kernel
theorem dX12_breaks_78 : decode cX12_breaks 78 = .ok (.iconst (-1), 1) := by decide +kernel
theorem dX12_breaks_79 : decode cX12_breaks 79 = .ok (.goto 17, 3) := by decide +kernel
theorem dX12_breaks_82 : decode cX12_breaks 82 = .ok (.aload_n 0, 1) := by decide +kernel
theorem dX12_breaks_83 : decode cX12_breaks 83 = .ok (.getfield 73, 3) := by decide +kernel
theorem dX12_breaks_86 : decode cX12_breaks 86 = .ok (.bipush 12, 2) := by decide +kernel
theorem dX12_breaks_88 : decode cX12_breaks 88 = .ok (.aload_n 0, 1) := by decide +kernel
theorem dX12_breaks_89 : decode cX12_breaks 89 = .ok (.getfield 284, 3) := by decide +kernel
theorem dX12_breaks_92 : decode cX12_breaks 92 = .ok (.imul, 1) := by decide +kernel
theorem dX12_breaks_93 : decode cX12_breaks 93 = .ok (.iload_n 2, 1) := by decide +kernel
theorem dX12_breaks_94 : decode cX12_breaks 94 = .ok (.iadd, 1) := by decide +kernel
theorem dX12_breaks_95 : decode cX12_breaks 95 = .ok (.iaload, 1) := by decide +kernel
theorem dX12_breaks_96 : decode cX12_breaks 96 = .ok (.iastore, 1) := by decide +kernel
theorem dX12_breaks_97 : decode cX12_breaks 97 = .ok (.iinc 2 1, 3) := by decide +kernel
theorem dX12_breaks_100 : decode cX12_breaks 100 = .ok (.goto (-64), 3) := by decide +kernel
theorem dX12_breaks_103 : decode cX12_breaks 103 = .ok (.return_, 1) := by decide +kernel
def k_X12_breaks_36 (X : CX) (T : List Dsc) (R : RM) (n1 n2 : Nat) (x1 : Int32) (r : ((Int32 × M2) ⊕ ((M2)))) : Prop := match r with
  | .inl s => Wp X cX12_breaks RX12 3 T (mk s.2 R) n1 n2 36 [(0, .ref 56), (1, .int x1), (2, .int s.1)] []
  | .inr e => Wp X cX12_breaks RX12 3 T (mk e R) n1 n2 103 [] []
set_option maxHeartbeats 4000000 in
set_option maxRecDepth 100000 in
theorem w_X12_breaks_96 {X : CX} {T : List Dsc} {R : RM} {c e : Nat} {n1 n2 : Nat} {x1 : Int32} {x2 : Int32} {s1 : Int32} {s2 : Int32} {m : M2} {r : ((Int32 × M2) ⊕ ((M2)))} (hX : XR X 2 n1 n2) (hG : Geo T R c e) (hf : f_X12_breaks_96 x1 x2 s1 s2 m = some r) (hk : k_X12_breaks_36 X T R n1 n2 x1 r) : Wp X cX12_breaks RX12 3 T (mk m R) n1 n2 96 [(0, .ref 56), (1, .int x1), (2, .int x2)] [.int s2, .int s1, .ref 98] := by
  unfold f_X12_breaks_96 at hf
  obtain ⟨m1, h2, hf⟩ := bnd hf
  refine Wp.iast2 (pc := 96) h2 (hG.a 98 0 rfl) dX12_breaks_96 ?_
  obtain ⟨v3, h4, hf⟩ := bnd hf
  refine Wp.iincN (pc := 97) (lo' := [(0, .ref 56), (1, .int x1), (2, .int v3)]) (1 : Int32) (by decide) h4 2 rfl [1, 2, 0] rfl (by decide) dX12_breaks_97 ?_
  refine Wp.goto (pc := 100) 36 dX12_breaks_100 (by decide) ?_
  cases hf
  exact hk
set_option maxHeartbeats 4000000 in
set_option maxRecDepth 100000 in
theorem w_X12_breaks_36 {X : CX} {T : List Dsc} {R : RM} {c e : Nat} {n1 n2 : Nat} {x1 : Int32} {x2 : Int32} {m : M2} {r : ((Int32 × M2) ⊕ ((M2)))} (hX : XR X 2 n1 n2) (hG : Geo T R c e) (hf : f_X12_breaks_36 x1 x2 m = some r) (hk : k_X12_breaks_36 X T R n1 n2 x1 r) : Wp X cX12_breaks RX12 3 T (mk m R) n1 n2 36 [(0, .ref 56), (1, .int x1), (2, .int x2)] [] := by
  unfold f_X12_breaks_36 at hf
  refine Wp.iload_n (pc := 36) 2 rfl rfl dX12_breaks_36 ?_
  refine Wp.aload_n (pc := 37) 0 rfl rfl dX12_breaks_37 ?_
  refine Wp.getI2 (pc := 38) (hG.t 56 rfl) fk_RX12_399 rfl dX12_breaks_38 ?_
  refine Wp.icmp_ge (pc := 41) 103 dX12_breaks_41 (by decide) (fun hc1 => ?_) (fun hc1 => ?_)
  · rw [if_pos hc1] at hf
    refine Wp.lo' (lo' := []) [] rfl ?_
    cases hf
    exact hk
  · rw [if_neg hc1] at hf
    refine Wp.aload_n (pc := 44) 0 rfl rfl dX12_breaks_44 ?_
    refine Wp.getR2 (pc := 45) (hG.r 56 63 rfl) (hG.t 56 rfl) fk_RX12_140 rfl dX12_breaks_45 ?_
    refine Wp.iload_n (pc := 48) 2 rfl rfl dX12_breaks_48 ?_
    refine Wp.aload_n (pc := 49) 0 rfl rfl dX12_breaks_49 ?_
    refine Wp.getR2 (pc := 50) (hG.r 56 34 rfl) (hG.t 56 rfl) fk_RX12_76 rfl dX12_breaks_50 ?_
    refine Wp.bipush (pc := 53) (12 : Int32) (by decide) dX12_breaks_53 ?_
    refine Wp.aload_n (pc := 55) 0 rfl rfl dX12_breaks_55 ?_
    refine Wp.getI2 (pc := 56) (hG.t 56 rfl) fk_RX12_284 rfl dX12_breaks_56 ?_
    refine Wp.imul (pc := 59) dX12_breaks_59 ?_
    refine Wp.iload_n (pc := 60) 2 rfl rfl dX12_breaks_60 ?_
    refine Wp.iadd (pc := 61) dX12_breaks_61 ?_
    obtain ⟨v2, h3, hf⟩ := bnd hf
    refine Wp.iald2 (pc := 62) h3 (hG.a 76 0 rfl) dX12_breaks_62 ?_
    obtain ⟨m4, h5, hf⟩ := bnd hf
    refine Wp.iast2 (pc := 63) h5 (hG.a 97 0 rfl) dX12_breaks_63 ?_
    refine Wp.aload_n (pc := 64) 0 rfl rfl dX12_breaks_64 ?_
    refine Wp.getR2 (pc := 65) (hG.r 56 64 rfl) (hG.t 56 rfl) fk_RX12_143 rfl dX12_breaks_65 ?_
    refine Wp.iload_n (pc := 68) 2 rfl rfl dX12_breaks_68 ?_
    refine Wp.iload_n (pc := 69) 1 rfl rfl dX12_breaks_69 ?_
    refine Wp.iload_n (pc := 70) 2 rfl rfl dX12_breaks_70 ?_
    refine Wp.ishr (pc := 71) dX12_breaks_71 ?_
    refine Wp.iconst (pc := 72) (1 : Int32) (by decide) dX12_breaks_72 ?_
    refine Wp.iand (pc := 73) dX12_breaks_73 ?_
    refine Wp.iconst (pc := 74) (1 : Int32) (by decide) dX12_breaks_74 ?_
    refine Wp.icmp_ne (pc := 75) 82 dX12_breaks_75 (by decide) (fun hc6 => ?_) (fun hc6 => ?_)
    · rw [if_neg hc6] at hf
      refine Wp.aload_n (pc := 82) 0 rfl rfl dX12_breaks_82 ?_
      refine Wp.getR2 (pc := 83) (hG.r 56 33 rfl) (hG.t 56 rfl) fk_RX12_73 rfl dX12_breaks_83 ?_
      refine Wp.bipush (pc := 86) (12 : Int32) (by decide) dX12_breaks_86 ?_
      refine Wp.aload_n (pc := 88) 0 rfl rfl dX12_breaks_88 ?_
      refine Wp.getI2 (pc := 89) (hG.t 56 rfl) fk_RX12_284 rfl dX12_breaks_89 ?_
      refine Wp.imul (pc := 92) dX12_breaks_92 ?_
      refine Wp.iload_n (pc := 93) 2 rfl rfl dX12_breaks_93 ?_
      refine Wp.iadd (pc := 94) dX12_breaks_94 ?_
      obtain ⟨v7, h8, hf⟩ := bnd hf
      refine Wp.iald2 (pc := 95) h8 (hG.a 75 0 rfl) dX12_breaks_95 ?_
      exact w_X12_breaks_96 hX hG hf hk
    · rw [if_pos hc6] at hf
      refine Wp.iconst (pc := 78) (-1 : Int32) (by decide) dX12_breaks_78 ?_
      refine Wp.goto (pc := 79) 96 dX12_breaks_79 (by decide) ?_
      exact w_X12_breaks_96 hX hG hf hk
theorem wl_X12_breaks_36 {X : CX} {T : List Dsc} {R : RM} {c e : Nat} {n1 n2 : Nat} {x1 : Int32} {x2 : Int32} {m : M2} {e1 : ((M2))} (hX : XR X 2 n1 n2) (hG : Geo T R c e) (h : loop (g_X12_breaks_36 x1) (x2, m) = some e1) (he : Wp X cX12_breaks RX12 3 T (mk e1 R) n1 n2 103 [] []) : Wp X cX12_breaks RX12 3 T (mk m R) n1 n2 36 [(0, .ref 56), (1, .int x1), (2, .int x2)] [] :=
  loop_ok (K := k_X12_breaks_36 X T R n1 n2 x1) (fun s r hf hk => w_X12_breaks_36 hX hG hf hk) h he
set_option maxHeartbeats 4000000 in
set_option maxRecDepth 100000 in
theorem w_X12_breaks {X : CX} {T : List Dsc} {R : RM} {c e : Nat} {n1 n2 : Nat} {x1 : Int32} {m : M2} {r : M2} (hX : XR X 2 n1 n2) (hG : Geo T R c e) (hf : F_X12_breaks x1 m = some r) (hk : FnV X cX12_breaks RX12 3 T n1 n2 (mk r R)) : Wp X cX12_breaks RX12 3 T (mk m R) n1 n2 0 [(0, .ref 56), (1, .int x1)] [] := by
  unfold F_X12_breaks at hf
  refine Wp.aload_n (pc := 0) 0 rfl rfl dX12_breaks_0 ?_
  refine Wp.aload_n (pc := 1) 0 rfl rfl dX12_breaks_1 ?_
  obtain ⟨c1, h2, hf⟩ := bnd hf
  refine Wp.callVi (pc := 2) (st := [.ref 56]) (as := []) (c_X12_menNow hG h2) ml_RX12_390 mv_X12_menNow mb_X12_menNow hX (Nat.le_of_ble_eq_true rfl) (by decide) rfl (hG.t 56 rfl) rfl (by simp [Value.category]) dX12_breaks_2 rfl ?_
  obtain ⟨m3, h4, hf⟩ := bnd hf
  refine Wp.ptI2 (pc := 5) h4 (hG.t 56 rfl) fk_RX12_399 ff_RX12_11_65 rfl dX12_breaks_5 ?_
  refine Wp.aload_n (pc := 8) 0 rfl rfl dX12_breaks_8 ?_
  refine Wp.aload_n (pc := 9) 0 rfl rfl dX12_breaks_9 ?_
  refine Wp.getR2 (pc := 10) (hG.r 56 35 rfl) (hG.t 56 rfl) fk_RX12_79 rfl dX12_breaks_10 ?_
  refine Wp.aload_n (pc := 13) 0 rfl rfl dX12_breaks_13 ?_
  refine Wp.getI2 (pc := 14) (hG.t 56 rfl) fk_RX12_284 rfl dX12_breaks_14 ?_
  obtain ⟨v5, h6, hf⟩ := bnd hf
  refine Wp.iald2 (pc := 17) h6 (hG.a 77 0 rfl) dX12_breaks_17 ?_
  obtain ⟨m7, h8, hf⟩ := bnd hf
  refine Wp.ptI2 (pc := 18) h8 (hG.t 56 rfl) fk_RX12_402 ff_RX12_11_66 rfl dX12_breaks_18 ?_
  refine Wp.aload_n (pc := 21) 0 rfl rfl dX12_breaks_21 ?_
  refine Wp.aload_n (pc := 22) 0 rfl rfl dX12_breaks_22 ?_
  refine Wp.getR2 (pc := 23) (hG.r 56 36 rfl) (hG.t 56 rfl) fk_RX12_82 rfl dX12_breaks_23 ?_
  refine Wp.aload_n (pc := 26) 0 rfl rfl dX12_breaks_26 ?_
  refine Wp.getI2 (pc := 27) (hG.t 56 rfl) fk_RX12_284 rfl dX12_breaks_27 ?_
  obtain ⟨v9, h10, hf⟩ := bnd hf
  refine Wp.iald2 (pc := 30) h10 (hG.a 78 0 rfl) dX12_breaks_30 ?_
  obtain ⟨m11, h12, hf⟩ := bnd hf
  refine Wp.ptI2 (pc := 31) h12 (hG.t 56 rfl) fk_RX12_405 ff_RX12_11_67 rfl dX12_breaks_31 ?_
  refine Wp.iconst (pc := 34) (0 : Int32) (by decide) dX12_breaks_34 ?_
  refine Wp.istore_n (pc := 35) (lo' := [(0, .ref 56), (1, .int x1), (2, .int (0 : Int32))]) [1, 2, 0] rfl (by decide) rfl dX12_breaks_35 ?_
  obtain ⟨e13, h14, hf⟩ := bnd hf
  refine wl_X12_breaks_36 hX hG h14 ?_
  cases hf
  exact hk _ _ dX12_breaks_103
theorem c_X12_breaks {T : List Dsc} {R : RM} {c e : Nat} {x1 : Int32} {m : M2} {r : M2} (hG : Geo T R c e) (hf : F_X12_breaks x1 m = some r) : Ct 2 yX12_breaks cX12_breaks 3 none T (mk m R) [.ref 56, .int x1] none (mk r R) := Ct.ofV (r := mk r R) (by decide +kernel) (Nat.le_of_ble_eq_true rfl) (fun X hX hk => w_X12_breaks hX hG hf hk)
theorem dX12_fits_0 : decode cX12_fits 0 = .ok (.aload_n 0, 1) := by decide +kernel
theorem dX12_fits_1 : decode cX12_fits 1 = .ok (.iload_n 1, 1) := by decide +kernel
theorem dX12_fits_2 : decode cX12_fits 2 = .ok (.invokevirtual 503, 3) := by decide +kernel
theorem dX12_fits_5 : decode cX12_fits 5 = .ok (.iconst (-1), 1) := by decide +kernel
theorem dX12_fits_6 : decode cX12_fits 6 = .ok (.istore_n 3, 1) := by decide +kernel
theorem dX12_fits_7 : decode cX12_fits 7 = .ok (.iconst 0, 1) := by decide +kernel
theorem dX12_fits_8 : decode cX12_fits 8 = .ok (.istore 4, 2) := by decide +kernel
theorem dX12_fits_10 : decode cX12_fits 10 = .ok (.iload 4, 2) := by decide +kernel
theorem dX12_fits_12 : decode cX12_fits 12 = .ok (.iload_n 2, 1) := by decide +kernel
theorem dX12_fits_13 : decode cX12_fits 13 = .ok (.if_icmp .ge 28, 3) := by decide +kernel
theorem dX12_fits_16 : decode cX12_fits 16 = .ok (.aload_n 0, 1) := by decide +kernel
theorem dX12_fits_17 : decode cX12_fits 17 = .ok (.getfield 176, 3) := by decide +kernel
theorem dX12_fits_20 : decode cX12_fits 20 = .ok (.iload 4, 2) := by decide +kernel
theorem dX12_fits_22 : decode cX12_fits 22 = .ok (.iaload, 1) := by decide +kernel
theorem dX12_fits_23 : decode cX12_fits 23 = .ok (.iload_n 3, 1) := by decide +kernel
theorem dX12_fits_24 : decode cX12_fits 24 = .ok (.if_icmp .le 11, 3) := by decide +kernel
theorem dX12_fits_27 : decode cX12_fits 27 = .ok (.aload_n 0, 1) := by decide +kernel
theorem dX12_fits_28 : decode cX12_fits 28 = .ok (.getfield 176, 3) := by decide +kernel
theorem dX12_fits_31 : decode cX12_fits 31 = .ok (.iload 4, 2) := by decide +kernel
theorem dX12_fits_33 : decode cX12_fits 33 = .ok (.iaload, 1) := by decide +kernel
theorem dX12_fits_34 : decode cX12_fits 34 = .ok (.istore_n 3, 1) := by decide +kernel
theorem dX12_fits_35 : decode cX12_fits 35 = .ok (.iinc 4 1, 3) := by decide +kernel
theorem dX12_fits_38 : decode cX12_fits 38 = .ok (.goto (-28), 3) := by decide +kernel
theorem dX12_fits_41 : decode cX12_fits 41 = .ok (.iconst 0, 1) := by decide +kernel
theorem dX12_fits_42 : decode cX12_fits 42 = .ok (.istore 4, 2) := by decide +kernel
theorem dX12_fits_44 : decode cX12_fits 44 = .ok (.iload 4, 2) := by decide +kernel
theorem dX12_fits_46 : decode cX12_fits 46 = .ok (.iload_n 3, 1) := by decide +kernel
theorem dX12_fits_47 : decode cX12_fits 47 = .ok (.if_icmp .gt 85, 3) := by decide +kernel
theorem dX12_fits_50 : decode cX12_fits 50 = .ok (.aload_n 0, 1) := by decide +kernel
theorem dX12_fits_51 : decode cX12_fits 51 = .ok (.invokevirtual 453, 3) := by decide +kernel
theorem dX12_fits_54 : decode cX12_fits 54 = .ok (.istore 5, 2) := by decide +kernel
theorem dX12_fits_56 : decode cX12_fits 56 = .ok (.iconst 0, 1) := by decide +kernel
theorem dX12_fits_57 : decode cX12_fits 57 = .ok (.istore 6, 2) := by decide +kernel
theorem dX12_fits_59 : decode cX12_fits 59 = .ok (.iload 6, 2) := by decide +kernel
theorem dX12_fits_61 : decode cX12_fits 61 = .ok (.iload_n 2, 1) := by decide +kernel
theorem dX12_fits_62 : decode cX12_fits 62 = .ok (.if_icmp .ge 54, 3) := by decide +kernel
theorem dX12_fits_65 : decode cX12_fits 65 = .ok (.aload_n 0, 1) := by decide +kernel
theorem dX12_fits_66 : decode cX12_fits 66 = .ok (.getfield 176, 3) := by decide +kernel
theorem dX12_fits_69 : decode cX12_fits 69 = .ok (.iload 6, 2) := by decide +kernel
theorem dX12_fits_71 : decode cX12_fits 71 = .ok (.iaload, 1) := by decide +kernel
theorem dX12_fits_72 : decode cX12_fits 72 = .ok (.iload 4, 2) := by decide +kernel
theorem dX12_fits_74 : decode cX12_fits 74 = .ok (.if_icmp .ne 36, 3) := by decide +kernel
theorem dX12_fits_77 : decode cX12_fits 77 = .ok (.iload 5, 2) := by decide +kernel
theorem dX12_fits_79 : decode cX12_fits 79 = .ok (.aload_n 0, 1) := by decide +kernel
theorem dX12_fits_80 : decode cX12_fits 80 = .ok (.getfield 179, 3) := by decide +kernel
theorem dX12_fits_83 : decode cX12_fits 83 = .ok (.iload 6, 2) := by decide +kernel
theorem dX12_fits_85 : decode cX12_fits 85 = .ok (.iaload, 1) := by decide +kernel
theorem dX12_fits_86 : decode cX12_fits 86 = .ok (.ishr, 1) := by decide +kernel
theorem dX12_fits_87 : decode cX12_fits 87 = .ok (.iconst 1, 1) := by decide +kernel
theorem dX12_fits_88 : decode cX12_fits 88 = .ok (.iand, 1) := by decide +kernel
theorem dX12_fits_89 : decode cX12_fits 89 = .ok (.iconst 1, 1) := by decide +kernel
theorem dX12_fits_90 : decode cX12_fits 90 = .ok (.if_icmp .ne 7, 3) := by decide +kernel
theorem dX12_fits_93 : decode cX12_fits 93 = .ok (.iconst 1, 1) := by decide +kernel
theorem dX12_fits_94 : decode cX12_fits 94 = .ok (.goto 4, 3) := by decide +kernel
theorem dX12_fits_97 : decode cX12_fits 97 = .ok (.iconst 0, 1) := by decide +kernel
theorem dX12_fits_98 : decode cX12_fits 98 = .ok (.aload_n 0, 1) := by decide +kernel
theorem dX12_fits_99 : decode cX12_fits 99 = .ok (.getfield 182, 3) := by decide +kernel
theorem dX12_fits_102 : decode cX12_fits 102 = .ok (.iload 6, 2) := by decide +kernel
theorem dX12_fits_104 : decode cX12_fits 104 = .ok (.baload, 1) := by decide +kernel
theorem dX12_fits_105 : decode cX12_fits 105 = .ok (.if_icmp .eq 5, 3) := by decide +kernel
theorem dX12_fits_108 : decode cX12_fits 108 = .ok (.iconst 0, 1) := by decide +kernel
theorem dX12_fits_109 : decode cX12_fits 109 = .ok (.ireturn, 1) := by decide +kernel
theorem dX12_fits_110 : decode cX12_fits 110 = .ok (.iinc 6 1, 3) := by decide +kernel
theorem dX12_fits_113 : decode cX12_fits 113 = .ok (.goto (-54), 3) := by decide +kernel
theorem dX12_fits_116 : decode cX12_fits 116 = .ok (.aload_n 0, 1) := by decide +kernel
theorem dX12_fits_117 : decode cX12_fits 117 = .ok (.aload_n 0, 1) := by decide +kernel
theorem dX12_fits_118 : decode cX12_fits 118 = .ok (.iload 4, 2) := by decide +kernel
theorem dX12_fits_120 : decode cX12_fits 120 = .ok (.invokevirtual 447, 3) := by decide +kernel
theorem dX12_fits_123 : decode cX12_fits 123 = .ok (.invokevirtual 450, 3) := by decide +kernel
theorem dX12_fits_126 : decode cX12_fits 126 = .ok (.iinc 4 1, 3) := by decide +kernel
theorem dX12_fits_129 : decode cX12_fits 129 = .ok (.goto (-85), 3) := by decide +kernel
theorem dX12_fits_132 : decode cX12_fits 132 = .ok (.iconst 1, 1) := by decide +kernel
theorem dX12_fits_133 : decode cX12_fits 133 = .ok (.ireturn, 1) := by decide +kernel
def k_X12_fits_10 (X : CX) (T : List Dsc) (R : RM) (n1 n2 : Nat) (x2 : Int32) (r : ((Int32 × Int32 × M2) ⊕ ((Int32 × M2)))) : Prop := match r with
  | .inl s => Wp X cX12_fits RX12 7 T (mk s.2.2 R) n1 n2 10 [(0, .ref 56), (2, .int x2), (3, .int s.1), (4, .int s.2.1)] []
  | .inr e => Wp X cX12_fits RX12 7 T (mk e.2 R) n1 n2 41 [(0, .ref 56), (2, .int x2), (3, .int e.1)] []
def k_X12_fits_59 (X : CX) (T : List Dsc) (R : RM) (n1 n2 : Nat) (x2 : Int32) (x3 : Int32) (x4 : Int32) (x5 : Int32) (r : ((Int32 × M2) ⊕ ((M2) ⊕ (M2)))) : Prop := match r with
  | .inl s => Wp X cX12_fits RX12 7 T (mk s.2 R) n1 n2 59 [(0, .ref 56), (2, .int x2), (3, .int x3), (4, .int x4), (5, .int x5), (6, .int s.1)] []
  | .inr (.inl e) => Wp X cX12_fits RX12 7 T (mk e R) n1 n2 108 [] []
  | .inr (.inr e) => Wp X cX12_fits RX12 7 T (mk e R) n1 n2 116 [(0, .ref 56), (2, .int x2), (3, .int x3), (4, .int x4)] []
def k_X12_fits_44 (X : CX) (T : List Dsc) (R : RM) (n1 n2 : Nat) (x2 : Int32) (x3 : Int32) (r : ((Int32 × M2) ⊕ ((M2) ⊕ (M2)))) : Prop := match r with
  | .inl s => Wp X cX12_fits RX12 7 T (mk s.2 R) n1 n2 44 [(0, .ref 56), (2, .int x2), (3, .int x3), (4, .int s.1)] []
  | .inr (.inl e) => Wp X cX12_fits RX12 7 T (mk e R) n1 n2 108 [] []
  | .inr (.inr e) => Wp X cX12_fits RX12 7 T (mk e R) n1 n2 132 [] []
set_option maxHeartbeats 4000000 in
set_option maxRecDepth 100000 in
theorem w_X12_fits_35 {X : CX} {T : List Dsc} {R : RM} {c e : Nat} {n1 n2 : Nat} {x2 : Int32} {x3 : Int32} {x4 : Int32} {m : M2} {r : ((Int32 × Int32 × M2) ⊕ ((Int32 × M2)))} (hX : XR X 9 n1 n2) (hG : Geo T R c e) (hf : f_X12_fits_35 x2 x3 x4 m = some r) (hk : k_X12_fits_10 X T R n1 n2 x2 r) : Wp X cX12_fits RX12 7 T (mk m R) n1 n2 35 [(0, .ref 56), (2, .int x2), (3, .int x3), (4, .int x4)] [] := by
  unfold f_X12_fits_35 at hf
  obtain ⟨v1, h2, hf⟩ := bnd hf
  refine Wp.iincN (pc := 35) (lo' := [(0, .ref 56), (2, .int x2), (3, .int x3), (4, .int v1)]) (1 : Int32) (by decide) h2 3 rfl [1, 2, 3, 0] rfl (by decide) dX12_fits_35 ?_
  refine Wp.goto (pc := 38) 10 dX12_fits_38 (by decide) ?_
  cases hf
  exact hk
set_option maxHeartbeats 4000000 in
set_option maxRecDepth 100000 in
theorem w_X12_fits_10 {X : CX} {T : List Dsc} {R : RM} {c e : Nat} {n1 n2 : Nat} {x2 : Int32} {x3 : Int32} {x4 : Int32} {m : M2} {r : ((Int32 × Int32 × M2) ⊕ ((Int32 × M2)))} (hX : XR X 9 n1 n2) (hG : Geo T R c e) (hf : f_X12_fits_10 x2 x3 x4 m = some r) (hk : k_X12_fits_10 X T R n1 n2 x2 r) : Wp X cX12_fits RX12 7 T (mk m R) n1 n2 10 [(0, .ref 56), (2, .int x2), (3, .int x3), (4, .int x4)] [] := by
  unfold f_X12_fits_10 at hf
  refine Wp.iload (pc := 10) 3 rfl dX12_fits_10 ?_
  refine Wp.iload_n (pc := 12) 1 rfl rfl dX12_fits_12 ?_
  refine Wp.icmp_ge (pc := 13) 41 dX12_fits_13 (by decide) (fun hc1 => ?_) (fun hc1 => ?_)
  · rw [if_pos hc1] at hf
    refine Wp.lo' (lo' := [(0, .ref 56), (2, .int x2), (3, .int x3)]) [0, 1, 2] rfl ?_
    cases hf
    exact hk
  · rw [if_neg hc1] at hf
    refine Wp.aload_n (pc := 16) 0 rfl rfl dX12_fits_16 ?_
    refine Wp.getR2 (pc := 17) (hG.r 56 80 rfl) (hG.t 56 rfl) fk_RX12_176 rfl dX12_fits_17 ?_
    refine Wp.iload (pc := 20) 3 rfl dX12_fits_20 ?_
    obtain ⟨v2, h3, hf⟩ := bnd hf
    refine Wp.iald2 (pc := 22) h3 (hG.a 109 0 rfl) dX12_fits_22 ?_
    refine Wp.iload_n (pc := 23) 2 rfl rfl dX12_fits_23 ?_
    refine Wp.icmp_le (pc := 24) 35 dX12_fits_24 (by decide) (fun hc4 => ?_) (fun hc4 => ?_)
    · rw [if_pos hc4] at hf
      exact w_X12_fits_35 hX hG hf hk
    · rw [if_neg hc4] at hf
      refine Wp.aload_n (pc := 27) 0 rfl rfl dX12_fits_27 ?_
      refine Wp.getR2 (pc := 28) (hG.r 56 80 rfl) (hG.t 56 rfl) fk_RX12_176 rfl dX12_fits_28 ?_
      refine Wp.iload (pc := 31) 3 rfl dX12_fits_31 ?_
      obtain ⟨v5, h6, hf⟩ := bnd hf
      refine Wp.iald2 (pc := 33) h6 (hG.a 109 0 rfl) dX12_fits_33 ?_
      refine Wp.istore_n (pc := 34) (lo' := [(0, .ref 56), (2, .int x2), (3, .int v5), (4, .int x4)]) [1, 2, 0, 3] rfl (by decide) rfl dX12_fits_34 ?_
      exact w_X12_fits_35 hX hG hf hk
theorem wl_X12_fits_10 {X : CX} {T : List Dsc} {R : RM} {c e : Nat} {n1 n2 : Nat} {x2 : Int32} {x3 : Int32} {x4 : Int32} {m : M2} {e1 : ((Int32 × M2))} (hX : XR X 9 n1 n2) (hG : Geo T R c e) (h : loop (g_X12_fits_10 x2) (x3, x4, m) = some e1) (he : Wp X cX12_fits RX12 7 T (mk e1.2 R) n1 n2 41 [(0, .ref 56), (2, .int x2), (3, .int e1.1)] []) : Wp X cX12_fits RX12 7 T (mk m R) n1 n2 10 [(0, .ref 56), (2, .int x2), (3, .int x3), (4, .int x4)] [] :=
  loop_ok (K := k_X12_fits_10 X T R n1 n2 x2) (fun s r hf hk => w_X12_fits_10 hX hG hf hk) h he
set_option maxHeartbeats 4000000 in
set_option maxRecDepth 100000 in
theorem w_X12_fits_110 {X : CX} {T : List Dsc} {R : RM} {c e : Nat} {n1 n2 : Nat} {x2 : Int32} {x3 : Int32} {x4 : Int32} {x5 : Int32} {x6 : Int32} {m : M2} {r : ((Int32 × M2) ⊕ ((M2) ⊕ (M2)))} (hX : XR X 9 n1 n2) (hG : Geo T R c e) (hf : f_X12_fits_110 x2 x3 x4 x5 x6 m = some r) (hk : k_X12_fits_59 X T R n1 n2 x2 x3 x4 x5 r) : Wp X cX12_fits RX12 7 T (mk m R) n1 n2 110 [(0, .ref 56), (2, .int x2), (3, .int x3), (4, .int x4), (5, .int x5), (6, .int x6)] [] := by
  unfold f_X12_fits_110 at hf
  obtain ⟨v1, h2, hf⟩ := bnd hf
  refine Wp.iincN (pc := 110) (lo' := [(0, .ref 56), (2, .int x2), (3, .int x3), (4, .int x4), (5, .int x5), (6, .int v1)]) (1 : Int32) (by decide) h2 5 rfl [1, 2, 3, 4, 5, 0] rfl (by decide) dX12_fits_110 ?_
  refine Wp.goto (pc := 113) 59 dX12_fits_113 (by decide) ?_
  cases hf
  exact hk
set_option maxHeartbeats 4000000 in
set_option maxRecDepth 100000 in
theorem w_X12_fits_98 {X : CX} {T : List Dsc} {R : RM} {c e : Nat} {n1 n2 : Nat} {x2 : Int32} {x3 : Int32} {x4 : Int32} {x5 : Int32} {x6 : Int32} {s0 : Int32} {m : M2} {r : ((Int32 × M2) ⊕ ((M2) ⊕ (M2)))} (hX : XR X 9 n1 n2) (hG : Geo T R c e) (hf : f_X12_fits_98 x2 x3 x4 x5 x6 s0 m = some r) (hk : k_X12_fits_59 X T R n1 n2 x2 x3 x4 x5 r) : Wp X cX12_fits RX12 7 T (mk m R) n1 n2 98 [(0, .ref 56), (2, .int x2), (3, .int x3), (4, .int x4), (5, .int x5), (6, .int x6)] [.int s0] := by
  unfold f_X12_fits_98 at hf
  refine Wp.aload_n (pc := 98) 0 rfl rfl dX12_fits_98 ?_
  refine Wp.getR2 (pc := 99) (hG.r 56 82 rfl) (hG.t 56 rfl) fk_RX12_182 rfl dX12_fits_99 ?_
  refine Wp.iload (pc := 102) 5 rfl dX12_fits_102 ?_
  obtain ⟨v1, h2, hf⟩ := bnd hf
  refine Wp.zald2 (pc := 104) h2 (hG.a 111 3 rfl) dX12_fits_104 ?_
  refine Wp.icmp_eq (pc := 105) 110 dX12_fits_105 (by decide) (fun hc3 => ?_) (fun hc3 => ?_)
  · rw [if_pos hc3] at hf
    exact w_X12_fits_110 hX hG hf hk
  · rw [if_neg hc3] at hf
    refine Wp.lo' (lo' := []) [] rfl ?_
    cases hf
    exact hk
set_option maxHeartbeats 4000000 in
set_option maxRecDepth 100000 in
theorem w_X12_fits_59 {X : CX} {T : List Dsc} {R : RM} {c e : Nat} {n1 n2 : Nat} {x2 : Int32} {x3 : Int32} {x4 : Int32} {x5 : Int32} {x6 : Int32} {m : M2} {r : ((Int32 × M2) ⊕ ((M2) ⊕ (M2)))} (hX : XR X 9 n1 n2) (hG : Geo T R c e) (hf : f_X12_fits_59 x2 x3 x4 x5 x6 m = some r) (hk : k_X12_fits_59 X T R n1 n2 x2 x3 x4 x5 r) : Wp X cX12_fits RX12 7 T (mk m R) n1 n2 59 [(0, .ref 56), (2, .int x2), (3, .int x3), (4, .int x4), (5, .int x5), (6, .int x6)] [] := by
  unfold f_X12_fits_59 at hf
  refine Wp.iload (pc := 59) 5 rfl dX12_fits_59 ?_
  refine Wp.iload_n (pc := 61) 1 rfl rfl dX12_fits_61 ?_
  refine Wp.icmp_ge (pc := 62) 116 dX12_fits_62 (by decide) (fun hc1 => ?_) (fun hc1 => ?_)
  · rw [if_pos hc1] at hf
    refine Wp.lo' (lo' := [(0, .ref 56), (2, .int x2), (3, .int x3), (4, .int x4)]) [0, 1, 2, 3] rfl ?_
    cases hf
    exact hk
  · rw [if_neg hc1] at hf
    refine Wp.aload_n (pc := 65) 0 rfl rfl dX12_fits_65 ?_
    refine Wp.getR2 (pc := 66) (hG.r 56 80 rfl) (hG.t 56 rfl) fk_RX12_176 rfl dX12_fits_66 ?_
    refine Wp.iload (pc := 69) 5 rfl dX12_fits_69 ?_
    obtain ⟨v2, h3, hf⟩ := bnd hf
    refine Wp.iald2 (pc := 71) h3 (hG.a 109 0 rfl) dX12_fits_71 ?_
    refine Wp.iload (pc := 72) 3 rfl dX12_fits_72 ?_
    refine Wp.icmp_ne (pc := 74) 110 dX12_fits_74 (by decide) (fun hc4 => ?_) (fun hc4 => ?_)
    · rw [if_neg hc4] at hf
      exact w_X12_fits_110 hX hG hf hk
    · rw [if_pos hc4] at hf
      refine Wp.iload (pc := 77) 4 rfl dX12_fits_77 ?_
      refine Wp.aload_n (pc := 79) 0 rfl rfl dX12_fits_79 ?_
      refine Wp.getR2 (pc := 80) (hG.r 56 81 rfl) (hG.t 56 rfl) fk_RX12_179 rfl dX12_fits_80 ?_
      refine Wp.iload (pc := 83) 5 rfl dX12_fits_83 ?_
      obtain ⟨v5, h6, hf⟩ := bnd hf
      refine Wp.iald2 (pc := 85) h6 (hG.a 110 0 rfl) dX12_fits_85 ?_
      refine Wp.ishr (pc := 86) dX12_fits_86 ?_
      refine Wp.iconst (pc := 87) (1 : Int32) (by decide) dX12_fits_87 ?_
      refine Wp.iand (pc := 88) dX12_fits_88 ?_
      refine Wp.iconst (pc := 89) (1 : Int32) (by decide) dX12_fits_89 ?_
      refine Wp.icmp_ne (pc := 90) 97 dX12_fits_90 (by decide) (fun hc7 => ?_) (fun hc7 => ?_)
      · rw [if_neg hc7] at hf
        refine Wp.iconst (pc := 97) (0 : Int32) (by decide) dX12_fits_97 ?_
        exact w_X12_fits_98 hX hG hf hk
      · rw [if_pos hc7] at hf
        refine Wp.iconst (pc := 93) (1 : Int32) (by decide) dX12_fits_93 ?_
        refine Wp.goto (pc := 94) 98 dX12_fits_94 (by decide) ?_
        exact w_X12_fits_98 hX hG hf hk
theorem wl_X12_fits_59 {X : CX} {T : List Dsc} {R : RM} {c e : Nat} {n1 n2 : Nat} {x2 : Int32} {x3 : Int32} {x4 : Int32} {x5 : Int32} {x6 : Int32} {m : M2} {e1 : ((M2) ⊕ (M2))} (hX : XR X 9 n1 n2) (hG : Geo T R c e) (h : loop (g_X12_fits_59 x2 x3 x4 x5) (x6, m) = some e1) (he0 : ∀ e_, e1 = (Sum.inl e_) → Wp X cX12_fits RX12 7 T (mk e_ R) n1 n2 108 [] []) (he1 : ∀ e_, e1 = (Sum.inr e_) → Wp X cX12_fits RX12 7 T (mk e_ R) n1 n2 116 [(0, .ref 56), (2, .int x2), (3, .int x3), (4, .int x4)] []) : Wp X cX12_fits RX12 7 T (mk m R) n1 n2 59 [(0, .ref 56), (2, .int x2), (3, .int x3), (4, .int x4), (5, .int x5), (6, .int x6)] [] :=
  loop_ok (K := k_X12_fits_59 X T R n1 n2 x2 x3 x4 x5) (fun s r hf hk => w_X12_fits_59 hX hG hf hk) h (by rcases e1 with e_ | e_ <;> first | exact he0 _ rfl | exact he1 _ rfl)
set_option maxHeartbeats 4000000 in
set_option maxRecDepth 100000 in
theorem w_X12_fits_44 {X : CX} {T : List Dsc} {R : RM} {c e : Nat} {n1 n2 : Nat} {x2 : Int32} {x3 : Int32} {x4 : Int32} {m : M2} {r : ((Int32 × M2) ⊕ ((M2) ⊕ (M2)))} (hX : XR X 9 n1 n2) (hG : Geo T R c e) (hf : f_X12_fits_44 x2 x3 x4 m = some r) (hk : k_X12_fits_44 X T R n1 n2 x2 x3 r) : Wp X cX12_fits RX12 7 T (mk m R) n1 n2 44 [(0, .ref 56), (2, .int x2), (3, .int x3), (4, .int x4)] [] := by
  unfold f_X12_fits_44 at hf
  refine Wp.iload (pc := 44) 3 rfl dX12_fits_44 ?_
  refine Wp.iload_n (pc := 46) 2 rfl rfl dX12_fits_46 ?_
  refine Wp.icmp_gt (pc := 47) 132 dX12_fits_47 (by decide) (fun hc1 => ?_) (fun hc1 => ?_)
  · rw [if_pos hc1] at hf
    refine Wp.lo' (lo' := []) [] rfl ?_
    cases hf
    exact hk
  · rw [if_neg hc1] at hf
    refine Wp.aload_n (pc := 50) 0 rfl rfl dX12_fits_50 ?_
    obtain ⟨c2, h3, hf⟩ := bnd hf
    refine Wp.callVi (pc := 51) (st := []) (as := []) (c_X12_clashesNow hG h3) ml_RX12_453 mv_X12_clashesNow mb_X12_clashesNow hX (Nat.le_of_ble_eq_true rfl) (by decide) rfl (hG.t 56 rfl) rfl (by simp) dX12_fits_51 rfl ?_
    refine Wp.istore (pc := 54) (lo' := [(0, .ref 56), (2, .int x2), (3, .int x3), (4, .int x4), (5, .int c2.1)]) [1, 2, 3, 4, 0] rfl (by decide) dX12_fits_54 ?_
    refine Wp.iconst (pc := 56) (0 : Int32) (by decide) dX12_fits_56 ?_
    refine Wp.istore (pc := 57) (lo' := [(0, .ref 56), (2, .int x2), (3, .int x3), (4, .int x4), (5, .int c2.1), (6, .int (0 : Int32))]) [1, 2, 3, 4, 5, 0] rfl (by decide) dX12_fits_57 ?_
    obtain ⟨e4, h5, hf⟩ := bnd hf
    refine wl_X12_fits_59 hX hG h5 (fun e4_0 hq => ?_) (fun e4_1 hq => ?_)
    · rw [hq, Sum.elim_inl] at hf
      cases hf
      exact hk
    · rw [hq, Sum.elim_inr] at hf
      refine Wp.aload_n (pc := 116) 0 rfl rfl dX12_fits_116 ?_
      refine Wp.aload_n (pc := 117) 0 rfl rfl dX12_fits_117 ?_
      refine Wp.iload (pc := 118) 3 rfl dX12_fits_118 ?_
      obtain ⟨c6, h7, hf⟩ := bnd hf
      refine Wp.callVi (pc := 120) (st := [.ref 56]) (as := [.int x4]) (c_X12_isFog hG h7) ml_RX12_447 mv_X12_isFog mb_X12_isFog hX (Nat.le_of_ble_eq_true rfl) (by decide) rfl (hG.t 56 rfl) rfl (by simp [Value.category]) dX12_fits_120 rfl ?_
      obtain ⟨c8, h9, hf⟩ := bnd hf
      refine Wp.callVv (pc := 123) (st := []) (as := [.int c6.1]) (c_X12_strikes hG h9) ml_RX12_450 mv_X12_strikes mb_X12_strikes hX (Nat.le_of_ble_eq_true rfl) (by decide) rfl (hG.t 56 rfl) rfl (by simp) dX12_fits_123 rfl ?_
      obtain ⟨v10, h11, hf⟩ := bnd hf
      refine Wp.iincN (pc := 126) (lo' := [(0, .ref 56), (2, .int x2), (3, .int x3), (4, .int v10)]) (1 : Int32) (by decide) h11 3 rfl [1, 2, 3, 0] rfl (by decide) dX12_fits_126 ?_
      refine Wp.goto (pc := 129) 44 dX12_fits_129 (by decide) ?_
      cases hf
      exact hk
theorem wl_X12_fits_44 {X : CX} {T : List Dsc} {R : RM} {c e : Nat} {n1 n2 : Nat} {x2 : Int32} {x3 : Int32} {x4 : Int32} {m : M2} {e1 : ((M2) ⊕ (M2))} (hX : XR X 9 n1 n2) (hG : Geo T R c e) (h : loop (g_X12_fits_44 x2 x3) (x4, m) = some e1) (he0 : ∀ e_, e1 = (Sum.inl e_) → Wp X cX12_fits RX12 7 T (mk e_ R) n1 n2 108 [] []) (he1 : ∀ e_, e1 = (Sum.inr e_) → Wp X cX12_fits RX12 7 T (mk e_ R) n1 n2 132 [] []) : Wp X cX12_fits RX12 7 T (mk m R) n1 n2 44 [(0, .ref 56), (2, .int x2), (3, .int x3), (4, .int x4)] [] :=
  loop_ok (K := k_X12_fits_44 X T R n1 n2 x2 x3) (fun s r hf hk => w_X12_fits_44 hX hG hf hk) h (by rcases e1 with e_ | e_ <;> first | exact he0 _ rfl | exact he1 _ rfl)
set_option maxHeartbeats 4000000 in
set_option maxRecDepth 100000 in
theorem w_X12_fits {X : CX} {T : List Dsc} {R : RM} {c e : Nat} {n1 n2 : Nat} {x1 : Int32} {x2 : Int32} {m : M2} {r : (Int32 × M2)} (hX : XR X 9 n1 n2) (hG : Geo T R c e) (hf : F_X12_fits x1 x2 m = some r) (hk : FnZ X cX12_fits RX12 7 T n1 n2 (r.1, mk r.2 R)) : Wp X cX12_fits RX12 7 T (mk m R) n1 n2 0 [(0, .ref 56), (1, .int x1), (2, .int x2)] [] := by
  unfold F_X12_fits at hf
  refine Wp.aload_n (pc := 0) 0 rfl rfl dX12_fits_0 ?_
  refine Wp.iload_n (pc := 1) 1 rfl rfl dX12_fits_1 ?_
  obtain ⟨c1, h2, hf⟩ := bnd hf
  refine Wp.callVv (pc := 2) (st := []) (as := [.int x1]) (c_X12_breaks hG h2) ml_RX12_503 mv_X12_breaks mb_X12_breaks hX (Nat.le_of_ble_eq_true rfl) (by decide) rfl (hG.t 56 rfl) rfl (by simp) dX12_fits_2 rfl ?_
  refine Wp.iconst (pc := 5) (-1 : Int32) (by decide) dX12_fits_5 ?_
  refine Wp.istore_n (pc := 6) (lo' := [(0, .ref 56), (2, .int x2), (3, .int (-1 : Int32))]) [1, 3, 0] rfl (by decide) rfl dX12_fits_6 ?_
  refine Wp.iconst (pc := 7) (0 : Int32) (by decide) dX12_fits_7 ?_
  refine Wp.istore (pc := 8) (lo' := [(0, .ref 56), (2, .int x2), (3, .int (-1 : Int32)), (4, .int (0 : Int32))]) [1, 2, 3, 0] rfl (by decide) dX12_fits_8 ?_
  obtain ⟨e3, h4, hf⟩ := bnd hf
  refine wl_X12_fits_10 hX hG h4 ?_
  refine Wp.iconst (pc := 41) (0 : Int32) (by decide) dX12_fits_41 ?_
  refine Wp.istore (pc := 42) (lo' := [(0, .ref 56), (2, .int x2), (3, .int e3.1), (4, .int (0 : Int32))]) [1, 2, 3, 0] rfl (by decide) dX12_fits_42 ?_
  obtain ⟨e5, h6, hf⟩ := bnd hf
  refine wl_X12_fits_44 hX hG h6 (fun e5_0 hq => ?_) (fun e5_1 hq => ?_)
  · rw [hq, Sum.elim_inl] at hf
    refine Wp.iconst (pc := 108) (0 : Int32) (by decide) dX12_fits_108 ?_
    cases hf
    exact hk _ _ (Or.inl rfl) dX12_fits_109
  · rw [hq, Sum.elim_inr] at hf
    refine Wp.iconst (pc := 132) (1 : Int32) (by decide) dX12_fits_132 ?_
    cases hf
    exact hk _ _ (Or.inr rfl) dX12_fits_133
theorem c_X12_fits {T : List Dsc} {R : RM} {c e : Nat} {x1 : Int32} {x2 : Int32} {m : M2} {r : (Int32 × M2)} (hG : Geo T R c e) (hf : F_X12_fits x1 x2 m = some r) : Ct 9 yX12_fits cX12_fits 7 (some .boolean) T (mk m R) [.ref 56, .int x1, .int x2] (some (.int r.1)) (mk r.2 R) := Ct.ofZ (r := (r.1, mk r.2 R)) (by decide +kernel) (Nat.le_of_ble_eq_true rfl) (fun X hX hk => w_X12_fits hX hG hf hk)
theorem dX12_canSuspect_0 : decode cX12_canSuspect 0 = .ok (.iload_n 1, 1) := by decide +kernel
theorem dX12_canSuspect_1 : decode cX12_canSuspect 1 = .ok (.iconst 0, 1) := by decide +kernel
theorem dX12_canSuspect_2 : decode cX12_canSuspect 2 = .ok (.iconst 2, 1) := by decide +kernel
theorem dX12_canSuspect_3 : decode cX12_canSuspect 3 = .ok (.invokestatic 414, 3) := by decide +kernel
theorem dX12_canSuspect_6 : decode cX12_canSuspect 6 = .ok (.ifCond .eq 19, 3) := by decide +kernel
theorem dX12_canSuspect_9 : decode cX12_canSuspect 9 = .ok (.iload_n 2, 1) := by decide +kernel
theorem dX12_canSuspect_10 : decode cX12_canSuspect 10 = .ok (.iconst 0, 1) := by decide +kernel
theorem dX12_canSuspect_11 : decode cX12_canSuspect 11 = .ok (.aload_n 0, 1) := by decide +kernel
theorem dX12_canSuspect_12 : decode cX12_canSuspect 12 = .ok (.getfield 314, 3) := by decide +kernel
theorem dX12_canSuspect_15 : decode cX12_canSuspect 15 = .ok (.invokestatic 414, 3) := by decide +kernel
theorem dX12_canSuspect_18 : decode cX12_canSuspect 18 = .ok (.ifCond .eq 7, 3) := by decide +kernel
theorem dX12_canSuspect_21 : decode cX12_canSuspect 21 = .ok (.iconst 1, 1) := by decide +kernel
theorem dX12_canSuspect_22 : decode cX12_canSuspect 22 = .ok (.goto 4, 3) := by decide +kernel
theorem dX12_canSuspect_25 : decode cX12_canSuspect 25 = .ok (.iconst 0, 1) := by decide +kernel
theorem dX12_canSuspect_26 : decode cX12_canSuspect 26 = .ok (.ireturn, 1) := by decide +kernel
set_option maxHeartbeats 4000000 in
set_option maxRecDepth 100000 in
theorem w_X12_canSuspect_26 {X : CX} {T : List Dsc} {R : RM} {c e : Nat} {n1 n2 : Nat} {s0 : Int32} {m : M2} {r : (Int32 × M2)} (hX : XR X 2 n1 n2) (hG : Geo T R c e) (hf : f_X12_canSuspect_26 s0 m = some r) (hk : FnZ X cX12_canSuspect RX12 3 T n1 n2 (r.1, mk r.2 R)) : Wp X cX12_canSuspect RX12 3 T (mk m R) n1 n2 26 [] [.int s0] := by
  unfold f_X12_canSuspect_26 at hf
  obtain ⟨v1, h2, hf⟩ := bnd hf
  refine Wp.zb' h2 (fun h2 => ?_)
  cases hf
  exact hk _ _ h2 dX12_canSuspect_26
set_option maxHeartbeats 4000000 in
set_option maxRecDepth 100000 in
theorem w_X12_canSuspect_25 {X : CX} {T : List Dsc} {R : RM} {c e : Nat} {n1 n2 : Nat} {m : M2} {r : (Int32 × M2)} (hX : XR X 2 n1 n2) (hG : Geo T R c e) (hf : f_X12_canSuspect_25 m = some r) (hk : FnZ X cX12_canSuspect RX12 3 T n1 n2 (r.1, mk r.2 R)) : Wp X cX12_canSuspect RX12 3 T (mk m R) n1 n2 25 [] [] := by
  unfold f_X12_canSuspect_25 at hf
  refine Wp.iconst (pc := 25) (0 : Int32) (by decide) dX12_canSuspect_25 ?_
  exact w_X12_canSuspect_26 hX hG hf hk
set_option maxHeartbeats 4000000 in
set_option maxRecDepth 100000 in
theorem w_X12_canSuspect {X : CX} {T : List Dsc} {R : RM} {c e : Nat} {n1 n2 : Nat} {x1 : Int32} {x2 : Int32} {m : M2} {r : (Int32 × M2)} (hX : XR X 2 n1 n2) (hG : Geo T R c e) (hf : F_X12_canSuspect x1 x2 m = some r) (hk : FnZ X cX12_canSuspect RX12 3 T n1 n2 (r.1, mk r.2 R)) : Wp X cX12_canSuspect RX12 3 T (mk m R) n1 n2 0 [(0, .ref 56), (1, .int x1), (2, .int x2)] [] := by
  unfold F_X12_canSuspect at hf
  refine Wp.iload_n (pc := 0) 1 rfl rfl dX12_canSuspect_0 ?_
  refine Wp.iconst (pc := 1) (0 : Int32) (by decide) dX12_canSuspect_1 ?_
  refine Wp.iconst (pc := 2) (2 : Int32) (by decide) dX12_canSuspect_2 ?_
  obtain ⟨c1, h2, hf⟩ := bnd hf
  refine Wp.callSi (pc := 3) (st := []) (as := [.int x1, .int (0 : Int32), .int (2 : Int32)]) (c_X12_in hG h2) ml_RX12_414 ms_X12_in mb_X12_in hX (Nat.le_of_ble_eq_true rfl) (by decide) rfl (by simp) dX12_canSuspect_3 rfl ?_
  refine Wp.if_eq (pc := 6) 25 dX12_canSuspect_6 (by decide) (fun hc3 => ?_) (fun hc3 => ?_)
  · rw [if_pos hc3] at hf
    refine Wp.lo' (lo' := []) [] rfl ?_
    exact w_X12_canSuspect_25 hX hG hf hk
  · rw [if_neg hc3] at hf
    refine Wp.iload_n (pc := 9) 2 rfl rfl dX12_canSuspect_9 ?_
    refine Wp.iconst (pc := 10) (0 : Int32) (by decide) dX12_canSuspect_10 ?_
    refine Wp.aload_n (pc := 11) 0 rfl rfl dX12_canSuspect_11 ?_
    refine Wp.getI2 (pc := 12) (hG.t 56 rfl) fk_RX12_314 rfl dX12_canSuspect_12 ?_
    obtain ⟨c4, h5, hf⟩ := bnd hf
    refine Wp.callSi (pc := 15) (st := []) (as := [.int x2, .int (0 : Int32), .int (hI c1.2 56 79)]) (c_X12_in hG h5) ml_RX12_414 ms_X12_in mb_X12_in hX (Nat.le_of_ble_eq_true rfl) (by decide) rfl (by simp) dX12_canSuspect_15 rfl ?_
    refine Wp.if_eq (pc := 18) 25 dX12_canSuspect_18 (by decide) (fun hc6 => ?_) (fun hc6 => ?_)
    · rw [if_pos hc6] at hf
      refine Wp.lo' (lo' := []) [] rfl ?_
      exact w_X12_canSuspect_25 hX hG hf hk
    · rw [if_neg hc6] at hf
      refine Wp.iconst (pc := 21) (1 : Int32) (by decide) dX12_canSuspect_21 ?_
      refine Wp.goto (pc := 22) 26 dX12_canSuspect_22 (by decide) ?_
      refine Wp.lo' (lo' := []) [] rfl ?_
      exact w_X12_canSuspect_26 hX hG hf hk
theorem c_X12_canSuspect {T : List Dsc} {R : RM} {c e : Nat} {x1 : Int32} {x2 : Int32} {m : M2} {r : (Int32 × M2)} (hG : Geo T R c e) (hf : F_X12_canSuspect x1 x2 m = some r) : Ct 2 yX12_canSuspect cX12_canSuspect 3 (some .boolean) T (mk m R) [.ref 56, .int x1, .int x2] (some (.int r.1)) (mk r.2 R) := Ct.ofZ (r := (r.1, mk r.2 R)) (by decide +kernel) (Nat.le_of_ble_eq_true rfl) (fun X hX hk => w_X12_canSuspect hX hG hf hk)
