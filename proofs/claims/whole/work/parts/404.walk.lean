theorem dX6_cost_0 : decode cX6_cost 0 = .ok (.lconst 0, 1) := by decide +kernel
theorem dX6_cost_1 : decode cX6_cost 1 = .ok (.lstore 4, 2) := by decide +kernel
theorem dX6_cost_3 : decode cX6_cost 3 = .ok (.iconst 0, 1) := by decide +kernel
theorem dX6_cost_4 : decode cX6_cost 4 = .ok (.istore 6, 2) := by decide +kernel
theorem dX6_cost_6 : decode cX6_cost 6 = .ok (.iload 6, 2) := by decide +kernel
theorem dX6_cost_8 : decode cX6_cost 8 = .ok (.aload_n 0, 1) := by decide +kernel
theorem dX6_cost_9 : decode cX6_cost 9 = .ok (.getfield 21, 3) := by decide +kernel
theorem dX6_cost_12 : decode cX6_cost 12 = .ok (.getfield 25, 3) := by decide +kernel
theorem dX6_cost_15 : decode cX6_cost 15 = .ok (.getfield 31, 3) := by decide +kernel
theorem dX6_cost_18 : decode cX6_cost 18 = .ok (.if_icmp .ge 51, 3) := by decide +kernel
theorem dX6_cost_21 : decode cX6_cost 21 = .ok (.lload 4, 2) := by decide +kernel
theorem dX6_cost_23 : decode cX6_cost 23 = .ok (.iload 6, 2) := by decide +kernel
theorem dX6_cost_25 : decode cX6_cost 25 = .ok (.aload_n 1, 1) := by decide +kernel
theorem dX6_cost_26 : decode cX6_cost 26 = .ok (.getfield 58, 3) := by decide +kernel
theorem dX6_cost_29 : decode cX6_cost 29 = .ok (.aload_n 0, 1) := by decide +kernel
theorem dX6_cost_30 : decode cX6_cost 30 = .ok (.getfield 9, 3) := by decide +kernel
theorem dX6_cost_33 : decode cX6_cost 33 = .ok (.iload 6, 2) := by decide +kernel
theorem dX6_cost_35 : decode cX6_cost 35 = .ok (.iaload, 1) := by decide +kernel
theorem dX6_cost_36 : decode cX6_cost 36 = .ok (.invokestatic 64, 3) := by decide +kernel
theorem dX6_cost_39 : decode cX6_cost 39 = .ok (.invokestatic 68, 3) := by decide +kernel
theorem dX6_cost_42 : decode cX6_cost 42 = .ok (.lstore 4, 2) := by decide +kernel
theorem dX6_cost_44 : decode cX6_cost 44 = .ok (.aload_n 0, 1) := by decide +kernel
theorem dX6_cost_45 : decode cX6_cost 45 = .ok (.getfield 18, 3) := by decide +kernel
theorem dX6_cost_48 : decode cX6_cost 48 = .ok (.iload 6, 2) := by decide +kernel
theorem dX6_cost_50 : decode cX6_cost 50 = .ok (.aload_n 1, 1) := by decide +kernel
theorem dX6_cost_51 : decode cX6_cost 51 = .ok (.getfield 72, 3) := by decide +kernel
theorem dX6_cost_54 : decode cX6_cost 54 = .ok (.aload_n 0, 1) := by decide +kernel
theorem dX6_cost_55 : decode cX6_cost 55 = .ok (.getfield 9, 3) := by decide +kernel
theorem dX6_cost_58 : decode cX6_cost 58 = .ok (.iload 6, 2) := by decide +kernel
theorem dX6_cost_60 : decode cX6_cost 60 = .ok (.iaload, 1) := by decide +kernel
theorem dX6_cost_61 : decode cX6_cost 61 = .ok (.iaload, 1) := by decide +kernel
theorem dX6_cost_62 : decode cX6_cost 62 = .ok (.iastore, 1) := by decide +kernel
theorem dX6_cost_63 : decode cX6_cost 63 = .ok (.iinc 6 1, 3) := by decide +kernel
theorem dX6_cost_66 : decode cX6_cost 66 = .ok (.goto (-60), 3) := by decide +kernel
theorem dX6_cost_69 : decode cX6_cost 69 = .ok (.iconst 0, 1) := by decide +kernel
theorem dX6_cost_70 : decode cX6_cost 70 = .ok (.istore 6, 2) := by decide +kernel
theorem dX6_cost_72 : decode cX6_cost 72 = .ok (.iconst 0, 1) := by decide +kernel
theorem dX6_cost_73 : decode cX6_cost 73 = .ok (.istore 7, 2) := by decide +kernel
theorem dX6_cost_75 : decode cX6_cost 75 = .ok (.iload 7, 2) := by decide +kernel
theorem dX6_cost_77 : decode cX6_cost 77 = .ok (.iload_n 3, 1) := by decide +kernel
theorem dX6_cost_78 : decode cX6_cost 78 = .ok (.if_icmp .gt 83, 3) := by decide +kernel
theorem dX6_cost_81 : decode cX6_cost 81 = .ok (.aload_n 0, 1) := by decide +kernel
theorem dX6_cost_82 : decode cX6_cost 82 = .ok (.getfield 21, 3) := by decide +kernel
theorem dX6_cost_85 : decode cX6_cost 85 = .ok (.lload 4, 2) := by decide +kernel
theorem dX6_cost_87 : decode cX6_cost 87 = .ok (.aload_n 0, 1) := by decide +kernel
theorem dX6_cost_88 : decode cX6_cost 88 = .ok (.getfield 18, 3) := by decide +kernel
theorem dX6_cost_91 : decode cX6_cost 91 = .ok (.aload_n 1, 1) := by decide +kernel
theorem dX6_cost_92 : decode cX6_cost 92 = .ok (.getfield 73, 3) := by decide +kernel
theorem dX6_cost_95 : decode cX6_cost 95 = .ok (.iconst 0, 1) := by decide +kernel
theorem dX6_cost_96 : decode cX6_cost 96 = .ok (.invokevirtual 76, 3) := by decide +kernel
theorem dX6_cost_99 : decode cX6_cost 99 = .ok (.lstore 8, 2) := by decide +kernel
theorem dX6_cost_101 : decode cX6_cost 101 = .ok (.aload_n 0, 1) := by decide +kernel
theorem dX6_cost_102 : decode cX6_cost 102 = .ok (.iload_n 2, 1) := by decide +kernel
theorem dX6_cost_103 : decode cX6_cost 103 = .ok (.lload 8, 2) := by decide +kernel
theorem dX6_cost_105 : decode cX6_cost 105 = .ok (.invokevirtual 80, 3) := by decide +kernel
theorem dX6_cost_108 : decode cX6_cost 108 = .ok (.istore 10, 2) := by decide +kernel
theorem dX6_cost_110 : decode cX6_cost 110 = .ok (.lload 8, 2) := by decide +kernel
theorem dX6_cost_112 : decode cX6_cost 112 = .ok (.lload 4, 2) := by decide +kernel
theorem dX6_cost_114 : decode cX6_cost 114 = .ok (.lcmp, 1) := by decide +kernel
theorem dX6_cost_115 : decode cX6_cost 115 = .ok (.ifCond .ne 23, 3) := by decide +kernel
theorem dX6_cost_118 : decode cX6_cost 118 = .ok (.iload_n 2, 1) := by decide +kernel
theorem dX6_cost_119 : decode cX6_cost 119 = .ok (.ifCond .ne 8, 3) := by decide +kernel
theorem dX6_cost_122 : decode cX6_cost 122 = .ok (.iload 7, 2) := by decide +kernel
theorem dX6_cost_124 : decode cX6_cost 124 = .ok (.goto 13, 3) := by decide +kernel
theorem dX6_cost_127 : decode cX6_cost 127 = .ok (.iload 6, 2) := by decide +kernel
theorem dX6_cost_129 : decode cX6_cost 129 = .ok (.iload 10, 2) := by decide +kernel
theorem dX6_cost_131 : decode cX6_cost 131 = .ok (.iload_n 3, 1) := by decide +kernel
theorem dX6_cost_132 : decode cX6_cost 132 = .ok (.iload 7, 2) := by decide +kernel
theorem dX6_cost_134 : decode cX6_cost 134 = .ok (.isub, 1) := by decide +kernel
theorem dX6_cost_135 : decode cX6_cost 135 = .ok (.imul, 1) := by decide +kernel
theorem dX6_cost_136 : decode cX6_cost 136 = .ok (.iadd, 1) := by decide +kernel
theorem dX6_cost_137 : decode cX6_cost 137 = .ok (.ireturn, 1) := by decide +kernel
theorem dX6_cost_138 : decode cX6_cost 138 = .ok (.iload 7, 2) := by decide +kernel
theorem dX6_cost_140 : decode cX6_cost 140 = .ok (.iload_n 3, 1) := by decide +kernel
theorem dX6_cost_141 : decode cX6_cost 141 = .ok (.if_icmp .ge 10, 3) := by decide +kernel
theorem dX6_cost_144 : decode cX6_cost 144 = .ok (.iload 6, 2) := by decide +kernel
theorem dX6_cost_146 : decode cX6_cost 146 = .ok (.iload 10, 2) := by decide +kernel
theorem dX6_cost_148 : decode cX6_cost 148 = .ok (.iadd, 1) := by decide +kernel
theorem dX6_cost_149 : decode cX6_cost 149 = .ok (.istore 6, 2) := by decide +kernel
theorem dX6_cost_151 : decode cX6_cost 151 = .ok (.lload 8, 2) := by decide +kernel
theorem dX6_cost_153 : decode cX6_cost 153 = .ok (.lstore 4, 2) := by decide +kernel
theorem dX6_cost_155 : decode cX6_cost 155 = .ok (.iinc 7 1, 3) := by decide +kernel
theorem dX6_cost_158 : decode cX6_cost 158 = .ok (.goto (-83), 3) := by decide +kernel
theorem dX6_cost_161 : decode cX6_cost 161 = .ok (.iload_n 2, 1) := by decide +kernel
theorem dX6_cost_162 : decode cX6_cost 162 = .ok (.ifCond .ne 9, 3) := by decide +kernel
theorem dX6_cost_165 : decode cX6_cost 165 = .ok (.iload_n 3, 1) := by decide +kernel
theorem dX6_cost_166 : decode cX6_cost 166 = .ok (.iconst 1, 1) := by decide +kernel
theorem dX6_cost_167 : decode cX6_cost 167 = .ok (.iadd, 1) := by decide +kernel
theorem dX6_cost_168 : decode cX6_cost 168 = .ok (.goto 5, 3) := by decide +kernel
theorem dX6_cost_171 : decode cX6_cost 171 = .ok (.iload 6, 2) := by decide +kernel
theorem dX6_cost_173 : decode cX6_cost 173 = .ok (.ireturn, 1) := by decide +kernel
def k_X6_cost_6 (X : CX) (T : List Dsc) (n1 n2 : Nat) (x0 : Nat) (x1 : Nat) (x2 : Int32) (x3 : Int32) (r : ((Int64 × Int32 × Mem) ⊕ ((Int64 × Mem)))) : Prop := match r with
  | .inl s => Wp X cX6_cost RX6 11 T s.2.2 n1 n2 6 [(0, .ref x0), (1, .ref x1), (2, .int x2), (3, .int x3), (4, .long s.1), (6, .int s.2.1)] []
  | .inr e => Wp X cX6_cost RX6 11 T e.2 n1 n2 69 [(0, .ref x0), (1, .ref x1), (2, .int x2), (3, .int x3), (4, .long e.1)] []
def k_X6_cost_75 (X : CX) (T : List Dsc) (n1 n2 : Nat) (x0 : Nat) (x1 : Nat) (x2 : Int32) (x3 : Int32) (r : ((Int64 × Int32 × Int32 × Mem) ⊕ ((Int32 × Int32 × Int32 × Mem) ⊕ (Int32 × Mem)))) : Prop := match r with
  | .inl s => Wp X cX6_cost RX6 11 T s.2.2.2 n1 n2 75 [(0, .ref x0), (1, .ref x1), (2, .int x2), (3, .int x3), (4, .long s.1), (6, .int s.2.1), (7, .int s.2.2.1)] []
  | .inr (.inl e) => Wp X cX6_cost RX6 11 T e.2.2.2 n1 n2 118 [(2, .int x2), (3, .int x3), (6, .int e.1), (7, .int e.2.1), (10, .int e.2.2.1)] []
  | .inr (.inr e) => Wp X cX6_cost RX6 11 T e.2 n1 n2 161 [(2, .int x2), (3, .int x3), (6, .int e.1)] []
set_option maxHeartbeats 4000000 in
set_option maxRecDepth 100000 in
theorem w_X6_cost_6 {X : CX} {T : List Dsc} {n1 n2 : Nat} {x0 : Nat} {x1 : Nat} {x2 : Int32} {x3 : Int32} {x4 : Int64} {x6 : Int32} {μ : Mem} {r : ((Int64 × Int32 × Mem) ⊕ ((Int64 × Mem)))} (hX : XR X 6 n1 n2) (hx0 : T[x0]? = some (.inl 5)) (hx1 : T[x1]? = some (.inl 1)) (hf : f_X6_cost_6 T x0 x1 x2 x3 x4 x6 μ = some r) (hk : k_X6_cost_6 X T n1 n2 x0 x1 x2 x3 r) : Wp X cX6_cost RX6 11 T μ n1 n2 6 [(0, .ref x0), (1, .ref x1), (2, .int x2), (3, .int x3), (4, .long x4), (6, .int x6)] [] := by
  unfold f_X6_cost_6 at hf
  refine Wp.iload (pc := 6) 5 rfl dX6_cost_6 ?_
  refine Wp.aload_n (pc := 8) 0 rfl rfl dX6_cost_8 ?_
  obtain ⟨r1, h2, hf⟩ := bnd hf
  refine Wp.getR (pc := 9) (gO_R h2) hx0 fk_RX6_21 rfl dX6_cost_9 ?_
  obtain ⟨r3, h4, hf⟩ := bnd hf
  refine Wp.getR (pc := 12) (gO_R h4) (gO_T h2) fk_RX6_25 rfl dX6_cost_12 ?_
  refine Wp.getI (pc := 15) (gO_T h4) fk_RX6_31 rfl dX6_cost_15 ?_
  refine Wp.icmp_ge (pc := 18) 69 dX6_cost_18 (by decide) (fun hc5 => ?_) (fun hc5 => ?_)
  · rw [if_pos hc5] at hf
    refine Wp.lo' (lo' := [(0, .ref x0), (1, .ref x1), (2, .int x2), (3, .int x3), (4, .long x4)]) [0, 1, 2, 3, 4] rfl ?_
    cases hf
    exact hk
  · rw [if_neg hc5] at hf
    refine Wp.lload (pc := 21) 4 rfl dX6_cost_21 ?_
    refine Wp.iload (pc := 23) 5 rfl dX6_cost_23 ?_
    refine Wp.aload_n (pc := 25) 1 rfl rfl dX6_cost_25 ?_
    refine Wp.getJ (pc := 26) hx1 fk_RX6_58 rfl dX6_cost_26 ?_
    refine Wp.aload_n (pc := 29) 0 rfl rfl dX6_cost_29 ?_
    obtain ⟨a6, h7, hf⟩ := bnd hf
    refine Wp.getR (pc := 30) (gA_R h7) hx0 fk_RX6_9 rfl dX6_cost_30 ?_
    refine Wp.iload (pc := 33) 5 rfl dX6_cost_33 ?_
    obtain ⟨v8, h9, hf⟩ := bnd hf
    refine Wp.iald (pc := 35) h9 (gA_T h7) dX6_cost_35 ?_
    obtain ⟨c10, h11, hf⟩ := bnd hf
    refine Wp.callSNi (pc := 36) (st := [.int x6, .long x4]) (as := [.long (gJ μ x1 0), .int v8]) (c_X11_timeAt h11) ml_RX6_64 ms_X11_timeAt mb_X11_timeAt hX (Nat.le_of_ble_eq_true rfl) (by decide) rfl (by simp [Value.category]) dX6_cost_36 rfl ?_
    obtain ⟨c12, h13, hf⟩ := bnd hf
    refine Wp.callSNl (pc := 39) (st := []) (as := [.long x4, .int x6, .int c10.1]) (c_X11_withTime h13) ml_RX6_68 ms_X11_withTime mb_X11_withTime hX (Nat.le_of_ble_eq_true rfl) (by decide) rfl (by simp) dX6_cost_39 rfl ?_
    refine Wp.lstore (pc := 42) (lo' := [(0, .ref x0), (1, .ref x1), (2, .int x2), (3, .int x3), (4, .long c12.1), (6, .int x6)]) [1, 2, 3, 4, 0, 5] rfl (by decide) dX6_cost_42 ?_
    refine Wp.aload_n (pc := 44) 0 rfl rfl dX6_cost_44 ?_
    obtain ⟨a14, h15, hf⟩ := bnd hf
    refine Wp.getR (pc := 45) (gA_R h15) hx0 fk_RX6_18 rfl dX6_cost_45 ?_
    refine Wp.iload (pc := 48) 5 rfl dX6_cost_48 ?_
    refine Wp.aload_n (pc := 50) 1 rfl rfl dX6_cost_50 ?_
    obtain ⟨a16, h17, hf⟩ := bnd hf
    refine Wp.getR (pc := 51) (gA_R h17) hx1 fk_RX6_72 rfl dX6_cost_51 ?_
    refine Wp.aload_n (pc := 54) 0 rfl rfl dX6_cost_54 ?_
    obtain ⟨a18, h19, hf⟩ := bnd hf
    refine Wp.getR (pc := 55) (gA_R h19) hx0 fk_RX6_9 rfl dX6_cost_55 ?_
    refine Wp.iload (pc := 58) 5 rfl dX6_cost_58 ?_
    obtain ⟨v20, h21, hf⟩ := bnd hf
    refine Wp.iald (pc := 60) h21 (gA_T h19) dX6_cost_60 ?_
    obtain ⟨v22, h23, hf⟩ := bnd hf
    refine Wp.iald (pc := 61) h23 (gA_T h17) dX6_cost_61 ?_
    obtain ⟨μ24, h25, hf⟩ := bnd hf
    refine Wp.iast (pc := 62) h25 (gA_T h15) dX6_cost_62 ?_
    obtain ⟨v26, h27, hf⟩ := bnd hf
    refine Wp.iincN (pc := 63) (lo' := [(0, .ref x0), (1, .ref x1), (2, .int x2), (3, .int x3), (4, .long c12.1), (6, .int v26)]) (1 : Int32) (by decide) h27 5 rfl [1, 2, 3, 4, 5, 0] rfl (by decide) dX6_cost_63 ?_
    refine Wp.goto (pc := 66) 6 dX6_cost_66 (by decide) ?_
    cases hf
    exact hk
theorem wl_X6_cost_6 {X : CX} {T : List Dsc} {n1 n2 : Nat} {x0 : Nat} {x1 : Nat} {x2 : Int32} {x3 : Int32} {x4 : Int64} {x6 : Int32} {μ : Mem} {e : ((Int64 × Mem))} (hX : XR X 6 n1 n2) (hx0 : T[x0]? = some (.inl 5)) (hx1 : T[x1]? = some (.inl 1)) (h : loop (g_X6_cost_6 T x0 x1 x2 x3) (x4, x6, μ) = some e) (he : Wp X cX6_cost RX6 11 T e.2 n1 n2 69 [(0, .ref x0), (1, .ref x1), (2, .int x2), (3, .int x3), (4, .long e.1)] []) : Wp X cX6_cost RX6 11 T μ n1 n2 6 [(0, .ref x0), (1, .ref x1), (2, .int x2), (3, .int x3), (4, .long x4), (6, .int x6)] [] :=
  loop_ok (K := k_X6_cost_6 X T n1 n2 x0 x1 x2 x3) (fun s r hf hk => w_X6_cost_6 hX hx0 hx1 hf hk) h he
set_option maxHeartbeats 4000000 in
set_option maxRecDepth 100000 in
theorem w_X6_cost_151 {X : CX} {T : List Dsc} {n1 n2 : Nat} {x0 : Nat} {x1 : Nat} {x2 : Int32} {x3 : Int32} {x6 : Int32} {x7 : Int32} {x8 : Int64} {μ : Mem} {r : ((Int64 × Int32 × Int32 × Mem) ⊕ ((Int32 × Int32 × Int32 × Mem) ⊕ (Int32 × Mem)))} (hX : XR X 6 n1 n2) (hx0 : T[x0]? = some (.inl 5)) (hx1 : T[x1]? = some (.inl 1)) (hf : f_X6_cost_151 T x0 x1 x2 x3 x6 x7 x8 μ = some r) (hk : k_X6_cost_75 X T n1 n2 x0 x1 x2 x3 r) : Wp X cX6_cost RX6 11 T μ n1 n2 151 [(0, .ref x0), (1, .ref x1), (2, .int x2), (3, .int x3), (6, .int x6), (7, .int x7), (8, .long x8)] [] := by
  unfold f_X6_cost_151 at hf
  refine Wp.lload (pc := 151) 6 rfl dX6_cost_151 ?_
  refine Wp.lstore (pc := 153) (lo' := [(0, .ref x0), (1, .ref x1), (2, .int x2), (3, .int x3), (4, .long x8), (6, .int x6), (7, .int x7)]) [1, 2, 3, 4, 0, 5, 6] rfl (by decide) dX6_cost_153 ?_
  obtain ⟨v1, h2, hf⟩ := bnd hf
  refine Wp.iincN (pc := 155) (lo' := [(0, .ref x0), (1, .ref x1), (2, .int x2), (3, .int x3), (4, .long x8), (6, .int x6), (7, .int v1)]) (1 : Int32) (by decide) h2 6 rfl [1, 2, 3, 4, 5, 6, 0] rfl (by decide) dX6_cost_155 ?_
  refine Wp.goto (pc := 158) 75 dX6_cost_158 (by decide) ?_
  cases hf
  exact hk
set_option maxHeartbeats 4000000 in
set_option maxRecDepth 100000 in
theorem w_X6_cost_75 {X : CX} {T : List Dsc} {n1 n2 : Nat} {x0 : Nat} {x1 : Nat} {x2 : Int32} {x3 : Int32} {x4 : Int64} {x6 : Int32} {x7 : Int32} {μ : Mem} {r : ((Int64 × Int32 × Int32 × Mem) ⊕ ((Int32 × Int32 × Int32 × Mem) ⊕ (Int32 × Mem)))} (hX : XR X 6 n1 n2) (hx0 : T[x0]? = some (.inl 5)) (hx1 : T[x1]? = some (.inl 1)) (hf : f_X6_cost_75 T x0 x1 x2 x3 x4 x6 x7 μ = some r) (hk : k_X6_cost_75 X T n1 n2 x0 x1 x2 x3 r) : Wp X cX6_cost RX6 11 T μ n1 n2 75 [(0, .ref x0), (1, .ref x1), (2, .int x2), (3, .int x3), (4, .long x4), (6, .int x6), (7, .int x7)] [] := by
  unfold f_X6_cost_75 at hf
  refine Wp.iload (pc := 75) 6 rfl dX6_cost_75 ?_
  refine Wp.iload_n (pc := 77) 3 rfl rfl dX6_cost_77 ?_
  refine Wp.icmp_gt (pc := 78) 161 dX6_cost_78 (by decide) (fun hc1 => ?_) (fun hc1 => ?_)
  · rw [if_pos hc1] at hf
    refine Wp.lo' (lo' := [(2, .int x2), (3, .int x3), (6, .int x6)]) [2, 3, 5] rfl ?_
    cases hf
    exact hk
  · rw [if_neg hc1] at hf
    refine Wp.aload_n (pc := 81) 0 rfl rfl dX6_cost_81 ?_
    obtain ⟨r2, h3, hf⟩ := bnd hf
    refine Wp.getR (pc := 82) (gO_R h3) hx0 fk_RX6_21 rfl dX6_cost_82 ?_
    refine Wp.lload (pc := 85) 4 rfl dX6_cost_85 ?_
    refine Wp.aload_n (pc := 87) 0 rfl rfl dX6_cost_87 ?_
    obtain ⟨a4, h5, hf⟩ := bnd hf
    refine Wp.getR (pc := 88) (gA_R h5) hx0 fk_RX6_18 rfl dX6_cost_88 ?_
    refine Wp.aload_n (pc := 91) 1 rfl rfl dX6_cost_91 ?_
    refine Wp.getI (pc := 92) hx1 fk_RX6_73 rfl dX6_cost_92 ?_
    refine Wp.iconst (pc := 95) (0 : Int32) (by decide) dX6_cost_95 ?_
    obtain ⟨c6, h7, hf⟩ := bnd hf
    refine Wp.callVl (pc := 96) (st := []) (as := [.long x4, .ref a4.1, .int (gI μ x1 3), .int (0 : Int32)]) (c_X5_stroke (gO_T h3) (gA_T h5) h7) ml_RX6_76 mv_X5_stroke mb_X5_stroke hX (Nat.le_of_ble_eq_true rfl) (by decide) rfl (gO_T h3) rfl (by simp) dX6_cost_96 rfl ?_
    refine Wp.lstore (pc := 99) (lo' := [(0, .ref x0), (1, .ref x1), (2, .int x2), (3, .int x3), (4, .long x4), (6, .int x6), (7, .int x7), (8, .long c6.1)]) [1, 2, 3, 4, 5, 6, 7, 0] rfl (by decide) dX6_cost_99 ?_
    refine Wp.aload_n (pc := 101) 0 rfl rfl dX6_cost_101 ?_
    refine Wp.iload_n (pc := 102) 2 rfl rfl dX6_cost_102 ?_
    refine Wp.lload (pc := 103) 7 rfl dX6_cost_103 ?_
    obtain ⟨c8, h9, hf⟩ := bnd hf
    refine Wp.callVi (pc := 105) (st := []) (as := [.int x2, .long c6.1]) (c_X6_costOf hx0 h9) ml_RX6_80 mv_X6_costOf mb_X6_costOf hX (Nat.le_of_ble_eq_true rfl) (by decide) rfl hx0 rfl (by simp) dX6_cost_105 rfl ?_
    refine Wp.istore (pc := 108) (lo' := [(0, .ref x0), (1, .ref x1), (2, .int x2), (3, .int x3), (4, .long x4), (6, .int x6), (7, .int x7), (8, .long c6.1), (10, .int c8.1)]) [1, 2, 3, 4, 5, 6, 7, 8, 0] rfl (by decide) dX6_cost_108 ?_
    refine Wp.lload (pc := 110) 7 rfl dX6_cost_110 ?_
    refine Wp.lload (pc := 112) 4 rfl dX6_cost_112 ?_
    refine Wp.lcmp (pc := 114) dX6_cost_114 ?_
    refine Wp.if_ne (pc := 115) 138 dX6_cost_115 (by decide) (fun hc10 => ?_) (fun hc10 => ?_)
    · rw [if_neg hc10] at hf
      refine Wp.iload (pc := 138) 6 rfl dX6_cost_138 ?_
      refine Wp.iload_n (pc := 140) 3 rfl rfl dX6_cost_140 ?_
      refine Wp.icmp_ge (pc := 141) 151 dX6_cost_141 (by decide) (fun hc11 => ?_) (fun hc11 => ?_)
      · rw [if_pos hc11] at hf
        refine Wp.lo' (lo' := [(0, .ref x0), (1, .ref x1), (2, .int x2), (3, .int x3), (6, .int x6), (7, .int x7), (8, .long c6.1)]) [0, 1, 2, 3, 5, 6, 7] rfl ?_
        exact w_X6_cost_151 hX hx0 hx1 hf hk
      · rw [if_neg hc11] at hf
        refine Wp.iload (pc := 144) 5 rfl dX6_cost_144 ?_
        refine Wp.iload (pc := 146) 8 rfl dX6_cost_146 ?_
        refine Wp.iadd (pc := 148) dX6_cost_148 ?_
        obtain ⟨v12, h13, hf⟩ := bnd hf
        refine Wp.nI' h13 ?_
        refine Wp.istore (pc := 149) (lo' := [(0, .ref x0), (1, .ref x1), (2, .int x2), (3, .int x3), (6, .int v12), (7, .int x7), (8, .long c6.1)]) [1, 2, 3, 4, 0, 6, 7] rfl (by decide) dX6_cost_149 ?_
        exact w_X6_cost_151 hX hx0 hx1 hf hk
    · rw [if_pos hc10] at hf
      refine Wp.lo' (lo' := [(2, .int x2), (3, .int x3), (6, .int x6), (7, .int x7), (10, .int c8.1)]) [2, 3, 5, 6, 8] rfl ?_
      cases hf
      exact hk
theorem wl_X6_cost_75 {X : CX} {T : List Dsc} {n1 n2 : Nat} {x0 : Nat} {x1 : Nat} {x2 : Int32} {x3 : Int32} {x4 : Int64} {x6 : Int32} {x7 : Int32} {μ : Mem} {e : ((Int32 × Int32 × Int32 × Mem) ⊕ (Int32 × Mem))} (hX : XR X 6 n1 n2) (hx0 : T[x0]? = some (.inl 5)) (hx1 : T[x1]? = some (.inl 1)) (h : loop (g_X6_cost_75 T x0 x1 x2 x3) (x4, x6, x7, μ) = some e) (he0 : ∀ e_, e = (Sum.inl e_) → Wp X cX6_cost RX6 11 T e_.2.2.2 n1 n2 118 [(2, .int x2), (3, .int x3), (6, .int e_.1), (7, .int e_.2.1), (10, .int e_.2.2.1)] []) (he1 : ∀ e_, e = (Sum.inr e_) → Wp X cX6_cost RX6 11 T e_.2 n1 n2 161 [(2, .int x2), (3, .int x3), (6, .int e_.1)] []) : Wp X cX6_cost RX6 11 T μ n1 n2 75 [(0, .ref x0), (1, .ref x1), (2, .int x2), (3, .int x3), (4, .long x4), (6, .int x6), (7, .int x7)] [] :=
  loop_ok (K := k_X6_cost_75 X T n1 n2 x0 x1 x2 x3) (fun s r hf hk => w_X6_cost_75 hX hx0 hx1 hf hk) h (by rcases e with e | e <;> first | exact he0 _ rfl | exact he1 _ rfl)
set_option maxHeartbeats 4000000 in
set_option maxRecDepth 100000 in
theorem w_X6_cost_137 {X : CX} {T : List Dsc} {n1 n2 : Nat} {s0 : Int32} {μ : Mem} {r : (Int32 × Mem)} (hX : XR X 6 n1 n2) (hf : f_X6_cost_137 T s0 μ = some r) (hk : FnI X cX6_cost RX6 11 T n1 n2 r) : Wp X cX6_cost RX6 11 T μ n1 n2 137 [] [.int s0] := by
  unfold f_X6_cost_137 at hf
  cases hf
  exact hk _ _ dX6_cost_137
set_option maxHeartbeats 4000000 in
set_option maxRecDepth 100000 in
theorem w_X6_cost_173 {X : CX} {T : List Dsc} {n1 n2 : Nat} {s0 : Int32} {μ : Mem} {r : (Int32 × Mem)} (hX : XR X 6 n1 n2) (hf : f_X6_cost_173 T s0 μ = some r) (hk : FnI X cX6_cost RX6 11 T n1 n2 r) : Wp X cX6_cost RX6 11 T μ n1 n2 173 [] [.int s0] := by
  unfold f_X6_cost_173 at hf
  cases hf
  exact hk _ _ dX6_cost_173
set_option maxHeartbeats 4000000 in
set_option maxRecDepth 100000 in
theorem w_X6_cost {X : CX} {T : List Dsc} {n1 n2 : Nat} {x0 : Nat} {x1 : Nat} {x2 : Int32} {x3 : Int32} {μ : Mem} {r : (Int32 × Mem)} (hX : XR X 6 n1 n2) (hx0 : T[x0]? = some (.inl 5)) (hx1 : T[x1]? = some (.inl 1)) (hf : F_X6_cost T x0 x1 x2 x3 μ = some r) (hk : FnI X cX6_cost RX6 11 T n1 n2 r) : Wp X cX6_cost RX6 11 T μ n1 n2 0 [(0, .ref x0), (1, .ref x1), (2, .int x2), (3, .int x3)] [] := by
  unfold F_X6_cost at hf
  refine Wp.lconst (pc := 0) (0 : Int64) (by decide) dX6_cost_0 ?_
  refine Wp.lstore (pc := 1) (lo' := [(0, .ref x0), (1, .ref x1), (2, .int x2), (3, .int x3), (4, .long (0 : Int64))]) [1, 2, 3, 4, 0] rfl (by decide) dX6_cost_1 ?_
  refine Wp.iconst (pc := 3) (0 : Int32) (by decide) dX6_cost_3 ?_
  refine Wp.istore (pc := 4) (lo' := [(0, .ref x0), (1, .ref x1), (2, .int x2), (3, .int x3), (4, .long (0 : Int64)), (6, .int (0 : Int32))]) [1, 2, 3, 4, 5, 0] rfl (by decide) dX6_cost_4 ?_
  obtain ⟨e1, h2, hf⟩ := bnd hf
  refine wl_X6_cost_6 hX hx0 hx1 h2 ?_
  refine Wp.iconst (pc := 69) (0 : Int32) (by decide) dX6_cost_69 ?_
  refine Wp.istore (pc := 70) (lo' := [(0, .ref x0), (1, .ref x1), (2, .int x2), (3, .int x3), (4, .long e1.1), (6, .int (0 : Int32))]) [1, 2, 3, 4, 5, 0] rfl (by decide) dX6_cost_70 ?_
  refine Wp.iconst (pc := 72) (0 : Int32) (by decide) dX6_cost_72 ?_
  refine Wp.istore (pc := 73) (lo' := [(0, .ref x0), (1, .ref x1), (2, .int x2), (3, .int x3), (4, .long e1.1), (6, .int (0 : Int32)), (7, .int (0 : Int32))]) [1, 2, 3, 4, 5, 6, 0] rfl (by decide) dX6_cost_73 ?_
  obtain ⟨e3, h4, hf⟩ := bnd hf
  refine wl_X6_cost_75 hX hx0 hx1 h4 (fun e3_0 hq => ?_) (fun e3_1 hq => ?_)
  · rw [hq, Sum.elim_inl] at hf
    refine Wp.iload_n (pc := 118) 0 rfl rfl dX6_cost_118 ?_
    refine Wp.if_ne (pc := 119) 127 dX6_cost_119 (by decide) (fun hc5 => ?_) (fun hc5 => ?_)
    · rw [if_neg hc5] at hf
      refine Wp.iload (pc := 127) 2 rfl dX6_cost_127 ?_
      refine Wp.iload (pc := 129) 4 rfl dX6_cost_129 ?_
      refine Wp.iload_n (pc := 131) 1 rfl rfl dX6_cost_131 ?_
      refine Wp.iload (pc := 132) 3 rfl dX6_cost_132 ?_
      refine Wp.isub (pc := 134) dX6_cost_134 ?_
      refine Wp.imul (pc := 135) dX6_cost_135 ?_
      refine Wp.iadd (pc := 136) dX6_cost_136 ?_
      refine Wp.lo' (lo' := []) [] rfl ?_
      exact w_X6_cost_137 hX hf hk
    · rw [if_pos hc5] at hf
      refine Wp.iload (pc := 122) 3 rfl dX6_cost_122 ?_
      refine Wp.goto (pc := 124) 137 dX6_cost_124 (by decide) ?_
      refine Wp.lo' (lo' := []) [] rfl ?_
      exact w_X6_cost_137 hX hf hk
  · rw [hq, Sum.elim_inr] at hf
    refine Wp.iload_n (pc := 161) 0 rfl rfl dX6_cost_161 ?_
    refine Wp.if_ne (pc := 162) 171 dX6_cost_162 (by decide) (fun hc6 => ?_) (fun hc6 => ?_)
    · rw [if_neg hc6] at hf
      refine Wp.iload (pc := 171) 2 rfl dX6_cost_171 ?_
      refine Wp.lo' (lo' := []) [] rfl ?_
      exact w_X6_cost_173 hX hf hk
    · rw [if_pos hc6] at hf
      refine Wp.iload_n (pc := 165) 1 rfl rfl dX6_cost_165 ?_
      refine Wp.iconst (pc := 166) (1 : Int32) (by decide) dX6_cost_166 ?_
      refine Wp.iadd (pc := 167) dX6_cost_167 ?_
      refine Wp.goto (pc := 168) 173 dX6_cost_168 (by decide) ?_
      refine Wp.lo' (lo' := []) [] rfl ?_
      exact w_X6_cost_173 hX hf hk
theorem c_X6_cost {T : List Dsc} {x0 : Nat} {x1 : Nat} {x2 : Int32} {x3 : Int32} {μ : Mem} {r : (Int32 × Mem)} (hx0 : T[x0]? = some (.inl 5)) (hx1 : T[x1]? = some (.inl 1)) (hf : F_X6_cost T x0 x1 x2 x3 μ = some r) : Ct 6 yX6_cost cX6_cost 11 (some .int) T μ [.ref x0, .ref x1, .int x2, .int x3] (some (.int r.1)) r.2 := Ct.ofI (by decide +kernel) (Nat.le_of_ble_eq_true rfl) (fun X hX hk => w_X6_cost hX hx0 hx1 hf hk)
theorem dX6_swap_0 : decode cX6_swap 0 = .ok (.aload_n 0, 1) := by decide +kernel
theorem dX6_swap_1 : decode cX6_swap 1 = .ok (.getfield 9, 3) := by decide +kernel
theorem dX6_swap_4 : decode cX6_swap 4 = .ok (.iload_n 1, 1) := by decide +kernel
theorem dX6_swap_5 : decode cX6_swap 5 = .ok (.iaload, 1) := by decide +kernel
theorem dX6_swap_6 : decode cX6_swap 6 = .ok (.istore_n 3, 1) := by decide +kernel
theorem dX6_swap_7 : decode cX6_swap 7 = .ok (.aload_n 0, 1) := by decide +kernel
theorem dX6_swap_8 : decode cX6_swap 8 = .ok (.getfield 9, 3) := by decide +kernel
theorem dX6_swap_11 : decode cX6_swap 11 = .ok (.iload_n 1, 1) := by decide +kernel
theorem dX6_swap_12 : decode cX6_swap 12 = .ok (.aload_n 0, 1) := by decide +kernel
theorem dX6_swap_13 : decode cX6_swap 13 = .ok (.getfield 9, 3) := by decide +kernel
theorem dX6_swap_16 : decode cX6_swap 16 = .ok (.iload_n 2, 1) := by decide +kernel
theorem dX6_swap_17 : decode cX6_swap 17 = .ok (.iaload, 1) := by decide +kernel
theorem dX6_swap_18 : decode cX6_swap 18 = .ok (.iastore, 1) := by decide +kernel
theorem dX6_swap_19 : decode cX6_swap 19 = .ok (.aload_n 0, 1) := by decide +kernel
theorem dX6_swap_20 : decode cX6_swap 20 = .ok (.getfield 9, 3) := by decide +kernel
theorem dX6_swap_23 : decode cX6_swap 23 = .ok (.iload_n 2, 1) := by decide +kernel
theorem dX6_swap_24 : decode cX6_swap 24 = .ok (.iload_n 3, 1) := by decide +kernel
theorem dX6_swap_25 : decode cX6_swap 25 = .ok (.iastore, 1) := by decide +kernel
theorem dX6_swap_26 : decode cX6_swap 26 = .ok (.return_, 1) := by decide +kernel
set_option maxHeartbeats 4000000 in
set_option maxRecDepth 100000 in
theorem w_X6_swap {X : CX} {T : List Dsc} {n1 n2 : Nat} {x0 : Nat} {x1 : Int32} {x2 : Int32} {μ : Mem} {r : Mem} (hX : XR X 1 n1 n2) (hx0 : T[x0]? = some (.inl 5)) (hf : F_X6_swap T x0 x1 x2 μ = some r) (hk : FnV X cX6_swap RX6 4 T n1 n2 r) : Wp X cX6_swap RX6 4 T μ n1 n2 0 [(0, .ref x0), (1, .int x1), (2, .int x2)] [] := by
  unfold F_X6_swap at hf
  refine Wp.aload_n (pc := 0) 0 rfl rfl dX6_swap_0 ?_
  obtain ⟨a1, h2, hf⟩ := bnd hf
  refine Wp.getR (pc := 1) (gA_R h2) hx0 fk_RX6_9 rfl dX6_swap_1 ?_
  refine Wp.iload_n (pc := 4) 1 rfl rfl dX6_swap_4 ?_
  obtain ⟨v3, h4, hf⟩ := bnd hf
  refine Wp.iald (pc := 5) h4 (gA_T h2) dX6_swap_5 ?_
  refine Wp.istore_n (pc := 6) (lo' := [(0, .ref x0), (1, .int x1), (2, .int x2), (3, .int v3)]) [1, 2, 3, 0] rfl (by decide) rfl dX6_swap_6 ?_
  refine Wp.aload_n (pc := 7) 0 rfl rfl dX6_swap_7 ?_
  obtain ⟨a5, h6, hf⟩ := bnd hf
  refine Wp.getR (pc := 8) (gA_R h6) hx0 fk_RX6_9 rfl dX6_swap_8 ?_
  refine Wp.iload_n (pc := 11) 1 rfl rfl dX6_swap_11 ?_
  refine Wp.aload_n (pc := 12) 0 rfl rfl dX6_swap_12 ?_
  obtain ⟨a7, h8, hf⟩ := bnd hf
  refine Wp.getR (pc := 13) (gA_R h8) hx0 fk_RX6_9 rfl dX6_swap_13 ?_
  refine Wp.iload_n (pc := 16) 2 rfl rfl dX6_swap_16 ?_
  obtain ⟨v9, h10, hf⟩ := bnd hf
  refine Wp.iald (pc := 17) h10 (gA_T h8) dX6_swap_17 ?_
  obtain ⟨μ11, h12, hf⟩ := bnd hf
  refine Wp.iast (pc := 18) h12 (gA_T h6) dX6_swap_18 ?_
  refine Wp.aload_n (pc := 19) 0 rfl rfl dX6_swap_19 ?_
  obtain ⟨a13, h14, hf⟩ := bnd hf
  refine Wp.getR (pc := 20) (gA_R h14) hx0 fk_RX6_9 rfl dX6_swap_20 ?_
  refine Wp.iload_n (pc := 23) 2 rfl rfl dX6_swap_23 ?_
  refine Wp.iload_n (pc := 24) 3 rfl rfl dX6_swap_24 ?_
  obtain ⟨μ15, h16, hf⟩ := bnd hf
  refine Wp.iast (pc := 25) h16 (gA_T h14) dX6_swap_25 ?_
  cases hf
  exact hk _ _ dX6_swap_26
theorem c_X6_swap {T : List Dsc} {x0 : Nat} {x1 : Int32} {x2 : Int32} {μ : Mem} {r : Mem} (hx0 : T[x0]? = some (.inl 5)) (hf : F_X6_swap T x0 x1 x2 μ = some r) : Ct 1 yX6_swap cX6_swap 4 none T μ [.ref x0, .int x1, .int x2] none r := Ct.ofV (by decide +kernel) (Nat.le_of_ble_eq_true rfl) (fun X hX hk => w_X6_swap hX hx0 hf hk)
theorem dX6_goToNextOrder_0 : decode cX6_goToNextOrder 0 = .ok (.iload_n 1, 1) := by decide +kernel
theorem dX6_goToNextOrder_1 : decode cX6_goToNextOrder 1 = .ok (.iconst 2, 1) := by decide +kernel
theorem dX6_goToNextOrder_2 : decode cX6_goToNextOrder 2 = .ok (.isub, 1) := by decide +kernel
theorem dX6_goToNextOrder_3 : decode cX6_goToNextOrder 3 = .ok (.istore_n 2, 1) := by decide +kernel
theorem dX6_goToNextOrder_4 : decode cX6_goToNextOrder 4 = .ok (.iload_n 2, 1) := by decide +kernel
theorem dX6_goToNextOrder_5 : decode cX6_goToNextOrder 5 = .ok (.ifCond .lt 26, 3) := by decide +kernel
theorem dX6_goToNextOrder_8 : decode cX6_goToNextOrder 8 = .ok (.aload_n 0, 1) := by decide +kernel
theorem dX6_goToNextOrder_9 : decode cX6_goToNextOrder 9 = .ok (.getfield 9, 3) := by decide +kernel
theorem dX6_goToNextOrder_12 : decode cX6_goToNextOrder 12 = .ok (.iload_n 2, 1) := by decide +kernel
theorem dX6_goToNextOrder_13 : decode cX6_goToNextOrder 13 = .ok (.iaload, 1) := by decide +kernel
theorem dX6_goToNextOrder_14 : decode cX6_goToNextOrder 14 = .ok (.aload_n 0, 1) := by decide +kernel
theorem dX6_goToNextOrder_15 : decode cX6_goToNextOrder 15 = .ok (.getfield 9, 3) := by decide +kernel
theorem dX6_goToNextOrder_18 : decode cX6_goToNextOrder 18 = .ok (.iload_n 2, 1) := by decide +kernel
theorem dX6_goToNextOrder_19 : decode cX6_goToNextOrder 19 = .ok (.iconst 1, 1) := by decide +kernel
theorem dX6_goToNextOrder_20 : decode cX6_goToNextOrder 20 = .ok (.iadd, 1) := by decide +kernel
theorem dX6_goToNextOrder_21 : decode cX6_goToNextOrder 21 = .ok (.iaload, 1) := by decide +kernel
theorem dX6_goToNextOrder_22 : decode cX6_goToNextOrder 22 = .ok (.if_icmp .le 9, 3) := by decide +kernel
theorem dX6_goToNextOrder_25 : decode cX6_goToNextOrder 25 = .ok (.iinc 2 (-1), 3) := by decide +kernel
theorem dX6_goToNextOrder_28 : decode cX6_goToNextOrder 28 = .ok (.goto (-24), 3) := by decide +kernel
theorem dX6_goToNextOrder_31 : decode cX6_goToNextOrder 31 = .ok (.iload_n 2, 1) := by decide +kernel
theorem dX6_goToNextOrder_32 : decode cX6_goToNextOrder 32 = .ok (.ifCond .ge 5, 3) := by decide +kernel
theorem dX6_goToNextOrder_35 : decode cX6_goToNextOrder 35 = .ok (.iconst 0, 1) := by decide +kernel
theorem dX6_goToNextOrder_36 : decode cX6_goToNextOrder 36 = .ok (.ireturn, 1) := by decide +kernel
theorem dX6_goToNextOrder_37 : decode cX6_goToNextOrder 37 = .ok (.iload_n 1, 1) := by decide +kernel
theorem dX6_goToNextOrder_38 : decode cX6_goToNextOrder 38 = .ok (.iconst 1, 1) := by decide +kernel
theorem dX6_goToNextOrder_39 : decode cX6_goToNextOrder 39 = .ok (.isub, 1) := by decide +kernel
theorem dX6_goToNextOrder_40 : decode cX6_goToNextOrder 40 = .ok (.istore_n 3, 1) := by decide +kernel
theorem dX6_goToNextOrder_41 : decode cX6_goToNextOrder 41 = .ok (.iload_n 3, 1) := by decide +kernel
theorem dX6_goToNextOrder_42 : decode cX6_goToNextOrder 42 = .ok (.iload_n 2, 1) := by decide +kernel
theorem dX6_goToNextOrder_43 : decode cX6_goToNextOrder 43 = .ok (.if_icmp .le 24, 3) := by decide +kernel
theorem dX6_goToNextOrder_46 : decode cX6_goToNextOrder 46 = .ok (.aload_n 0, 1) := by decide +kernel
theorem dX6_goToNextOrder_47 : decode cX6_goToNextOrder 47 = .ok (.getfield 9, 3) := by decide +kernel
theorem dX6_goToNextOrder_50 : decode cX6_goToNextOrder 50 = .ok (.iload_n 3, 1) := by decide +kernel
theorem dX6_goToNextOrder_51 : decode cX6_goToNextOrder 51 = .ok (.iaload, 1) := by decide +kernel
theorem dX6_goToNextOrder_52 : decode cX6_goToNextOrder 52 = .ok (.aload_n 0, 1) := by decide +kernel
theorem dX6_goToNextOrder_53 : decode cX6_goToNextOrder 53 = .ok (.getfield 9, 3) := by decide +kernel
theorem dX6_goToNextOrder_56 : decode cX6_goToNextOrder 56 = .ok (.iload_n 2, 1) := by decide +kernel
theorem dX6_goToNextOrder_57 : decode cX6_goToNextOrder 57 = .ok (.iaload, 1) := by decide +kernel
theorem dX6_goToNextOrder_58 : decode cX6_goToNextOrder 58 = .ok (.if_icmp .ge 9, 3) := by decide +kernel
theorem dX6_goToNextOrder_61 : decode cX6_goToNextOrder 61 = .ok (.iinc 3 (-1), 3) := by decide +kernel
theorem dX6_goToNextOrder_64 : decode cX6_goToNextOrder 64 = .ok (.goto (-23), 3) := by decide +kernel
theorem dX6_goToNextOrder_67 : decode cX6_goToNextOrder 67 = .ok (.aload_n 0, 1) := by decide +kernel
theorem dX6_goToNextOrder_68 : decode cX6_goToNextOrder 68 = .ok (.iload_n 2, 1) := by decide +kernel
theorem dX6_goToNextOrder_69 : decode cX6_goToNextOrder 69 = .ok (.iload_n 3, 1) := by decide +kernel
theorem dX6_goToNextOrder_70 : decode cX6_goToNextOrder 70 = .ok (.invokevirtual 54, 3) := by decide +kernel
theorem dX6_goToNextOrder_73 : decode cX6_goToNextOrder 73 = .ok (.iload_n 2, 1) := by decide +kernel
theorem dX6_goToNextOrder_74 : decode cX6_goToNextOrder 74 = .ok (.iconst 1, 1) := by decide +kernel
theorem dX6_goToNextOrder_75 : decode cX6_goToNextOrder 75 = .ok (.iadd, 1) := by decide +kernel
theorem dX6_goToNextOrder_76 : decode cX6_goToNextOrder 76 = .ok (.istore 4, 2) := by decide +kernel
theorem dX6_goToNextOrder_78 : decode cX6_goToNextOrder 78 = .ok (.iload_n 1, 1) := by decide +kernel
theorem dX6_goToNextOrder_79 : decode cX6_goToNextOrder 79 = .ok (.iconst 1, 1) := by decide +kernel
theorem dX6_goToNextOrder_80 : decode cX6_goToNextOrder 80 = .ok (.isub, 1) := by decide +kernel
theorem dX6_goToNextOrder_81 : decode cX6_goToNextOrder 81 = .ok (.istore 5, 2) := by decide +kernel
theorem dX6_goToNextOrder_83 : decode cX6_goToNextOrder 83 = .ok (.iload 4, 2) := by decide +kernel
theorem dX6_goToNextOrder_85 : decode cX6_goToNextOrder 85 = .ok (.iload 5, 2) := by decide +kernel
theorem dX6_goToNextOrder_87 : decode cX6_goToNextOrder 87 = .ok (.if_icmp .ge 20, 3) := by decide +kernel
theorem dX6_goToNextOrder_90 : decode cX6_goToNextOrder 90 = .ok (.aload_n 0, 1) := by decide +kernel
theorem dX6_goToNextOrder_91 : decode cX6_goToNextOrder 91 = .ok (.iload 4, 2) := by decide +kernel
theorem dX6_goToNextOrder_93 : decode cX6_goToNextOrder 93 = .ok (.iload 5, 2) := by decide +kernel
theorem dX6_goToNextOrder_95 : decode cX6_goToNextOrder 95 = .ok (.invokevirtual 54, 3) := by decide +kernel
theorem dX6_goToNextOrder_98 : decode cX6_goToNextOrder 98 = .ok (.iinc 4 1, 3) := by decide +kernel
theorem dX6_goToNextOrder_101 : decode cX6_goToNextOrder 101 = .ok (.iinc 5 (-1), 3) := by decide +kernel
theorem dX6_goToNextOrder_104 : decode cX6_goToNextOrder 104 = .ok (.goto (-21), 3) := by decide +kernel
theorem dX6_goToNextOrder_107 : decode cX6_goToNextOrder 107 = .ok (.iconst 1, 1) := by decide +kernel
theorem dX6_goToNextOrder_108 : decode cX6_goToNextOrder 108 = .ok (.ireturn, 1) := by decide +kernel
def k_X6_goToNextOrder_4 (X : CX) (T : List Dsc) (n1 n2 : Nat) (x0 : Nat) (x1 : Int32) (r : ((Int32 × Mem) ⊕ ((Int32 × Mem)))) : Prop := match r with
  | .inl s => Wp X cX6_goToNextOrder RX6 6 T s.2 n1 n2 4 [(0, .ref x0), (1, .int x1), (2, .int s.1)] []
  | .inr e => Wp X cX6_goToNextOrder RX6 6 T e.2 n1 n2 31 [(0, .ref x0), (1, .int x1), (2, .int e.1)] []
def k_X6_goToNextOrder_41 (X : CX) (T : List Dsc) (n1 n2 : Nat) (x0 : Nat) (x1 : Int32) (x2 : Int32) (r : ((Int32 × Mem) ⊕ ((Int32 × Mem)))) : Prop := match r with
  | .inl s => Wp X cX6_goToNextOrder RX6 6 T s.2 n1 n2 41 [(0, .ref x0), (1, .int x1), (2, .int x2), (3, .int s.1)] []
  | .inr e => Wp X cX6_goToNextOrder RX6 6 T e.2 n1 n2 67 [(0, .ref x0), (1, .int x1), (2, .int x2), (3, .int e.1)] []
def k_X6_goToNextOrder_83 (X : CX) (T : List Dsc) (n1 n2 : Nat) (x0 : Nat) (r : ((Int32 × Int32 × Mem) ⊕ ((Mem)))) : Prop := match r with
  | .inl s => Wp X cX6_goToNextOrder RX6 6 T s.2.2 n1 n2 83 [(0, .ref x0), (4, .int s.1), (5, .int s.2.1)] []
  | .inr e => Wp X cX6_goToNextOrder RX6 6 T e n1 n2 107 [] []
set_option maxHeartbeats 4000000 in
set_option maxRecDepth 100000 in
theorem w_X6_goToNextOrder_4 {X : CX} {T : List Dsc} {n1 n2 : Nat} {x0 : Nat} {x1 : Int32} {x2 : Int32} {μ : Mem} {r : ((Int32 × Mem) ⊕ ((Int32 × Mem)))} (hX : XR X 2 n1 n2) (hx0 : T[x0]? = some (.inl 5)) (hf : f_X6_goToNextOrder_4 T x0 x1 x2 μ = some r) (hk : k_X6_goToNextOrder_4 X T n1 n2 x0 x1 r) : Wp X cX6_goToNextOrder RX6 6 T μ n1 n2 4 [(0, .ref x0), (1, .int x1), (2, .int x2)] [] := by
  unfold f_X6_goToNextOrder_4 at hf
  refine Wp.iload_n (pc := 4) 2 rfl rfl dX6_goToNextOrder_4 ?_
  refine Wp.if_lt (pc := 5) 31 dX6_goToNextOrder_5 (by decide) (fun hc1 => ?_) (fun hc1 => ?_)
  · rw [if_pos hc1] at hf
    cases hf
    exact hk
  · rw [if_neg hc1] at hf
    refine Wp.aload_n (pc := 8) 0 rfl rfl dX6_goToNextOrder_8 ?_
    obtain ⟨a2, h3, hf⟩ := bnd hf
    refine Wp.getR (pc := 9) (gA_R h3) hx0 fk_RX6_9 rfl dX6_goToNextOrder_9 ?_
    refine Wp.iload_n (pc := 12) 2 rfl rfl dX6_goToNextOrder_12 ?_
    obtain ⟨v4, h5, hf⟩ := bnd hf
    refine Wp.iald (pc := 13) h5 (gA_T h3) dX6_goToNextOrder_13 ?_
    refine Wp.aload_n (pc := 14) 0 rfl rfl dX6_goToNextOrder_14 ?_
    obtain ⟨a6, h7, hf⟩ := bnd hf
    refine Wp.getR (pc := 15) (gA_R h7) hx0 fk_RX6_9 rfl dX6_goToNextOrder_15 ?_
    refine Wp.iload_n (pc := 18) 2 rfl rfl dX6_goToNextOrder_18 ?_
    refine Wp.iconst (pc := 19) (1 : Int32) (by decide) dX6_goToNextOrder_19 ?_
    refine Wp.iadd (pc := 20) dX6_goToNextOrder_20 ?_
    obtain ⟨v8, h9, hf⟩ := bnd hf
    refine Wp.iald (pc := 21) h9 (gA_T h7) dX6_goToNextOrder_21 ?_
    refine Wp.icmp_le (pc := 22) 31 dX6_goToNextOrder_22 (by decide) (fun hc10 => ?_) (fun hc10 => ?_)
    · rw [if_pos hc10] at hf
      cases hf
      exact hk
    · rw [if_neg hc10] at hf
      obtain ⟨v11, h12, hf⟩ := bnd hf
      refine Wp.iincN (pc := 25) (lo' := [(0, .ref x0), (1, .int x1), (2, .int v11)]) (-1 : Int32) (by decide) h12 2 rfl [1, 2, 0] rfl (by decide) dX6_goToNextOrder_25 ?_
      refine Wp.goto (pc := 28) 4 dX6_goToNextOrder_28 (by decide) ?_
      cases hf
      exact hk
theorem wl_X6_goToNextOrder_4 {X : CX} {T : List Dsc} {n1 n2 : Nat} {x0 : Nat} {x1 : Int32} {x2 : Int32} {μ : Mem} {e : ((Int32 × Mem))} (hX : XR X 2 n1 n2) (hx0 : T[x0]? = some (.inl 5)) (h : loop (g_X6_goToNextOrder_4 T x0 x1) (x2, μ) = some e) (he : Wp X cX6_goToNextOrder RX6 6 T e.2 n1 n2 31 [(0, .ref x0), (1, .int x1), (2, .int e.1)] []) : Wp X cX6_goToNextOrder RX6 6 T μ n1 n2 4 [(0, .ref x0), (1, .int x1), (2, .int x2)] [] :=
  loop_ok (K := k_X6_goToNextOrder_4 X T n1 n2 x0 x1) (fun s r hf hk => w_X6_goToNextOrder_4 hX hx0 hf hk) h he
set_option maxHeartbeats 4000000 in
set_option maxRecDepth 100000 in
theorem w_X6_goToNextOrder_41 {X : CX} {T : List Dsc} {n1 n2 : Nat} {x0 : Nat} {x1 : Int32} {x2 : Int32} {x3 : Int32} {μ : Mem} {r : ((Int32 × Mem) ⊕ ((Int32 × Mem)))} (hX : XR X 2 n1 n2) (hx0 : T[x0]? = some (.inl 5)) (hf : f_X6_goToNextOrder_41 T x0 x1 x2 x3 μ = some r) (hk : k_X6_goToNextOrder_41 X T n1 n2 x0 x1 x2 r) : Wp X cX6_goToNextOrder RX6 6 T μ n1 n2 41 [(0, .ref x0), (1, .int x1), (2, .int x2), (3, .int x3)] [] := by
  unfold f_X6_goToNextOrder_41 at hf
  refine Wp.iload_n (pc := 41) 3 rfl rfl dX6_goToNextOrder_41 ?_
  refine Wp.iload_n (pc := 42) 2 rfl rfl dX6_goToNextOrder_42 ?_
  refine Wp.icmp_le (pc := 43) 67 dX6_goToNextOrder_43 (by decide) (fun hc1 => ?_) (fun hc1 => ?_)
  · rw [if_pos hc1] at hf
    cases hf
    exact hk
  · rw [if_neg hc1] at hf
    refine Wp.aload_n (pc := 46) 0 rfl rfl dX6_goToNextOrder_46 ?_
    obtain ⟨a2, h3, hf⟩ := bnd hf
    refine Wp.getR (pc := 47) (gA_R h3) hx0 fk_RX6_9 rfl dX6_goToNextOrder_47 ?_
    refine Wp.iload_n (pc := 50) 3 rfl rfl dX6_goToNextOrder_50 ?_
    obtain ⟨v4, h5, hf⟩ := bnd hf
    refine Wp.iald (pc := 51) h5 (gA_T h3) dX6_goToNextOrder_51 ?_
    refine Wp.aload_n (pc := 52) 0 rfl rfl dX6_goToNextOrder_52 ?_
    obtain ⟨a6, h7, hf⟩ := bnd hf
    refine Wp.getR (pc := 53) (gA_R h7) hx0 fk_RX6_9 rfl dX6_goToNextOrder_53 ?_
    refine Wp.iload_n (pc := 56) 2 rfl rfl dX6_goToNextOrder_56 ?_
    obtain ⟨v8, h9, hf⟩ := bnd hf
    refine Wp.iald (pc := 57) h9 (gA_T h7) dX6_goToNextOrder_57 ?_
    refine Wp.icmp_ge (pc := 58) 67 dX6_goToNextOrder_58 (by decide) (fun hc10 => ?_) (fun hc10 => ?_)
    · rw [if_pos hc10] at hf
      cases hf
      exact hk
    · rw [if_neg hc10] at hf
      obtain ⟨v11, h12, hf⟩ := bnd hf
      refine Wp.iincN (pc := 61) (lo' := [(0, .ref x0), (1, .int x1), (2, .int x2), (3, .int v11)]) (-1 : Int32) (by decide) h12 3 rfl [1, 2, 3, 0] rfl (by decide) dX6_goToNextOrder_61 ?_
      refine Wp.goto (pc := 64) 41 dX6_goToNextOrder_64 (by decide) ?_
      cases hf
      exact hk
theorem wl_X6_goToNextOrder_41 {X : CX} {T : List Dsc} {n1 n2 : Nat} {x0 : Nat} {x1 : Int32} {x2 : Int32} {x3 : Int32} {μ : Mem} {e : ((Int32 × Mem))} (hX : XR X 2 n1 n2) (hx0 : T[x0]? = some (.inl 5)) (h : loop (g_X6_goToNextOrder_41 T x0 x1 x2) (x3, μ) = some e) (he : Wp X cX6_goToNextOrder RX6 6 T e.2 n1 n2 67 [(0, .ref x0), (1, .int x1), (2, .int x2), (3, .int e.1)] []) : Wp X cX6_goToNextOrder RX6 6 T μ n1 n2 41 [(0, .ref x0), (1, .int x1), (2, .int x2), (3, .int x3)] [] :=
  loop_ok (K := k_X6_goToNextOrder_41 X T n1 n2 x0 x1 x2) (fun s r hf hk => w_X6_goToNextOrder_41 hX hx0 hf hk) h he
set_option maxHeartbeats 4000000 in
set_option maxRecDepth 100000 in
theorem w_X6_goToNextOrder_83 {X : CX} {T : List Dsc} {n1 n2 : Nat} {x0 : Nat} {x4 : Int32} {x5 : Int32} {μ : Mem} {r : ((Int32 × Int32 × Mem) ⊕ ((Mem)))} (hX : XR X 2 n1 n2) (hx0 : T[x0]? = some (.inl 5)) (hf : f_X6_goToNextOrder_83 T x0 x4 x5 μ = some r) (hk : k_X6_goToNextOrder_83 X T n1 n2 x0 r) : Wp X cX6_goToNextOrder RX6 6 T μ n1 n2 83 [(0, .ref x0), (4, .int x4), (5, .int x5)] [] := by
  unfold f_X6_goToNextOrder_83 at hf
  refine Wp.iload (pc := 83) 1 rfl dX6_goToNextOrder_83 ?_
  refine Wp.iload (pc := 85) 2 rfl dX6_goToNextOrder_85 ?_
  refine Wp.icmp_ge (pc := 87) 107 dX6_goToNextOrder_87 (by decide) (fun hc1 => ?_) (fun hc1 => ?_)
  · rw [if_pos hc1] at hf
    refine Wp.lo' (lo' := []) [] rfl ?_
    cases hf
    exact hk
  · rw [if_neg hc1] at hf
    refine Wp.aload_n (pc := 90) 0 rfl rfl dX6_goToNextOrder_90 ?_
    refine Wp.iload (pc := 91) 1 rfl dX6_goToNextOrder_91 ?_
    refine Wp.iload (pc := 93) 2 rfl dX6_goToNextOrder_93 ?_
    obtain ⟨c2, h3, hf⟩ := bnd hf
    refine Wp.callVv (pc := 95) (st := []) (as := [.int x4, .int x5]) (c_X6_swap hx0 h3) ml_RX6_54 mv_X6_swap mb_X6_swap hX (Nat.le_of_ble_eq_true rfl) (by decide) rfl hx0 rfl (by simp) dX6_goToNextOrder_95 rfl ?_
    obtain ⟨v4, h5, hf⟩ := bnd hf
    refine Wp.iincN (pc := 98) (lo' := [(0, .ref x0), (4, .int v4), (5, .int x5)]) (1 : Int32) (by decide) h5 1 rfl [1, 0, 2] rfl (by decide) dX6_goToNextOrder_98 ?_
    obtain ⟨v6, h7, hf⟩ := bnd hf
    refine Wp.iincN (pc := 101) (lo' := [(0, .ref x0), (4, .int v4), (5, .int v6)]) (-1 : Int32) (by decide) h7 2 rfl [1, 2, 0] rfl (by decide) dX6_goToNextOrder_101 ?_
    refine Wp.goto (pc := 104) 83 dX6_goToNextOrder_104 (by decide) ?_
    cases hf
    exact hk
theorem wl_X6_goToNextOrder_83 {X : CX} {T : List Dsc} {n1 n2 : Nat} {x0 : Nat} {x4 : Int32} {x5 : Int32} {μ : Mem} {e : ((Mem))} (hX : XR X 2 n1 n2) (hx0 : T[x0]? = some (.inl 5)) (h : loop (g_X6_goToNextOrder_83 T x0) (x4, x5, μ) = some e) (he : Wp X cX6_goToNextOrder RX6 6 T e n1 n2 107 [] []) : Wp X cX6_goToNextOrder RX6 6 T μ n1 n2 83 [(0, .ref x0), (4, .int x4), (5, .int x5)] [] :=
  loop_ok (K := k_X6_goToNextOrder_83 X T n1 n2 x0) (fun s r hf hk => w_X6_goToNextOrder_83 hX hx0 hf hk) h he
set_option maxHeartbeats 4000000 in
set_option maxRecDepth 100000 in
theorem w_X6_goToNextOrder_67 {X : CX} {T : List Dsc} {n1 n2 : Nat} {x0 : Nat} {x1 : Int32} {x2 : Int32} {x3 : Int32} {μ : Mem} {r : (Int32 × Mem)} (hX : XR X 2 n1 n2) (hx0 : T[x0]? = some (.inl 5)) (hf : f_X6_goToNextOrder_67 T x0 x1 x2 x3 μ = some r) (hk : FnZ X cX6_goToNextOrder RX6 6 T n1 n2 r) : Wp X cX6_goToNextOrder RX6 6 T μ n1 n2 67 [(0, .ref x0), (1, .int x1), (2, .int x2), (3, .int x3)] [] := by
  unfold f_X6_goToNextOrder_67 at hf
  refine Wp.aload_n (pc := 67) 0 rfl rfl dX6_goToNextOrder_67 ?_
  refine Wp.iload_n (pc := 68) 2 rfl rfl dX6_goToNextOrder_68 ?_
  refine Wp.iload_n (pc := 69) 3 rfl rfl dX6_goToNextOrder_69 ?_
  obtain ⟨c1, h2, hf⟩ := bnd hf
  refine Wp.callVv (pc := 70) (st := []) (as := [.int x2, .int x3]) (c_X6_swap hx0 h2) ml_RX6_54 mv_X6_swap mb_X6_swap hX (Nat.le_of_ble_eq_true rfl) (by decide) rfl hx0 rfl (by simp) dX6_goToNextOrder_70 rfl ?_
  refine Wp.iload_n (pc := 73) 2 rfl rfl dX6_goToNextOrder_73 ?_
  refine Wp.iconst (pc := 74) (1 : Int32) (by decide) dX6_goToNextOrder_74 ?_
  refine Wp.iadd (pc := 75) dX6_goToNextOrder_75 ?_
  obtain ⟨v3, h4, hf⟩ := bnd hf
  refine Wp.nI' h4 ?_
  refine Wp.istore (pc := 76) (lo' := [(0, .ref x0), (1, .int x1), (4, .int v3)]) [1, 2, 0] rfl (by decide) dX6_goToNextOrder_76 ?_
  refine Wp.iload_n (pc := 78) 1 rfl rfl dX6_goToNextOrder_78 ?_
  refine Wp.iconst (pc := 79) (1 : Int32) (by decide) dX6_goToNextOrder_79 ?_
  refine Wp.isub (pc := 80) dX6_goToNextOrder_80 ?_
  obtain ⟨v5, h6, hf⟩ := bnd hf
  refine Wp.nI' h6 ?_
  refine Wp.istore (pc := 81) (lo' := [(0, .ref x0), (4, .int v3), (5, .int v5)]) [1, 3, 0] rfl (by decide) dX6_goToNextOrder_81 ?_
  obtain ⟨e7, h8, hf⟩ := bnd hf
  refine wl_X6_goToNextOrder_83 hX hx0 h8 ?_
  refine Wp.iconst (pc := 107) (1 : Int32) (by decide) dX6_goToNextOrder_107 ?_
  cases hf
  exact hk _ _ (Or.inr rfl) dX6_goToNextOrder_108
set_option maxHeartbeats 4000000 in
set_option maxRecDepth 100000 in
theorem w_X6_goToNextOrder_31 {X : CX} {T : List Dsc} {n1 n2 : Nat} {x0 : Nat} {x1 : Int32} {x2 : Int32} {μ : Mem} {r : (Int32 × Mem)} (hX : XR X 2 n1 n2) (hx0 : T[x0]? = some (.inl 5)) (hf : f_X6_goToNextOrder_31 T x0 x1 x2 μ = some r) (hk : FnZ X cX6_goToNextOrder RX6 6 T n1 n2 r) : Wp X cX6_goToNextOrder RX6 6 T μ n1 n2 31 [(0, .ref x0), (1, .int x1), (2, .int x2)] [] := by
  unfold f_X6_goToNextOrder_31 at hf
  refine Wp.iload_n (pc := 31) 2 rfl rfl dX6_goToNextOrder_31 ?_
  refine Wp.if_ge (pc := 32) 37 dX6_goToNextOrder_32 (by decide) (fun hc1 => ?_) (fun hc1 => ?_)
  · rw [if_pos hc1] at hf
    refine Wp.iload_n (pc := 37) 1 rfl rfl dX6_goToNextOrder_37 ?_
    refine Wp.iconst (pc := 38) (1 : Int32) (by decide) dX6_goToNextOrder_38 ?_
    refine Wp.isub (pc := 39) dX6_goToNextOrder_39 ?_
    obtain ⟨v2, h3, hf⟩ := bnd hf
    refine Wp.nI' h3 ?_
    refine Wp.istore_n (pc := 40) (lo' := [(0, .ref x0), (1, .int x1), (2, .int x2), (3, .int v2)]) [1, 2, 3, 0] rfl (by decide) rfl dX6_goToNextOrder_40 ?_
    obtain ⟨e4, h5, hf⟩ := bnd hf
    refine wl_X6_goToNextOrder_41 hX hx0 h5 ?_
    exact w_X6_goToNextOrder_67 hX hx0 hf hk
  · rw [if_neg hc1] at hf
    refine Wp.iconst (pc := 35) (0 : Int32) (by decide) dX6_goToNextOrder_35 ?_
    cases hf
    exact hk _ _ (Or.inl rfl) dX6_goToNextOrder_36
set_option maxHeartbeats 4000000 in
set_option maxRecDepth 100000 in
theorem w_X6_goToNextOrder {X : CX} {T : List Dsc} {n1 n2 : Nat} {x0 : Nat} {x1 : Int32} {μ : Mem} {r : (Int32 × Mem)} (hX : XR X 2 n1 n2) (hx0 : T[x0]? = some (.inl 5)) (hf : F_X6_goToNextOrder T x0 x1 μ = some r) (hk : FnZ X cX6_goToNextOrder RX6 6 T n1 n2 r) : Wp X cX6_goToNextOrder RX6 6 T μ n1 n2 0 [(0, .ref x0), (1, .int x1)] [] := by
  unfold F_X6_goToNextOrder at hf
  refine Wp.iload_n (pc := 0) 1 rfl rfl dX6_goToNextOrder_0 ?_
  refine Wp.iconst (pc := 1) (2 : Int32) (by decide) dX6_goToNextOrder_1 ?_
  refine Wp.isub (pc := 2) dX6_goToNextOrder_2 ?_
  obtain ⟨v1, h2, hf⟩ := bnd hf
  refine Wp.nI' h2 ?_
  refine Wp.istore_n (pc := 3) (lo' := [(0, .ref x0), (1, .int x1), (2, .int v1)]) [1, 2, 0] rfl (by decide) rfl dX6_goToNextOrder_3 ?_
  obtain ⟨e3, h4, hf⟩ := bnd hf
  refine wl_X6_goToNextOrder_4 hX hx0 h4 ?_
  exact w_X6_goToNextOrder_31 hX hx0 hf hk
theorem c_X6_goToNextOrder {T : List Dsc} {x0 : Nat} {x1 : Int32} {μ : Mem} {r : (Int32 × Mem)} (hx0 : T[x0]? = some (.inl 5)) (hf : F_X6_goToNextOrder T x0 x1 μ = some r) : Ct 2 yX6_goToNextOrder cX6_goToNextOrder 6 (some .boolean) T μ [.ref x0, .int x1] (some (.int r.1)) r.2 := Ct.ofZ (by decide +kernel) (Nat.le_of_ble_eq_true rfl) (fun X hX hk => w_X6_goToNextOrder hX hx0 hf hk)
theorem dX6_bestOrder_0 : decode cX6_bestOrder 0 = .ok (.aload_n 0, 1) := by decide +kernel
theorem dX6_bestOrder_1 : decode cX6_bestOrder 1 = .ok (.getfield 21, 3) := by decide +kernel
theorem dX6_bestOrder_4 : decode cX6_bestOrder 4 = .ok (.getfield 25, 3) := by decide +kernel
theorem dX6_bestOrder_7 : decode cX6_bestOrder 7 = .ok (.getfield 31, 3) := by decide +kernel
theorem dX6_bestOrder_10 : decode cX6_bestOrder 10 = .ok (.istore 4, 2) := by decide +kernel
theorem dX6_bestOrder_12 : decode cX6_bestOrder 12 = .ok (.aload_n 0, 1) := by decide +kernel
theorem dX6_bestOrder_13 : decode cX6_bestOrder 13 = .ok (.invokevirtual 37, 3) := by decide +kernel
theorem dX6_bestOrder_16 : decode cX6_bestOrder 16 = .ok (.aload_n 0, 1) := by decide +kernel
theorem dX6_bestOrder_17 : decode cX6_bestOrder 17 = .ok (.getfield 9, 3) := by decide +kernel
theorem dX6_bestOrder_20 : decode cX6_bestOrder 20 = .ok (.iconst 0, 1) := by decide +kernel
theorem dX6_bestOrder_21 : decode cX6_bestOrder 21 = .ok (.aload_n 0, 1) := by decide +kernel
theorem dX6_bestOrder_22 : decode cX6_bestOrder 22 = .ok (.getfield 15, 3) := by decide +kernel
theorem dX6_bestOrder_25 : decode cX6_bestOrder 25 = .ok (.iconst 0, 1) := by decide +kernel
theorem dX6_bestOrder_26 : decode cX6_bestOrder 26 = .ok (.bipush 12, 2) := by decide +kernel
theorem dX6_bestOrder_28 : decode cX6_bestOrder 28 = .ok (.invokestatic 40, 3) := by decide +kernel
theorem dX6_bestOrder_31 : decode cX6_bestOrder 31 = .ok (.aload_n 0, 1) := by decide +kernel
theorem dX6_bestOrder_32 : decode cX6_bestOrder 32 = .ok (.aload_n 1, 1) := by decide +kernel
theorem dX6_bestOrder_33 : decode cX6_bestOrder 33 = .ok (.iload_n 2, 1) := by decide +kernel
theorem dX6_bestOrder_34 : decode cX6_bestOrder 34 = .ok (.iload_n 3, 1) := by decide +kernel
theorem dX6_bestOrder_35 : decode cX6_bestOrder 35 = .ok (.invokevirtual 46, 3) := by decide +kernel
theorem dX6_bestOrder_38 : decode cX6_bestOrder 38 = .ok (.istore 5, 2) := by decide +kernel
theorem dX6_bestOrder_40 : decode cX6_bestOrder 40 = .ok (.iconst 1, 1) := by decide +kernel
theorem dX6_bestOrder_41 : decode cX6_bestOrder 41 = .ok (.istore 6, 2) := by decide +kernel
theorem dX6_bestOrder_43 : decode cX6_bestOrder 43 = .ok (.iload 6, 2) := by decide +kernel
theorem dX6_bestOrder_45 : decode cX6_bestOrder 45 = .ok (.sipush 720, 3) := by decide +kernel
theorem dX6_bestOrder_48 : decode cX6_bestOrder 48 = .ok (.if_icmp .ge 53, 3) := by decide +kernel
theorem dX6_bestOrder_51 : decode cX6_bestOrder 51 = .ok (.aload_n 0, 1) := by decide +kernel
theorem dX6_bestOrder_52 : decode cX6_bestOrder 52 = .ok (.iload 4, 2) := by decide +kernel
theorem dX6_bestOrder_54 : decode cX6_bestOrder 54 = .ok (.invokevirtual 50, 3) := by decide +kernel
theorem dX6_bestOrder_57 : decode cX6_bestOrder 57 = .ok (.ifCond .eq 44, 3) := by decide +kernel
theorem dX6_bestOrder_60 : decode cX6_bestOrder 60 = .ok (.aload_n 0, 1) := by decide +kernel
theorem dX6_bestOrder_61 : decode cX6_bestOrder 61 = .ok (.aload_n 1, 1) := by decide +kernel
theorem dX6_bestOrder_62 : decode cX6_bestOrder 62 = .ok (.iload_n 2, 1) := by decide +kernel
theorem dX6_bestOrder_63 : decode cX6_bestOrder 63 = .ok (.iload_n 3, 1) := by decide +kernel
theorem dX6_bestOrder_64 : decode cX6_bestOrder 64 = .ok (.invokevirtual 46, 3) := by decide +kernel
theorem dX6_bestOrder_67 : decode cX6_bestOrder 67 = .ok (.istore 7, 2) := by decide +kernel
theorem dX6_bestOrder_69 : decode cX6_bestOrder 69 = .ok (.iload 7, 2) := by decide +kernel
theorem dX6_bestOrder_71 : decode cX6_bestOrder 71 = .ok (.iload 5, 2) := by decide +kernel
theorem dX6_bestOrder_73 : decode cX6_bestOrder 73 = .ok (.if_icmp .ge 22, 3) := by decide +kernel
theorem dX6_bestOrder_76 : decode cX6_bestOrder 76 = .ok (.iload 7, 2) := by decide +kernel
theorem dX6_bestOrder_78 : decode cX6_bestOrder 78 = .ok (.istore 5, 2) := by decide +kernel
theorem dX6_bestOrder_80 : decode cX6_bestOrder 80 = .ok (.aload_n 0, 1) := by decide +kernel
theorem dX6_bestOrder_81 : decode cX6_bestOrder 81 = .ok (.getfield 9, 3) := by decide +kernel
theorem dX6_bestOrder_84 : decode cX6_bestOrder 84 = .ok (.iconst 0, 1) := by decide +kernel
theorem dX6_bestOrder_85 : decode cX6_bestOrder 85 = .ok (.aload_n 0, 1) := by decide +kernel
theorem dX6_bestOrder_86 : decode cX6_bestOrder 86 = .ok (.getfield 15, 3) := by decide +kernel
theorem dX6_bestOrder_89 : decode cX6_bestOrder 89 = .ok (.iconst 0, 1) := by decide +kernel
theorem dX6_bestOrder_90 : decode cX6_bestOrder 90 = .ok (.bipush 12, 2) := by decide +kernel
theorem dX6_bestOrder_92 : decode cX6_bestOrder 92 = .ok (.invokestatic 40, 3) := by decide +kernel
theorem dX6_bestOrder_95 : decode cX6_bestOrder 95 = .ok (.iinc 6 1, 3) := by decide +kernel
theorem dX6_bestOrder_98 : decode cX6_bestOrder 98 = .ok (.goto (-55), 3) := by decide +kernel
theorem dX6_bestOrder_101 : decode cX6_bestOrder 101 = .ok (.iload_n 2, 1) := by decide +kernel
theorem dX6_bestOrder_102 : decode cX6_bestOrder 102 = .ok (.iconst 2, 1) := by decide +kernel
theorem dX6_bestOrder_103 : decode cX6_bestOrder 103 = .ok (.if_icmp .ne 9, 3) := by decide +kernel
theorem dX6_bestOrder_106 : decode cX6_bestOrder 106 = .ok (.iload 5, 2) := by decide +kernel
theorem dX6_bestOrder_108 : decode cX6_bestOrder 108 = .ok (.ineg, 1) := by decide +kernel
theorem dX6_bestOrder_109 : decode cX6_bestOrder 109 = .ok (.goto 5, 3) := by decide +kernel
theorem dX6_bestOrder_112 : decode cX6_bestOrder 112 = .ok (.iload 5, 2) := by decide +kernel
theorem dX6_bestOrder_114 : decode cX6_bestOrder 114 = .ok (.ireturn, 1) := by decide +kernel
def k_X6_bestOrder_43 (X : CX) (T : List Dsc) (n1 n2 : Nat) (x0 : Nat) (x1 : Nat) (x2 : Int32) (x3 : Int32) (x4 : Int32) (r : ((Int32 × Int32 × Mem) ⊕ ((Int32 × Mem)))) : Prop := match r with
  | .inl s => Wp X cX6_bestOrder RX6 8 T s.2.2 n1 n2 43 [(0, .ref x0), (1, .ref x1), (2, .int x2), (3, .int x3), (4, .int x4), (5, .int s.1), (6, .int s.2.1)] []
  | .inr e => Wp X cX6_bestOrder RX6 8 T e.2 n1 n2 101 [(2, .int x2), (5, .int e.1)] []
set_option maxHeartbeats 4000000 in
set_option maxRecDepth 100000 in
theorem w_X6_bestOrder_95 {X : CX} {T : List Dsc} {n1 n2 : Nat} {x0 : Nat} {x1 : Nat} {x2 : Int32} {x3 : Int32} {x4 : Int32} {x5 : Int32} {x6 : Int32} {μ : Mem} {r : ((Int32 × Int32 × Mem) ⊕ ((Int32 × Mem)))} (hX : XR X 7 n1 n2) (hx0 : T[x0]? = some (.inl 5)) (hx1 : T[x1]? = some (.inl 1)) (hf : f_X6_bestOrder_95 T x0 x1 x2 x3 x4 x5 x6 μ = some r) (hk : k_X6_bestOrder_43 X T n1 n2 x0 x1 x2 x3 x4 r) : Wp X cX6_bestOrder RX6 8 T μ n1 n2 95 [(0, .ref x0), (1, .ref x1), (2, .int x2), (3, .int x3), (4, .int x4), (5, .int x5), (6, .int x6)] [] := by
  unfold f_X6_bestOrder_95 at hf
  obtain ⟨v1, h2, hf⟩ := bnd hf
  refine Wp.iincN (pc := 95) (lo' := [(0, .ref x0), (1, .ref x1), (2, .int x2), (3, .int x3), (4, .int x4), (5, .int x5), (6, .int v1)]) (1 : Int32) (by decide) h2 6 rfl [1, 2, 3, 4, 5, 6, 0] rfl (by decide) dX6_bestOrder_95 ?_
  refine Wp.goto (pc := 98) 43 dX6_bestOrder_98 (by decide) ?_
  cases hf
  exact hk
set_option maxHeartbeats 4000000 in
set_option maxRecDepth 100000 in
theorem w_X6_bestOrder_43 {X : CX} {T : List Dsc} {n1 n2 : Nat} {x0 : Nat} {x1 : Nat} {x2 : Int32} {x3 : Int32} {x4 : Int32} {x5 : Int32} {x6 : Int32} {μ : Mem} {r : ((Int32 × Int32 × Mem) ⊕ ((Int32 × Mem)))} (hX : XR X 7 n1 n2) (hx0 : T[x0]? = some (.inl 5)) (hx1 : T[x1]? = some (.inl 1)) (hf : f_X6_bestOrder_43 T x0 x1 x2 x3 x4 x5 x6 μ = some r) (hk : k_X6_bestOrder_43 X T n1 n2 x0 x1 x2 x3 x4 r) : Wp X cX6_bestOrder RX6 8 T μ n1 n2 43 [(0, .ref x0), (1, .ref x1), (2, .int x2), (3, .int x3), (4, .int x4), (5, .int x5), (6, .int x6)] [] := by
  unfold f_X6_bestOrder_43 at hf
  refine Wp.iload (pc := 43) 6 rfl dX6_bestOrder_43 ?_
  refine Wp.sipush (pc := 45) (720 : Int32) (by decide) dX6_bestOrder_45 ?_
  refine Wp.icmp_ge (pc := 48) 101 dX6_bestOrder_48 (by decide) (fun hc1 => ?_) (fun hc1 => ?_)
  · rw [if_pos hc1] at hf
    refine Wp.lo' (lo' := [(2, .int x2), (5, .int x5)]) [2, 5] rfl ?_
    cases hf
    exact hk
  · rw [if_neg hc1] at hf
    refine Wp.aload_n (pc := 51) 0 rfl rfl dX6_bestOrder_51 ?_
    refine Wp.iload (pc := 52) 4 rfl dX6_bestOrder_52 ?_
    obtain ⟨c2, h3, hf⟩ := bnd hf
    refine Wp.callVi (pc := 54) (st := []) (as := [.int x4]) (c_X6_goToNextOrder hx0 h3) ml_RX6_50 mv_X6_goToNextOrder mb_X6_goToNextOrder hX (Nat.le_of_ble_eq_true rfl) (by decide) rfl hx0 rfl (by simp) dX6_bestOrder_54 rfl ?_
    refine Wp.if_eq (pc := 57) 101 dX6_bestOrder_57 (by decide) (fun hc4 => ?_) (fun hc4 => ?_)
    · rw [if_pos hc4] at hf
      refine Wp.lo' (lo' := [(2, .int x2), (5, .int x5)]) [2, 5] rfl ?_
      cases hf
      exact hk
    · rw [if_neg hc4] at hf
      refine Wp.aload_n (pc := 60) 0 rfl rfl dX6_bestOrder_60 ?_
      refine Wp.aload_n (pc := 61) 1 rfl rfl dX6_bestOrder_61 ?_
      refine Wp.iload_n (pc := 62) 2 rfl rfl dX6_bestOrder_62 ?_
      refine Wp.iload_n (pc := 63) 3 rfl rfl dX6_bestOrder_63 ?_
      obtain ⟨c5, h6, hf⟩ := bnd hf
      refine Wp.callVi (pc := 64) (st := []) (as := [.ref x1, .int x2, .int x3]) (c_X6_cost hx0 hx1 h6) ml_RX6_46 mv_X6_cost mb_X6_cost hX (Nat.le_of_ble_eq_true rfl) (by decide) rfl hx0 rfl (by simp) dX6_bestOrder_64 rfl ?_
      refine Wp.istore (pc := 67) (lo' := [(0, .ref x0), (1, .ref x1), (2, .int x2), (3, .int x3), (4, .int x4), (5, .int x5), (6, .int x6), (7, .int c5.1)]) [1, 2, 3, 4, 5, 6, 7, 0] rfl (by decide) dX6_bestOrder_67 ?_
      refine Wp.iload (pc := 69) 7 rfl dX6_bestOrder_69 ?_
      refine Wp.iload (pc := 71) 5 rfl dX6_bestOrder_71 ?_
      refine Wp.icmp_ge (pc := 73) 95 dX6_bestOrder_73 (by decide) (fun hc7 => ?_) (fun hc7 => ?_)
      · rw [if_pos hc7] at hf
        refine Wp.lo' (lo' := [(0, .ref x0), (1, .ref x1), (2, .int x2), (3, .int x3), (4, .int x4), (5, .int x5), (6, .int x6)]) [0, 1, 2, 3, 4, 5, 6] rfl ?_
        exact w_X6_bestOrder_95 hX hx0 hx1 hf hk
      · rw [if_neg hc7] at hf
        refine Wp.iload (pc := 76) 7 rfl dX6_bestOrder_76 ?_
        refine Wp.istore (pc := 78) (lo' := [(0, .ref x0), (1, .ref x1), (2, .int x2), (3, .int x3), (4, .int x4), (5, .int c5.1), (6, .int x6)]) [1, 2, 3, 4, 5, 0, 6] rfl (by decide) dX6_bestOrder_78 ?_
        refine Wp.aload_n (pc := 80) 0 rfl rfl dX6_bestOrder_80 ?_
        obtain ⟨a8, h9, hf⟩ := bnd hf
        refine Wp.getR (pc := 81) (gA_R h9) hx0 fk_RX6_9 rfl dX6_bestOrder_81 ?_
        refine Wp.iconst (pc := 84) (0 : Int32) (by decide) dX6_bestOrder_84 ?_
        refine Wp.aload_n (pc := 85) 0 rfl rfl dX6_bestOrder_85 ?_
        obtain ⟨a10, h11, hf⟩ := bnd hf
        refine Wp.getR (pc := 86) (gA_R h11) hx0 fk_RX6_15 rfl dX6_bestOrder_86 ?_
        refine Wp.iconst (pc := 89) (0 : Int32) (by decide) dX6_bestOrder_89 ?_
        refine Wp.bipush (pc := 90) (12 : Int32) (by decide) dX6_bestOrder_90 ?_
        obtain ⟨μ12, h13, hf⟩ := bnd hf
        refine Wp.acopy (pc := 92) h13 (gA_T h9) (gA_T h11) ac_RX6_40 ac_nat ac_stat ac_ini hX (Nat.le_of_ble_eq_true rfl) (by simp) dX6_bestOrder_92 ?_
        exact w_X6_bestOrder_95 hX hx0 hx1 hf hk
theorem wl_X6_bestOrder_43 {X : CX} {T : List Dsc} {n1 n2 : Nat} {x0 : Nat} {x1 : Nat} {x2 : Int32} {x3 : Int32} {x4 : Int32} {x5 : Int32} {x6 : Int32} {μ : Mem} {e : ((Int32 × Mem))} (hX : XR X 7 n1 n2) (hx0 : T[x0]? = some (.inl 5)) (hx1 : T[x1]? = some (.inl 1)) (h : loop (g_X6_bestOrder_43 T x0 x1 x2 x3 x4) (x5, x6, μ) = some e) (he : Wp X cX6_bestOrder RX6 8 T e.2 n1 n2 101 [(2, .int x2), (5, .int e.1)] []) : Wp X cX6_bestOrder RX6 8 T μ n1 n2 43 [(0, .ref x0), (1, .ref x1), (2, .int x2), (3, .int x3), (4, .int x4), (5, .int x5), (6, .int x6)] [] :=
  loop_ok (K := k_X6_bestOrder_43 X T n1 n2 x0 x1 x2 x3 x4) (fun s r hf hk => w_X6_bestOrder_43 hX hx0 hx1 hf hk) h he
set_option maxHeartbeats 4000000 in
set_option maxRecDepth 100000 in
theorem w_X6_bestOrder_114 {X : CX} {T : List Dsc} {n1 n2 : Nat} {s0 : Int32} {μ : Mem} {r : (Int32 × Mem)} (hX : XR X 7 n1 n2) (hf : f_X6_bestOrder_114 T s0 μ = some r) (hk : FnI X cX6_bestOrder RX6 8 T n1 n2 r) : Wp X cX6_bestOrder RX6 8 T μ n1 n2 114 [] [.int s0] := by
  unfold f_X6_bestOrder_114 at hf
  cases hf
  exact hk _ _ dX6_bestOrder_114
set_option maxHeartbeats 4000000 in
set_option maxRecDepth 100000 in
theorem w_X6_bestOrder_101 {X : CX} {T : List Dsc} {n1 n2 : Nat} {x2 : Int32} {x5 : Int32} {μ : Mem} {r : (Int32 × Mem)} (hX : XR X 7 n1 n2) (hf : f_X6_bestOrder_101 T x2 x5 μ = some r) (hk : FnI X cX6_bestOrder RX6 8 T n1 n2 r) : Wp X cX6_bestOrder RX6 8 T μ n1 n2 101 [(2, .int x2), (5, .int x5)] [] := by
  unfold f_X6_bestOrder_101 at hf
  refine Wp.iload_n (pc := 101) 0 rfl rfl dX6_bestOrder_101 ?_
  refine Wp.iconst (pc := 102) (2 : Int32) (by decide) dX6_bestOrder_102 ?_
  refine Wp.icmp_ne (pc := 103) 112 dX6_bestOrder_103 (by decide) (fun hc1 => ?_) (fun hc1 => ?_)
  · rw [if_neg hc1] at hf
    refine Wp.iload (pc := 112) 1 rfl dX6_bestOrder_112 ?_
    refine Wp.lo' (lo' := []) [] rfl ?_
    exact w_X6_bestOrder_114 hX hf hk
  · rw [if_pos hc1] at hf
    refine Wp.iload (pc := 106) 1 rfl dX6_bestOrder_106 ?_
    refine Wp.ineg (pc := 108) dX6_bestOrder_108 ?_
    refine Wp.goto (pc := 109) 114 dX6_bestOrder_109 (by decide) ?_
    refine Wp.lo' (lo' := []) [] rfl ?_
    exact w_X6_bestOrder_114 hX hf hk
set_option maxHeartbeats 4000000 in
set_option maxRecDepth 100000 in
theorem w_X6_bestOrder {X : CX} {T : List Dsc} {n1 n2 : Nat} {x0 : Nat} {x1 : Nat} {x2 : Int32} {x3 : Int32} {μ : Mem} {r : (Int32 × Mem)} (hX : XR X 7 n1 n2) (hx0 : T[x0]? = some (.inl 5)) (hx1 : T[x1]? = some (.inl 1)) (hf : F_X6_bestOrder T x0 x1 x2 x3 μ = some r) (hk : FnI X cX6_bestOrder RX6 8 T n1 n2 r) : Wp X cX6_bestOrder RX6 8 T μ n1 n2 0 [(0, .ref x0), (1, .ref x1), (2, .int x2), (3, .int x3)] [] := by
  unfold F_X6_bestOrder at hf
  refine Wp.aload_n (pc := 0) 0 rfl rfl dX6_bestOrder_0 ?_
  obtain ⟨r1, h2, hf⟩ := bnd hf
  refine Wp.getR (pc := 1) (gO_R h2) hx0 fk_RX6_21 rfl dX6_bestOrder_1 ?_
  obtain ⟨r3, h4, hf⟩ := bnd hf
  refine Wp.getR (pc := 4) (gO_R h4) (gO_T h2) fk_RX6_25 rfl dX6_bestOrder_4 ?_
  refine Wp.getI (pc := 7) (gO_T h4) fk_RX6_31 rfl dX6_bestOrder_7 ?_
  obtain ⟨v5, h6, hf⟩ := bnd hf
  refine Wp.nI' h6 ?_
  refine Wp.istore (pc := 10) (lo' := [(0, .ref x0), (1, .ref x1), (2, .int x2), (3, .int x3), (4, .int v5)]) [1, 2, 3, 4, 0] rfl (by decide) dX6_bestOrder_10 ?_
  refine Wp.aload_n (pc := 12) 0 rfl rfl dX6_bestOrder_12 ?_
  obtain ⟨c7, h8, hf⟩ := bnd hf
  refine Wp.callVv (pc := 13) (st := []) (as := []) (c_X6_sitAsNow hx0 h8) ml_RX6_37 mv_X6_sitAsNow mb_X6_sitAsNow hX (Nat.le_of_ble_eq_true rfl) (by decide) rfl hx0 rfl (by simp) dX6_bestOrder_13 rfl ?_
  refine Wp.aload_n (pc := 16) 0 rfl rfl dX6_bestOrder_16 ?_
  obtain ⟨a9, h10, hf⟩ := bnd hf
  refine Wp.getR (pc := 17) (gA_R h10) hx0 fk_RX6_9 rfl dX6_bestOrder_17 ?_
  refine Wp.iconst (pc := 20) (0 : Int32) (by decide) dX6_bestOrder_20 ?_
  refine Wp.aload_n (pc := 21) 0 rfl rfl dX6_bestOrder_21 ?_
  obtain ⟨a11, h12, hf⟩ := bnd hf
  refine Wp.getR (pc := 22) (gA_R h12) hx0 fk_RX6_15 rfl dX6_bestOrder_22 ?_
  refine Wp.iconst (pc := 25) (0 : Int32) (by decide) dX6_bestOrder_25 ?_
  refine Wp.bipush (pc := 26) (12 : Int32) (by decide) dX6_bestOrder_26 ?_
  obtain ⟨μ13, h14, hf⟩ := bnd hf
  refine Wp.acopy (pc := 28) h14 (gA_T h10) (gA_T h12) ac_RX6_40 ac_nat ac_stat ac_ini hX (Nat.le_of_ble_eq_true rfl) (by simp) dX6_bestOrder_28 ?_
  refine Wp.aload_n (pc := 31) 0 rfl rfl dX6_bestOrder_31 ?_
  refine Wp.aload_n (pc := 32) 1 rfl rfl dX6_bestOrder_32 ?_
  refine Wp.iload_n (pc := 33) 2 rfl rfl dX6_bestOrder_33 ?_
  refine Wp.iload_n (pc := 34) 3 rfl rfl dX6_bestOrder_34 ?_
  obtain ⟨c15, h16, hf⟩ := bnd hf
  refine Wp.callVi (pc := 35) (st := []) (as := [.ref x1, .int x2, .int x3]) (c_X6_cost hx0 hx1 h16) ml_RX6_46 mv_X6_cost mb_X6_cost hX (Nat.le_of_ble_eq_true rfl) (by decide) rfl hx0 rfl (by simp) dX6_bestOrder_35 rfl ?_
  refine Wp.istore (pc := 38) (lo' := [(0, .ref x0), (1, .ref x1), (2, .int x2), (3, .int x3), (4, .int v5), (5, .int c15.1)]) [1, 2, 3, 4, 5, 0] rfl (by decide) dX6_bestOrder_38 ?_
  refine Wp.iconst (pc := 40) (1 : Int32) (by decide) dX6_bestOrder_40 ?_
  refine Wp.istore (pc := 41) (lo' := [(0, .ref x0), (1, .ref x1), (2, .int x2), (3, .int x3), (4, .int v5), (5, .int c15.1), (6, .int (1 : Int32))]) [1, 2, 3, 4, 5, 6, 0] rfl (by decide) dX6_bestOrder_41 ?_
  obtain ⟨e17, h18, hf⟩ := bnd hf
  refine wl_X6_bestOrder_43 hX hx0 hx1 h18 ?_
  exact w_X6_bestOrder_101 hX hf hk
theorem c_X6_bestOrder {T : List Dsc} {x0 : Nat} {x1 : Nat} {x2 : Int32} {x3 : Int32} {μ : Mem} {r : (Int32 × Mem)} (hx0 : T[x0]? = some (.inl 5)) (hx1 : T[x1]? = some (.inl 1)) (hf : F_X6_bestOrder T x0 x1 x2 x3 μ = some r) : Ct 7 yX6_bestOrder cX6_bestOrder 8 (some .int) T μ [.ref x0, .ref x1, .int x2, .int x3] (some (.int r.1)) r.2 := Ct.ofI (by decide +kernel) (Nat.le_of_ble_eq_true rfl) (fun X hX hk => w_X6_bestOrder hX hx0 hx1 hf hk)
theorem dX6_bestExchange_0 : decode cX6_bestExchange 0 = .ok (.aload_n 0, 1) := by decide +kernel
theorem dX6_bestExchange_1 : decode cX6_bestExchange 1 = .ok (.getfield 21, 3) := by decide +kernel
theorem dX6_bestExchange_4 : decode cX6_bestExchange 4 = .ok (.getfield 25, 3) := by decide +kernel
theorem dX6_bestExchange_7 : decode cX6_bestExchange 7 = .ok (.getfield 31, 3) := by decide +kernel
theorem dX6_bestExchange_10 : decode cX6_bestExchange 10 = .ok (.istore 4, 2) := by decide +kernel
theorem dX6_bestExchange_12 : decode cX6_bestExchange 12 = .ok (.aload_n 0, 1) := by decide +kernel
theorem dX6_bestExchange_13 : decode cX6_bestExchange 13 = .ok (.invokevirtual 37, 3) := by decide +kernel
theorem dX6_bestExchange_16 : decode cX6_bestExchange 16 = .ok (.aload_n 0, 1) := by decide +kernel
theorem dX6_bestExchange_17 : decode cX6_bestExchange 17 = .ok (.aload_n 1, 1) := by decide +kernel
theorem dX6_bestExchange_18 : decode cX6_bestExchange 18 = .ok (.iload_n 2, 1) := by decide +kernel
theorem dX6_bestExchange_19 : decode cX6_bestExchange 19 = .ok (.iload_n 3, 1) := by decide +kernel
theorem dX6_bestExchange_20 : decode cX6_bestExchange 20 = .ok (.invokevirtual 46, 3) := by decide +kernel
theorem dX6_bestExchange_23 : decode cX6_bestExchange 23 = .ok (.istore 5, 2) := by decide +kernel
theorem dX6_bestExchange_25 : decode cX6_bestExchange 25 = .ok (.bipush (-2), 2) := by decide +kernel
theorem dX6_bestExchange_27 : decode cX6_bestExchange 27 = .ok (.istore 6, 2) := by decide +kernel
theorem dX6_bestExchange_29 : decode cX6_bestExchange 29 = .ok (.iconst 0, 1) := by decide +kernel
theorem dX6_bestExchange_30 : decode cX6_bestExchange 30 = .ok (.istore 7, 2) := by decide +kernel
theorem dX6_bestExchange_32 : decode cX6_bestExchange 32 = .ok (.iload 7, 2) := by decide +kernel
theorem dX6_bestExchange_34 : decode cX6_bestExchange 34 = .ok (.iload 4, 2) := by decide +kernel
theorem dX6_bestExchange_36 : decode cX6_bestExchange 36 = .ok (.if_icmp .ge 74, 3) := by decide +kernel
theorem dX6_bestExchange_39 : decode cX6_bestExchange 39 = .ok (.iload 7, 2) := by decide +kernel
theorem dX6_bestExchange_41 : decode cX6_bestExchange 41 = .ok (.iconst 1, 1) := by decide +kernel
theorem dX6_bestExchange_42 : decode cX6_bestExchange 42 = .ok (.iadd, 1) := by decide +kernel
theorem dX6_bestExchange_43 : decode cX6_bestExchange 43 = .ok (.istore 8, 2) := by decide +kernel
theorem dX6_bestExchange_45 : decode cX6_bestExchange 45 = .ok (.iload 8, 2) := by decide +kernel
theorem dX6_bestExchange_47 : decode cX6_bestExchange 47 = .ok (.iload 4, 2) := by decide +kernel
theorem dX6_bestExchange_49 : decode cX6_bestExchange 49 = .ok (.if_icmp .ge 55, 3) := by decide +kernel
theorem dX6_bestExchange_52 : decode cX6_bestExchange 52 = .ok (.aload_n 0, 1) := by decide +kernel
theorem dX6_bestExchange_53 : decode cX6_bestExchange 53 = .ok (.iload 7, 2) := by decide +kernel
theorem dX6_bestExchange_55 : decode cX6_bestExchange 55 = .ok (.iload 8, 2) := by decide +kernel
theorem dX6_bestExchange_57 : decode cX6_bestExchange 57 = .ok (.invokevirtual 54, 3) := by decide +kernel
theorem dX6_bestExchange_60 : decode cX6_bestExchange 60 = .ok (.aload_n 0, 1) := by decide +kernel
theorem dX6_bestExchange_61 : decode cX6_bestExchange 61 = .ok (.aload_n 1, 1) := by decide +kernel
theorem dX6_bestExchange_62 : decode cX6_bestExchange 62 = .ok (.iload_n 2, 1) := by decide +kernel
theorem dX6_bestExchange_63 : decode cX6_bestExchange 63 = .ok (.iload_n 3, 1) := by decide +kernel
theorem dX6_bestExchange_64 : decode cX6_bestExchange 64 = .ok (.invokevirtual 46, 3) := by decide +kernel
theorem dX6_bestExchange_67 : decode cX6_bestExchange 67 = .ok (.istore 9, 2) := by decide +kernel
theorem dX6_bestExchange_69 : decode cX6_bestExchange 69 = .ok (.iload 9, 2) := by decide +kernel
theorem dX6_bestExchange_71 : decode cX6_bestExchange 71 = .ok (.iload 5, 2) := by decide +kernel
theorem dX6_bestExchange_73 : decode cX6_bestExchange 73 = .ok (.if_icmp .ge 17, 3) := by decide +kernel
theorem dX6_bestExchange_76 : decode cX6_bestExchange 76 = .ok (.iload 9, 2) := by decide +kernel
theorem dX6_bestExchange_78 : decode cX6_bestExchange 78 = .ok (.istore 5, 2) := by decide +kernel
theorem dX6_bestExchange_80 : decode cX6_bestExchange 80 = .ok (.bipush 100, 2) := by decide +kernel
theorem dX6_bestExchange_82 : decode cX6_bestExchange 82 = .ok (.iload 7, 2) := by decide +kernel
theorem dX6_bestExchange_84 : decode cX6_bestExchange 84 = .ok (.imul, 1) := by decide +kernel
theorem dX6_bestExchange_85 : decode cX6_bestExchange 85 = .ok (.iload 8, 2) := by decide +kernel
theorem dX6_bestExchange_87 : decode cX6_bestExchange 87 = .ok (.iadd, 1) := by decide +kernel
theorem dX6_bestExchange_88 : decode cX6_bestExchange 88 = .ok (.istore 6, 2) := by decide +kernel
theorem dX6_bestExchange_90 : decode cX6_bestExchange 90 = .ok (.aload_n 0, 1) := by decide +kernel
theorem dX6_bestExchange_91 : decode cX6_bestExchange 91 = .ok (.iload 7, 2) := by decide +kernel
theorem dX6_bestExchange_93 : decode cX6_bestExchange 93 = .ok (.iload 8, 2) := by decide +kernel
theorem dX6_bestExchange_95 : decode cX6_bestExchange 95 = .ok (.invokevirtual 54, 3) := by decide +kernel
theorem dX6_bestExchange_98 : decode cX6_bestExchange 98 = .ok (.iinc 8 1, 3) := by decide +kernel
theorem dX6_bestExchange_101 : decode cX6_bestExchange 101 = .ok (.goto (-56), 3) := by decide +kernel
theorem dX6_bestExchange_104 : decode cX6_bestExchange 104 = .ok (.iinc 7 1, 3) := by decide +kernel
theorem dX6_bestExchange_107 : decode cX6_bestExchange 107 = .ok (.goto (-75), 3) := by decide +kernel
theorem dX6_bestExchange_110 : decode cX6_bestExchange 110 = .ok (.iload 6, 2) := by decide +kernel
theorem dX6_bestExchange_112 : decode cX6_bestExchange 112 = .ok (.ireturn, 1) := by decide +kernel
def k_X6_bestExchange_45 (X : CX) (T : List Dsc) (n1 n2 : Nat) (x0 : Nat) (x1 : Nat) (x2 : Int32) (x3 : Int32) (x4 : Int32) (x7 : Int32) (r : ((Int32 × Int32 × Int32 × Mem) ⊕ ((Int32 × Int32 × Mem)))) : Prop := match r with
  | .inl s => Wp X cX6_bestExchange RX6 10 T s.2.2.2 n1 n2 45 [(0, .ref x0), (1, .ref x1), (2, .int x2), (3, .int x3), (4, .int x4), (5, .int s.1), (6, .int s.2.1), (7, .int x7), (8, .int s.2.2.1)] []
  | .inr e => Wp X cX6_bestExchange RX6 10 T e.2.2 n1 n2 104 [(0, .ref x0), (1, .ref x1), (2, .int x2), (3, .int x3), (4, .int x4), (5, .int e.1), (6, .int e.2.1), (7, .int x7)] []
def k_X6_bestExchange_32 (X : CX) (T : List Dsc) (n1 n2 : Nat) (x0 : Nat) (x1 : Nat) (x2 : Int32) (x3 : Int32) (x4 : Int32) (r : ((Int32 × Int32 × Int32 × Mem) ⊕ ((Int32 × Mem)))) : Prop := match r with
  | .inl s => Wp X cX6_bestExchange RX6 10 T s.2.2.2 n1 n2 32 [(0, .ref x0), (1, .ref x1), (2, .int x2), (3, .int x3), (4, .int x4), (5, .int s.1), (6, .int s.2.1), (7, .int s.2.2.1)] []
  | .inr e => Wp X cX6_bestExchange RX6 10 T e.2 n1 n2 110 [(6, .int e.1)] []
set_option maxHeartbeats 4000000 in
set_option maxRecDepth 100000 in
theorem w_X6_bestExchange_90 {X : CX} {T : List Dsc} {n1 n2 : Nat} {x0 : Nat} {x1 : Nat} {x2 : Int32} {x3 : Int32} {x4 : Int32} {x5 : Int32} {x6 : Int32} {x7 : Int32} {x8 : Int32} {μ : Mem} {r : ((Int32 × Int32 × Int32 × Mem) ⊕ ((Int32 × Int32 × Mem)))} (hX : XR X 7 n1 n2) (hx0 : T[x0]? = some (.inl 5)) (hx1 : T[x1]? = some (.inl 1)) (hf : f_X6_bestExchange_90 T x0 x1 x2 x3 x4 x5 x6 x7 x8 μ = some r) (hk : k_X6_bestExchange_45 X T n1 n2 x0 x1 x2 x3 x4 x7 r) : Wp X cX6_bestExchange RX6 10 T μ n1 n2 90 [(0, .ref x0), (1, .ref x1), (2, .int x2), (3, .int x3), (4, .int x4), (5, .int x5), (6, .int x6), (7, .int x7), (8, .int x8)] [] := by
  unfold f_X6_bestExchange_90 at hf
  refine Wp.aload_n (pc := 90) 0 rfl rfl dX6_bestExchange_90 ?_
  refine Wp.iload (pc := 91) 7 rfl dX6_bestExchange_91 ?_
  refine Wp.iload (pc := 93) 8 rfl dX6_bestExchange_93 ?_
  obtain ⟨c1, h2, hf⟩ := bnd hf
  refine Wp.callVv (pc := 95) (st := []) (as := [.int x7, .int x8]) (c_X6_swap hx0 h2) ml_RX6_54 mv_X6_swap mb_X6_swap hX (Nat.le_of_ble_eq_true rfl) (by decide) rfl hx0 rfl (by simp) dX6_bestExchange_95 rfl ?_
  obtain ⟨v3, h4, hf⟩ := bnd hf
  refine Wp.iincN (pc := 98) (lo' := [(0, .ref x0), (1, .ref x1), (2, .int x2), (3, .int x3), (4, .int x4), (5, .int x5), (6, .int x6), (7, .int x7), (8, .int v3)]) (1 : Int32) (by decide) h4 8 rfl [1, 2, 3, 4, 5, 6, 7, 8, 0] rfl (by decide) dX6_bestExchange_98 ?_
  refine Wp.goto (pc := 101) 45 dX6_bestExchange_101 (by decide) ?_
  cases hf
  exact hk
set_option maxHeartbeats 4000000 in
set_option maxRecDepth 100000 in
theorem w_X6_bestExchange_45 {X : CX} {T : List Dsc} {n1 n2 : Nat} {x0 : Nat} {x1 : Nat} {x2 : Int32} {x3 : Int32} {x4 : Int32} {x5 : Int32} {x6 : Int32} {x7 : Int32} {x8 : Int32} {μ : Mem} {r : ((Int32 × Int32 × Int32 × Mem) ⊕ ((Int32 × Int32 × Mem)))} (hX : XR X 7 n1 n2) (hx0 : T[x0]? = some (.inl 5)) (hx1 : T[x1]? = some (.inl 1)) (hf : f_X6_bestExchange_45 T x0 x1 x2 x3 x4 x5 x6 x7 x8 μ = some r) (hk : k_X6_bestExchange_45 X T n1 n2 x0 x1 x2 x3 x4 x7 r) : Wp X cX6_bestExchange RX6 10 T μ n1 n2 45 [(0, .ref x0), (1, .ref x1), (2, .int x2), (3, .int x3), (4, .int x4), (5, .int x5), (6, .int x6), (7, .int x7), (8, .int x8)] [] := by
  unfold f_X6_bestExchange_45 at hf
  refine Wp.iload (pc := 45) 8 rfl dX6_bestExchange_45 ?_
  refine Wp.iload (pc := 47) 4 rfl dX6_bestExchange_47 ?_
  refine Wp.icmp_ge (pc := 49) 104 dX6_bestExchange_49 (by decide) (fun hc1 => ?_) (fun hc1 => ?_)
  · rw [if_pos hc1] at hf
    refine Wp.lo' (lo' := [(0, .ref x0), (1, .ref x1), (2, .int x2), (3, .int x3), (4, .int x4), (5, .int x5), (6, .int x6), (7, .int x7)]) [0, 1, 2, 3, 4, 5, 6, 7] rfl ?_
    cases hf
    exact hk
  · rw [if_neg hc1] at hf
    refine Wp.aload_n (pc := 52) 0 rfl rfl dX6_bestExchange_52 ?_
    refine Wp.iload (pc := 53) 7 rfl dX6_bestExchange_53 ?_
    refine Wp.iload (pc := 55) 8 rfl dX6_bestExchange_55 ?_
    obtain ⟨c2, h3, hf⟩ := bnd hf
    refine Wp.callVv (pc := 57) (st := []) (as := [.int x7, .int x8]) (c_X6_swap hx0 h3) ml_RX6_54 mv_X6_swap mb_X6_swap hX (Nat.le_of_ble_eq_true rfl) (by decide) rfl hx0 rfl (by simp) dX6_bestExchange_57 rfl ?_
    refine Wp.aload_n (pc := 60) 0 rfl rfl dX6_bestExchange_60 ?_
    refine Wp.aload_n (pc := 61) 1 rfl rfl dX6_bestExchange_61 ?_
    refine Wp.iload_n (pc := 62) 2 rfl rfl dX6_bestExchange_62 ?_
    refine Wp.iload_n (pc := 63) 3 rfl rfl dX6_bestExchange_63 ?_
    obtain ⟨c4, h5, hf⟩ := bnd hf
    refine Wp.callVi (pc := 64) (st := []) (as := [.ref x1, .int x2, .int x3]) (c_X6_cost hx0 hx1 h5) ml_RX6_46 mv_X6_cost mb_X6_cost hX (Nat.le_of_ble_eq_true rfl) (by decide) rfl hx0 rfl (by simp) dX6_bestExchange_64 rfl ?_
    refine Wp.istore (pc := 67) (lo' := [(0, .ref x0), (1, .ref x1), (2, .int x2), (3, .int x3), (4, .int x4), (5, .int x5), (6, .int x6), (7, .int x7), (8, .int x8), (9, .int c4.1)]) [1, 2, 3, 4, 5, 6, 7, 8, 9, 0] rfl (by decide) dX6_bestExchange_67 ?_
    refine Wp.iload (pc := 69) 9 rfl dX6_bestExchange_69 ?_
    refine Wp.iload (pc := 71) 5 rfl dX6_bestExchange_71 ?_
    refine Wp.icmp_ge (pc := 73) 90 dX6_bestExchange_73 (by decide) (fun hc6 => ?_) (fun hc6 => ?_)
    · rw [if_pos hc6] at hf
      refine Wp.lo' (lo' := [(0, .ref x0), (1, .ref x1), (2, .int x2), (3, .int x3), (4, .int x4), (5, .int x5), (6, .int x6), (7, .int x7), (8, .int x8)]) [0, 1, 2, 3, 4, 5, 6, 7, 8] rfl ?_
      exact w_X6_bestExchange_90 hX hx0 hx1 hf hk
    · rw [if_neg hc6] at hf
      refine Wp.iload (pc := 76) 9 rfl dX6_bestExchange_76 ?_
      refine Wp.istore (pc := 78) (lo' := [(0, .ref x0), (1, .ref x1), (2, .int x2), (3, .int x3), (4, .int x4), (5, .int c4.1), (7, .int x7), (8, .int x8)]) [1, 2, 3, 4, 5, 0, 7, 8] rfl (by decide) dX6_bestExchange_78 ?_
      refine Wp.bipush (pc := 80) (100 : Int32) (by decide) dX6_bestExchange_80 ?_
      refine Wp.iload (pc := 82) 6 rfl dX6_bestExchange_82 ?_
      refine Wp.imul (pc := 84) dX6_bestExchange_84 ?_
      refine Wp.iload (pc := 85) 7 rfl dX6_bestExchange_85 ?_
      refine Wp.iadd (pc := 87) dX6_bestExchange_87 ?_
      obtain ⟨v7, h8, hf⟩ := bnd hf
      refine Wp.nI' h8 ?_
      refine Wp.istore (pc := 88) (lo' := [(0, .ref x0), (1, .ref x1), (2, .int x2), (3, .int x3), (4, .int x4), (5, .int c4.1), (6, .int v7), (7, .int x7), (8, .int x8)]) [1, 2, 3, 4, 5, 6, 0, 7, 8] rfl (by decide) dX6_bestExchange_88 ?_
      exact w_X6_bestExchange_90 hX hx0 hx1 hf hk
theorem wl_X6_bestExchange_45 {X : CX} {T : List Dsc} {n1 n2 : Nat} {x0 : Nat} {x1 : Nat} {x2 : Int32} {x3 : Int32} {x4 : Int32} {x5 : Int32} {x6 : Int32} {x7 : Int32} {x8 : Int32} {μ : Mem} {e : ((Int32 × Int32 × Mem))} (hX : XR X 7 n1 n2) (hx0 : T[x0]? = some (.inl 5)) (hx1 : T[x1]? = some (.inl 1)) (h : loop (g_X6_bestExchange_45 T x0 x1 x2 x3 x4 x7) (x5, x6, x8, μ) = some e) (he : Wp X cX6_bestExchange RX6 10 T e.2.2 n1 n2 104 [(0, .ref x0), (1, .ref x1), (2, .int x2), (3, .int x3), (4, .int x4), (5, .int e.1), (6, .int e.2.1), (7, .int x7)] []) : Wp X cX6_bestExchange RX6 10 T μ n1 n2 45 [(0, .ref x0), (1, .ref x1), (2, .int x2), (3, .int x3), (4, .int x4), (5, .int x5), (6, .int x6), (7, .int x7), (8, .int x8)] [] :=
  loop_ok (K := k_X6_bestExchange_45 X T n1 n2 x0 x1 x2 x3 x4 x7) (fun s r hf hk => w_X6_bestExchange_45 hX hx0 hx1 hf hk) h he
set_option maxHeartbeats 4000000 in
set_option maxRecDepth 100000 in
theorem w_X6_bestExchange_32 {X : CX} {T : List Dsc} {n1 n2 : Nat} {x0 : Nat} {x1 : Nat} {x2 : Int32} {x3 : Int32} {x4 : Int32} {x5 : Int32} {x6 : Int32} {x7 : Int32} {μ : Mem} {r : ((Int32 × Int32 × Int32 × Mem) ⊕ ((Int32 × Mem)))} (hX : XR X 7 n1 n2) (hx0 : T[x0]? = some (.inl 5)) (hx1 : T[x1]? = some (.inl 1)) (hf : f_X6_bestExchange_32 T x0 x1 x2 x3 x4 x5 x6 x7 μ = some r) (hk : k_X6_bestExchange_32 X T n1 n2 x0 x1 x2 x3 x4 r) : Wp X cX6_bestExchange RX6 10 T μ n1 n2 32 [(0, .ref x0), (1, .ref x1), (2, .int x2), (3, .int x3), (4, .int x4), (5, .int x5), (6, .int x6), (7, .int x7)] [] := by
  unfold f_X6_bestExchange_32 at hf
  refine Wp.iload (pc := 32) 7 rfl dX6_bestExchange_32 ?_
  refine Wp.iload (pc := 34) 4 rfl dX6_bestExchange_34 ?_
  refine Wp.icmp_ge (pc := 36) 110 dX6_bestExchange_36 (by decide) (fun hc1 => ?_) (fun hc1 => ?_)
  · rw [if_pos hc1] at hf
    refine Wp.lo' (lo' := [(6, .int x6)]) [6] rfl ?_
    cases hf
    exact hk
  · rw [if_neg hc1] at hf
    refine Wp.iload (pc := 39) 7 rfl dX6_bestExchange_39 ?_
    refine Wp.iconst (pc := 41) (1 : Int32) (by decide) dX6_bestExchange_41 ?_
    refine Wp.iadd (pc := 42) dX6_bestExchange_42 ?_
    obtain ⟨v2, h3, hf⟩ := bnd hf
    refine Wp.nI' h3 ?_
    refine Wp.istore (pc := 43) (lo' := [(0, .ref x0), (1, .ref x1), (2, .int x2), (3, .int x3), (4, .int x4), (5, .int x5), (6, .int x6), (7, .int x7), (8, .int v2)]) [1, 2, 3, 4, 5, 6, 7, 8, 0] rfl (by decide) dX6_bestExchange_43 ?_
    obtain ⟨e4, h5, hf⟩ := bnd hf
    refine wl_X6_bestExchange_45 hX hx0 hx1 h5 ?_
    obtain ⟨v6, h7, hf⟩ := bnd hf
    refine Wp.iincN (pc := 104) (lo' := [(0, .ref x0), (1, .ref x1), (2, .int x2), (3, .int x3), (4, .int x4), (5, .int e4.1), (6, .int e4.2.1), (7, .int v6)]) (1 : Int32) (by decide) h7 7 rfl [1, 2, 3, 4, 5, 6, 7, 0] rfl (by decide) dX6_bestExchange_104 ?_
    refine Wp.goto (pc := 107) 32 dX6_bestExchange_107 (by decide) ?_
    cases hf
    exact hk
theorem wl_X6_bestExchange_32 {X : CX} {T : List Dsc} {n1 n2 : Nat} {x0 : Nat} {x1 : Nat} {x2 : Int32} {x3 : Int32} {x4 : Int32} {x5 : Int32} {x6 : Int32} {x7 : Int32} {μ : Mem} {e : ((Int32 × Mem))} (hX : XR X 7 n1 n2) (hx0 : T[x0]? = some (.inl 5)) (hx1 : T[x1]? = some (.inl 1)) (h : loop (g_X6_bestExchange_32 T x0 x1 x2 x3 x4) (x5, x6, x7, μ) = some e) (he : Wp X cX6_bestExchange RX6 10 T e.2 n1 n2 110 [(6, .int e.1)] []) : Wp X cX6_bestExchange RX6 10 T μ n1 n2 32 [(0, .ref x0), (1, .ref x1), (2, .int x2), (3, .int x3), (4, .int x4), (5, .int x5), (6, .int x6), (7, .int x7)] [] :=
  loop_ok (K := k_X6_bestExchange_32 X T n1 n2 x0 x1 x2 x3 x4) (fun s r hf hk => w_X6_bestExchange_32 hX hx0 hx1 hf hk) h he
set_option maxHeartbeats 4000000 in
set_option maxRecDepth 100000 in
theorem w_X6_bestExchange {X : CX} {T : List Dsc} {n1 n2 : Nat} {x0 : Nat} {x1 : Nat} {x2 : Int32} {x3 : Int32} {μ : Mem} {r : (Int32 × Mem)} (hX : XR X 7 n1 n2) (hx0 : T[x0]? = some (.inl 5)) (hx1 : T[x1]? = some (.inl 1)) (hf : F_X6_bestExchange T x0 x1 x2 x3 μ = some r) (hk : FnI X cX6_bestExchange RX6 10 T n1 n2 r) : Wp X cX6_bestExchange RX6 10 T μ n1 n2 0 [(0, .ref x0), (1, .ref x1), (2, .int x2), (3, .int x3)] [] := by
  unfold F_X6_bestExchange at hf
  refine Wp.aload_n (pc := 0) 0 rfl rfl dX6_bestExchange_0 ?_
  obtain ⟨r1, h2, hf⟩ := bnd hf
  refine Wp.getR (pc := 1) (gO_R h2) hx0 fk_RX6_21 rfl dX6_bestExchange_1 ?_
  obtain ⟨r3, h4, hf⟩ := bnd hf
  refine Wp.getR (pc := 4) (gO_R h4) (gO_T h2) fk_RX6_25 rfl dX6_bestExchange_4 ?_
  refine Wp.getI (pc := 7) (gO_T h4) fk_RX6_31 rfl dX6_bestExchange_7 ?_
  obtain ⟨v5, h6, hf⟩ := bnd hf
  refine Wp.nI' h6 ?_
  refine Wp.istore (pc := 10) (lo' := [(0, .ref x0), (1, .ref x1), (2, .int x2), (3, .int x3), (4, .int v5)]) [1, 2, 3, 4, 0] rfl (by decide) dX6_bestExchange_10 ?_
  refine Wp.aload_n (pc := 12) 0 rfl rfl dX6_bestExchange_12 ?_
  obtain ⟨c7, h8, hf⟩ := bnd hf
  refine Wp.callVv (pc := 13) (st := []) (as := []) (c_X6_sitAsNow hx0 h8) ml_RX6_37 mv_X6_sitAsNow mb_X6_sitAsNow hX (Nat.le_of_ble_eq_true rfl) (by decide) rfl hx0 rfl (by simp) dX6_bestExchange_13 rfl ?_
  refine Wp.aload_n (pc := 16) 0 rfl rfl dX6_bestExchange_16 ?_
  refine Wp.aload_n (pc := 17) 1 rfl rfl dX6_bestExchange_17 ?_
  refine Wp.iload_n (pc := 18) 2 rfl rfl dX6_bestExchange_18 ?_
  refine Wp.iload_n (pc := 19) 3 rfl rfl dX6_bestExchange_19 ?_
  obtain ⟨c9, h10, hf⟩ := bnd hf
  refine Wp.callVi (pc := 20) (st := []) (as := [.ref x1, .int x2, .int x3]) (c_X6_cost hx0 hx1 h10) ml_RX6_46 mv_X6_cost mb_X6_cost hX (Nat.le_of_ble_eq_true rfl) (by decide) rfl hx0 rfl (by simp) dX6_bestExchange_20 rfl ?_
  refine Wp.istore (pc := 23) (lo' := [(0, .ref x0), (1, .ref x1), (2, .int x2), (3, .int x3), (4, .int v5), (5, .int c9.1)]) [1, 2, 3, 4, 5, 0] rfl (by decide) dX6_bestExchange_23 ?_
  refine Wp.bipush (pc := 25) (-2 : Int32) (by decide) dX6_bestExchange_25 ?_
  refine Wp.istore (pc := 27) (lo' := [(0, .ref x0), (1, .ref x1), (2, .int x2), (3, .int x3), (4, .int v5), (5, .int c9.1), (6, .int (-2 : Int32))]) [1, 2, 3, 4, 5, 6, 0] rfl (by decide) dX6_bestExchange_27 ?_
  refine Wp.iconst (pc := 29) (0 : Int32) (by decide) dX6_bestExchange_29 ?_
  refine Wp.istore (pc := 30) (lo' := [(0, .ref x0), (1, .ref x1), (2, .int x2), (3, .int x3), (4, .int v5), (5, .int c9.1), (6, .int (-2 : Int32)), (7, .int (0 : Int32))]) [1, 2, 3, 4, 5, 6, 7, 0] rfl (by decide) dX6_bestExchange_30 ?_
  obtain ⟨e11, h12, hf⟩ := bnd hf
  refine wl_X6_bestExchange_32 hX hx0 hx1 h12 ?_
  refine Wp.iload (pc := 110) 0 rfl dX6_bestExchange_110 ?_
  cases hf
  exact hk _ _ dX6_bestExchange_112
theorem c_X6_bestExchange {T : List Dsc} {x0 : Nat} {x1 : Nat} {x2 : Int32} {x3 : Int32} {μ : Mem} {r : (Int32 × Mem)} (hx0 : T[x0]? = some (.inl 5)) (hx1 : T[x1]? = some (.inl 1)) (hf : F_X6_bestExchange T x0 x1 x2 x3 μ = some r) : Ct 7 yX6_bestExchange cX6_bestExchange 10 (some .int) T μ [.ref x0, .ref x1, .int x2, .int x3] (some (.int r.1)) r.2 := Ct.ofI (by decide +kernel) (Nat.le_of_ble_eq_true rfl) (fun X hX hk => w_X6_bestExchange hX hx0 hx1 hf hk)
theorem dX9_findRound_0 : decode cX9_findRound 0 = .ok (.aload_n 0, 1) := by decide +kernel
theorem dX9_findRound_1 : decode cX9_findRound 1 = .ok (.getfield 9, 3) := by decide +kernel
theorem dX9_findRound_4 : decode cX9_findRound 4 = .ok (.iconst 0, 1) := by decide +kernel
theorem dX9_findRound_5 : decode cX9_findRound 5 = .ok (.aload_n 1, 1) := by decide +kernel
theorem dX9_findRound_6 : decode cX9_findRound 6 = .ok (.getfield 17, 3) := by decide +kernel
theorem dX9_findRound_9 : decode cX9_findRound 9 = .ok (.lastore, 1) := by decide +kernel
theorem dX9_findRound_10 : decode cX9_findRound 10 = .ok (.iconst 1, 1) := by decide +kernel
theorem dX9_findRound_11 : decode cX9_findRound 11 = .ok (.istore_n 2, 1) := by decide +kernel
theorem dX9_findRound_12 : decode cX9_findRound 12 = .ok (.iload_n 2, 1) := by decide +kernel
theorem dX9_findRound_13 : decode cX9_findRound 13 = .ok (.sipush 400, 3) := by decide +kernel
theorem dX9_findRound_16 : decode cX9_findRound 16 = .ok (.if_icmp .gt 71, 3) := by decide +kernel
theorem dX9_findRound_19 : decode cX9_findRound 19 = .ok (.aload_n 0, 1) := by decide +kernel
theorem dX9_findRound_20 : decode cX9_findRound 20 = .ok (.getfield 9, 3) := by decide +kernel
theorem dX9_findRound_23 : decode cX9_findRound 23 = .ok (.iload_n 2, 1) := by decide +kernel
theorem dX9_findRound_24 : decode cX9_findRound 24 = .ok (.aload_n 0, 1) := by decide +kernel
theorem dX9_findRound_25 : decode cX9_findRound 25 = .ok (.getfield 13, 3) := by decide +kernel
theorem dX9_findRound_28 : decode cX9_findRound 28 = .ok (.aload_n 0, 1) := by decide +kernel
theorem dX9_findRound_29 : decode cX9_findRound 29 = .ok (.getfield 9, 3) := by decide +kernel
theorem dX9_findRound_32 : decode cX9_findRound 32 = .ok (.iload_n 2, 1) := by decide +kernel
theorem dX9_findRound_33 : decode cX9_findRound 33 = .ok (.iconst 1, 1) := by decide +kernel
theorem dX9_findRound_34 : decode cX9_findRound 34 = .ok (.isub, 1) := by decide +kernel
theorem dX9_findRound_35 : decode cX9_findRound 35 = .ok (.laload, 1) := by decide +kernel
theorem dX9_findRound_36 : decode cX9_findRound 36 = .ok (.aload_n 1, 1) := by decide +kernel
theorem dX9_findRound_37 : decode cX9_findRound 37 = .ok (.getfield 23, 3) := by decide +kernel
theorem dX9_findRound_40 : decode cX9_findRound 40 = .ok (.aload_n 1, 1) := by decide +kernel
theorem dX9_findRound_41 : decode cX9_findRound 41 = .ok (.getfield 27, 3) := by decide +kernel
theorem dX9_findRound_44 : decode cX9_findRound 44 = .ok (.iconst 0, 1) := by decide +kernel
theorem dX9_findRound_45 : decode cX9_findRound 45 = .ok (.invokevirtual 31, 3) := by decide +kernel
theorem dX9_findRound_48 : decode cX9_findRound 48 = .ok (.lastore, 1) := by decide +kernel
theorem dX9_findRound_49 : decode cX9_findRound 49 = .ok (.aload_n 0, 1) := by decide +kernel
theorem dX9_findRound_50 : decode cX9_findRound 50 = .ok (.getfield 9, 3) := by decide +kernel
theorem dX9_findRound_53 : decode cX9_findRound 53 = .ok (.iload_n 2, 1) := by decide +kernel
theorem dX9_findRound_54 : decode cX9_findRound 54 = .ok (.laload, 1) := by decide +kernel
theorem dX9_findRound_55 : decode cX9_findRound 55 = .ok (.aload_n 0, 1) := by decide +kernel
theorem dX9_findRound_56 : decode cX9_findRound 56 = .ok (.getfield 9, 3) := by decide +kernel
theorem dX9_findRound_59 : decode cX9_findRound 59 = .ok (.iload_n 2, 1) := by decide +kernel
theorem dX9_findRound_60 : decode cX9_findRound 60 = .ok (.iconst 1, 1) := by decide +kernel
theorem dX9_findRound_61 : decode cX9_findRound 61 = .ok (.isub, 1) := by decide +kernel
theorem dX9_findRound_62 : decode cX9_findRound 62 = .ok (.laload, 1) := by decide +kernel
theorem dX9_findRound_63 : decode cX9_findRound 63 = .ok (.lcmp, 1) := by decide +kernel
theorem dX9_findRound_64 : decode cX9_findRound 64 = .ok (.ifCond .ne 17, 3) := by decide +kernel
theorem dX9_findRound_67 : decode cX9_findRound 67 = .ok (.aload_n 0, 1) := by decide +kernel
theorem dX9_findRound_68 : decode cX9_findRound 68 = .ok (.iconst 1, 1) := by decide +kernel
theorem dX9_findRound_69 : decode cX9_findRound 69 = .ok (.putfield 37, 3) := by decide +kernel
theorem dX9_findRound_72 : decode cX9_findRound 72 = .ok (.aload_n 0, 1) := by decide +kernel
theorem dX9_findRound_73 : decode cX9_findRound 73 = .ok (.iload_n 2, 1) := by decide +kernel
theorem dX9_findRound_74 : decode cX9_findRound 74 = .ok (.iconst 1, 1) := by decide +kernel
theorem dX9_findRound_75 : decode cX9_findRound 75 = .ok (.isub, 1) := by decide +kernel
theorem dX9_findRound_76 : decode cX9_findRound 76 = .ok (.putfield 40, 3) := by decide +kernel
theorem dX9_findRound_79 : decode cX9_findRound 79 = .ok (.iconst 1, 1) := by decide +kernel
theorem dX9_findRound_80 : decode cX9_findRound 80 = .ok (.ireturn, 1) := by decide +kernel
theorem dX9_findRound_81 : decode cX9_findRound 81 = .ok (.iinc 2 1, 3) := by decide +kernel
theorem dX9_findRound_84 : decode cX9_findRound 84 = .ok (.goto (-72), 3) := by decide +kernel
theorem dX9_findRound_87 : decode cX9_findRound 87 = .ok (.aload_n 0, 1) := by decide +kernel
theorem dX9_findRound_88 : decode cX9_findRound 88 = .ok (.iconst 1, 1) := by decide +kernel
theorem dX9_findRound_89 : decode cX9_findRound 89 = .ok (.putfield 37, 3) := by decide +kernel
theorem dX9_findRound_92 : decode cX9_findRound 92 = .ok (.aload_n 0, 1) := by decide +kernel
theorem dX9_findRound_93 : decode cX9_findRound 93 = .ok (.getfield 37, 3) := by decide +kernel
theorem dX9_findRound_96 : decode cX9_findRound 96 = .ok (.sipush 400, 3) := by decide +kernel
theorem dX9_findRound_99 : decode cX9_findRound 99 = .ok (.if_icmp .gt 41, 3) := by decide +kernel
theorem dX9_findRound_102 : decode cX9_findRound 102 = .ok (.aload_n 0, 1) := by decide +kernel
theorem dX9_findRound_103 : decode cX9_findRound 103 = .ok (.getfield 9, 3) := by decide +kernel
theorem dX9_findRound_106 : decode cX9_findRound 106 = .ok (.sipush 400, 3) := by decide +kernel
theorem dX9_findRound_109 : decode cX9_findRound 109 = .ok (.aload_n 0, 1) := by decide +kernel
theorem dX9_findRound_110 : decode cX9_findRound 110 = .ok (.getfield 37, 3) := by decide +kernel
theorem dX9_findRound_113 : decode cX9_findRound 113 = .ok (.isub, 1) := by decide +kernel
theorem dX9_findRound_114 : decode cX9_findRound 114 = .ok (.laload, 1) := by decide +kernel
theorem dX9_findRound_115 : decode cX9_findRound 115 = .ok (.aload_n 0, 1) := by decide +kernel
theorem dX9_findRound_116 : decode cX9_findRound 116 = .ok (.getfield 9, 3) := by decide +kernel
theorem dX9_findRound_119 : decode cX9_findRound 119 = .ok (.sipush 400, 3) := by decide +kernel
theorem dX9_findRound_122 : decode cX9_findRound 122 = .ok (.laload, 1) := by decide +kernel
theorem dX9_findRound_123 : decode cX9_findRound 123 = .ok (.lcmp, 1) := by decide +kernel
theorem dX9_findRound_124 : decode cX9_findRound 124 = .ok (.ifCond .eq 16, 3) := by decide +kernel
theorem dX9_findRound_127 : decode cX9_findRound 127 = .ok (.aload_n 0, 1) := by decide +kernel
theorem dX9_findRound_128 : decode cX9_findRound 128 = .ok (.dup, 1) := by decide +kernel
theorem dX9_findRound_129 : decode cX9_findRound 129 = .ok (.getfield 37, 3) := by decide +kernel
theorem dX9_findRound_132 : decode cX9_findRound 132 = .ok (.iconst 1, 1) := by decide +kernel
theorem dX9_findRound_133 : decode cX9_findRound 133 = .ok (.iadd, 1) := by decide +kernel
theorem dX9_findRound_134 : decode cX9_findRound 134 = .ok (.putfield 37, 3) := by decide +kernel
theorem dX9_findRound_137 : decode cX9_findRound 137 = .ok (.goto (-45), 3) := by decide +kernel
theorem dX9_findRound_140 : decode cX9_findRound 140 = .ok (.aload_n 0, 1) := by decide +kernel
theorem dX9_findRound_141 : decode cX9_findRound 141 = .ok (.iconst 0, 1) := by decide +kernel
theorem dX9_findRound_142 : decode cX9_findRound 142 = .ok (.putfield 40, 3) := by decide +kernel
theorem dX9_findRound_145 : decode cX9_findRound 145 = .ok (.aload_n 0, 1) := by decide +kernel
theorem dX9_findRound_146 : decode cX9_findRound 146 = .ok (.getfield 40, 3) := by decide +kernel
theorem dX9_findRound_149 : decode cX9_findRound 149 = .ok (.aload_n 0, 1) := by decide +kernel
theorem dX9_findRound_150 : decode cX9_findRound 150 = .ok (.getfield 37, 3) := by decide +kernel
theorem dX9_findRound_153 : decode cX9_findRound 153 = .ok (.iadd, 1) := by decide +kernel
theorem dX9_findRound_154 : decode cX9_findRound 154 = .ok (.sipush 400, 3) := by decide +kernel
theorem dX9_findRound_157 : decode cX9_findRound 157 = .ok (.if_icmp .ge 43, 3) := by decide +kernel
theorem dX9_findRound_160 : decode cX9_findRound 160 = .ok (.aload_n 0, 1) := by decide +kernel
theorem dX9_findRound_161 : decode cX9_findRound 161 = .ok (.getfield 9, 3) := by decide +kernel
theorem dX9_findRound_164 : decode cX9_findRound 164 = .ok (.aload_n 0, 1) := by decide +kernel
theorem dX9_findRound_165 : decode cX9_findRound 165 = .ok (.getfield 40, 3) := by decide +kernel
theorem dX9_findRound_168 : decode cX9_findRound 168 = .ok (.laload, 1) := by decide +kernel
theorem dX9_findRound_169 : decode cX9_findRound 169 = .ok (.aload_n 0, 1) := by decide +kernel
theorem dX9_findRound_170 : decode cX9_findRound 170 = .ok (.getfield 9, 3) := by decide +kernel
theorem dX9_findRound_173 : decode cX9_findRound 173 = .ok (.aload_n 0, 1) := by decide +kernel
theorem dX9_findRound_174 : decode cX9_findRound 174 = .ok (.getfield 40, 3) := by decide +kernel
theorem dX9_findRound_177 : decode cX9_findRound 177 = .ok (.aload_n 0, 1) := by decide +kernel
theorem dX9_findRound_178 : decode cX9_findRound 178 = .ok (.getfield 37, 3) := by decide +kernel
theorem dX9_findRound_181 : decode cX9_findRound 181 = .ok (.iadd, 1) := by decide +kernel
theorem dX9_findRound_182 : decode cX9_findRound 182 = .ok (.laload, 1) := by decide +kernel
theorem dX9_findRound_183 : decode cX9_findRound 183 = .ok (.lcmp, 1) := by decide +kernel
theorem dX9_findRound_184 : decode cX9_findRound 184 = .ok (.ifCond .eq 16, 3) := by decide +kernel
theorem dX9_findRound_187 : decode cX9_findRound 187 = .ok (.aload_n 0, 1) := by decide +kernel
theorem dX9_findRound_188 : decode cX9_findRound 188 = .ok (.dup, 1) := by decide +kernel
theorem dX9_findRound_189 : decode cX9_findRound 189 = .ok (.getfield 40, 3) := by decide +kernel
theorem dX9_findRound_192 : decode cX9_findRound 192 = .ok (.iconst 1, 1) := by decide +kernel
theorem dX9_findRound_193 : decode cX9_findRound 193 = .ok (.iadd, 1) := by decide +kernel
theorem dX9_findRound_194 : decode cX9_findRound 194 = .ok (.putfield 40, 3) := by decide +kernel
theorem dX9_findRound_197 : decode cX9_findRound 197 = .ok (.goto (-52), 3) := by decide +kernel
theorem dX9_findRound_200 : decode cX9_findRound 200 = .ok (.aload_n 0, 1) := by decide +kernel
theorem dX9_findRound_201 : decode cX9_findRound 201 = .ok (.getfield 37, 3) := by decide +kernel
theorem dX9_findRound_204 : decode cX9_findRound 204 = .ok (.sipush 400, 3) := by decide +kernel
theorem dX9_findRound_207 : decode cX9_findRound 207 = .ok (.if_icmp .gt 7, 3) := by decide +kernel
theorem dX9_findRound_210 : decode cX9_findRound 210 = .ok (.iconst 1, 1) := by decide +kernel
theorem dX9_findRound_211 : decode cX9_findRound 211 = .ok (.goto 4, 3) := by decide +kernel
theorem dX9_findRound_214 : decode cX9_findRound 214 = .ok (.iconst 0, 1) := by decide +kernel
theorem dX9_findRound_215 : decode cX9_findRound 215 = .ok (.ireturn, 1) := by decide +kernel
def k_X9_findRound_12 (X : CX) (T : List Dsc) (n1 n2 : Nat) (x0 : Nat) (x1 : Nat) (r : ((Int32 × Mem) ⊕ ((Int32 × Mem) ⊕ (Mem)))) : Prop := match r with
  | .inl s => Wp X cX9_findRound RX9 3 T s.2 n1 n2 12 [(0, .ref x0), (1, .ref x1), (2, .int s.1)] []
  | .inr (.inl e) => Wp X cX9_findRound RX9 3 T e.2 n1 n2 67 [(0, .ref x0), (2, .int e.1)] []
  | .inr (.inr e) => Wp X cX9_findRound RX9 3 T e n1 n2 87 [(0, .ref x0)] []
def k_X9_findRound_92 (X : CX) (T : List Dsc) (n1 n2 : Nat) (x0 : Nat) (r : ((Mem) ⊕ ((Mem)))) : Prop := match r with
  | .inl s => Wp X cX9_findRound RX9 3 T s n1 n2 92 [(0, .ref x0)] []
  | .inr e => Wp X cX9_findRound RX9 3 T e n1 n2 140 [(0, .ref x0)] []
def k_X9_findRound_145 (X : CX) (T : List Dsc) (n1 n2 : Nat) (x0 : Nat) (r : ((Mem) ⊕ ((Mem)))) : Prop := match r with
  | .inl s => Wp X cX9_findRound RX9 3 T s n1 n2 145 [(0, .ref x0)] []
  | .inr e => Wp X cX9_findRound RX9 3 T e n1 n2 200 [(0, .ref x0)] []
set_option maxHeartbeats 4000000 in
set_option maxRecDepth 100000 in
theorem w_X9_findRound_12 {X : CX} {T : List Dsc} {n1 n2 : Nat} {x0 : Nat} {x1 : Nat} {x2 : Int32} {μ : Mem} {r : ((Int32 × Mem) ⊕ ((Int32 × Mem) ⊕ (Mem)))} (hX : XR X 6 n1 n2) (hx0 : T[x0]? = some (.inl 8)) (hx1 : T[x1]? = some (.inl 1)) (hf : f_X9_findRound_12 T x0 x1 x2 μ = some r) (hk : k_X9_findRound_12 X T n1 n2 x0 x1 r) : Wp X cX9_findRound RX9 3 T μ n1 n2 12 [(0, .ref x0), (1, .ref x1), (2, .int x2)] [] := by
  unfold f_X9_findRound_12 at hf
  refine Wp.iload_n (pc := 12) 2 rfl rfl dX9_findRound_12 ?_
  refine Wp.sipush (pc := 13) (400 : Int32) (by decide) dX9_findRound_13 ?_
  refine Wp.icmp_gt (pc := 16) 87 dX9_findRound_16 (by decide) (fun hc1 => ?_) (fun hc1 => ?_)
  · rw [if_pos hc1] at hf
    refine Wp.lo' (lo' := [(0, .ref x0)]) [0] rfl ?_
    cases hf
    exact hk
  · rw [if_neg hc1] at hf
    refine Wp.aload_n (pc := 19) 0 rfl rfl dX9_findRound_19 ?_
    obtain ⟨a2, h3, hf⟩ := bnd hf
    refine Wp.getR (pc := 20) (gA_R h3) hx0 fk_RX9_9 rfl dX9_findRound_20 ?_
    refine Wp.iload_n (pc := 23) 2 rfl rfl dX9_findRound_23 ?_
    refine Wp.aload_n (pc := 24) 0 rfl rfl dX9_findRound_24 ?_
    obtain ⟨r4, h5, hf⟩ := bnd hf
    refine Wp.getR (pc := 25) (gO_R h5) hx0 fk_RX9_13 rfl dX9_findRound_25 ?_
    refine Wp.aload_n (pc := 28) 0 rfl rfl dX9_findRound_28 ?_
    obtain ⟨a6, h7, hf⟩ := bnd hf
    refine Wp.getR (pc := 29) (gA_R h7) hx0 fk_RX9_9 rfl dX9_findRound_29 ?_
    refine Wp.iload_n (pc := 32) 2 rfl rfl dX9_findRound_32 ?_
    refine Wp.iconst (pc := 33) (1 : Int32) (by decide) dX9_findRound_33 ?_
    refine Wp.isub (pc := 34) dX9_findRound_34 ?_
    obtain ⟨v8, h9, hf⟩ := bnd hf
    refine Wp.lald (pc := 35) h9 (gA_T h7) dX9_findRound_35 ?_
    refine Wp.aload_n (pc := 36) 1 rfl rfl dX9_findRound_36 ?_
    obtain ⟨a10, h11, hf⟩ := bnd hf
    refine Wp.getR (pc := 37) (gA_R h11) hx1 fk_RX9_23 rfl dX9_findRound_37 ?_
    refine Wp.aload_n (pc := 40) 1 rfl rfl dX9_findRound_40 ?_
    refine Wp.getI (pc := 41) hx1 fk_RX9_27 rfl dX9_findRound_41 ?_
    refine Wp.iconst (pc := 44) (0 : Int32) (by decide) dX9_findRound_44 ?_
    obtain ⟨c12, h13, hf⟩ := bnd hf
    refine Wp.callVl (pc := 45) (st := [.int x2, .ref a2.1]) (as := [.long v8, .ref a10.1, .int (gI μ x1 3), .int (0 : Int32)]) (c_X5_stroke (gO_T h5) (gA_T h11) h13) ml_RX9_31 mv_X5_stroke mb_X5_stroke hX (Nat.le_of_ble_eq_true rfl) (by decide) rfl (gO_T h5) rfl (by simp [Value.category]) dX9_findRound_45 rfl ?_
    obtain ⟨μ14, h15, hf⟩ := bnd hf
    refine Wp.last (pc := 48) h15 (gA_T h3) dX9_findRound_48 ?_
    refine Wp.aload_n (pc := 49) 0 rfl rfl dX9_findRound_49 ?_
    obtain ⟨a16, h17, hf⟩ := bnd hf
    refine Wp.getR (pc := 50) (gA_R h17) hx0 fk_RX9_9 rfl dX9_findRound_50 ?_
    refine Wp.iload_n (pc := 53) 2 rfl rfl dX9_findRound_53 ?_
    obtain ⟨v18, h19, hf⟩ := bnd hf
    refine Wp.lald (pc := 54) h19 (gA_T h17) dX9_findRound_54 ?_
    refine Wp.aload_n (pc := 55) 0 rfl rfl dX9_findRound_55 ?_
    obtain ⟨a20, h21, hf⟩ := bnd hf
    refine Wp.getR (pc := 56) (gA_R h21) hx0 fk_RX9_9 rfl dX9_findRound_56 ?_
    refine Wp.iload_n (pc := 59) 2 rfl rfl dX9_findRound_59 ?_
    refine Wp.iconst (pc := 60) (1 : Int32) (by decide) dX9_findRound_60 ?_
    refine Wp.isub (pc := 61) dX9_findRound_61 ?_
    obtain ⟨v22, h23, hf⟩ := bnd hf
    refine Wp.lald (pc := 62) h23 (gA_T h21) dX9_findRound_62 ?_
    refine Wp.lcmp (pc := 63) dX9_findRound_63 ?_
    refine Wp.if_ne (pc := 64) 81 dX9_findRound_64 (by decide) (fun hc24 => ?_) (fun hc24 => ?_)
    · rw [if_neg hc24] at hf
      obtain ⟨v25, h26, hf⟩ := bnd hf
      refine Wp.iincN (pc := 81) (lo' := [(0, .ref x0), (1, .ref x1), (2, .int v25)]) (1 : Int32) (by decide) h26 2 rfl [1, 2, 0] rfl (by decide) dX9_findRound_81 ?_
      refine Wp.goto (pc := 84) 12 dX9_findRound_84 (by decide) ?_
      cases hf
      exact hk
    · rw [if_pos hc24] at hf
      refine Wp.lo' (lo' := [(0, .ref x0), (2, .int x2)]) [0, 2] rfl ?_
      cases hf
      exact hk
theorem wl_X9_findRound_12 {X : CX} {T : List Dsc} {n1 n2 : Nat} {x0 : Nat} {x1 : Nat} {x2 : Int32} {μ : Mem} {e : ((Int32 × Mem) ⊕ (Mem))} (hX : XR X 6 n1 n2) (hx0 : T[x0]? = some (.inl 8)) (hx1 : T[x1]? = some (.inl 1)) (h : loop (g_X9_findRound_12 T x0 x1) (x2, μ) = some e) (he0 : ∀ e_, e = (Sum.inl e_) → Wp X cX9_findRound RX9 3 T e_.2 n1 n2 67 [(0, .ref x0), (2, .int e_.1)] []) (he1 : ∀ e_, e = (Sum.inr e_) → Wp X cX9_findRound RX9 3 T e_ n1 n2 87 [(0, .ref x0)] []) : Wp X cX9_findRound RX9 3 T μ n1 n2 12 [(0, .ref x0), (1, .ref x1), (2, .int x2)] [] :=
  loop_ok (K := k_X9_findRound_12 X T n1 n2 x0 x1) (fun s r hf hk => w_X9_findRound_12 hX hx0 hx1 hf hk) h (by rcases e with e | e <;> first | exact he0 _ rfl | exact he1 _ rfl)
set_option maxHeartbeats 4000000 in
set_option maxRecDepth 100000 in
theorem w_X9_findRound_92 {X : CX} {T : List Dsc} {n1 n2 : Nat} {x0 : Nat} {μ : Mem} {r : ((Mem) ⊕ ((Mem)))} (hX : XR X 6 n1 n2) (hx0 : T[x0]? = some (.inl 8)) (hf : f_X9_findRound_92 T x0 μ = some r) (hk : k_X9_findRound_92 X T n1 n2 x0 r) : Wp X cX9_findRound RX9 3 T μ n1 n2 92 [(0, .ref x0)] [] := by
  unfold f_X9_findRound_92 at hf
  refine Wp.aload_n (pc := 92) 0 rfl rfl dX9_findRound_92 ?_
  refine Wp.getI (pc := 93) hx0 fk_RX9_37 rfl dX9_findRound_93 ?_
  refine Wp.sipush (pc := 96) (400 : Int32) (by decide) dX9_findRound_96 ?_
  refine Wp.icmp_gt (pc := 99) 140 dX9_findRound_99 (by decide) (fun hc1 => ?_) (fun hc1 => ?_)
  · rw [if_pos hc1] at hf
    cases hf
    exact hk
  · rw [if_neg hc1] at hf
    refine Wp.aload_n (pc := 102) 0 rfl rfl dX9_findRound_102 ?_
    obtain ⟨a2, h3, hf⟩ := bnd hf
    refine Wp.getR (pc := 103) (gA_R h3) hx0 fk_RX9_9 rfl dX9_findRound_103 ?_
    refine Wp.sipush (pc := 106) (400 : Int32) (by decide) dX9_findRound_106 ?_
    refine Wp.aload_n (pc := 109) 0 rfl rfl dX9_findRound_109 ?_
    refine Wp.getI (pc := 110) hx0 fk_RX9_37 rfl dX9_findRound_110 ?_
    refine Wp.isub (pc := 113) dX9_findRound_113 ?_
    obtain ⟨v4, h5, hf⟩ := bnd hf
    refine Wp.lald (pc := 114) h5 (gA_T h3) dX9_findRound_114 ?_
    refine Wp.aload_n (pc := 115) 0 rfl rfl dX9_findRound_115 ?_
    obtain ⟨a6, h7, hf⟩ := bnd hf
    refine Wp.getR (pc := 116) (gA_R h7) hx0 fk_RX9_9 rfl dX9_findRound_116 ?_
    refine Wp.sipush (pc := 119) (400 : Int32) (by decide) dX9_findRound_119 ?_
    obtain ⟨v8, h9, hf⟩ := bnd hf
    refine Wp.lald (pc := 122) h9 (gA_T h7) dX9_findRound_122 ?_
    refine Wp.lcmp (pc := 123) dX9_findRound_123 ?_
    refine Wp.if_eq (pc := 124) 140 dX9_findRound_124 (by decide) (fun hc10 => ?_) (fun hc10 => ?_)
    · rw [if_pos hc10] at hf
      cases hf
      exact hk
    · rw [if_neg hc10] at hf
      refine Wp.aload_n (pc := 127) 0 rfl rfl dX9_findRound_127 ?_
      refine Wp.dup (pc := 128) rfl dX9_findRound_128 ?_
      refine Wp.getI (pc := 129) hx0 fk_RX9_37 rfl dX9_findRound_129 ?_
      refine Wp.iconst (pc := 132) (1 : Int32) (by decide) dX9_findRound_132 ?_
      refine Wp.iadd (pc := 133) dX9_findRound_133 ?_
      obtain ⟨μ11, h12, hf⟩ := bnd hf
      refine Wp.ptI (pc := 134) h12 hx0 fk_RX9_37 ff_RX9_8_2 rfl dX9_findRound_134 ?_
      refine Wp.goto (pc := 137) 92 dX9_findRound_137 (by decide) ?_
      cases hf
      exact hk
theorem wl_X9_findRound_92 {X : CX} {T : List Dsc} {n1 n2 : Nat} {x0 : Nat} {μ : Mem} {e : ((Mem))} (hX : XR X 6 n1 n2) (hx0 : T[x0]? = some (.inl 8)) (h : loop (g_X9_findRound_92 T x0) μ = some e) (he : Wp X cX9_findRound RX9 3 T e n1 n2 140 [(0, .ref x0)] []) : Wp X cX9_findRound RX9 3 T μ n1 n2 92 [(0, .ref x0)] [] :=
  loop_ok (K := k_X9_findRound_92 X T n1 n2 x0) (fun s r hf hk => w_X9_findRound_92 hX hx0 hf hk) h he
set_option maxHeartbeats 4000000 in
set_option maxRecDepth 100000 in
theorem w_X9_findRound_145 {X : CX} {T : List Dsc} {n1 n2 : Nat} {x0 : Nat} {μ : Mem} {r : ((Mem) ⊕ ((Mem)))} (hX : XR X 6 n1 n2) (hx0 : T[x0]? = some (.inl 8)) (hf : f_X9_findRound_145 T x0 μ = some r) (hk : k_X9_findRound_145 X T n1 n2 x0 r) : Wp X cX9_findRound RX9 3 T μ n1 n2 145 [(0, .ref x0)] [] := by
  unfold f_X9_findRound_145 at hf
  refine Wp.aload_n (pc := 145) 0 rfl rfl dX9_findRound_145 ?_
  refine Wp.getI (pc := 146) hx0 fk_RX9_40 rfl dX9_findRound_146 ?_
  refine Wp.aload_n (pc := 149) 0 rfl rfl dX9_findRound_149 ?_
  refine Wp.getI (pc := 150) hx0 fk_RX9_37 rfl dX9_findRound_150 ?_
  refine Wp.iadd (pc := 153) dX9_findRound_153 ?_
  refine Wp.sipush (pc := 154) (400 : Int32) (by decide) dX9_findRound_154 ?_
  refine Wp.icmp_ge (pc := 157) 200 dX9_findRound_157 (by decide) (fun hc1 => ?_) (fun hc1 => ?_)
  · rw [if_pos hc1] at hf
    cases hf
    exact hk
  · rw [if_neg hc1] at hf
    refine Wp.aload_n (pc := 160) 0 rfl rfl dX9_findRound_160 ?_
    obtain ⟨a2, h3, hf⟩ := bnd hf
    refine Wp.getR (pc := 161) (gA_R h3) hx0 fk_RX9_9 rfl dX9_findRound_161 ?_
    refine Wp.aload_n (pc := 164) 0 rfl rfl dX9_findRound_164 ?_
    refine Wp.getI (pc := 165) hx0 fk_RX9_40 rfl dX9_findRound_165 ?_
    obtain ⟨v4, h5, hf⟩ := bnd hf
    refine Wp.lald (pc := 168) h5 (gA_T h3) dX9_findRound_168 ?_
    refine Wp.aload_n (pc := 169) 0 rfl rfl dX9_findRound_169 ?_
    obtain ⟨a6, h7, hf⟩ := bnd hf
    refine Wp.getR (pc := 170) (gA_R h7) hx0 fk_RX9_9 rfl dX9_findRound_170 ?_
    refine Wp.aload_n (pc := 173) 0 rfl rfl dX9_findRound_173 ?_
    refine Wp.getI (pc := 174) hx0 fk_RX9_40 rfl dX9_findRound_174 ?_
    refine Wp.aload_n (pc := 177) 0 rfl rfl dX9_findRound_177 ?_
    refine Wp.getI (pc := 178) hx0 fk_RX9_37 rfl dX9_findRound_178 ?_
    refine Wp.iadd (pc := 181) dX9_findRound_181 ?_
    obtain ⟨v8, h9, hf⟩ := bnd hf
    refine Wp.lald (pc := 182) h9 (gA_T h7) dX9_findRound_182 ?_
    refine Wp.lcmp (pc := 183) dX9_findRound_183 ?_
    refine Wp.if_eq (pc := 184) 200 dX9_findRound_184 (by decide) (fun hc10 => ?_) (fun hc10 => ?_)
    · rw [if_pos hc10] at hf
      cases hf
      exact hk
    · rw [if_neg hc10] at hf
      refine Wp.aload_n (pc := 187) 0 rfl rfl dX9_findRound_187 ?_
      refine Wp.dup (pc := 188) rfl dX9_findRound_188 ?_
      refine Wp.getI (pc := 189) hx0 fk_RX9_40 rfl dX9_findRound_189 ?_
      refine Wp.iconst (pc := 192) (1 : Int32) (by decide) dX9_findRound_192 ?_
      refine Wp.iadd (pc := 193) dX9_findRound_193 ?_
      obtain ⟨μ11, h12, hf⟩ := bnd hf
      refine Wp.ptI (pc := 194) h12 hx0 fk_RX9_40 ff_RX9_8_3 rfl dX9_findRound_194 ?_
      refine Wp.goto (pc := 197) 145 dX9_findRound_197 (by decide) ?_
      cases hf
      exact hk
theorem wl_X9_findRound_145 {X : CX} {T : List Dsc} {n1 n2 : Nat} {x0 : Nat} {μ : Mem} {e : ((Mem))} (hX : XR X 6 n1 n2) (hx0 : T[x0]? = some (.inl 8)) (h : loop (g_X9_findRound_145 T x0) μ = some e) (he : Wp X cX9_findRound RX9 3 T e n1 n2 200 [(0, .ref x0)] []) : Wp X cX9_findRound RX9 3 T μ n1 n2 145 [(0, .ref x0)] [] :=
  loop_ok (K := k_X9_findRound_145 X T n1 n2 x0) (fun s r hf hk => w_X9_findRound_145 hX hx0 hf hk) h he
set_option maxHeartbeats 4000000 in
set_option maxRecDepth 100000 in
theorem w_X9_findRound_215 {X : CX} {T : List Dsc} {n1 n2 : Nat} {s0 : Int32} {μ : Mem} {r : (Int32 × Mem)} (hX : XR X 6 n1 n2) (hf : f_X9_findRound_215 T s0 μ = some r) (hk : FnZ X cX9_findRound RX9 3 T n1 n2 r) : Wp X cX9_findRound RX9 3 T μ n1 n2 215 [] [.int s0] := by
  unfold f_X9_findRound_215 at hf
  obtain ⟨v1, h2, hf⟩ := bnd hf
  refine Wp.zb' h2 (fun h2 => ?_)
  cases hf
  exact hk _ _ h2 dX9_findRound_215
set_option maxHeartbeats 4000000 in
set_option maxRecDepth 100000 in
theorem w_X9_findRound_200 {X : CX} {T : List Dsc} {n1 n2 : Nat} {x0 : Nat} {μ : Mem} {r : (Int32 × Mem)} (hX : XR X 6 n1 n2) (hx0 : T[x0]? = some (.inl 8)) (hf : f_X9_findRound_200 T x0 μ = some r) (hk : FnZ X cX9_findRound RX9 3 T n1 n2 r) : Wp X cX9_findRound RX9 3 T μ n1 n2 200 [(0, .ref x0)] [] := by
  unfold f_X9_findRound_200 at hf
  refine Wp.aload_n (pc := 200) 0 rfl rfl dX9_findRound_200 ?_
  refine Wp.getI (pc := 201) hx0 fk_RX9_37 rfl dX9_findRound_201 ?_
  refine Wp.sipush (pc := 204) (400 : Int32) (by decide) dX9_findRound_204 ?_
  refine Wp.icmp_gt (pc := 207) 214 dX9_findRound_207 (by decide) (fun hc1 => ?_) (fun hc1 => ?_)
  · rw [if_pos hc1] at hf
    refine Wp.iconst (pc := 214) (0 : Int32) (by decide) dX9_findRound_214 ?_
    refine Wp.lo' (lo' := []) [] rfl ?_
    exact w_X9_findRound_215 hX hf hk
  · rw [if_neg hc1] at hf
    refine Wp.iconst (pc := 210) (1 : Int32) (by decide) dX9_findRound_210 ?_
    refine Wp.goto (pc := 211) 215 dX9_findRound_211 (by decide) ?_
    refine Wp.lo' (lo' := []) [] rfl ?_
    exact w_X9_findRound_215 hX hf hk
set_option maxHeartbeats 4000000 in
set_option maxRecDepth 100000 in
theorem w_X9_findRound_140 {X : CX} {T : List Dsc} {n1 n2 : Nat} {x0 : Nat} {μ : Mem} {r : (Int32 × Mem)} (hX : XR X 6 n1 n2) (hx0 : T[x0]? = some (.inl 8)) (hf : f_X9_findRound_140 T x0 μ = some r) (hk : FnZ X cX9_findRound RX9 3 T n1 n2 r) : Wp X cX9_findRound RX9 3 T μ n1 n2 140 [(0, .ref x0)] [] := by
  unfold f_X9_findRound_140 at hf
  refine Wp.aload_n (pc := 140) 0 rfl rfl dX9_findRound_140 ?_
  refine Wp.iconst (pc := 141) (0 : Int32) (by decide) dX9_findRound_141 ?_
  obtain ⟨μ1, h2, hf⟩ := bnd hf
  refine Wp.ptI (pc := 142) h2 hx0 fk_RX9_40 ff_RX9_8_3 rfl dX9_findRound_142 ?_
  obtain ⟨e3, h4, hf⟩ := bnd hf
  refine wl_X9_findRound_145 hX hx0 h4 ?_
  exact w_X9_findRound_200 hX hx0 hf hk
set_option maxHeartbeats 4000000 in
set_option maxRecDepth 100000 in
theorem w_X9_findRound {X : CX} {T : List Dsc} {n1 n2 : Nat} {x0 : Nat} {x1 : Nat} {μ : Mem} {r : (Int32 × Mem)} (hX : XR X 6 n1 n2) (hx0 : T[x0]? = some (.inl 8)) (hx1 : T[x1]? = some (.inl 1)) (hf : F_X9_findRound T x0 x1 μ = some r) (hk : FnZ X cX9_findRound RX9 3 T n1 n2 r) : Wp X cX9_findRound RX9 3 T μ n1 n2 0 [(0, .ref x0), (1, .ref x1)] [] := by
  unfold F_X9_findRound at hf
  refine Wp.aload_n (pc := 0) 0 rfl rfl dX9_findRound_0 ?_
  obtain ⟨a1, h2, hf⟩ := bnd hf
  refine Wp.getR (pc := 1) (gA_R h2) hx0 fk_RX9_9 rfl dX9_findRound_1 ?_
  refine Wp.iconst (pc := 4) (0 : Int32) (by decide) dX9_findRound_4 ?_
  refine Wp.aload_n (pc := 5) 1 rfl rfl dX9_findRound_5 ?_
  refine Wp.getJ (pc := 6) hx1 fk_RX9_17 rfl dX9_findRound_6 ?_
  obtain ⟨μ3, h4, hf⟩ := bnd hf
  refine Wp.last (pc := 9) h4 (gA_T h2) dX9_findRound_9 ?_
  refine Wp.iconst (pc := 10) (1 : Int32) (by decide) dX9_findRound_10 ?_
  refine Wp.istore_n (pc := 11) (lo' := [(0, .ref x0), (1, .ref x1), (2, .int (1 : Int32))]) [1, 2, 0] rfl (by decide) rfl dX9_findRound_11 ?_
  obtain ⟨e5, h6, hf⟩ := bnd hf
  refine wl_X9_findRound_12 hX hx0 hx1 h6 (fun e5_0 hq => ?_) (fun e5_1 hq => ?_)
  · rw [hq, Sum.elim_inl] at hf
    refine Wp.aload_n (pc := 67) 0 rfl rfl dX9_findRound_67 ?_
    refine Wp.iconst (pc := 68) (1 : Int32) (by decide) dX9_findRound_68 ?_
    obtain ⟨μ7, h8, hf⟩ := bnd hf
    refine Wp.ptI (pc := 69) h8 hx0 fk_RX9_37 ff_RX9_8_2 rfl dX9_findRound_69 ?_
    refine Wp.aload_n (pc := 72) 0 rfl rfl dX9_findRound_72 ?_
    refine Wp.iload_n (pc := 73) 1 rfl rfl dX9_findRound_73 ?_
    refine Wp.iconst (pc := 74) (1 : Int32) (by decide) dX9_findRound_74 ?_
    refine Wp.isub (pc := 75) dX9_findRound_75 ?_
    obtain ⟨μ9, h10, hf⟩ := bnd hf
    refine Wp.ptI (pc := 76) h10 hx0 fk_RX9_40 ff_RX9_8_3 rfl dX9_findRound_76 ?_
    refine Wp.iconst (pc := 79) (1 : Int32) (by decide) dX9_findRound_79 ?_
    cases hf
    exact hk _ _ (Or.inr rfl) dX9_findRound_80
  · rw [hq, Sum.elim_inr] at hf
    refine Wp.aload_n (pc := 87) 0 rfl rfl dX9_findRound_87 ?_
    refine Wp.iconst (pc := 88) (1 : Int32) (by decide) dX9_findRound_88 ?_
    obtain ⟨μ11, h12, hf⟩ := bnd hf
    refine Wp.ptI (pc := 89) h12 hx0 fk_RX9_37 ff_RX9_8_2 rfl dX9_findRound_89 ?_
    obtain ⟨e13, h14, hf⟩ := bnd hf
    refine wl_X9_findRound_92 hX hx0 h14 ?_
    exact w_X9_findRound_140 hX hx0 hf hk
theorem c_X9_findRound {T : List Dsc} {x0 : Nat} {x1 : Nat} {μ : Mem} {r : (Int32 × Mem)} (hx0 : T[x0]? = some (.inl 8)) (hx1 : T[x1]? = some (.inl 1)) (hf : F_X9_findRound T x0 x1 μ = some r) : Ct 6 yX9_findRound cX9_findRound 3 (some .boolean) T μ [.ref x0, .ref x1] (some (.int r.1)) r.2 := Ct.ofZ (by decide +kernel) (Nat.le_of_ble_eq_true rfl) (fun X hX hk => w_X9_findRound hX hx0 hx1 hf hk)
theorem dX9_wayBehind_0 : decode cX9_wayBehind 0 = .ok (.aload_n 0, 1) := by decide +kernel
theorem dX9_wayBehind_1 : decode cX9_wayBehind 1 = .ok (.getfield 9, 3) := by decide +kernel
theorem dX9_wayBehind_4 : decode cX9_wayBehind 4 = .ok (.iload_n 2, 1) := by decide +kernel
theorem dX9_wayBehind_5 : decode cX9_wayBehind 5 = .ok (.iconst 1, 1) := by decide +kernel
theorem dX9_wayBehind_6 : decode cX9_wayBehind 6 = .ok (.isub, 1) := by decide +kernel
theorem dX9_wayBehind_7 : decode cX9_wayBehind 7 = .ok (.laload, 1) := by decide +kernel
theorem dX9_wayBehind_8 : decode cX9_wayBehind 8 = .ok (.lstore 5, 2) := by decide +kernel
theorem dX9_wayBehind_10 : decode cX9_wayBehind 10 = .ok (.iload_n 2, 1) := by decide +kernel
theorem dX9_wayBehind_11 : decode cX9_wayBehind 11 = .ok (.istore 7, 2) := by decide +kernel
theorem dX9_wayBehind_13 : decode cX9_wayBehind 13 = .ok (.iload 7, 2) := by decide +kernel
theorem dX9_wayBehind_15 : decode cX9_wayBehind 15 = .ok (.iload_n 3, 1) := by decide +kernel
theorem dX9_wayBehind_16 : decode cX9_wayBehind 16 = .ok (.if_icmp .gt 70, 3) := by decide +kernel
theorem dX9_wayBehind_19 : decode cX9_wayBehind 19 = .ok (.aload_n 0, 1) := by decide +kernel
theorem dX9_wayBehind_20 : decode cX9_wayBehind 20 = .ok (.getfield 13, 3) := by decide +kernel
theorem dX9_wayBehind_23 : decode cX9_wayBehind 23 = .ok (.lload 5, 2) := by decide +kernel
theorem dX9_wayBehind_25 : decode cX9_wayBehind 25 = .ok (.aload_n 1, 1) := by decide +kernel
theorem dX9_wayBehind_26 : decode cX9_wayBehind 26 = .ok (.getfield 23, 3) := by decide +kernel
theorem dX9_wayBehind_29 : decode cX9_wayBehind 29 = .ok (.iload 4, 2) := by decide +kernel
theorem dX9_wayBehind_31 : decode cX9_wayBehind 31 = .ok (.aload_n 0, 1) := by decide +kernel
theorem dX9_wayBehind_32 : decode cX9_wayBehind 32 = .ok (.getfield 13, 3) := by decide +kernel
theorem dX9_wayBehind_35 : decode cX9_wayBehind 35 = .ok (.getfield 49, 3) := by decide +kernel
theorem dX9_wayBehind_38 : decode cX9_wayBehind 38 = .ok (.aload_n 1, 1) := by decide +kernel
theorem dX9_wayBehind_39 : decode cX9_wayBehind 39 = .ok (.getfield 53, 3) := by decide +kernel
theorem dX9_wayBehind_42 : decode cX9_wayBehind 42 = .ok (.iload 7, 2) := by decide +kernel
theorem dX9_wayBehind_44 : decode cX9_wayBehind 44 = .ok (.iadd, 1) := by decide +kernel
theorem dX9_wayBehind_45 : decode cX9_wayBehind 45 = .ok (.iconst 1, 1) := by decide +kernel
theorem dX9_wayBehind_46 : decode cX9_wayBehind 46 = .ok (.isub, 1) := by decide +kernel
theorem dX9_wayBehind_47 : decode cX9_wayBehind 47 = .ok (.invokevirtual 55, 3) := by decide +kernel
theorem dX9_wayBehind_50 : decode cX9_wayBehind 50 = .ok (.invokevirtual 31, 3) := by decide +kernel
theorem dX9_wayBehind_53 : decode cX9_wayBehind 53 = .ok (.lstore 5, 2) := by decide +kernel
theorem dX9_wayBehind_55 : decode cX9_wayBehind 55 = .ok (.iload 7, 2) := by decide +kernel
theorem dX9_wayBehind_57 : decode cX9_wayBehind 57 = .ok (.iload_n 2, 1) := by decide +kernel
theorem dX9_wayBehind_58 : decode cX9_wayBehind 58 = .ok (.if_icmp .ne 22, 3) := by decide +kernel
theorem dX9_wayBehind_61 : decode cX9_wayBehind 61 = .ok (.iload_n 2, 1) := by decide +kernel
theorem dX9_wayBehind_62 : decode cX9_wayBehind 62 = .ok (.iload_n 3, 1) := by decide +kernel
theorem dX9_wayBehind_63 : decode cX9_wayBehind 63 = .ok (.if_icmp .ge 17, 3) := by decide +kernel
theorem dX9_wayBehind_66 : decode cX9_wayBehind 66 = .ok (.lload 5, 2) := by decide +kernel
theorem dX9_wayBehind_68 : decode cX9_wayBehind 68 = .ok (.aload_n 0, 1) := by decide +kernel
theorem dX9_wayBehind_69 : decode cX9_wayBehind 69 = .ok (.getfield 9, 3) := by decide +kernel
theorem dX9_wayBehind_72 : decode cX9_wayBehind 72 = .ok (.iload_n 2, 1) := by decide +kernel
theorem dX9_wayBehind_73 : decode cX9_wayBehind 73 = .ok (.laload, 1) := by decide +kernel
theorem dX9_wayBehind_74 : decode cX9_wayBehind 74 = .ok (.lcmp, 1) := by decide +kernel
theorem dX9_wayBehind_75 : decode cX9_wayBehind 75 = .ok (.ifCond .ne 5, 3) := by decide +kernel
theorem dX9_wayBehind_78 : decode cX9_wayBehind 78 = .ok (.iconst 0, 1) := by decide +kernel
theorem dX9_wayBehind_79 : decode cX9_wayBehind 79 = .ok (.ireturn, 1) := by decide +kernel
theorem dX9_wayBehind_80 : decode cX9_wayBehind 80 = .ok (.iinc 7 1, 3) := by decide +kernel
theorem dX9_wayBehind_83 : decode cX9_wayBehind 83 = .ok (.goto (-70), 3) := by decide +kernel
theorem dX9_wayBehind_86 : decode cX9_wayBehind 86 = .ok (.aload_n 0, 1) := by decide +kernel
theorem dX9_wayBehind_87 : decode cX9_wayBehind 87 = .ok (.getfield 13, 3) := by decide +kernel
theorem dX9_wayBehind_90 : decode cX9_wayBehind 90 = .ok (.lload 5, 2) := by decide +kernel
theorem dX9_wayBehind_92 : decode cX9_wayBehind 92 = .ok (.invokevirtual 80, 3) := by decide +kernel
theorem dX9_wayBehind_95 : decode cX9_wayBehind 95 = .ok (.ireturn, 1) := by decide +kernel
def k_X9_wayBehind_13 (X : CX) (T : List Dsc) (n1 n2 : Nat) (x0 : Nat) (x1 : Nat) (x2 : Int32) (x3 : Int32) (x4 : Int32) (r : ((Int64 × Int32 × Mem) ⊕ ((Mem) ⊕ (Int64 × Mem)))) : Prop := match r with
  | .inl s => Wp X cX9_wayBehind RX9 8 T s.2.2 n1 n2 13 [(0, .ref x0), (1, .ref x1), (2, .int x2), (3, .int x3), (4, .int x4), (5, .long s.1), (7, .int s.2.1)] []
  | .inr (.inl e) => Wp X cX9_wayBehind RX9 8 T e n1 n2 78 [] []
  | .inr (.inr e) => Wp X cX9_wayBehind RX9 8 T e.2 n1 n2 86 [(0, .ref x0), (5, .long e.1)] []
set_option maxHeartbeats 4000000 in
set_option maxRecDepth 100000 in
theorem w_X9_wayBehind_80 {X : CX} {T : List Dsc} {n1 n2 : Nat} {x0 : Nat} {x1 : Nat} {x2 : Int32} {x3 : Int32} {x4 : Int32} {x5 : Int64} {x7 : Int32} {μ : Mem} {r : ((Int64 × Int32 × Mem) ⊕ ((Mem) ⊕ (Int64 × Mem)))} (hX : XR X 6 n1 n2) (hx0 : T[x0]? = some (.inl 8)) (hx1 : T[x1]? = some (.inl 1)) (hf : f_X9_wayBehind_80 T x0 x1 x2 x3 x4 x5 x7 μ = some r) (hk : k_X9_wayBehind_13 X T n1 n2 x0 x1 x2 x3 x4 r) : Wp X cX9_wayBehind RX9 8 T μ n1 n2 80 [(0, .ref x0), (1, .ref x1), (2, .int x2), (3, .int x3), (4, .int x4), (5, .long x5), (7, .int x7)] [] := by
  unfold f_X9_wayBehind_80 at hf
  obtain ⟨v1, h2, hf⟩ := bnd hf
  refine Wp.iincN (pc := 80) (lo' := [(0, .ref x0), (1, .ref x1), (2, .int x2), (3, .int x3), (4, .int x4), (5, .long x5), (7, .int v1)]) (1 : Int32) (by decide) h2 6 rfl [1, 2, 3, 4, 5, 6, 0] rfl (by decide) dX9_wayBehind_80 ?_
  refine Wp.goto (pc := 83) 13 dX9_wayBehind_83 (by decide) ?_
  cases hf
  exact hk
set_option maxHeartbeats 4000000 in
set_option maxRecDepth 100000 in
theorem w_X9_wayBehind_13 {X : CX} {T : List Dsc} {n1 n2 : Nat} {x0 : Nat} {x1 : Nat} {x2 : Int32} {x3 : Int32} {x4 : Int32} {x5 : Int64} {x7 : Int32} {μ : Mem} {r : ((Int64 × Int32 × Mem) ⊕ ((Mem) ⊕ (Int64 × Mem)))} (hX : XR X 6 n1 n2) (hx0 : T[x0]? = some (.inl 8)) (hx1 : T[x1]? = some (.inl 1)) (hf : f_X9_wayBehind_13 T x0 x1 x2 x3 x4 x5 x7 μ = some r) (hk : k_X9_wayBehind_13 X T n1 n2 x0 x1 x2 x3 x4 r) : Wp X cX9_wayBehind RX9 8 T μ n1 n2 13 [(0, .ref x0), (1, .ref x1), (2, .int x2), (3, .int x3), (4, .int x4), (5, .long x5), (7, .int x7)] [] := by
  unfold f_X9_wayBehind_13 at hf
  refine Wp.iload (pc := 13) 6 rfl dX9_wayBehind_13 ?_
  refine Wp.iload_n (pc := 15) 3 rfl rfl dX9_wayBehind_15 ?_
  refine Wp.icmp_gt (pc := 16) 86 dX9_wayBehind_16 (by decide) (fun hc1 => ?_) (fun hc1 => ?_)
  · rw [if_pos hc1] at hf
    refine Wp.lo' (lo' := [(0, .ref x0), (5, .long x5)]) [0, 5] rfl ?_
    cases hf
    exact hk
  · rw [if_neg hc1] at hf
    refine Wp.aload_n (pc := 19) 0 rfl rfl dX9_wayBehind_19 ?_
    obtain ⟨r2, h3, hf⟩ := bnd hf
    refine Wp.getR (pc := 20) (gO_R h3) hx0 fk_RX9_13 rfl dX9_wayBehind_20 ?_
    refine Wp.lload (pc := 23) 5 rfl dX9_wayBehind_23 ?_
    refine Wp.aload_n (pc := 25) 1 rfl rfl dX9_wayBehind_25 ?_
    obtain ⟨a4, h5, hf⟩ := bnd hf
    refine Wp.getR (pc := 26) (gA_R h5) hx1 fk_RX9_23 rfl dX9_wayBehind_26 ?_
    refine Wp.iload (pc := 29) 4 rfl dX9_wayBehind_29 ?_
    refine Wp.aload_n (pc := 31) 0 rfl rfl dX9_wayBehind_31 ?_
    obtain ⟨r6, h7, hf⟩ := bnd hf
    refine Wp.getR (pc := 32) (gO_R h7) hx0 fk_RX9_13 rfl dX9_wayBehind_32 ?_
    obtain ⟨r8, h9, hf⟩ := bnd hf
    refine Wp.getR (pc := 35) (gO_R h9) (gO_T h7) fk_RX9_49 rfl dX9_wayBehind_35 ?_
    refine Wp.aload_n (pc := 38) 1 rfl rfl dX9_wayBehind_38 ?_
    refine Wp.getI (pc := 39) hx1 fk_RX9_53 rfl dX9_wayBehind_39 ?_
    refine Wp.iload (pc := 42) 6 rfl dX9_wayBehind_42 ?_
    refine Wp.iadd (pc := 44) dX9_wayBehind_44 ?_
    refine Wp.iconst (pc := 45) (1 : Int32) (by decide) dX9_wayBehind_45 ?_
    refine Wp.isub (pc := 46) dX9_wayBehind_46 ?_
    obtain ⟨c10, h11, hf⟩ := bnd hf
    refine Wp.callVi (pc := 47) (st := [.int x4, .ref a4.1, .long x5, .ref r2]) (as := [.int (((gI μ x1 4) + x7) - (1 : Int32))]) (c_X7_isFog (gO_T h9) h11) ml_RX9_55 mv_X7_isFog mb_X7_isFog hX (Nat.le_of_ble_eq_true rfl) (by decide) rfl (gO_T h9) rfl (by simp [Value.category]) dX9_wayBehind_47 rfl ?_
    obtain ⟨c12, h13, hf⟩ := bnd hf
    refine Wp.callVl (pc := 50) (st := []) (as := [.long x5, .ref a4.1, .int x4, .int c10.1]) (c_X5_stroke (gO_T h3) (gA_T h5) h13) ml_RX9_31 mv_X5_stroke mb_X5_stroke hX (Nat.le_of_ble_eq_true rfl) (by decide) rfl (gO_T h3) rfl (by simp) dX9_wayBehind_50 rfl ?_
    refine Wp.lstore (pc := 53) (lo' := [(0, .ref x0), (1, .ref x1), (2, .int x2), (3, .int x3), (4, .int x4), (5, .long c12.1), (7, .int x7)]) [1, 2, 3, 4, 5, 0, 6] rfl (by decide) dX9_wayBehind_53 ?_
    refine Wp.iload (pc := 55) 6 rfl dX9_wayBehind_55 ?_
    refine Wp.iload_n (pc := 57) 2 rfl rfl dX9_wayBehind_57 ?_
    refine Wp.icmp_ne (pc := 58) 80 dX9_wayBehind_58 (by decide) (fun hc14 => ?_) (fun hc14 => ?_)
    · rw [if_neg hc14] at hf
      exact w_X9_wayBehind_80 hX hx0 hx1 hf hk
    · rw [if_pos hc14] at hf
      refine Wp.iload_n (pc := 61) 2 rfl rfl dX9_wayBehind_61 ?_
      refine Wp.iload_n (pc := 62) 3 rfl rfl dX9_wayBehind_62 ?_
      refine Wp.icmp_ge (pc := 63) 80 dX9_wayBehind_63 (by decide) (fun hc15 => ?_) (fun hc15 => ?_)
      · rw [if_pos hc15] at hf
        exact w_X9_wayBehind_80 hX hx0 hx1 hf hk
      · rw [if_neg hc15] at hf
        refine Wp.lload (pc := 66) 5 rfl dX9_wayBehind_66 ?_
        refine Wp.aload_n (pc := 68) 0 rfl rfl dX9_wayBehind_68 ?_
        obtain ⟨a16, h17, hf⟩ := bnd hf
        refine Wp.getR (pc := 69) (gA_R h17) hx0 fk_RX9_9 rfl dX9_wayBehind_69 ?_
        refine Wp.iload_n (pc := 72) 2 rfl rfl dX9_wayBehind_72 ?_
        obtain ⟨v18, h19, hf⟩ := bnd hf
        refine Wp.lald (pc := 73) h19 (gA_T h17) dX9_wayBehind_73 ?_
        refine Wp.lcmp (pc := 74) dX9_wayBehind_74 ?_
        refine Wp.if_ne (pc := 75) 80 dX9_wayBehind_75 (by decide) (fun hc20 => ?_) (fun hc20 => ?_)
        · rw [if_neg hc20] at hf
          exact w_X9_wayBehind_80 hX hx0 hx1 hf hk
        · rw [if_pos hc20] at hf
          refine Wp.lo' (lo' := []) [] rfl ?_
          cases hf
          exact hk
theorem wl_X9_wayBehind_13 {X : CX} {T : List Dsc} {n1 n2 : Nat} {x0 : Nat} {x1 : Nat} {x2 : Int32} {x3 : Int32} {x4 : Int32} {x5 : Int64} {x7 : Int32} {μ : Mem} {e : ((Mem) ⊕ (Int64 × Mem))} (hX : XR X 6 n1 n2) (hx0 : T[x0]? = some (.inl 8)) (hx1 : T[x1]? = some (.inl 1)) (h : loop (g_X9_wayBehind_13 T x0 x1 x2 x3 x4) (x5, x7, μ) = some e) (he0 : ∀ e_, e = (Sum.inl e_) → Wp X cX9_wayBehind RX9 8 T e_ n1 n2 78 [] []) (he1 : ∀ e_, e = (Sum.inr e_) → Wp X cX9_wayBehind RX9 8 T e_.2 n1 n2 86 [(0, .ref x0), (5, .long e_.1)] []) : Wp X cX9_wayBehind RX9 8 T μ n1 n2 13 [(0, .ref x0), (1, .ref x1), (2, .int x2), (3, .int x3), (4, .int x4), (5, .long x5), (7, .int x7)] [] :=
  loop_ok (K := k_X9_wayBehind_13 X T n1 n2 x0 x1 x2 x3 x4) (fun s r hf hk => w_X9_wayBehind_13 hX hx0 hx1 hf hk) h (by rcases e with e | e <;> first | exact he0 _ rfl | exact he1 _ rfl)
set_option maxHeartbeats 4000000 in
set_option maxRecDepth 100000 in
theorem w_X9_wayBehind {X : CX} {T : List Dsc} {n1 n2 : Nat} {x0 : Nat} {x1 : Nat} {x2 : Int32} {x3 : Int32} {x4 : Int32} {μ : Mem} {r : (Int32 × Mem)} (hX : XR X 6 n1 n2) (hx0 : T[x0]? = some (.inl 8)) (hx1 : T[x1]? = some (.inl 1)) (hf : F_X9_wayBehind T x0 x1 x2 x3 x4 μ = some r) (hk : FnI X cX9_wayBehind RX9 8 T n1 n2 r) : Wp X cX9_wayBehind RX9 8 T μ n1 n2 0 [(0, .ref x0), (1, .ref x1), (2, .int x2), (3, .int x3), (4, .int x4)] [] := by
  unfold F_X9_wayBehind at hf
  refine Wp.aload_n (pc := 0) 0 rfl rfl dX9_wayBehind_0 ?_
  obtain ⟨a1, h2, hf⟩ := bnd hf
  refine Wp.getR (pc := 1) (gA_R h2) hx0 fk_RX9_9 rfl dX9_wayBehind_1 ?_
  refine Wp.iload_n (pc := 4) 2 rfl rfl dX9_wayBehind_4 ?_
  refine Wp.iconst (pc := 5) (1 : Int32) (by decide) dX9_wayBehind_5 ?_
  refine Wp.isub (pc := 6) dX9_wayBehind_6 ?_
  obtain ⟨v3, h4, hf⟩ := bnd hf
  refine Wp.lald (pc := 7) h4 (gA_T h2) dX9_wayBehind_7 ?_
  refine Wp.lstore (pc := 8) (lo' := [(0, .ref x0), (1, .ref x1), (2, .int x2), (3, .int x3), (4, .int x4), (5, .long v3)]) [1, 2, 3, 4, 5, 0] rfl (by decide) dX9_wayBehind_8 ?_
  refine Wp.iload_n (pc := 10) 2 rfl rfl dX9_wayBehind_10 ?_
  refine Wp.istore (pc := 11) (lo' := [(0, .ref x0), (1, .ref x1), (2, .int x2), (3, .int x3), (4, .int x4), (5, .long v3), (7, .int x2)]) [1, 2, 3, 4, 5, 6, 0] rfl (by decide) dX9_wayBehind_11 ?_
  obtain ⟨e5, h6, hf⟩ := bnd hf
  refine wl_X9_wayBehind_13 hX hx0 hx1 h6 (fun e5_0 hq => ?_) (fun e5_1 hq => ?_)
  · rw [hq, Sum.elim_inl] at hf
    refine Wp.iconst (pc := 78) (0 : Int32) (by decide) dX9_wayBehind_78 ?_
    cases hf
    exact hk _ _ dX9_wayBehind_79
  · rw [hq, Sum.elim_inr] at hf
    refine Wp.aload_n (pc := 86) 0 rfl rfl dX9_wayBehind_86 ?_
    obtain ⟨r7, h8, hf⟩ := bnd hf
    refine Wp.getR (pc := 87) (gO_R h8) hx0 fk_RX9_13 rfl dX9_wayBehind_87 ?_
    refine Wp.lload (pc := 90) 1 rfl dX9_wayBehind_90 ?_
    obtain ⟨c9, h10, hf⟩ := bnd hf
    refine Wp.callVi (pc := 92) (st := []) (as := [.long e5_1.1]) (c_X5_wayOf (gO_T h8) h10) ml_RX9_80 mv_X5_wayOf mb_X5_wayOf hX (Nat.le_of_ble_eq_true rfl) (by decide) rfl (gO_T h8) rfl (by simp) dX9_wayBehind_92 rfl ?_
    cases hf
    exact hk _ _ dX9_wayBehind_95
theorem c_X9_wayBehind {T : List Dsc} {x0 : Nat} {x1 : Nat} {x2 : Int32} {x3 : Int32} {x4 : Int32} {μ : Mem} {r : (Int32 × Mem)} (hx0 : T[x0]? = some (.inl 8)) (hx1 : T[x1]? = some (.inl 1)) (hf : F_X9_wayBehind T x0 x1 x2 x3 x4 μ = some r) : Ct 6 yX9_wayBehind cX9_wayBehind 8 (some .int) T μ [.ref x0, .ref x1, .int x2, .int x3, .int x4] (some (.int r.1)) r.2 := Ct.ofI (by decide +kernel) (Nat.le_of_ble_eq_true rfl) (fun X hX hk => w_X9_wayBehind hX hx0 hx1 hf hk)
theorem dX9_planRam_0 : decode cX9_planRam 0 = .ok (.iload_n 2, 1) := by decide +kernel
theorem dX9_planRam_1 : decode cX9_planRam 1 = .ok (.bipush 60, 2) := by decide +kernel
theorem dX9_planRam_3 : decode cX9_planRam 3 = .ok (.invokestatic 43, 3) := by decide +kernel
theorem dX9_planRam_6 : decode cX9_planRam 6 = .ok (.istore_n 3, 1) := by decide +kernel
theorem dX9_planRam_7 : decode cX9_planRam 7 = .ok (.aload_n 0, 1) := by decide +kernel
theorem dX9_planRam_8 : decode cX9_planRam 8 = .ok (.getfield 9, 3) := by decide +kernel
theorem dX9_planRam_11 : decode cX9_planRam 11 = .ok (.iconst 0, 1) := by decide +kernel
theorem dX9_planRam_12 : decode cX9_planRam 12 = .ok (.aload_n 1, 1) := by decide +kernel
theorem dX9_planRam_13 : decode cX9_planRam 13 = .ok (.getfield 17, 3) := by decide +kernel
theorem dX9_planRam_16 : decode cX9_planRam 16 = .ok (.lastore, 1) := by decide +kernel
theorem dX9_planRam_17 : decode cX9_planRam 17 = .ok (.iconst 1, 1) := by decide +kernel
theorem dX9_planRam_18 : decode cX9_planRam 18 = .ok (.istore 4, 2) := by decide +kernel
theorem dX9_planRam_20 : decode cX9_planRam 20 = .ok (.iload 4, 2) := by decide +kernel
theorem dX9_planRam_22 : decode cX9_planRam 22 = .ok (.iload_n 3, 1) := by decide +kernel
theorem dX9_planRam_23 : decode cX9_planRam 23 = .ok (.if_icmp .ge 59, 3) := by decide +kernel
theorem dX9_planRam_26 : decode cX9_planRam 26 = .ok (.aload_n 0, 1) := by decide +kernel
theorem dX9_planRam_27 : decode cX9_planRam 27 = .ok (.getfield 9, 3) := by decide +kernel
theorem dX9_planRam_30 : decode cX9_planRam 30 = .ok (.iload 4, 2) := by decide +kernel
theorem dX9_planRam_32 : decode cX9_planRam 32 = .ok (.aload_n 0, 1) := by decide +kernel
theorem dX9_planRam_33 : decode cX9_planRam 33 = .ok (.getfield 13, 3) := by decide +kernel
theorem dX9_planRam_36 : decode cX9_planRam 36 = .ok (.aload_n 0, 1) := by decide +kernel
theorem dX9_planRam_37 : decode cX9_planRam 37 = .ok (.getfield 9, 3) := by decide +kernel
theorem dX9_planRam_40 : decode cX9_planRam 40 = .ok (.iload 4, 2) := by decide +kernel
theorem dX9_planRam_42 : decode cX9_planRam 42 = .ok (.iconst 1, 1) := by decide +kernel
theorem dX9_planRam_43 : decode cX9_planRam 43 = .ok (.isub, 1) := by decide +kernel
theorem dX9_planRam_44 : decode cX9_planRam 44 = .ok (.laload, 1) := by decide +kernel
theorem dX9_planRam_45 : decode cX9_planRam 45 = .ok (.aload_n 1, 1) := by decide +kernel
theorem dX9_planRam_46 : decode cX9_planRam 46 = .ok (.getfield 23, 3) := by decide +kernel
theorem dX9_planRam_49 : decode cX9_planRam 49 = .ok (.aload_n 1, 1) := by decide +kernel
theorem dX9_planRam_50 : decode cX9_planRam 50 = .ok (.getfield 27, 3) := by decide +kernel
theorem dX9_planRam_53 : decode cX9_planRam 53 = .ok (.aload_n 0, 1) := by decide +kernel
theorem dX9_planRam_54 : decode cX9_planRam 54 = .ok (.getfield 13, 3) := by decide +kernel
theorem dX9_planRam_57 : decode cX9_planRam 57 = .ok (.getfield 49, 3) := by decide +kernel
theorem dX9_planRam_60 : decode cX9_planRam 60 = .ok (.aload_n 1, 1) := by decide +kernel
theorem dX9_planRam_61 : decode cX9_planRam 61 = .ok (.getfield 53, 3) := by decide +kernel
theorem dX9_planRam_64 : decode cX9_planRam 64 = .ok (.iload 4, 2) := by decide +kernel
theorem dX9_planRam_66 : decode cX9_planRam 66 = .ok (.iadd, 1) := by decide +kernel
theorem dX9_planRam_67 : decode cX9_planRam 67 = .ok (.iconst 1, 1) := by decide +kernel
theorem dX9_planRam_68 : decode cX9_planRam 68 = .ok (.isub, 1) := by decide +kernel
theorem dX9_planRam_69 : decode cX9_planRam 69 = .ok (.invokevirtual 55, 3) := by decide +kernel
theorem dX9_planRam_72 : decode cX9_planRam 72 = .ok (.invokevirtual 31, 3) := by decide +kernel
theorem dX9_planRam_75 : decode cX9_planRam 75 = .ok (.lastore, 1) := by decide +kernel
theorem dX9_planRam_76 : decode cX9_planRam 76 = .ok (.iinc 4 1, 3) := by decide +kernel
theorem dX9_planRam_79 : decode cX9_planRam 79 = .ok (.goto (-59), 3) := by decide +kernel
theorem dX9_planRam_82 : decode cX9_planRam 82 = .ok (.aload_n 0, 1) := by decide +kernel
theorem dX9_planRam_83 : decode cX9_planRam 83 = .ok (.iconst 0, 1) := by decide +kernel
theorem dX9_planRam_84 : decode cX9_planRam 84 = .ok (.putfield 61, 3) := by decide +kernel
theorem dX9_planRam_87 : decode cX9_planRam 87 = .ok (.iload_n 3, 1) := by decide +kernel
theorem dX9_planRam_88 : decode cX9_planRam 88 = .ok (.istore 4, 2) := by decide +kernel
theorem dX9_planRam_90 : decode cX9_planRam 90 = .ok (.iload 4, 2) := by decide +kernel
theorem dX9_planRam_92 : decode cX9_planRam 92 = .ok (.iconst 1, 1) := by decide +kernel
theorem dX9_planRam_93 : decode cX9_planRam 93 = .ok (.if_icmp .lt 106, 3) := by decide +kernel
theorem dX9_planRam_96 : decode cX9_planRam 96 = .ok (.aload_n 0, 1) := by decide +kernel
theorem dX9_planRam_97 : decode cX9_planRam 97 = .ok (.getfield 61, 3) := by decide +kernel
theorem dX9_planRam_100 : decode cX9_planRam 100 = .ok (.aload_n 0, 1) := by decide +kernel
theorem dX9_planRam_101 : decode cX9_planRam 101 = .ok (.getfield 13, 3) := by decide +kernel
theorem dX9_planRam_104 : decode cX9_planRam 104 = .ok (.getfield 49, 3) := by decide +kernel
theorem dX9_planRam_107 : decode cX9_planRam 107 = .ok (.getfield 64, 3) := by decide +kernel
theorem dX9_planRam_110 : decode cX9_planRam 110 = .ok (.if_icmp .ge 89, 3) := by decide +kernel
theorem dX9_planRam_113 : decode cX9_planRam 113 = .ok (.iconst 0, 1) := by decide +kernel
theorem dX9_planRam_114 : decode cX9_planRam 114 = .ok (.istore 5, 2) := by decide +kernel
theorem dX9_planRam_116 : decode cX9_planRam 116 = .ok (.iload 5, 2) := by decide +kernel
theorem dX9_planRam_118 : decode cX9_planRam 118 = .ok (.aload_n 0, 1) := by decide +kernel
theorem dX9_planRam_119 : decode cX9_planRam 119 = .ok (.getfield 13, 3) := by decide +kernel
theorem dX9_planRam_122 : decode cX9_planRam 122 = .ok (.getfield 49, 3) := by decide +kernel
theorem dX9_planRam_125 : decode cX9_planRam 125 = .ok (.getfield 67, 3) := by decide +kernel
theorem dX9_planRam_128 : decode cX9_planRam 128 = .ok (.if_icmp .ge 65, 3) := by decide +kernel
theorem dX9_planRam_131 : decode cX9_planRam 131 = .ok (.aload_n 0, 1) := by decide +kernel
theorem dX9_planRam_132 : decode cX9_planRam 132 = .ok (.getfield 61, 3) := by decide +kernel
theorem dX9_planRam_135 : decode cX9_planRam 135 = .ok (.aload_n 0, 1) := by decide +kernel
theorem dX9_planRam_136 : decode cX9_planRam 136 = .ok (.getfield 13, 3) := by decide +kernel
theorem dX9_planRam_139 : decode cX9_planRam 139 = .ok (.getfield 49, 3) := by decide +kernel
theorem dX9_planRam_142 : decode cX9_planRam 142 = .ok (.getfield 64, 3) := by decide +kernel
theorem dX9_planRam_145 : decode cX9_planRam 145 = .ok (.if_icmp .ge 48, 3) := by decide +kernel
theorem dX9_planRam_148 : decode cX9_planRam 148 = .ok (.aload_n 0, 1) := by decide +kernel
theorem dX9_planRam_149 : decode cX9_planRam 149 = .ok (.aload_n 1, 1) := by decide +kernel
theorem dX9_planRam_150 : decode cX9_planRam 150 = .ok (.iload 4, 2) := by decide +kernel
theorem dX9_planRam_152 : decode cX9_planRam 152 = .ok (.iload_n 3, 1) := by decide +kernel
theorem dX9_planRam_153 : decode cX9_planRam 153 = .ok (.iload 5, 2) := by decide +kernel
theorem dX9_planRam_155 : decode cX9_planRam 155 = .ok (.invokevirtual 70, 3) := by decide +kernel
theorem dX9_planRam_158 : decode cX9_planRam 158 = .ok (.istore 6, 2) := by decide +kernel
theorem dX9_planRam_160 : decode cX9_planRam 160 = .ok (.iload 6, 2) := by decide +kernel
theorem dX9_planRam_162 : decode cX9_planRam 162 = .ok (.aload_n 0, 1) := by decide +kernel
theorem dX9_planRam_163 : decode cX9_planRam 163 = .ok (.getfield 61, 3) := by decide +kernel
theorem dX9_planRam_166 : decode cX9_planRam 166 = .ok (.if_icmp .le 21, 3) := by decide +kernel
theorem dX9_planRam_169 : decode cX9_planRam 169 = .ok (.aload_n 0, 1) := by decide +kernel
theorem dX9_planRam_170 : decode cX9_planRam 170 = .ok (.iload 6, 2) := by decide +kernel
theorem dX9_planRam_172 : decode cX9_planRam 172 = .ok (.putfield 61, 3) := by decide +kernel
theorem dX9_planRam_175 : decode cX9_planRam 175 = .ok (.aload_n 0, 1) := by decide +kernel
theorem dX9_planRam_176 : decode cX9_planRam 176 = .ok (.iload 4, 2) := by decide +kernel
theorem dX9_planRam_178 : decode cX9_planRam 178 = .ok (.putfield 74, 3) := by decide +kernel
theorem dX9_planRam_181 : decode cX9_planRam 181 = .ok (.aload_n 0, 1) := by decide +kernel
theorem dX9_planRam_182 : decode cX9_planRam 182 = .ok (.iload 5, 2) := by decide +kernel
theorem dX9_planRam_184 : decode cX9_planRam 184 = .ok (.putfield 77, 3) := by decide +kernel
theorem dX9_planRam_187 : decode cX9_planRam 187 = .ok (.iinc 5 1, 3) := by decide +kernel
theorem dX9_planRam_190 : decode cX9_planRam 190 = .ok (.goto (-74), 3) := by decide +kernel
theorem dX9_planRam_193 : decode cX9_planRam 193 = .ok (.iinc 4 (-1), 3) := by decide +kernel
theorem dX9_planRam_196 : decode cX9_planRam 196 = .ok (.goto (-106), 3) := by decide +kernel
theorem dX9_planRam_199 : decode cX9_planRam 199 = .ok (.return_, 1) := by decide +kernel
def k_X9_planRam_20 (X : CX) (T : List Dsc) (n1 n2 : Nat) (x0 : Nat) (x1 : Nat) (x3 : Int32) (r : ((Int32 × Mem) ⊕ ((Mem)))) : Prop := match r with
  | .inl s => Wp X cX9_planRam RX9 7 T s.2 n1 n2 20 [(0, .ref x0), (1, .ref x1), (3, .int x3), (4, .int s.1)] []
  | .inr e => Wp X cX9_planRam RX9 7 T e n1 n2 82 [(0, .ref x0), (1, .ref x1), (3, .int x3)] []
def k_X9_planRam_116 (X : CX) (T : List Dsc) (n1 n2 : Nat) (x0 : Nat) (x1 : Nat) (x3 : Int32) (x4 : Int32) (r : ((Int32 × Mem) ⊕ ((Mem)))) : Prop := match r with
  | .inl s => Wp X cX9_planRam RX9 7 T s.2 n1 n2 116 [(0, .ref x0), (1, .ref x1), (3, .int x3), (4, .int x4), (5, .int s.1)] []
  | .inr e => Wp X cX9_planRam RX9 7 T e n1 n2 193 [(0, .ref x0), (1, .ref x1), (3, .int x3), (4, .int x4)] []
def k_X9_planRam_90 (X : CX) (T : List Dsc) (n1 n2 : Nat) (x0 : Nat) (x1 : Nat) (x3 : Int32) (r : ((Int32 × Mem) ⊕ ((Mem)))) : Prop := match r with
  | .inl s => Wp X cX9_planRam RX9 7 T s.2 n1 n2 90 [(0, .ref x0), (1, .ref x1), (3, .int x3), (4, .int s.1)] []
  | .inr e => Wp X cX9_planRam RX9 7 T e n1 n2 199 [] []
set_option maxHeartbeats 4000000 in
set_option maxRecDepth 100000 in
theorem w_X9_planRam_20 {X : CX} {T : List Dsc} {n1 n2 : Nat} {x0 : Nat} {x1 : Nat} {x3 : Int32} {x4 : Int32} {μ : Mem} {r : ((Int32 × Mem) ⊕ ((Mem)))} (hX : XR X 7 n1 n2) (hx0 : T[x0]? = some (.inl 8)) (hx1 : T[x1]? = some (.inl 1)) (hf : f_X9_planRam_20 T x0 x1 x3 x4 μ = some r) (hk : k_X9_planRam_20 X T n1 n2 x0 x1 x3 r) : Wp X cX9_planRam RX9 7 T μ n1 n2 20 [(0, .ref x0), (1, .ref x1), (3, .int x3), (4, .int x4)] [] := by
  unfold f_X9_planRam_20 at hf
  refine Wp.iload (pc := 20) 3 rfl dX9_planRam_20 ?_
  refine Wp.iload_n (pc := 22) 2 rfl rfl dX9_planRam_22 ?_
  refine Wp.icmp_ge (pc := 23) 82 dX9_planRam_23 (by decide) (fun hc1 => ?_) (fun hc1 => ?_)
  · rw [if_pos hc1] at hf
    refine Wp.lo' (lo' := [(0, .ref x0), (1, .ref x1), (3, .int x3)]) [0, 1, 2] rfl ?_
    cases hf
    exact hk
  · rw [if_neg hc1] at hf
    refine Wp.aload_n (pc := 26) 0 rfl rfl dX9_planRam_26 ?_
    obtain ⟨a2, h3, hf⟩ := bnd hf
    refine Wp.getR (pc := 27) (gA_R h3) hx0 fk_RX9_9 rfl dX9_planRam_27 ?_
    refine Wp.iload (pc := 30) 3 rfl dX9_planRam_30 ?_
    refine Wp.aload_n (pc := 32) 0 rfl rfl dX9_planRam_32 ?_
    obtain ⟨r4, h5, hf⟩ := bnd hf
    refine Wp.getR (pc := 33) (gO_R h5) hx0 fk_RX9_13 rfl dX9_planRam_33 ?_
    refine Wp.aload_n (pc := 36) 0 rfl rfl dX9_planRam_36 ?_
    obtain ⟨a6, h7, hf⟩ := bnd hf
    refine Wp.getR (pc := 37) (gA_R h7) hx0 fk_RX9_9 rfl dX9_planRam_37 ?_
    refine Wp.iload (pc := 40) 3 rfl dX9_planRam_40 ?_
    refine Wp.iconst (pc := 42) (1 : Int32) (by decide) dX9_planRam_42 ?_
    refine Wp.isub (pc := 43) dX9_planRam_43 ?_
    obtain ⟨v8, h9, hf⟩ := bnd hf
    refine Wp.lald (pc := 44) h9 (gA_T h7) dX9_planRam_44 ?_
    refine Wp.aload_n (pc := 45) 1 rfl rfl dX9_planRam_45 ?_
    obtain ⟨a10, h11, hf⟩ := bnd hf
    refine Wp.getR (pc := 46) (gA_R h11) hx1 fk_RX9_23 rfl dX9_planRam_46 ?_
    refine Wp.aload_n (pc := 49) 1 rfl rfl dX9_planRam_49 ?_
    refine Wp.getI (pc := 50) hx1 fk_RX9_27 rfl dX9_planRam_50 ?_
    refine Wp.aload_n (pc := 53) 0 rfl rfl dX9_planRam_53 ?_
    obtain ⟨r12, h13, hf⟩ := bnd hf
    refine Wp.getR (pc := 54) (gO_R h13) hx0 fk_RX9_13 rfl dX9_planRam_54 ?_
    obtain ⟨r14, h15, hf⟩ := bnd hf
    refine Wp.getR (pc := 57) (gO_R h15) (gO_T h13) fk_RX9_49 rfl dX9_planRam_57 ?_
    refine Wp.aload_n (pc := 60) 1 rfl rfl dX9_planRam_60 ?_
    refine Wp.getI (pc := 61) hx1 fk_RX9_53 rfl dX9_planRam_61 ?_
    refine Wp.iload (pc := 64) 3 rfl dX9_planRam_64 ?_
    refine Wp.iadd (pc := 66) dX9_planRam_66 ?_
    refine Wp.iconst (pc := 67) (1 : Int32) (by decide) dX9_planRam_67 ?_
    refine Wp.isub (pc := 68) dX9_planRam_68 ?_
    obtain ⟨c16, h17, hf⟩ := bnd hf
    refine Wp.callVi (pc := 69) (st := [.int (gI μ x1 3), .ref a10.1, .long v8, .ref r4, .int x4, .ref a2.1]) (as := [.int (((gI μ x1 4) + x4) - (1 : Int32))]) (c_X7_isFog (gO_T h15) h17) ml_RX9_55 mv_X7_isFog mb_X7_isFog hX (Nat.le_of_ble_eq_true rfl) (by decide) rfl (gO_T h15) rfl (by simp [Value.category]) dX9_planRam_69 rfl ?_
    obtain ⟨c18, h19, hf⟩ := bnd hf
    refine Wp.callVl (pc := 72) (st := [.int x4, .ref a2.1]) (as := [.long v8, .ref a10.1, .int (gI μ x1 3), .int c16.1]) (c_X5_stroke (gO_T h5) (gA_T h11) h19) ml_RX9_31 mv_X5_stroke mb_X5_stroke hX (Nat.le_of_ble_eq_true rfl) (by decide) rfl (gO_T h5) rfl (by simp [Value.category]) dX9_planRam_72 rfl ?_
    obtain ⟨μ20, h21, hf⟩ := bnd hf
    refine Wp.last (pc := 75) h21 (gA_T h3) dX9_planRam_75 ?_
    obtain ⟨v22, h23, hf⟩ := bnd hf
    refine Wp.iincN (pc := 76) (lo' := [(0, .ref x0), (1, .ref x1), (3, .int x3), (4, .int v22)]) (1 : Int32) (by decide) h23 3 rfl [1, 2, 3, 0] rfl (by decide) dX9_planRam_76 ?_
    refine Wp.goto (pc := 79) 20 dX9_planRam_79 (by decide) ?_
    cases hf
    exact hk
theorem wl_X9_planRam_20 {X : CX} {T : List Dsc} {n1 n2 : Nat} {x0 : Nat} {x1 : Nat} {x3 : Int32} {x4 : Int32} {μ : Mem} {e : ((Mem))} (hX : XR X 7 n1 n2) (hx0 : T[x0]? = some (.inl 8)) (hx1 : T[x1]? = some (.inl 1)) (h : loop (g_X9_planRam_20 T x0 x1 x3) (x4, μ) = some e) (he : Wp X cX9_planRam RX9 7 T e n1 n2 82 [(0, .ref x0), (1, .ref x1), (3, .int x3)] []) : Wp X cX9_planRam RX9 7 T μ n1 n2 20 [(0, .ref x0), (1, .ref x1), (3, .int x3), (4, .int x4)] [] :=
  loop_ok (K := k_X9_planRam_20 X T n1 n2 x0 x1 x3) (fun s r hf hk => w_X9_planRam_20 hX hx0 hx1 hf hk) h he
set_option maxHeartbeats 4000000 in
set_option maxRecDepth 100000 in
theorem w_X9_planRam_187 {X : CX} {T : List Dsc} {n1 n2 : Nat} {x0 : Nat} {x1 : Nat} {x3 : Int32} {x4 : Int32} {x5 : Int32} {μ : Mem} {r : ((Int32 × Mem) ⊕ ((Mem)))} (hX : XR X 7 n1 n2) (hx0 : T[x0]? = some (.inl 8)) (hx1 : T[x1]? = some (.inl 1)) (hf : f_X9_planRam_187 T x0 x1 x3 x4 x5 μ = some r) (hk : k_X9_planRam_116 X T n1 n2 x0 x1 x3 x4 r) : Wp X cX9_planRam RX9 7 T μ n1 n2 187 [(0, .ref x0), (1, .ref x1), (3, .int x3), (4, .int x4), (5, .int x5)] [] := by
  unfold f_X9_planRam_187 at hf
  obtain ⟨v1, h2, hf⟩ := bnd hf
  refine Wp.iincN (pc := 187) (lo' := [(0, .ref x0), (1, .ref x1), (3, .int x3), (4, .int x4), (5, .int v1)]) (1 : Int32) (by decide) h2 4 rfl [1, 2, 3, 4, 0] rfl (by decide) dX9_planRam_187 ?_
  refine Wp.goto (pc := 190) 116 dX9_planRam_190 (by decide) ?_
  cases hf
  exact hk
set_option maxHeartbeats 4000000 in
set_option maxRecDepth 100000 in
theorem w_X9_planRam_116 {X : CX} {T : List Dsc} {n1 n2 : Nat} {x0 : Nat} {x1 : Nat} {x3 : Int32} {x4 : Int32} {x5 : Int32} {μ : Mem} {r : ((Int32 × Mem) ⊕ ((Mem)))} (hX : XR X 7 n1 n2) (hx0 : T[x0]? = some (.inl 8)) (hx1 : T[x1]? = some (.inl 1)) (hf : f_X9_planRam_116 T x0 x1 x3 x4 x5 μ = some r) (hk : k_X9_planRam_116 X T n1 n2 x0 x1 x3 x4 r) : Wp X cX9_planRam RX9 7 T μ n1 n2 116 [(0, .ref x0), (1, .ref x1), (3, .int x3), (4, .int x4), (5, .int x5)] [] := by
  unfold f_X9_planRam_116 at hf
  refine Wp.iload (pc := 116) 4 rfl dX9_planRam_116 ?_
  refine Wp.aload_n (pc := 118) 0 rfl rfl dX9_planRam_118 ?_
  obtain ⟨r1, h2, hf⟩ := bnd hf
  refine Wp.getR (pc := 119) (gO_R h2) hx0 fk_RX9_13 rfl dX9_planRam_119 ?_
  obtain ⟨r3, h4, hf⟩ := bnd hf
  refine Wp.getR (pc := 122) (gO_R h4) (gO_T h2) fk_RX9_49 rfl dX9_planRam_122 ?_
  refine Wp.getI (pc := 125) (gO_T h4) fk_RX9_67 rfl dX9_planRam_125 ?_
  refine Wp.icmp_ge (pc := 128) 193 dX9_planRam_128 (by decide) (fun hc5 => ?_) (fun hc5 => ?_)
  · rw [if_pos hc5] at hf
    refine Wp.lo' (lo' := [(0, .ref x0), (1, .ref x1), (3, .int x3), (4, .int x4)]) [0, 1, 2, 3] rfl ?_
    cases hf
    exact hk
  · rw [if_neg hc5] at hf
    refine Wp.aload_n (pc := 131) 0 rfl rfl dX9_planRam_131 ?_
    refine Wp.getI (pc := 132) hx0 fk_RX9_61 rfl dX9_planRam_132 ?_
    refine Wp.aload_n (pc := 135) 0 rfl rfl dX9_planRam_135 ?_
    obtain ⟨r6, h7, hf⟩ := bnd hf
    refine Wp.getR (pc := 136) (gO_R h7) hx0 fk_RX9_13 rfl dX9_planRam_136 ?_
    obtain ⟨r8, h9, hf⟩ := bnd hf
    refine Wp.getR (pc := 139) (gO_R h9) (gO_T h7) fk_RX9_49 rfl dX9_planRam_139 ?_
    refine Wp.getI (pc := 142) (gO_T h9) fk_RX9_64 rfl dX9_planRam_142 ?_
    refine Wp.icmp_ge (pc := 145) 193 dX9_planRam_145 (by decide) (fun hc10 => ?_) (fun hc10 => ?_)
    · rw [if_pos hc10] at hf
      refine Wp.lo' (lo' := [(0, .ref x0), (1, .ref x1), (3, .int x3), (4, .int x4)]) [0, 1, 2, 3] rfl ?_
      cases hf
      exact hk
    · rw [if_neg hc10] at hf
      refine Wp.aload_n (pc := 148) 0 rfl rfl dX9_planRam_148 ?_
      refine Wp.aload_n (pc := 149) 1 rfl rfl dX9_planRam_149 ?_
      refine Wp.iload (pc := 150) 3 rfl dX9_planRam_150 ?_
      refine Wp.iload_n (pc := 152) 2 rfl rfl dX9_planRam_152 ?_
      refine Wp.iload (pc := 153) 4 rfl dX9_planRam_153 ?_
      obtain ⟨c11, h12, hf⟩ := bnd hf
      refine Wp.callVi (pc := 155) (st := []) (as := [.ref x1, .int x4, .int x3, .int x5]) (c_X9_wayBehind hx0 hx1 h12) ml_RX9_70 mv_X9_wayBehind mb_X9_wayBehind hX (Nat.le_of_ble_eq_true rfl) (by decide) rfl hx0 rfl (by simp) dX9_planRam_155 rfl ?_
      refine Wp.istore (pc := 158) (lo' := [(0, .ref x0), (1, .ref x1), (3, .int x3), (4, .int x4), (5, .int x5), (6, .int c11.1)]) [1, 2, 3, 4, 5, 0] rfl (by decide) dX9_planRam_158 ?_
      refine Wp.iload (pc := 160) 5 rfl dX9_planRam_160 ?_
      refine Wp.aload_n (pc := 162) 0 rfl rfl dX9_planRam_162 ?_
      refine Wp.getI (pc := 163) hx0 fk_RX9_61 rfl dX9_planRam_163 ?_
      refine Wp.icmp_le (pc := 166) 187 dX9_planRam_166 (by decide) (fun hc13 => ?_) (fun hc13 => ?_)
      · rw [if_pos hc13] at hf
        refine Wp.lo' (lo' := [(0, .ref x0), (1, .ref x1), (3, .int x3), (4, .int x4), (5, .int x5)]) [0, 1, 2, 3, 4] rfl ?_
        exact w_X9_planRam_187 hX hx0 hx1 hf hk
      · rw [if_neg hc13] at hf
        refine Wp.aload_n (pc := 169) 0 rfl rfl dX9_planRam_169 ?_
        refine Wp.iload (pc := 170) 5 rfl dX9_planRam_170 ?_
        obtain ⟨μ14, h15, hf⟩ := bnd hf
        refine Wp.ptI (pc := 172) h15 hx0 fk_RX9_61 ff_RX9_8_4 rfl dX9_planRam_172 ?_
        refine Wp.aload_n (pc := 175) 0 rfl rfl dX9_planRam_175 ?_
        refine Wp.iload (pc := 176) 3 rfl dX9_planRam_176 ?_
        obtain ⟨μ16, h17, hf⟩ := bnd hf
        refine Wp.ptI (pc := 178) h17 hx0 fk_RX9_74 ff_RX9_8_5 rfl dX9_planRam_178 ?_
        refine Wp.aload_n (pc := 181) 0 rfl rfl dX9_planRam_181 ?_
        refine Wp.iload (pc := 182) 4 rfl dX9_planRam_182 ?_
        obtain ⟨μ18, h19, hf⟩ := bnd hf
        refine Wp.ptI (pc := 184) h19 hx0 fk_RX9_77 ff_RX9_8_6 rfl dX9_planRam_184 ?_
        refine Wp.lo' (lo' := [(0, .ref x0), (1, .ref x1), (3, .int x3), (4, .int x4), (5, .int x5)]) [0, 1, 2, 3, 4] rfl ?_
        exact w_X9_planRam_187 hX hx0 hx1 hf hk
theorem wl_X9_planRam_116 {X : CX} {T : List Dsc} {n1 n2 : Nat} {x0 : Nat} {x1 : Nat} {x3 : Int32} {x4 : Int32} {x5 : Int32} {μ : Mem} {e : ((Mem))} (hX : XR X 7 n1 n2) (hx0 : T[x0]? = some (.inl 8)) (hx1 : T[x1]? = some (.inl 1)) (h : loop (g_X9_planRam_116 T x0 x1 x3 x4) (x5, μ) = some e) (he : Wp X cX9_planRam RX9 7 T e n1 n2 193 [(0, .ref x0), (1, .ref x1), (3, .int x3), (4, .int x4)] []) : Wp X cX9_planRam RX9 7 T μ n1 n2 116 [(0, .ref x0), (1, .ref x1), (3, .int x3), (4, .int x4), (5, .int x5)] [] :=
  loop_ok (K := k_X9_planRam_116 X T n1 n2 x0 x1 x3 x4) (fun s r hf hk => w_X9_planRam_116 hX hx0 hx1 hf hk) h he
set_option maxHeartbeats 4000000 in
set_option maxRecDepth 100000 in
theorem w_X9_planRam_193 {X : CX} {T : List Dsc} {n1 n2 : Nat} {x0 : Nat} {x1 : Nat} {x3 : Int32} {x4 : Int32} {μ : Mem} {r : ((Int32 × Mem) ⊕ ((Mem)))} (hX : XR X 7 n1 n2) (hx0 : T[x0]? = some (.inl 8)) (hx1 : T[x1]? = some (.inl 1)) (hf : f_X9_planRam_193 T x0 x1 x3 x4 μ = some r) (hk : k_X9_planRam_90 X T n1 n2 x0 x1 x3 r) : Wp X cX9_planRam RX9 7 T μ n1 n2 193 [(0, .ref x0), (1, .ref x1), (3, .int x3), (4, .int x4)] [] := by
  unfold f_X9_planRam_193 at hf
  obtain ⟨v1, h2, hf⟩ := bnd hf
  refine Wp.iincN (pc := 193) (lo' := [(0, .ref x0), (1, .ref x1), (3, .int x3), (4, .int v1)]) (-1 : Int32) (by decide) h2 3 rfl [1, 2, 3, 0] rfl (by decide) dX9_planRam_193 ?_
  refine Wp.goto (pc := 196) 90 dX9_planRam_196 (by decide) ?_
  cases hf
  exact hk
set_option maxHeartbeats 4000000 in
set_option maxRecDepth 100000 in
theorem w_X9_planRam_90 {X : CX} {T : List Dsc} {n1 n2 : Nat} {x0 : Nat} {x1 : Nat} {x3 : Int32} {x4 : Int32} {μ : Mem} {r : ((Int32 × Mem) ⊕ ((Mem)))} (hX : XR X 7 n1 n2) (hx0 : T[x0]? = some (.inl 8)) (hx1 : T[x1]? = some (.inl 1)) (hf : f_X9_planRam_90 T x0 x1 x3 x4 μ = some r) (hk : k_X9_planRam_90 X T n1 n2 x0 x1 x3 r) : Wp X cX9_planRam RX9 7 T μ n1 n2 90 [(0, .ref x0), (1, .ref x1), (3, .int x3), (4, .int x4)] [] := by
  unfold f_X9_planRam_90 at hf
  refine Wp.iload (pc := 90) 3 rfl dX9_planRam_90 ?_
  refine Wp.iconst (pc := 92) (1 : Int32) (by decide) dX9_planRam_92 ?_
  refine Wp.icmp_lt (pc := 93) 199 dX9_planRam_93 (by decide) (fun hc1 => ?_) (fun hc1 => ?_)
  · rw [if_pos hc1] at hf
    refine Wp.lo' (lo' := []) [] rfl ?_
    cases hf
    exact hk
  · rw [if_neg hc1] at hf
    refine Wp.aload_n (pc := 96) 0 rfl rfl dX9_planRam_96 ?_
    refine Wp.getI (pc := 97) hx0 fk_RX9_61 rfl dX9_planRam_97 ?_
    refine Wp.aload_n (pc := 100) 0 rfl rfl dX9_planRam_100 ?_
    obtain ⟨r2, h3, hf⟩ := bnd hf
    refine Wp.getR (pc := 101) (gO_R h3) hx0 fk_RX9_13 rfl dX9_planRam_101 ?_
    obtain ⟨r4, h5, hf⟩ := bnd hf
    refine Wp.getR (pc := 104) (gO_R h5) (gO_T h3) fk_RX9_49 rfl dX9_planRam_104 ?_
    refine Wp.getI (pc := 107) (gO_T h5) fk_RX9_64 rfl dX9_planRam_107 ?_
    refine Wp.icmp_ge (pc := 110) 199 dX9_planRam_110 (by decide) (fun hc6 => ?_) (fun hc6 => ?_)
    · rw [if_pos hc6] at hf
      refine Wp.lo' (lo' := []) [] rfl ?_
      cases hf
      exact hk
    · rw [if_neg hc6] at hf
      refine Wp.iconst (pc := 113) (0 : Int32) (by decide) dX9_planRam_113 ?_
      refine Wp.istore (pc := 114) (lo' := [(0, .ref x0), (1, .ref x1), (3, .int x3), (4, .int x4), (5, .int (0 : Int32))]) [1, 2, 3, 4, 0] rfl (by decide) dX9_planRam_114 ?_
      obtain ⟨e7, h8, hf⟩ := bnd hf
      refine wl_X9_planRam_116 hX hx0 hx1 h8 ?_
      exact w_X9_planRam_193 hX hx0 hx1 hf hk
theorem wl_X9_planRam_90 {X : CX} {T : List Dsc} {n1 n2 : Nat} {x0 : Nat} {x1 : Nat} {x3 : Int32} {x4 : Int32} {μ : Mem} {e : ((Mem))} (hX : XR X 7 n1 n2) (hx0 : T[x0]? = some (.inl 8)) (hx1 : T[x1]? = some (.inl 1)) (h : loop (g_X9_planRam_90 T x0 x1 x3) (x4, μ) = some e) (he : Wp X cX9_planRam RX9 7 T e n1 n2 199 [] []) : Wp X cX9_planRam RX9 7 T μ n1 n2 90 [(0, .ref x0), (1, .ref x1), (3, .int x3), (4, .int x4)] [] :=
  loop_ok (K := k_X9_planRam_90 X T n1 n2 x0 x1 x3) (fun s r hf hk => w_X9_planRam_90 hX hx0 hx1 hf hk) h he
set_option maxHeartbeats 4000000 in
set_option maxRecDepth 100000 in
theorem w_X9_planRam_199 {X : CX} {T : List Dsc} {n1 n2 : Nat} {μ : Mem} {r : Mem} (hX : XR X 7 n1 n2) (hf : f_X9_planRam_199 T μ = some r) (hk : FnV X cX9_planRam RX9 7 T n1 n2 r) : Wp X cX9_planRam RX9 7 T μ n1 n2 199 [] [] := by
  unfold f_X9_planRam_199 at hf
  cases hf
  exact hk _ _ dX9_planRam_199
set_option maxHeartbeats 4000000 in
set_option maxRecDepth 100000 in
theorem w_X9_planRam {X : CX} {T : List Dsc} {n1 n2 : Nat} {x0 : Nat} {x1 : Nat} {x2 : Int32} {μ : Mem} {r : Mem} (hX : XR X 7 n1 n2) (hx0 : T[x0]? = some (.inl 8)) (hx1 : T[x1]? = some (.inl 1)) (hf : F_X9_planRam T x0 x1 x2 μ = some r) (hk : FnV X cX9_planRam RX9 7 T n1 n2 r) : Wp X cX9_planRam RX9 7 T μ n1 n2 0 [(0, .ref x0), (1, .ref x1), (2, .int x2)] [] := by
  unfold F_X9_planRam at hf
  refine Wp.iload_n (pc := 0) 2 rfl rfl dX9_planRam_0 ?_
  refine Wp.bipush (pc := 1) (60 : Int32) (by decide) dX9_planRam_1 ?_
  refine Wp.mmin (pc := 3) mm_RX9_43 hX (Nat.le_of_ble_eq_true rfl) (by simp) dX9_planRam_3 ?_
  obtain ⟨v1, h2, hf⟩ := bnd hf
  refine Wp.nI' h2 ?_
  refine Wp.istore_n (pc := 6) (lo' := [(0, .ref x0), (1, .ref x1), (3, .int v1)]) [1, 2, 0] rfl (by decide) rfl dX9_planRam_6 ?_
  refine Wp.aload_n (pc := 7) 0 rfl rfl dX9_planRam_7 ?_
  obtain ⟨a3, h4, hf⟩ := bnd hf
  refine Wp.getR (pc := 8) (gA_R h4) hx0 fk_RX9_9 rfl dX9_planRam_8 ?_
  refine Wp.iconst (pc := 11) (0 : Int32) (by decide) dX9_planRam_11 ?_
  refine Wp.aload_n (pc := 12) 1 rfl rfl dX9_planRam_12 ?_
  refine Wp.getJ (pc := 13) hx1 fk_RX9_17 rfl dX9_planRam_13 ?_
  obtain ⟨μ5, h6, hf⟩ := bnd hf
  refine Wp.last (pc := 16) h6 (gA_T h4) dX9_planRam_16 ?_
  refine Wp.iconst (pc := 17) (1 : Int32) (by decide) dX9_planRam_17 ?_
  refine Wp.istore (pc := 18) (lo' := [(0, .ref x0), (1, .ref x1), (3, .int v1), (4, .int (1 : Int32))]) [1, 2, 3, 0] rfl (by decide) dX9_planRam_18 ?_
  obtain ⟨e7, h8, hf⟩ := bnd hf
  refine wl_X9_planRam_20 hX hx0 hx1 h8 ?_
  refine Wp.aload_n (pc := 82) 0 rfl rfl dX9_planRam_82 ?_
  refine Wp.iconst (pc := 83) (0 : Int32) (by decide) dX9_planRam_83 ?_
  obtain ⟨μ9, h10, hf⟩ := bnd hf
  refine Wp.ptI (pc := 84) h10 hx0 fk_RX9_61 ff_RX9_8_4 rfl dX9_planRam_84 ?_
  refine Wp.iload_n (pc := 87) 2 rfl rfl dX9_planRam_87 ?_
  refine Wp.istore (pc := 88) (lo' := [(0, .ref x0), (1, .ref x1), (3, .int v1), (4, .int v1)]) [1, 2, 3, 0] rfl (by decide) dX9_planRam_88 ?_
  obtain ⟨e11, h12, hf⟩ := bnd hf
  refine wl_X9_planRam_90 hX hx0 hx1 h12 ?_
  exact w_X9_planRam_199 hX hf hk
theorem c_X9_planRam {T : List Dsc} {x0 : Nat} {x1 : Nat} {x2 : Int32} {μ : Mem} {r : Mem} (hx0 : T[x0]? = some (.inl 8)) (hx1 : T[x1]? = some (.inl 1)) (hf : F_X9_planRam T x0 x1 x2 μ = some r) : Ct 7 yX9_planRam cX9_planRam 7 none T μ [.ref x0, .ref x1, .int x2] none r := Ct.ofV (by decide +kernel) (Nat.le_of_ble_eq_true rfl) (fun X hX hk => w_X9_planRam hX hx0 hx1 hf hk)
theorem dX9_weighed_0 : decode cX9_weighed 0 = .ok (.iload 4, 2) := by decide +kernel
theorem dX9_weighed_2 : decode cX9_weighed 2 = .ok (.ifCond .gt 13, 3) := by decide +kernel
theorem dX9_weighed_5 : decode cX9_weighed 5 = .ok (.aload_n 0, 1) := by decide +kernel
theorem dX9_weighed_6 : decode cX9_weighed 6 = .ok (.getfield 13, 3) := by decide +kernel
theorem dX9_weighed_9 : decode cX9_weighed 9 = .ok (.lload_n 2, 1) := by decide +kernel
theorem dX9_weighed_10 : decode cX9_weighed 10 = .ok (.invokevirtual 80, 3) := by decide +kernel
theorem dX9_weighed_13 : decode cX9_weighed 13 = .ok (.i2l, 1) := by decide +kernel
theorem dX9_weighed_14 : decode cX9_weighed 14 = .ok (.lreturn, 1) := by decide +kernel
theorem dX9_weighed_15 : decode cX9_weighed 15 = .ok (.aload_n 0, 1) := by decide +kernel
theorem dX9_weighed_16 : decode cX9_weighed 16 = .ok (.getfield 13, 3) := by decide +kernel
theorem dX9_weighed_19 : decode cX9_weighed 19 = .ok (.lload_n 2, 1) := by decide +kernel
theorem dX9_weighed_20 : decode cX9_weighed 20 = .ok (.aload_n 1, 1) := by decide +kernel
theorem dX9_weighed_21 : decode cX9_weighed 21 = .ok (.getfield 23, 3) := by decide +kernel
theorem dX9_weighed_24 : decode cX9_weighed 24 = .ok (.aload_n 1, 1) := by decide +kernel
theorem dX9_weighed_25 : decode cX9_weighed 25 = .ok (.getfield 27, 3) := by decide +kernel
theorem dX9_weighed_28 : decode cX9_weighed 28 = .ok (.iconst 1, 1) := by decide +kernel
theorem dX9_weighed_29 : decode cX9_weighed 29 = .ok (.invokevirtual 31, 3) := by decide +kernel
theorem dX9_weighed_32 : decode cX9_weighed 32 = .ok (.lstore 7, 2) := by decide +kernel
theorem dX9_weighed_34 : decode cX9_weighed 34 = .ok (.aload_n 0, 1) := by decide +kernel
theorem dX9_weighed_35 : decode cX9_weighed 35 = .ok (.getfield 13, 3) := by decide +kernel
theorem dX9_weighed_38 : decode cX9_weighed 38 = .ok (.lload_n 2, 1) := by decide +kernel
theorem dX9_weighed_39 : decode cX9_weighed 39 = .ok (.aload_n 1, 1) := by decide +kernel
theorem dX9_weighed_40 : decode cX9_weighed 40 = .ok (.getfield 23, 3) := by decide +kernel
theorem dX9_weighed_43 : decode cX9_weighed 43 = .ok (.aload_n 1, 1) := by decide +kernel
theorem dX9_weighed_44 : decode cX9_weighed 44 = .ok (.getfield 27, 3) := by decide +kernel
theorem dX9_weighed_47 : decode cX9_weighed 47 = .ok (.iconst 0, 1) := by decide +kernel
theorem dX9_weighed_48 : decode cX9_weighed 48 = .ok (.invokevirtual 31, 3) := by decide +kernel
theorem dX9_weighed_51 : decode cX9_weighed 51 = .ok (.lstore 9, 2) := by decide +kernel
theorem dX9_weighed_53 : decode cX9_weighed 53 = .ok (.lload 7, 2) := by decide +kernel
theorem dX9_weighed_55 : decode cX9_weighed 55 = .ok (.lload 9, 2) := by decide +kernel
theorem dX9_weighed_57 : decode cX9_weighed 57 = .ok (.lcmp, 1) := by decide +kernel
theorem dX9_weighed_58 : decode cX9_weighed 58 = .ok (.ifCond .ne 23, 3) := by decide +kernel
theorem dX9_weighed_61 : decode cX9_weighed 61 = .ok (.iload 6, 2) := by decide +kernel
theorem dX9_weighed_63 : decode cX9_weighed 63 = .ok (.i2l, 1) := by decide +kernel
theorem dX9_weighed_64 : decode cX9_weighed 64 = .ok (.aload_n 0, 1) := by decide +kernel
theorem dX9_weighed_65 : decode cX9_weighed 65 = .ok (.aload_n 1, 1) := by decide +kernel
theorem dX9_weighed_66 : decode cX9_weighed 66 = .ok (.lload 9, 2) := by decide +kernel
theorem dX9_weighed_68 : decode cX9_weighed 68 = .ok (.iload 4, 2) := by decide +kernel
theorem dX9_weighed_70 : decode cX9_weighed 70 = .ok (.iconst 1, 1) := by decide +kernel
theorem dX9_weighed_71 : decode cX9_weighed 71 = .ok (.isub, 1) := by decide +kernel
theorem dX9_weighed_72 : decode cX9_weighed 72 = .ok (.iload 5, 2) := by decide +kernel
theorem dX9_weighed_74 : decode cX9_weighed 74 = .ok (.iload 6, 2) := by decide +kernel
theorem dX9_weighed_76 : decode cX9_weighed 76 = .ok (.invokevirtual 84, 3) := by decide +kernel
theorem dX9_weighed_79 : decode cX9_weighed 79 = .ok (.lmul, 1) := by decide +kernel
theorem dX9_weighed_80 : decode cX9_weighed 80 = .ok (.lreturn, 1) := by decide +kernel
theorem dX9_weighed_81 : decode cX9_weighed 81 = .ok (.lconst 0, 1) := by decide +kernel
theorem dX9_weighed_82 : decode cX9_weighed 82 = .ok (.lstore 11, 2) := by decide +kernel
theorem dX9_weighed_84 : decode cX9_weighed 84 = .ok (.iload 5, 2) := by decide +kernel
theorem dX9_weighed_86 : decode cX9_weighed 86 = .ok (.ifCond .le 27, 3) := by decide +kernel
theorem dX9_weighed_89 : decode cX9_weighed 89 = .ok (.lload 11, 2) := by decide +kernel
theorem dX9_weighed_91 : decode cX9_weighed 91 = .ok (.iload 5, 2) := by decide +kernel
theorem dX9_weighed_93 : decode cX9_weighed 93 = .ok (.i2l, 1) := by decide +kernel
theorem dX9_weighed_94 : decode cX9_weighed 94 = .ok (.aload_n 0, 1) := by decide +kernel
theorem dX9_weighed_95 : decode cX9_weighed 95 = .ok (.aload_n 1, 1) := by decide +kernel
theorem dX9_weighed_96 : decode cX9_weighed 96 = .ok (.lload 7, 2) := by decide +kernel
theorem dX9_weighed_98 : decode cX9_weighed 98 = .ok (.iload 4, 2) := by decide +kernel
theorem dX9_weighed_100 : decode cX9_weighed 100 = .ok (.iconst 1, 1) := by decide +kernel
theorem dX9_weighed_101 : decode cX9_weighed 101 = .ok (.isub, 1) := by decide +kernel
theorem dX9_weighed_102 : decode cX9_weighed 102 = .ok (.iload 5, 2) := by decide +kernel
theorem dX9_weighed_104 : decode cX9_weighed 104 = .ok (.iload 6, 2) := by decide +kernel
theorem dX9_weighed_106 : decode cX9_weighed 106 = .ok (.invokevirtual 84, 3) := by decide +kernel
theorem dX9_weighed_109 : decode cX9_weighed 109 = .ok (.lmul, 1) := by decide +kernel
theorem dX9_weighed_110 : decode cX9_weighed 110 = .ok (.ladd, 1) := by decide +kernel
theorem dX9_weighed_111 : decode cX9_weighed 111 = .ok (.lstore 11, 2) := by decide +kernel
theorem dX9_weighed_113 : decode cX9_weighed 113 = .ok (.iload 5, 2) := by decide +kernel
theorem dX9_weighed_115 : decode cX9_weighed 115 = .ok (.iload 6, 2) := by decide +kernel
theorem dX9_weighed_117 : decode cX9_weighed 117 = .ok (.if_icmp .ge 30, 3) := by decide +kernel
theorem dX9_weighed_120 : decode cX9_weighed 120 = .ok (.lload 11, 2) := by decide +kernel
theorem dX9_weighed_122 : decode cX9_weighed 122 = .ok (.iload 6, 2) := by decide +kernel
theorem dX9_weighed_124 : decode cX9_weighed 124 = .ok (.iload 5, 2) := by decide +kernel
theorem dX9_weighed_126 : decode cX9_weighed 126 = .ok (.isub, 1) := by decide +kernel
theorem dX9_weighed_127 : decode cX9_weighed 127 = .ok (.i2l, 1) := by decide +kernel
theorem dX9_weighed_128 : decode cX9_weighed 128 = .ok (.aload_n 0, 1) := by decide +kernel
theorem dX9_weighed_129 : decode cX9_weighed 129 = .ok (.aload_n 1, 1) := by decide +kernel
theorem dX9_weighed_130 : decode cX9_weighed 130 = .ok (.lload 9, 2) := by decide +kernel
theorem dX9_weighed_132 : decode cX9_weighed 132 = .ok (.iload 4, 2) := by decide +kernel
theorem dX9_weighed_134 : decode cX9_weighed 134 = .ok (.iconst 1, 1) := by decide +kernel
theorem dX9_weighed_135 : decode cX9_weighed 135 = .ok (.isub, 1) := by decide +kernel
theorem dX9_weighed_136 : decode cX9_weighed 136 = .ok (.iload 5, 2) := by decide +kernel
theorem dX9_weighed_138 : decode cX9_weighed 138 = .ok (.iload 6, 2) := by decide +kernel
theorem dX9_weighed_140 : decode cX9_weighed 140 = .ok (.invokevirtual 84, 3) := by decide +kernel
theorem dX9_weighed_143 : decode cX9_weighed 143 = .ok (.lmul, 1) := by decide +kernel
theorem dX9_weighed_144 : decode cX9_weighed 144 = .ok (.ladd, 1) := by decide +kernel
theorem dX9_weighed_145 : decode cX9_weighed 145 = .ok (.lstore 11, 2) := by decide +kernel
theorem dX9_weighed_147 : decode cX9_weighed 147 = .ok (.lload 11, 2) := by decide +kernel
theorem dX9_weighed_149 : decode cX9_weighed 149 = .ok (.lreturn, 1) := by decide +kernel
set_option maxHeartbeats 4000000 in
set_option maxRecDepth 100000 in
theorem w_X9_weighed_147 {E : List Dsc → Nat → Nat → Int64 → Int32 → Int32 → Int32 → Mem → Option (Int64 × Mem)} {dE : Nat} {X : CX} {T : List Dsc} {n1 n2 : Nat} {x11 : Int64} {μ : Mem} {r : (Int64 × Mem)} (hX : XR X (dE + 1) n1 n2) (hdE : 10 ≤ dE) (hE : ∀ {T : List Dsc} {x0 : Nat} {x1 : Nat} {x2 : Int64} {x4 : Int32} {x5 : Int32} {x6 : Int32} {μ : Mem} {r : (Int64 × Mem)}, T[x0]? = some (.inl 8) → T[x1]? = some (.inl 1) → E T x0 x1 x2 x4 x5 x6 μ = some r → Ct dE yX9_weighed cX9_weighed 13 (some .long) T μ [.ref x0, .ref x1, .long x2, .int x4, .int x5, .int x6] (some (.long r.1)) r.2) (hf : f_X9_weighed_147 E T x11 μ = some r) (hk : FnJ X cX9_weighed RX9 13 T n1 n2 r) : Wp X cX9_weighed RX9 13 T μ n1 n2 147 [(11, .long x11)] [] := by
  unfold f_X9_weighed_147 at hf
  refine Wp.lload (pc := 147) 0 rfl dX9_weighed_147 ?_
  cases hf
  exact hk _ _ dX9_weighed_149
set_option maxHeartbeats 4000000 in
set_option maxRecDepth 100000 in
theorem w_X9_weighed_113 {E : List Dsc → Nat → Nat → Int64 → Int32 → Int32 → Int32 → Mem → Option (Int64 × Mem)} {dE : Nat} {X : CX} {T : List Dsc} {n1 n2 : Nat} {x0 : Nat} {x1 : Nat} {x4 : Int32} {x5 : Int32} {x6 : Int32} {x9 : Int64} {x11 : Int64} {μ : Mem} {r : (Int64 × Mem)} (hX : XR X (dE + 1) n1 n2) (hdE : 10 ≤ dE) (hE : ∀ {T : List Dsc} {x0 : Nat} {x1 : Nat} {x2 : Int64} {x4 : Int32} {x5 : Int32} {x6 : Int32} {μ : Mem} {r : (Int64 × Mem)}, T[x0]? = some (.inl 8) → T[x1]? = some (.inl 1) → E T x0 x1 x2 x4 x5 x6 μ = some r → Ct dE yX9_weighed cX9_weighed 13 (some .long) T μ [.ref x0, .ref x1, .long x2, .int x4, .int x5, .int x6] (some (.long r.1)) r.2) (hx0 : T[x0]? = some (.inl 8)) (hx1 : T[x1]? = some (.inl 1)) (hf : f_X9_weighed_113 E T x0 x1 x4 x5 x6 x9 x11 μ = some r) (hk : FnJ X cX9_weighed RX9 13 T n1 n2 r) : Wp X cX9_weighed RX9 13 T μ n1 n2 113 [(0, .ref x0), (1, .ref x1), (4, .int x4), (5, .int x5), (6, .int x6), (9, .long x9), (11, .long x11)] [] := by
  unfold f_X9_weighed_113 at hf
  refine Wp.iload (pc := 113) 3 rfl dX9_weighed_113 ?_
  refine Wp.iload (pc := 115) 4 rfl dX9_weighed_115 ?_
  refine Wp.icmp_ge (pc := 117) 147 dX9_weighed_117 (by decide) (fun hc1 => ?_) (fun hc1 => ?_)
  · rw [if_pos hc1] at hf
    refine Wp.lo' (lo' := [(11, .long x11)]) [6] rfl ?_
    exact w_X9_weighed_147 hX hdE hE hf hk
  · rw [if_neg hc1] at hf
    refine Wp.lload (pc := 120) 6 rfl dX9_weighed_120 ?_
    refine Wp.iload (pc := 122) 4 rfl dX9_weighed_122 ?_
    refine Wp.iload (pc := 124) 3 rfl dX9_weighed_124 ?_
    refine Wp.isub (pc := 126) dX9_weighed_126 ?_
    refine Wp.i2l (pc := 127) dX9_weighed_127 ?_
    refine Wp.aload_n (pc := 128) 0 rfl rfl dX9_weighed_128 ?_
    refine Wp.aload_n (pc := 129) 1 rfl rfl dX9_weighed_129 ?_
    refine Wp.lload (pc := 130) 5 rfl dX9_weighed_130 ?_
    refine Wp.iload (pc := 132) 2 rfl dX9_weighed_132 ?_
    refine Wp.iconst (pc := 134) (1 : Int32) (by decide) dX9_weighed_134 ?_
    refine Wp.isub (pc := 135) dX9_weighed_135 ?_
    refine Wp.iload (pc := 136) 3 rfl dX9_weighed_136 ?_
    refine Wp.iload (pc := 138) 4 rfl dX9_weighed_138 ?_
    obtain ⟨c2, h3, hf⟩ := bnd hf
    refine Wp.callVl (pc := 140) (st := [.long (x6 - x5).toInt64, .long x11]) (as := [.ref x1, .long x9, .int (x4 - (1 : Int32)), .int x5, .int x6]) (hE hx0 hx1 h3) ml_RX9_84 mv_X9_weighed mb_X9_weighed hX (by omega) (by decide) rfl hx0 rfl (by simp [Value.category]) dX9_weighed_140 rfl ?_
    refine Wp.lmul (pc := 143) dX9_weighed_143 ?_
    refine Wp.ladd (pc := 144) dX9_weighed_144 ?_
    obtain ⟨v4, h5, hf⟩ := bnd hf
    refine Wp.nJ' h5 ?_
    refine Wp.lstore (pc := 145) (lo' := [(11, .long v4)]) [0] rfl (by decide) dX9_weighed_145 ?_
    exact w_X9_weighed_147 hX hdE hE hf hk
set_option maxHeartbeats 4000000 in
set_option maxRecDepth 100000 in
theorem w_X9_weighed {E : List Dsc → Nat → Nat → Int64 → Int32 → Int32 → Int32 → Mem → Option (Int64 × Mem)} {dE : Nat} {X : CX} {T : List Dsc} {n1 n2 : Nat} {x0 : Nat} {x1 : Nat} {x2 : Int64} {x4 : Int32} {x5 : Int32} {x6 : Int32} {μ : Mem} {r : (Int64 × Mem)} (hX : XR X (dE + 1) n1 n2) (hdE : 10 ≤ dE) (hE : ∀ {T : List Dsc} {x0 : Nat} {x1 : Nat} {x2 : Int64} {x4 : Int32} {x5 : Int32} {x6 : Int32} {μ : Mem} {r : (Int64 × Mem)}, T[x0]? = some (.inl 8) → T[x1]? = some (.inl 1) → E T x0 x1 x2 x4 x5 x6 μ = some r → Ct dE yX9_weighed cX9_weighed 13 (some .long) T μ [.ref x0, .ref x1, .long x2, .int x4, .int x5, .int x6] (some (.long r.1)) r.2) (hx0 : T[x0]? = some (.inl 8)) (hx1 : T[x1]? = some (.inl 1)) (hf : B_X9_weighed E T x0 x1 x2 x4 x5 x6 μ = some r) (hk : FnJ X cX9_weighed RX9 13 T n1 n2 r) : Wp X cX9_weighed RX9 13 T μ n1 n2 0 [(0, .ref x0), (1, .ref x1), (2, .long x2), (4, .int x4), (5, .int x5), (6, .int x6)] [] := by
  unfold B_X9_weighed at hf
  refine Wp.iload (pc := 0) 3 rfl dX9_weighed_0 ?_
  refine Wp.if_gt (pc := 2) 15 dX9_weighed_2 (by decide) (fun hc1 => ?_) (fun hc1 => ?_)
  · rw [if_pos hc1] at hf
    refine Wp.aload_n (pc := 15) 0 rfl rfl dX9_weighed_15 ?_
    obtain ⟨r2, h3, hf⟩ := bnd hf
    refine Wp.getR (pc := 16) (gO_R h3) hx0 fk_RX9_13 rfl dX9_weighed_16 ?_
    refine Wp.lload_n (pc := 19) 2 rfl rfl dX9_weighed_19 ?_
    refine Wp.aload_n (pc := 20) 1 rfl rfl dX9_weighed_20 ?_
    obtain ⟨a4, h5, hf⟩ := bnd hf
    refine Wp.getR (pc := 21) (gA_R h5) hx1 fk_RX9_23 rfl dX9_weighed_21 ?_
    refine Wp.aload_n (pc := 24) 1 rfl rfl dX9_weighed_24 ?_
    refine Wp.getI (pc := 25) hx1 fk_RX9_27 rfl dX9_weighed_25 ?_
    refine Wp.iconst (pc := 28) (1 : Int32) (by decide) dX9_weighed_28 ?_
    obtain ⟨c6, h7, hf⟩ := bnd hf
    refine Wp.callVl (pc := 29) (st := []) (as := [.long x2, .ref a4.1, .int (gI μ x1 3), .int (1 : Int32)]) (c_X5_stroke (gO_T h3) (gA_T h5) h7) ml_RX9_31 mv_X5_stroke mb_X5_stroke hX (by omega) (by decide) rfl (gO_T h3) rfl (by simp) dX9_weighed_29 rfl ?_
    refine Wp.lstore (pc := 32) (lo' := [(0, .ref x0), (1, .ref x1), (2, .long x2), (4, .int x4), (5, .int x5), (6, .int x6), (7, .long c6.1)]) [1, 2, 3, 4, 5, 6, 0] rfl (by decide) dX9_weighed_32 ?_
    refine Wp.aload_n (pc := 34) 0 rfl rfl dX9_weighed_34 ?_
    obtain ⟨r8, h9, hf⟩ := bnd hf
    refine Wp.getR (pc := 35) (gO_R h9) hx0 fk_RX9_13 rfl dX9_weighed_35 ?_
    refine Wp.lload_n (pc := 38) 2 rfl rfl dX9_weighed_38 ?_
    refine Wp.aload_n (pc := 39) 1 rfl rfl dX9_weighed_39 ?_
    obtain ⟨a10, h11, hf⟩ := bnd hf
    refine Wp.getR (pc := 40) (gA_R h11) hx1 fk_RX9_23 rfl dX9_weighed_40 ?_
    refine Wp.aload_n (pc := 43) 1 rfl rfl dX9_weighed_43 ?_
    refine Wp.getI (pc := 44) hx1 fk_RX9_27 rfl dX9_weighed_44 ?_
    refine Wp.iconst (pc := 47) (0 : Int32) (by decide) dX9_weighed_47 ?_
    obtain ⟨c12, h13, hf⟩ := bnd hf
    refine Wp.callVl (pc := 48) (st := []) (as := [.long x2, .ref a10.1, .int (gI c6.2 x1 3), .int (0 : Int32)]) (c_X5_stroke (gO_T h9) (gA_T h11) h13) ml_RX9_31 mv_X5_stroke mb_X5_stroke hX (by omega) (by decide) rfl (gO_T h9) rfl (by simp) dX9_weighed_48 rfl ?_
    refine Wp.lstore (pc := 51) (lo' := [(0, .ref x0), (1, .ref x1), (4, .int x4), (5, .int x5), (6, .int x6), (7, .long c6.1), (9, .long c12.1)]) [1, 2, 4, 5, 6, 7, 0] rfl (by decide) dX9_weighed_51 ?_
    refine Wp.lload (pc := 53) 5 rfl dX9_weighed_53 ?_
    refine Wp.lload (pc := 55) 6 rfl dX9_weighed_55 ?_
    refine Wp.lcmp (pc := 57) dX9_weighed_57 ?_
    refine Wp.if_ne (pc := 58) 81 dX9_weighed_58 (by decide) (fun hc14 => ?_) (fun hc14 => ?_)
    · rw [if_neg hc14] at hf
      refine Wp.lconst (pc := 81) (0 : Int64) (by decide) dX9_weighed_81 ?_
      refine Wp.lstore (pc := 82) (lo' := [(0, .ref x0), (1, .ref x1), (4, .int x4), (5, .int x5), (6, .int x6), (7, .long c6.1), (9, .long c12.1), (11, .long (0 : Int64))]) [1, 2, 3, 4, 5, 6, 7, 0] rfl (by decide) dX9_weighed_82 ?_
      refine Wp.iload (pc := 84) 3 rfl dX9_weighed_84 ?_
      refine Wp.if_le (pc := 86) 113 dX9_weighed_86 (by decide) (fun hc15 => ?_) (fun hc15 => ?_)
      · rw [if_pos hc15] at hf
        refine Wp.lo' (lo' := [(0, .ref x0), (1, .ref x1), (4, .int x4), (5, .int x5), (6, .int x6), (9, .long c12.1), (11, .long (0 : Int64))]) [0, 1, 2, 3, 4, 6, 7] rfl ?_
        exact w_X9_weighed_113 hX hdE hE hx0 hx1 hf hk
      · rw [if_neg hc15] at hf
        refine Wp.lload (pc := 89) 7 rfl dX9_weighed_89 ?_
        refine Wp.iload (pc := 91) 3 rfl dX9_weighed_91 ?_
        refine Wp.i2l (pc := 93) dX9_weighed_93 ?_
        refine Wp.aload_n (pc := 94) 0 rfl rfl dX9_weighed_94 ?_
        refine Wp.aload_n (pc := 95) 1 rfl rfl dX9_weighed_95 ?_
        refine Wp.lload (pc := 96) 5 rfl dX9_weighed_96 ?_
        refine Wp.iload (pc := 98) 2 rfl dX9_weighed_98 ?_
        refine Wp.iconst (pc := 100) (1 : Int32) (by decide) dX9_weighed_100 ?_
        refine Wp.isub (pc := 101) dX9_weighed_101 ?_
        refine Wp.iload (pc := 102) 3 rfl dX9_weighed_102 ?_
        refine Wp.iload (pc := 104) 4 rfl dX9_weighed_104 ?_
        obtain ⟨c16, h17, hf⟩ := bnd hf
        refine Wp.callVl (pc := 106) (st := [.long x5.toInt64, .long (0 : Int64)]) (as := [.ref x1, .long c6.1, .int (x4 - (1 : Int32)), .int x5, .int x6]) (hE hx0 hx1 h17) ml_RX9_84 mv_X9_weighed mb_X9_weighed hX (by omega) (by decide) rfl hx0 rfl (by simp [Value.category]) dX9_weighed_106 rfl ?_
        refine Wp.lmul (pc := 109) dX9_weighed_109 ?_
        refine Wp.ladd (pc := 110) dX9_weighed_110 ?_
        obtain ⟨v18, h19, hf⟩ := bnd hf
        refine Wp.nJ' h19 ?_
        refine Wp.lstore (pc := 111) (lo' := [(0, .ref x0), (1, .ref x1), (4, .int x4), (5, .int x5), (6, .int x6), (9, .long c12.1), (11, .long v18)]) [1, 2, 3, 4, 5, 7, 0] rfl (by decide) dX9_weighed_111 ?_
        exact w_X9_weighed_113 hX hdE hE hx0 hx1 hf hk
    · rw [if_pos hc14] at hf
      refine Wp.iload (pc := 61) 4 rfl dX9_weighed_61 ?_
      refine Wp.i2l (pc := 63) dX9_weighed_63 ?_
      refine Wp.aload_n (pc := 64) 0 rfl rfl dX9_weighed_64 ?_
      refine Wp.aload_n (pc := 65) 1 rfl rfl dX9_weighed_65 ?_
      refine Wp.lload (pc := 66) 6 rfl dX9_weighed_66 ?_
      refine Wp.iload (pc := 68) 2 rfl dX9_weighed_68 ?_
      refine Wp.iconst (pc := 70) (1 : Int32) (by decide) dX9_weighed_70 ?_
      refine Wp.isub (pc := 71) dX9_weighed_71 ?_
      refine Wp.iload (pc := 72) 3 rfl dX9_weighed_72 ?_
      refine Wp.iload (pc := 74) 4 rfl dX9_weighed_74 ?_
      obtain ⟨c20, h21, hf⟩ := bnd hf
      refine Wp.callVl (pc := 76) (st := [.long x6.toInt64]) (as := [.ref x1, .long c12.1, .int (x4 - (1 : Int32)), .int x5, .int x6]) (hE hx0 hx1 h21) ml_RX9_84 mv_X9_weighed mb_X9_weighed hX (by omega) (by decide) rfl hx0 rfl (by simp [Value.category]) dX9_weighed_76 rfl ?_
      refine Wp.lmul (pc := 79) dX9_weighed_79 ?_
      cases hf
      exact hk _ _ dX9_weighed_80
  · rw [if_neg hc1] at hf
    refine Wp.aload_n (pc := 5) 0 rfl rfl dX9_weighed_5 ?_
    obtain ⟨r22, h23, hf⟩ := bnd hf
    refine Wp.getR (pc := 6) (gO_R h23) hx0 fk_RX9_13 rfl dX9_weighed_6 ?_
    refine Wp.lload_n (pc := 9) 2 rfl rfl dX9_weighed_9 ?_
    obtain ⟨c24, h25, hf⟩ := bnd hf
    refine Wp.callVi (pc := 10) (st := []) (as := [.long x2]) (c_X5_wayOf (gO_T h23) h25) ml_RX9_80 mv_X5_wayOf mb_X5_wayOf hX (by omega) (by decide) rfl (gO_T h23) rfl (by simp) dX9_weighed_10 rfl ?_
    refine Wp.i2l (pc := 13) dX9_weighed_13 ?_
    cases hf
    exact hk _ _ dX9_weighed_14
theorem b_X9_weighed {E : List Dsc → Nat → Nat → Int64 → Int32 → Int32 → Int32 → Mem → Option (Int64 × Mem)} {dE : Nat} {T : List Dsc} {x0 : Nat} {x1 : Nat} {x2 : Int64} {x4 : Int32} {x5 : Int32} {x6 : Int32} {μ : Mem} {r : (Int64 × Mem)} (hdE : 10 ≤ dE) (hE : ∀ {T : List Dsc} {x0 : Nat} {x1 : Nat} {x2 : Int64} {x4 : Int32} {x5 : Int32} {x6 : Int32} {μ : Mem} {r : (Int64 × Mem)}, T[x0]? = some (.inl 8) → T[x1]? = some (.inl 1) → E T x0 x1 x2 x4 x5 x6 μ = some r → Ct dE yX9_weighed cX9_weighed 13 (some .long) T μ [.ref x0, .ref x1, .long x2, .int x4, .int x5, .int x6] (some (.long r.1)) r.2) (hx0 : T[x0]? = some (.inl 8)) (hx1 : T[x1]? = some (.inl 1)) (hf : B_X9_weighed E T x0 x1 x2 x4 x5 x6 μ = some r) : Ct (dE + 1) yX9_weighed cX9_weighed 13 (some .long) T μ [.ref x0, .ref x1, .long x2, .int x4, .int x5, .int x6] (some (.long r.1)) r.2 := Ct.ofJ (by decide +kernel) (Nat.le_of_ble_eq_true rfl) (fun X hX hk => w_X9_weighed hX hdE hE hx0 hx1 hf hk)
theorem c_X9_weighed : ∀ {n : Nat}, ∀ {T : List Dsc} {x0 : Nat} {x1 : Nat} {x2 : Int64} {x4 : Int32} {x5 : Int32} {x6 : Int32} {μ : Mem} {r : (Int64 × Mem)}, T[x0]? = some (.inl 8) → T[x1]? = some (.inl 1) → F_X9_weighed n T x0 x1 x2 x4 x5 x6 μ = some r → Ct (20 + 1 * n) yX9_weighed cX9_weighed 13 (some .long) T μ [.ref x0, .ref x1, .long x2, .int x4, .int x5, .int x6] (some (.long r.1)) r.2 := by
  intro n
  induction n with
  | zero => intro T x0 x1 x2 x4 x5 x6 μ r hx0 hx1 hf; cases hf
  | succ n ih => intro T x0 x1 x2 x4 x5 x6 μ r hx0 hx1 hf; exact b_X9_weighed (E := F_X9_weighed n) (dE := 20 + 1 * n) (by omega) ih hx0 hx1 hf
theorem dX10_isStroke_0 : decode cX10_isStroke 0 = .ok (.iload_n 0, 1) := by decide +kernel
theorem dX10_isStroke_1 : decode cX10_isStroke 1 = .ok (.ifCond .lt 13, 3) := by decide +kernel
theorem dX10_isStroke_4 : decode cX10_isStroke 4 = .ok (.iload_n 0, 1) := by decide +kernel
theorem dX10_isStroke_5 : decode cX10_isStroke 5 = .ok (.bipush 99, 2) := by decide +kernel
theorem dX10_isStroke_7 : decode cX10_isStroke 7 = .ok (.if_icmp .gt 7, 3) := by decide +kernel
theorem dX10_isStroke_10 : decode cX10_isStroke 10 = .ok (.iconst 1, 1) := by decide +kernel
theorem dX10_isStroke_11 : decode cX10_isStroke 11 = .ok (.goto 4, 3) := by decide +kernel
theorem dX10_isStroke_14 : decode cX10_isStroke 14 = .ok (.iconst 0, 1) := by decide +kernel
theorem dX10_isStroke_15 : decode cX10_isStroke 15 = .ok (.ireturn, 1) := by decide +kernel
set_option maxHeartbeats 4000000 in
set_option maxRecDepth 100000 in
theorem w_X10_isStroke_15 {X : CX} {T : List Dsc} {n1 n2 : Nat} {s0 : Int32} {μ : Mem} {r : (Int32 × Mem)} (hX : XR X 1 n1 n2) (hf : f_X10_isStroke_15 T s0 μ = some r) (hk : FnZ X cX10_isStroke RX10 1 T n1 n2 r) : Wp X cX10_isStroke RX10 1 T μ n1 n2 15 [] [.int s0] := by
  unfold f_X10_isStroke_15 at hf
  obtain ⟨v1, h2, hf⟩ := bnd hf
  refine Wp.zb' h2 (fun h2 => ?_)
  cases hf
  exact hk _ _ h2 dX10_isStroke_15
set_option maxHeartbeats 4000000 in
set_option maxRecDepth 100000 in
theorem w_X10_isStroke_14 {X : CX} {T : List Dsc} {n1 n2 : Nat} {μ : Mem} {r : (Int32 × Mem)} (hX : XR X 1 n1 n2) (hf : f_X10_isStroke_14 T μ = some r) (hk : FnZ X cX10_isStroke RX10 1 T n1 n2 r) : Wp X cX10_isStroke RX10 1 T μ n1 n2 14 [] [] := by
  unfold f_X10_isStroke_14 at hf
  refine Wp.iconst (pc := 14) (0 : Int32) (by decide) dX10_isStroke_14 ?_
  exact w_X10_isStroke_15 hX hf hk
set_option maxHeartbeats 4000000 in
set_option maxRecDepth 100000 in
theorem w_X10_isStroke {X : CX} {T : List Dsc} {n1 n2 : Nat} {x0 : Int32} {μ : Mem} {r : (Int32 × Mem)} (hX : XR X 1 n1 n2) (hf : F_X10_isStroke T x0 μ = some r) (hk : FnZ X cX10_isStroke RX10 1 T n1 n2 r) : Wp X cX10_isStroke RX10 1 T μ n1 n2 0 [(0, .int x0)] [] := by
  unfold F_X10_isStroke at hf
  refine Wp.iload_n (pc := 0) 0 rfl rfl dX10_isStroke_0 ?_
  refine Wp.if_lt (pc := 1) 14 dX10_isStroke_1 (by decide) (fun hc1 => ?_) (fun hc1 => ?_)
  · rw [if_pos hc1] at hf
    refine Wp.lo' (lo' := []) [] rfl ?_
    exact w_X10_isStroke_14 hX hf hk
  · rw [if_neg hc1] at hf
    refine Wp.iload_n (pc := 4) 0 rfl rfl dX10_isStroke_4 ?_
    refine Wp.bipush (pc := 5) (99 : Int32) (by decide) dX10_isStroke_5 ?_
    refine Wp.icmp_gt (pc := 7) 14 dX10_isStroke_7 (by decide) (fun hc2 => ?_) (fun hc2 => ?_)
    · rw [if_pos hc2] at hf
      refine Wp.lo' (lo' := []) [] rfl ?_
      exact w_X10_isStroke_14 hX hf hk
    · rw [if_neg hc2] at hf
      refine Wp.iconst (pc := 10) (1 : Int32) (by decide) dX10_isStroke_10 ?_
      refine Wp.goto (pc := 11) 15 dX10_isStroke_11 (by decide) ?_
      refine Wp.lo' (lo' := []) [] rfl ?_
      exact w_X10_isStroke_15 hX hf hk
theorem c_X10_isStroke {T : List Dsc} {x0 : Int32} {μ : Mem} {r : (Int32 × Mem)} (hf : F_X10_isStroke T x0 μ = some r) : Ct 1 yX10_isStroke cX10_isStroke 1 (some .boolean) T μ [.int x0] (some (.int r.1)) r.2 := Ct.ofZ (by decide +kernel) (Nat.le_of_ble_eq_true rfl) (fun X hX hk => w_X10_isStroke hX hf hk)
theorem dX10_isQuestion_0 : decode cX10_isQuestion 0 = .ok (.iload_n 1, 1) := by decide +kernel
theorem dX10_isQuestion_1 : decode cX10_isQuestion 1 = .ok (.ifCond .lt 24, 3) := by decide +kernel
theorem dX10_isQuestion_4 : decode cX10_isQuestion 4 = .ok (.iload_n 1, 1) := by decide +kernel
theorem dX10_isQuestion_5 : decode cX10_isQuestion 5 = .ok (.iconst 2, 1) := by decide +kernel
theorem dX10_isQuestion_6 : decode cX10_isQuestion 6 = .ok (.if_icmp .gt 19, 3) := by decide +kernel
theorem dX10_isQuestion_9 : decode cX10_isQuestion 9 = .ok (.iload_n 2, 1) := by decide +kernel
theorem dX10_isQuestion_10 : decode cX10_isQuestion 10 = .ok (.ifCond .lt 15, 3) := by decide +kernel
theorem dX10_isQuestion_13 : decode cX10_isQuestion 13 = .ok (.iload_n 2, 1) := by decide +kernel
theorem dX10_isQuestion_14 : decode cX10_isQuestion 14 = .ok (.aload_n 0, 1) := by decide +kernel
theorem dX10_isQuestion_15 : decode cX10_isQuestion 15 = .ok (.getfield 31, 3) := by decide +kernel
theorem dX10_isQuestion_18 : decode cX10_isQuestion 18 = .ok (.if_icmp .gt 7, 3) := by decide +kernel
theorem dX10_isQuestion_21 : decode cX10_isQuestion 21 = .ok (.iconst 1, 1) := by decide +kernel
theorem dX10_isQuestion_22 : decode cX10_isQuestion 22 = .ok (.goto 4, 3) := by decide +kernel
theorem dX10_isQuestion_25 : decode cX10_isQuestion 25 = .ok (.iconst 0, 1) := by decide +kernel
theorem dX10_isQuestion_26 : decode cX10_isQuestion 26 = .ok (.ireturn, 1) := by decide +kernel
set_option maxHeartbeats 4000000 in
set_option maxRecDepth 100000 in
theorem w_X10_isQuestion_26 {X : CX} {T : List Dsc} {n1 n2 : Nat} {s0 : Int32} {μ : Mem} {r : (Int32 × Mem)} (hX : XR X 1 n1 n2) (hf : f_X10_isQuestion_26 T s0 μ = some r) (hk : FnZ X cX10_isQuestion RX10 3 T n1 n2 r) : Wp X cX10_isQuestion RX10 3 T μ n1 n2 26 [] [.int s0] := by
  unfold f_X10_isQuestion_26 at hf
  obtain ⟨v1, h2, hf⟩ := bnd hf
  refine Wp.zb' h2 (fun h2 => ?_)
  cases hf
  exact hk _ _ h2 dX10_isQuestion_26
set_option maxHeartbeats 4000000 in
set_option maxRecDepth 100000 in
theorem w_X10_isQuestion_25 {X : CX} {T : List Dsc} {n1 n2 : Nat} {μ : Mem} {r : (Int32 × Mem)} (hX : XR X 1 n1 n2) (hf : f_X10_isQuestion_25 T μ = some r) (hk : FnZ X cX10_isQuestion RX10 3 T n1 n2 r) : Wp X cX10_isQuestion RX10 3 T μ n1 n2 25 [] [] := by
  unfold f_X10_isQuestion_25 at hf
  refine Wp.iconst (pc := 25) (0 : Int32) (by decide) dX10_isQuestion_25 ?_
  exact w_X10_isQuestion_26 hX hf hk
set_option maxHeartbeats 4000000 in
set_option maxRecDepth 100000 in
theorem w_X10_isQuestion {X : CX} {T : List Dsc} {n1 n2 : Nat} {x0 : Nat} {x1 : Int32} {x2 : Int32} {μ : Mem} {r : (Int32 × Mem)} (hX : XR X 1 n1 n2) (hx0 : T[x0]? = some (.inl 9)) (hf : F_X10_isQuestion T x0 x1 x2 μ = some r) (hk : FnZ X cX10_isQuestion RX10 3 T n1 n2 r) : Wp X cX10_isQuestion RX10 3 T μ n1 n2 0 [(0, .ref x0), (1, .int x1), (2, .int x2)] [] := by
  unfold F_X10_isQuestion at hf
  refine Wp.iload_n (pc := 0) 1 rfl rfl dX10_isQuestion_0 ?_
  refine Wp.if_lt (pc := 1) 25 dX10_isQuestion_1 (by decide) (fun hc1 => ?_) (fun hc1 => ?_)
  · rw [if_pos hc1] at hf
    refine Wp.lo' (lo' := []) [] rfl ?_
    exact w_X10_isQuestion_25 hX hf hk
  · rw [if_neg hc1] at hf
    refine Wp.iload_n (pc := 4) 1 rfl rfl dX10_isQuestion_4 ?_
    refine Wp.iconst (pc := 5) (2 : Int32) (by decide) dX10_isQuestion_5 ?_
    refine Wp.icmp_gt (pc := 6) 25 dX10_isQuestion_6 (by decide) (fun hc2 => ?_) (fun hc2 => ?_)
    · rw [if_pos hc2] at hf
      refine Wp.lo' (lo' := []) [] rfl ?_
      exact w_X10_isQuestion_25 hX hf hk
    · rw [if_neg hc2] at hf
      refine Wp.iload_n (pc := 9) 2 rfl rfl dX10_isQuestion_9 ?_
      refine Wp.if_lt (pc := 10) 25 dX10_isQuestion_10 (by decide) (fun hc3 => ?_) (fun hc3 => ?_)
      · rw [if_pos hc3] at hf
        refine Wp.lo' (lo' := []) [] rfl ?_
        exact w_X10_isQuestion_25 hX hf hk
      · rw [if_neg hc3] at hf
        refine Wp.iload_n (pc := 13) 2 rfl rfl dX10_isQuestion_13 ?_
        refine Wp.aload_n (pc := 14) 0 rfl rfl dX10_isQuestion_14 ?_
        refine Wp.getI (pc := 15) hx0 fk_RX10_31 rfl dX10_isQuestion_15 ?_
        refine Wp.icmp_gt (pc := 18) 25 dX10_isQuestion_18 (by decide) (fun hc4 => ?_) (fun hc4 => ?_)
        · rw [if_pos hc4] at hf
          refine Wp.lo' (lo' := []) [] rfl ?_
          exact w_X10_isQuestion_25 hX hf hk
        · rw [if_neg hc4] at hf
          refine Wp.iconst (pc := 21) (1 : Int32) (by decide) dX10_isQuestion_21 ?_
          refine Wp.goto (pc := 22) 26 dX10_isQuestion_22 (by decide) ?_
          refine Wp.lo' (lo' := []) [] rfl ?_
          exact w_X10_isQuestion_26 hX hf hk
theorem c_X10_isQuestion {T : List Dsc} {x0 : Nat} {x1 : Int32} {x2 : Int32} {μ : Mem} {r : (Int32 × Mem)} (hx0 : T[x0]? = some (.inl 9)) (hf : F_X10_isQuestion T x0 x1 x2 μ = some r) : Ct 1 yX10_isQuestion cX10_isQuestion 3 (some .boolean) T μ [.ref x0, .int x1, .int x2] (some (.int r.1)) r.2 := Ct.ofZ (by decide +kernel) (Nat.le_of_ble_eq_true rfl) (fun X hX hk => w_X10_isQuestion hX hx0 hf hk)
