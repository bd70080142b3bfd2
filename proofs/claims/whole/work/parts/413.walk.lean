theorem dX12_fits_0 : decode cX12_fits 0 = .ok (.aload_n 0, 1) := by decide +kernel
theorem dX12_fits_1 : decode cX12_fits 1 = .ok (.iload_n 1, 1) := by decide +kernel
theorem dX12_fits_2 : decode cX12_fits 2 = .ok (.invokevirtual 503, 3) := by decide +kernel
theorem dX12_fits_5 : decode cX12_fits 5 = .ok (.iconst (-1), 1) := by decide +kernel
theorem dX12_fits_6 : decode cX12_fits 6 = .ok (.istore_n 3, 1) := by decide +kernel
theorem dX12_fits_7 : decode cX12_fits 7 = .ok (.iconst 0, 1) := by decide +kernel
theorem dX12_fits_8 : decode cX12_fits 8 = .ok (.istore 4, 2) := by decide +kernel
theorem dX12_fits_10 : decode cX12_fits 10 = .ok (.iload 4, 2) := by decide +kernel
theorem dX12_fits_12 : decode cX12_fits 12 = .ok (.iload_n 2, 1) := by decide +kernel
theorem dX12_fits_13 : decode cX12_fits 13 = .ok (.if_icmp .ge 28, 3) := by decide +kernel
theorem dX12_fits_16 : decode cX12_fits 16 = .ok (.aload_n 0, 1) := by decide +kernel
theorem dX12_fits_17 : decode cX12_fits 17 = .ok (.getfield 176, 3) := by decide +kernel
theorem dX12_fits_20 : decode cX12_fits 20 = .ok (.iload 4, 2) := by decide +kernel
theorem dX12_fits_22 : decode cX12_fits 22 = .ok (.iaload, 1) := by decide +kernel
theorem dX12_fits_23 : decode cX12_fits 23 = .ok (.iload_n 3, 1) := by decide +kernel
theorem dX12_fits_24 : decode cX12_fits 24 = .ok (.if_icmp .le 11, 3) := by decide +kernel
theorem dX12_fits_27 : decode cX12_fits 27 = .ok (.aload_n 0, 1) := by decide +kernel
theorem dX12_fits_28 : decode cX12_fits 28 = .ok (.getfield 176, 3) := by decide +kernel
theorem dX12_fits_31 : decode cX12_fits 31 = .ok (.iload 4, 2) := by decide +kernel
theorem dX12_fits_33 : decode cX12_fits 33 = .ok (.iaload, 1) := by decide +kernel
theorem dX12_fits_34 : decode cX12_fits 34 = .ok (.istore_n 3, 1) := by decide +kernel
theorem dX12_fits_35 : decode cX12_fits 35 = .ok (.iinc 4 1, 3) := by decide +kernel
theorem dX12_fits_38 : decode cX12_fits 38 = .ok (.goto (-28), 3) := by decide +kernel
theorem dX12_fits_41 : decode cX12_fits 41 = .ok (.iconst 0, 1) := by decide +kernel
theorem dX12_fits_42 : decode cX12_fits 42 = .ok (.istore 4, 2) := by decide +kernel
theorem dX12_fits_44 : decode cX12_fits 44 = .ok (.iload 4, 2) := by decide +kernel
theorem dX12_fits_46 : decode cX12_fits 46 = .ok (.iload_n 3, 1) := by decide +kernel
theorem dX12_fits_47 : decode cX12_fits 47 = .ok (.if_icmp .gt 85, 3) := by decide +kernel
theorem dX12_fits_50 : decode cX12_fits 50 = .ok (.aload_n 0, 1) := by decide +kernel
theorem dX12_fits_51 : decode cX12_fits 51 = .ok (.invokevirtual 453, 3) := by decide +kernel
theorem dX12_fits_54 : decode cX12_fits 54 = .ok (.istore 5, 2) := by decide +kernel
theorem dX12_fits_56 : decode cX12_fits 56 = .ok (.iconst 0, 1) := by decide +kernel
theorem dX12_fits_57 : decode cX12_fits 57 = .ok (.istore 6, 2) := by decide +kernel
theorem dX12_fits_59 : decode cX12_fits 59 = .ok (.iload 6, 2) := by decide +kernel
theorem dX12_fits_61 : decode cX12_fits 61 = .ok (.iload_n 2, 1) := by decide +kernel
theorem dX12_fits_62 : decode cX12_fits 62 = .ok (.if_icmp .ge 54, 3) := by decide +kernel
theorem dX12_fits_65 : decode cX12_fits 65 = .ok (.aload_n 0, 1) := by decide +kernel
theorem dX12_fits_66 : decode cX12_fits 66 = .ok (.getfield 176, 3) := by decide +kernel
theorem dX12_fits_69 : decode cX12_fits 69 = .ok (.iload 6, 2) := by decide +kernel
theorem dX12_fits_71 : decode cX12_fits 71 = .ok (.iaload, 1) := by decide +kernel
theorem dX12_fits_72 : decode cX12_fits 72 = .ok (.iload 4, 2) := by decide +kernel
theorem dX12_fits_74 : decode cX12_fits 74 = .ok (.if_icmp .ne 36, 3) := by decide +kernel
theorem dX12_fits_77 : decode cX12_fits 77 = .ok (.iload 5, 2) := by decide +kernel
theorem dX12_fits_79 : decode cX12_fits 79 = .ok (.aload_n 0, 1) := by decide +kernel
theorem dX12_fits_80 : decode cX12_fits 80 = .ok (.getfield 179, 3) := by decide +kernel
theorem dX12_fits_83 : decode cX12_fits 83 = .ok (.iload 6, 2) := by decide +kernel
theorem dX12_fits_85 : decode cX12_fits 85 = .ok (.iaload, 1) := by decide +kernel
theorem dX12_fits_86 : decode cX12_fits 86 = .ok (.ishr, 1) := by decide +kernel
theorem dX12_fits_87 : decode cX12_fits 87 = .ok (.iconst 1, 1) := by decide +kernel
theorem dX12_fits_88 : decode cX12_fits 88 = .ok (.iand, 1) := by decide +kernel
theorem dX12_fits_89 : decode cX12_fits 89 = .ok (.iconst 1, 1) := by decide +kernel
theorem dX12_fits_90 : decode cX12_fits 90 = .ok (.if_icmp .ne 7, 3) := by decide +kernel
theorem dX12_fits_93 : decode cX12_fits 93 = .ok (.iconst 1, 1) := by decide +kernel
theorem dX12_fits_94 : decode cX12_fits 94 = .ok (.goto 4, 3) := by decide +kernel
theorem dX12_fits_97 : decode cX12_fits 97 = .ok (.iconst 0, 1) := by decide +kernel
theorem dX12_fits_98 : decode cX12_fits 98 = .ok (.aload_n 0, 1) := by decide +kernel
theorem dX12_fits_99 : decode cX12_fits 99 = .ok (.getfield 182, 3) := by decide +kernel
theorem dX12_fits_102 : decode cX12_fits 102 = .ok (.iload 6, 2) := by decide +kernel
theorem dX12_fits_104 : decode cX12_fits 104 = .ok (.baload, 1) := by decide +kernel
theorem dX12_fits_105 : decode cX12_fits 105 = .ok (.if_icmp .eq 5, 3) := by decide +kernel
theorem dX12_fits_108 : decode cX12_fits 108 = .ok (.iconst 0, 1) := by decide +kernel
theorem dX12_fits_109 : decode cX12_fits 109 = .ok (.ireturn, 1) := by decide +kernel
theorem dX12_fits_110 : decode cX12_fits 110 = .ok (.iinc 6 1, 3) := by decide +kernel
theorem dX12_fits_113 : decode cX12_fits 113 = .ok (.goto (-54), 3) := by decide +kernel
theorem dX12_fits_116 : decode cX12_fits 116 = .ok (.aload_n 0, 1) := by decide +kernel
theorem dX12_fits_117 : decode cX12_fits 117 = .ok (.aload_n 0, 1) := by decide +kernel
theorem dX12_fits_118 : decode cX12_fits 118 = .ok (.iload 4, 2) := by decide +kernel
theorem dX12_fits_120 : decode cX12_fits 120 = .ok (.invokevirtual 447, 3) := by decide +kernel
theorem dX12_fits_123 : decode cX12_fits 123 = .ok (.invokevirtual 450, 3) := by decide +kernel
theorem dX12_fits_126 : decode cX12_fits 126 = .ok (.iinc 4 1, 3) := by decide +kernel
theorem dX12_fits_129 : decode cX12_fits 129 = .ok (.goto (-85), 3) := by decide +kernel
theorem dX12_fits_132 : decode cX12_fits 132 = .ok (.iconst 1, 1) := by decide +kernel
theorem dX12_fits_133 : decode cX12_fits 133 = .ok (.ireturn, 1) := by decide +kernel
def k_X12_fits_10 (X : CX) (T : List Dsc) (n1 n2 : Nat) (x0 : Nat) (x2 : Int32) (r : ((Int32 × Int32 × Mem) ⊕ ((Int32 × Mem)))) : Prop := match r with
  | .inl s => Wp X cX12_fits RX12 7 T s.2.2 n1 n2 10 [(0, .ref x0), (2, .int x2), (3, .int s.1), (4, .int s.2.1)] []
  | .inr e => Wp X cX12_fits RX12 7 T e.2 n1 n2 41 [(0, .ref x0), (2, .int x2), (3, .int e.1)] []
def k_X12_fits_59 (X : CX) (T : List Dsc) (n1 n2 : Nat) (x0 : Nat) (x2 : Int32) (x3 : Int32) (x4 : Int32) (x5 : Int32) (r : ((Int32 × Mem) ⊕ ((Mem) ⊕ (Mem)))) : Prop := match r with
  | .inl s => Wp X cX12_fits RX12 7 T s.2 n1 n2 59 [(0, .ref x0), (2, .int x2), (3, .int x3), (4, .int x4), (5, .int x5), (6, .int s.1)] []
  | .inr (.inl e) => Wp X cX12_fits RX12 7 T e n1 n2 108 [] []
  | .inr (.inr e) => Wp X cX12_fits RX12 7 T e n1 n2 116 [(0, .ref x0), (2, .int x2), (3, .int x3), (4, .int x4)] []
def k_X12_fits_44 (X : CX) (T : List Dsc) (n1 n2 : Nat) (x0 : Nat) (x2 : Int32) (x3 : Int32) (r : ((Int32 × Mem) ⊕ ((Mem) ⊕ (Mem)))) : Prop := match r with
  | .inl s => Wp X cX12_fits RX12 7 T s.2 n1 n2 44 [(0, .ref x0), (2, .int x2), (3, .int x3), (4, .int s.1)] []
  | .inr (.inl e) => Wp X cX12_fits RX12 7 T e n1 n2 108 [] []
  | .inr (.inr e) => Wp X cX12_fits RX12 7 T e n1 n2 132 [] []
set_option maxHeartbeats 4000000 in
set_option maxRecDepth 100000 in
theorem w_X12_fits_35 {X : CX} {T : List Dsc} {n1 n2 : Nat} {x0 : Nat} {x2 : Int32} {x3 : Int32} {x4 : Int32} {μ : Mem} {r : ((Int32 × Int32 × Mem) ⊕ ((Int32 × Mem)))} (hX : XR X 9 n1 n2) (hx0 : T[x0]? = some (.inl 11)) (hf : f_X12_fits_35 T x0 x2 x3 x4 μ = some r) (hk : k_X12_fits_10 X T n1 n2 x0 x2 r) : Wp X cX12_fits RX12 7 T μ n1 n2 35 [(0, .ref x0), (2, .int x2), (3, .int x3), (4, .int x4)] [] := by
  unfold f_X12_fits_35 at hf
  obtain ⟨v1, h2, hf⟩ := bnd hf
  refine Wp.iincN (pc := 35) (lo' := [(0, .ref x0), (2, .int x2), (3, .int x3), (4, .int v1)]) (1 : Int32) (by decide) h2 3 rfl [1, 2, 3, 0] rfl (by decide) dX12_fits_35 ?_
  refine Wp.goto (pc := 38) 10 dX12_fits_38 (by decide) ?_
  cases hf
  exact hk
set_option maxHeartbeats 4000000 in
set_option maxRecDepth 100000 in
theorem w_X12_fits_10 {X : CX} {T : List Dsc} {n1 n2 : Nat} {x0 : Nat} {x2 : Int32} {x3 : Int32} {x4 : Int32} {μ : Mem} {r : ((Int32 × Int32 × Mem) ⊕ ((Int32 × Mem)))} (hX : XR X 9 n1 n2) (hx0 : T[x0]? = some (.inl 11)) (hf : f_X12_fits_10 T x0 x2 x3 x4 μ = some r) (hk : k_X12_fits_10 X T n1 n2 x0 x2 r) : Wp X cX12_fits RX12 7 T μ n1 n2 10 [(0, .ref x0), (2, .int x2), (3, .int x3), (4, .int x4)] [] := by
  unfold f_X12_fits_10 at hf
  refine Wp.iload (pc := 10) 3 rfl dX12_fits_10 ?_
  refine Wp.iload_n (pc := 12) 1 rfl rfl dX12_fits_12 ?_
  refine Wp.icmp_ge (pc := 13) 41 dX12_fits_13 (by decide) (fun hc1 => ?_) (fun hc1 => ?_)
  · rw [if_pos hc1] at hf
    refine Wp.lo' (lo' := [(0, .ref x0), (2, .int x2), (3, .int x3)]) [0, 1, 2] rfl ?_
    cases hf
    exact hk
  · rw [if_neg hc1] at hf
    refine Wp.aload_n (pc := 16) 0 rfl rfl dX12_fits_16 ?_
    obtain ⟨a2, h3, hf⟩ := bnd hf
    refine Wp.getR (pc := 17) (gA_R h3) hx0 fk_RX12_176 rfl dX12_fits_17 ?_
    refine Wp.iload (pc := 20) 3 rfl dX12_fits_20 ?_
    obtain ⟨v4, h5, hf⟩ := bnd hf
    refine Wp.iald (pc := 22) h5 (gA_T h3) dX12_fits_22 ?_
    refine Wp.iload_n (pc := 23) 2 rfl rfl dX12_fits_23 ?_
    refine Wp.icmp_le (pc := 24) 35 dX12_fits_24 (by decide) (fun hc6 => ?_) (fun hc6 => ?_)
    · rw [if_pos hc6] at hf
      exact w_X12_fits_35 hX hx0 hf hk
    · rw [if_neg hc6] at hf
      refine Wp.aload_n (pc := 27) 0 rfl rfl dX12_fits_27 ?_
      obtain ⟨a7, h8, hf⟩ := bnd hf
      refine Wp.getR (pc := 28) (gA_R h8) hx0 fk_RX12_176 rfl dX12_fits_28 ?_
      refine Wp.iload (pc := 31) 3 rfl dX12_fits_31 ?_
      obtain ⟨v9, h10, hf⟩ := bnd hf
      refine Wp.iald (pc := 33) h10 (gA_T h8) dX12_fits_33 ?_
      refine Wp.istore_n (pc := 34) (lo' := [(0, .ref x0), (2, .int x2), (3, .int v9), (4, .int x4)]) [1, 2, 0, 3] rfl (by decide) rfl dX12_fits_34 ?_
      exact w_X12_fits_35 hX hx0 hf hk
theorem wl_X12_fits_10 {X : CX} {T : List Dsc} {n1 n2 : Nat} {x0 : Nat} {x2 : Int32} {x3 : Int32} {x4 : Int32} {μ : Mem} {e : ((Int32 × Mem))} (hX : XR X 9 n1 n2) (hx0 : T[x0]? = some (.inl 11)) (h : loop (g_X12_fits_10 T x0 x2) (x3, x4, μ) = some e) (he : Wp X cX12_fits RX12 7 T e.2 n1 n2 41 [(0, .ref x0), (2, .int x2), (3, .int e.1)] []) : Wp X cX12_fits RX12 7 T μ n1 n2 10 [(0, .ref x0), (2, .int x2), (3, .int x3), (4, .int x4)] [] :=
  loop_ok (K := k_X12_fits_10 X T n1 n2 x0 x2) (fun s r hf hk => w_X12_fits_10 hX hx0 hf hk) h he
set_option maxHeartbeats 4000000 in
set_option maxRecDepth 100000 in
theorem w_X12_fits_110 {X : CX} {T : List Dsc} {n1 n2 : Nat} {x0 : Nat} {x2 : Int32} {x3 : Int32} {x4 : Int32} {x5 : Int32} {x6 : Int32} {μ : Mem} {r : ((Int32 × Mem) ⊕ ((Mem) ⊕ (Mem)))} (hX : XR X 9 n1 n2) (hx0 : T[x0]? = some (.inl 11)) (hf : f_X12_fits_110 T x0 x2 x3 x4 x5 x6 μ = some r) (hk : k_X12_fits_59 X T n1 n2 x0 x2 x3 x4 x5 r) : Wp X cX12_fits RX12 7 T μ n1 n2 110 [(0, .ref x0), (2, .int x2), (3, .int x3), (4, .int x4), (5, .int x5), (6, .int x6)] [] := by
  unfold f_X12_fits_110 at hf
  obtain ⟨v1, h2, hf⟩ := bnd hf
  refine Wp.iincN (pc := 110) (lo' := [(0, .ref x0), (2, .int x2), (3, .int x3), (4, .int x4), (5, .int x5), (6, .int v1)]) (1 : Int32) (by decide) h2 5 rfl [1, 2, 3, 4, 5, 0] rfl (by decide) dX12_fits_110 ?_
  refine Wp.goto (pc := 113) 59 dX12_fits_113 (by decide) ?_
  cases hf
  exact hk
set_option maxHeartbeats 4000000 in
set_option maxRecDepth 100000 in
theorem w_X12_fits_98 {X : CX} {T : List Dsc} {n1 n2 : Nat} {x0 : Nat} {x2 : Int32} {x3 : Int32} {x4 : Int32} {x5 : Int32} {x6 : Int32} {s0 : Int32} {μ : Mem} {r : ((Int32 × Mem) ⊕ ((Mem) ⊕ (Mem)))} (hX : XR X 9 n1 n2) (hx0 : T[x0]? = some (.inl 11)) (hf : f_X12_fits_98 T x0 x2 x3 x4 x5 x6 s0 μ = some r) (hk : k_X12_fits_59 X T n1 n2 x0 x2 x3 x4 x5 r) : Wp X cX12_fits RX12 7 T μ n1 n2 98 [(0, .ref x0), (2, .int x2), (3, .int x3), (4, .int x4), (5, .int x5), (6, .int x6)] [.int s0] := by
  unfold f_X12_fits_98 at hf
  refine Wp.aload_n (pc := 98) 0 rfl rfl dX12_fits_98 ?_
  obtain ⟨a1, h2, hf⟩ := bnd hf
  refine Wp.getR (pc := 99) (gA_R h2) hx0 fk_RX12_182 rfl dX12_fits_99 ?_
  refine Wp.iload (pc := 102) 5 rfl dX12_fits_102 ?_
  obtain ⟨v3, h4, hf⟩ := bnd hf
  refine Wp.zald (pc := 104) h4 (gA_T h2) dX12_fits_104 ?_
  refine Wp.icmp_eq (pc := 105) 110 dX12_fits_105 (by decide) (fun hc5 => ?_) (fun hc5 => ?_)
  · rw [if_pos hc5] at hf
    exact w_X12_fits_110 hX hx0 hf hk
  · rw [if_neg hc5] at hf
    refine Wp.lo' (lo' := []) [] rfl ?_
    cases hf
    exact hk
set_option maxHeartbeats 4000000 in
set_option maxRecDepth 100000 in
theorem w_X12_fits_59 {X : CX} {T : List Dsc} {n1 n2 : Nat} {x0 : Nat} {x2 : Int32} {x3 : Int32} {x4 : Int32} {x5 : Int32} {x6 : Int32} {μ : Mem} {r : ((Int32 × Mem) ⊕ ((Mem) ⊕ (Mem)))} (hX : XR X 9 n1 n2) (hx0 : T[x0]? = some (.inl 11)) (hf : f_X12_fits_59 T x0 x2 x3 x4 x5 x6 μ = some r) (hk : k_X12_fits_59 X T n1 n2 x0 x2 x3 x4 x5 r) : Wp X cX12_fits RX12 7 T μ n1 n2 59 [(0, .ref x0), (2, .int x2), (3, .int x3), (4, .int x4), (5, .int x5), (6, .int x6)] [] := by
  unfold f_X12_fits_59 at hf
  refine Wp.iload (pc := 59) 5 rfl dX12_fits_59 ?_
  refine Wp.iload_n (pc := 61) 1 rfl rfl dX12_fits_61 ?_
  refine Wp.icmp_ge (pc := 62) 116 dX12_fits_62 (by decide) (fun hc1 => ?_) (fun hc1 => ?_)
  · rw [if_pos hc1] at hf
    refine Wp.lo' (lo' := [(0, .ref x0), (2, .int x2), (3, .int x3), (4, .int x4)]) [0, 1, 2, 3] rfl ?_
    cases hf
    exact hk
  · rw [if_neg hc1] at hf
    refine Wp.aload_n (pc := 65) 0 rfl rfl dX12_fits_65 ?_
    obtain ⟨a2, h3, hf⟩ := bnd hf
    refine Wp.getR (pc := 66) (gA_R h3) hx0 fk_RX12_176 rfl dX12_fits_66 ?_
    refine Wp.iload (pc := 69) 5 rfl dX12_fits_69 ?_
    obtain ⟨v4, h5, hf⟩ := bnd hf
    refine Wp.iald (pc := 71) h5 (gA_T h3) dX12_fits_71 ?_
    refine Wp.iload (pc := 72) 3 rfl dX12_fits_72 ?_
    refine Wp.icmp_ne (pc := 74) 110 dX12_fits_74 (by decide) (fun hc6 => ?_) (fun hc6 => ?_)
    · rw [if_neg hc6] at hf
      exact w_X12_fits_110 hX hx0 hf hk
    · rw [if_pos hc6] at hf
      refine Wp.iload (pc := 77) 4 rfl dX12_fits_77 ?_
      refine Wp.aload_n (pc := 79) 0 rfl rfl dX12_fits_79 ?_
      obtain ⟨a7, h8, hf⟩ := bnd hf
      refine Wp.getR (pc := 80) (gA_R h8) hx0 fk_RX12_179 rfl dX12_fits_80 ?_
      refine Wp.iload (pc := 83) 5 rfl dX12_fits_83 ?_
      obtain ⟨v9, h10, hf⟩ := bnd hf
      refine Wp.iald (pc := 85) h10 (gA_T h8) dX12_fits_85 ?_
      refine Wp.ishr (pc := 86) dX12_fits_86 ?_
      refine Wp.iconst (pc := 87) (1 : Int32) (by decide) dX12_fits_87 ?_
      refine Wp.iand (pc := 88) dX12_fits_88 ?_
      refine Wp.iconst (pc := 89) (1 : Int32) (by decide) dX12_fits_89 ?_
      refine Wp.icmp_ne (pc := 90) 97 dX12_fits_90 (by decide) (fun hc11 => ?_) (fun hc11 => ?_)
      · rw [if_neg hc11] at hf
        refine Wp.iconst (pc := 97) (0 : Int32) (by decide) dX12_fits_97 ?_
        exact w_X12_fits_98 hX hx0 hf hk
      · rw [if_pos hc11] at hf
        refine Wp.iconst (pc := 93) (1 : Int32) (by decide) dX12_fits_93 ?_
        refine Wp.goto (pc := 94) 98 dX12_fits_94 (by decide) ?_
        exact w_X12_fits_98 hX hx0 hf hk
theorem wl_X12_fits_59 {X : CX} {T : List Dsc} {n1 n2 : Nat} {x0 : Nat} {x2 : Int32} {x3 : Int32} {x4 : Int32} {x5 : Int32} {x6 : Int32} {μ : Mem} {e : ((Mem) ⊕ (Mem))} (hX : XR X 9 n1 n2) (hx0 : T[x0]? = some (.inl 11)) (h : loop (g_X12_fits_59 T x0 x2 x3 x4 x5) (x6, μ) = some e) (he0 : ∀ e_, e = (Sum.inl e_) → Wp X cX12_fits RX12 7 T e_ n1 n2 108 [] []) (he1 : ∀ e_, e = (Sum.inr e_) → Wp X cX12_fits RX12 7 T e_ n1 n2 116 [(0, .ref x0), (2, .int x2), (3, .int x3), (4, .int x4)] []) : Wp X cX12_fits RX12 7 T μ n1 n2 59 [(0, .ref x0), (2, .int x2), (3, .int x3), (4, .int x4), (5, .int x5), (6, .int x6)] [] :=
  loop_ok (K := k_X12_fits_59 X T n1 n2 x0 x2 x3 x4 x5) (fun s r hf hk => w_X12_fits_59 hX hx0 hf hk) h (by rcases e with e | e <;> first | exact he0 _ rfl | exact he1 _ rfl)
set_option maxHeartbeats 4000000 in
set_option maxRecDepth 100000 in
theorem w_X12_fits_44 {X : CX} {T : List Dsc} {n1 n2 : Nat} {x0 : Nat} {x2 : Int32} {x3 : Int32} {x4 : Int32} {μ : Mem} {r : ((Int32 × Mem) ⊕ ((Mem) ⊕ (Mem)))} (hX : XR X 9 n1 n2) (hx0 : T[x0]? = some (.inl 11)) (hf : f_X12_fits_44 T x0 x2 x3 x4 μ = some r) (hk : k_X12_fits_44 X T n1 n2 x0 x2 x3 r) : Wp X cX12_fits RX12 7 T μ n1 n2 44 [(0, .ref x0), (2, .int x2), (3, .int x3), (4, .int x4)] [] := by
  unfold f_X12_fits_44 at hf
  refine Wp.iload (pc := 44) 3 rfl dX12_fits_44 ?_
  refine Wp.iload_n (pc := 46) 2 rfl rfl dX12_fits_46 ?_
  refine Wp.icmp_gt (pc := 47) 132 dX12_fits_47 (by decide) (fun hc1 => ?_) (fun hc1 => ?_)
  · rw [if_pos hc1] at hf
    refine Wp.lo' (lo' := []) [] rfl ?_
    cases hf
    exact hk
  · rw [if_neg hc1] at hf
    refine Wp.aload_n (pc := 50) 0 rfl rfl dX12_fits_50 ?_
    obtain ⟨c2, h3, hf⟩ := bnd hf
    refine Wp.callVi (pc := 51) (st := []) (as := []) (c_X12_clashesNow hx0 h3) ml_RX12_453 mv_X12_clashesNow mb_X12_clashesNow hX (Nat.le_of_ble_eq_true rfl) (by decide) rfl hx0 rfl (by simp) dX12_fits_51 rfl ?_
    refine Wp.istore (pc := 54) (lo' := [(0, .ref x0), (2, .int x2), (3, .int x3), (4, .int x4), (5, .int c2.1)]) [1, 2, 3, 4, 0] rfl (by decide) dX12_fits_54 ?_
    refine Wp.iconst (pc := 56) (0 : Int32) (by decide) dX12_fits_56 ?_
    refine Wp.istore (pc := 57) (lo' := [(0, .ref x0), (2, .int x2), (3, .int x3), (4, .int x4), (5, .int c2.1), (6, .int (0 : Int32))]) [1, 2, 3, 4, 5, 0] rfl (by decide) dX12_fits_57 ?_
    obtain ⟨e4, h5, hf⟩ := bnd hf
    refine wl_X12_fits_59 hX hx0 h5 (fun e4_0 hq => ?_) (fun e4_1 hq => ?_)
    · rw [hq, Sum.elim_inl] at hf
      cases hf
      exact hk
    · rw [hq, Sum.elim_inr] at hf
      refine Wp.aload_n (pc := 116) 0 rfl rfl dX12_fits_116 ?_
      refine Wp.aload_n (pc := 117) 0 rfl rfl dX12_fits_117 ?_
      refine Wp.iload (pc := 118) 3 rfl dX12_fits_118 ?_
      obtain ⟨c6, h7, hf⟩ := bnd hf
      refine Wp.callVi (pc := 120) (st := [.ref x0]) (as := [.int x4]) (c_X12_isFog hx0 h7) ml_RX12_447 mv_X12_isFog mb_X12_isFog hX (Nat.le_of_ble_eq_true rfl) (by decide) rfl hx0 rfl (by simp [Value.category]) dX12_fits_120 rfl ?_
      obtain ⟨c8, h9, hf⟩ := bnd hf
      refine Wp.callVv (pc := 123) (st := []) (as := [.int c6.1]) (c_X12_strikes hx0 h9) ml_RX12_450 mv_X12_strikes mb_X12_strikes hX (Nat.le_of_ble_eq_true rfl) (by decide) rfl hx0 rfl (by simp) dX12_fits_123 rfl ?_
      obtain ⟨v10, h11, hf⟩ := bnd hf
      refine Wp.iincN (pc := 126) (lo' := [(0, .ref x0), (2, .int x2), (3, .int x3), (4, .int v10)]) (1 : Int32) (by decide) h11 3 rfl [1, 2, 3, 0] rfl (by decide) dX12_fits_126 ?_
      refine Wp.goto (pc := 129) 44 dX12_fits_129 (by decide) ?_
      cases hf
      exact hk
theorem wl_X12_fits_44 {X : CX} {T : List Dsc} {n1 n2 : Nat} {x0 : Nat} {x2 : Int32} {x3 : Int32} {x4 : Int32} {μ : Mem} {e : ((Mem) ⊕ (Mem))} (hX : XR X 9 n1 n2) (hx0 : T[x0]? = some (.inl 11)) (h : loop (g_X12_fits_44 T x0 x2 x3) (x4, μ) = some e) (he0 : ∀ e_, e = (Sum.inl e_) → Wp X cX12_fits RX12 7 T e_ n1 n2 108 [] []) (he1 : ∀ e_, e = (Sum.inr e_) → Wp X cX12_fits RX12 7 T e_ n1 n2 132 [] []) : Wp X cX12_fits RX12 7 T μ n1 n2 44 [(0, .ref x0), (2, .int x2), (3, .int x3), (4, .int x4)] [] :=
  loop_ok (K := k_X12_fits_44 X T n1 n2 x0 x2 x3) (fun s r hf hk => w_X12_fits_44 hX hx0 hf hk) h (by rcases e with e | e <;> first | exact he0 _ rfl | exact he1 _ rfl)
set_option maxHeartbeats 4000000 in
set_option maxRecDepth 100000 in
theorem w_X12_fits {X : CX} {T : List Dsc} {n1 n2 : Nat} {x0 : Nat} {x1 : Int32} {x2 : Int32} {μ : Mem} {r : (Int32 × Mem)} (hX : XR X 9 n1 n2) (hx0 : T[x0]? = some (.inl 11)) (hf : F_X12_fits T x0 x1 x2 μ = some r) (hk : FnZ X cX12_fits RX12 7 T n1 n2 r) : Wp X cX12_fits RX12 7 T μ n1 n2 0 [(0, .ref x0), (1, .int x1), (2, .int x2)] [] := by
  unfold F_X12_fits at hf
  refine Wp.aload_n (pc := 0) 0 rfl rfl dX12_fits_0 ?_
  refine Wp.iload_n (pc := 1) 1 rfl rfl dX12_fits_1 ?_
  obtain ⟨c1, h2, hf⟩ := bnd hf
  refine Wp.callVv (pc := 2) (st := []) (as := [.int x1]) (c_X12_breaks hx0 h2) ml_RX12_503 mv_X12_breaks mb_X12_breaks hX (Nat.le_of_ble_eq_true rfl) (by decide) rfl hx0 rfl (by simp) dX12_fits_2 rfl ?_
  refine Wp.iconst (pc := 5) (-1 : Int32) (by decide) dX12_fits_5 ?_
  refine Wp.istore_n (pc := 6) (lo' := [(0, .ref x0), (2, .int x2), (3, .int (-1 : Int32))]) [1, 3, 0] rfl (by decide) rfl dX12_fits_6 ?_
  refine Wp.iconst (pc := 7) (0 : Int32) (by decide) dX12_fits_7 ?_
  refine Wp.istore (pc := 8) (lo' := [(0, .ref x0), (2, .int x2), (3, .int (-1 : Int32)), (4, .int (0 : Int32))]) [1, 2, 3, 0] rfl (by decide) dX12_fits_8 ?_
  obtain ⟨e3, h4, hf⟩ := bnd hf
  refine wl_X12_fits_10 hX hx0 h4 ?_
  refine Wp.iconst (pc := 41) (0 : Int32) (by decide) dX12_fits_41 ?_
  refine Wp.istore (pc := 42) (lo' := [(0, .ref x0), (2, .int x2), (3, .int e3.1), (4, .int (0 : Int32))]) [1, 2, 3, 0] rfl (by decide) dX12_fits_42 ?_
  obtain ⟨e5, h6, hf⟩ := bnd hf
  refine wl_X12_fits_44 hX hx0 h6 (fun e5_0 hq => ?_) (fun e5_1 hq => ?_)
  · rw [hq, Sum.elim_inl] at hf
    refine Wp.iconst (pc := 108) (0 : Int32) (by decide) dX12_fits_108 ?_
    cases hf
    exact hk _ _ (Or.inl rfl) dX12_fits_109
  · rw [hq, Sum.elim_inr] at hf
    refine Wp.iconst (pc := 132) (1 : Int32) (by decide) dX12_fits_132 ?_
    cases hf
    exact hk _ _ (Or.inr rfl) dX12_fits_133
theorem c_X12_fits {T : List Dsc} {x0 : Nat} {x1 : Int32} {x2 : Int32} {μ : Mem} {r : (Int32 × Mem)} (hx0 : T[x0]? = some (.inl 11)) (hf : F_X12_fits T x0 x1 x2 μ = some r) : Ct 9 yX12_fits cX12_fits 7 (some .boolean) T μ [.ref x0, .int x1, .int x2] (some (.int r.1)) r.2 := Ct.ofZ (by decide +kernel) (Nat.le_of_ble_eq_true rfl) (fun X hX hk => w_X12_fits hX hx0 hf hk)
theorem dX12_canSuspect_0 : decode cX12_canSuspect 0 = .ok (.iload_n 1, 1) := by decide +kernel
theorem dX12_canSuspect_1 : decode cX12_canSuspect 1 = .ok (.iconst 0, 1) := by decide +kernel
theorem dX12_canSuspect_2 : decode cX12_canSuspect 2 = .ok (.iconst 2, 1) := by decide +kernel
theorem dX12_canSuspect_3 : decode cX12_canSuspect 3 = .ok (.invokestatic 414, 3) := by decide +kernel
theorem dX12_canSuspect_6 : decode cX12_canSuspect 6 = .ok (.ifCond .eq 19, 3) := by decide +kernel
theorem dX12_canSuspect_9 : decode cX12_canSuspect 9 = .ok (.iload_n 2, 1) := by decide +kernel
theorem dX12_canSuspect_10 : decode cX12_canSuspect 10 = .ok (.iconst 0, 1) := by decide +kernel
theorem dX12_canSuspect_11 : decode cX12_canSuspect 11 = .ok (.aload_n 0, 1) := by decide +kernel
theorem dX12_canSuspect_12 : decode cX12_canSuspect 12 = .ok (.getfield 314, 3) := by decide +kernel
theorem dX12_canSuspect_15 : decode cX12_canSuspect 15 = .ok (.invokestatic 414, 3) := by decide +kernel
theorem dX12_canSuspect_18 : decode cX12_canSuspect 18 = .ok (.ifCond .eq 7, 3) := by decide +kernel
theorem dX12_canSuspect_21 : decode cX12_canSuspect 21 = .ok (.iconst 1, 1) := by decide +kernel
theorem dX12_canSuspect_22 : decode cX12_canSuspect 22 = .ok (.goto 4, 3) := by decide +kernel
theorem dX12_canSuspect_25 : decode cX12_canSuspect 25 = .ok (.iconst 0, 1) := by decide +kernel
theorem dX12_canSuspect_26 : decode cX12_canSuspect 26 = .ok (.ireturn, 1) := by decide +kernel
set_option maxHeartbeats 4000000 in
set_option maxRecDepth 100000 in
theorem w_X12_canSuspect_26 {X : CX} {T : List Dsc} {n1 n2 : Nat} {s0 : Int32} {μ : Mem} {r : (Int32 × Mem)} (hX : XR X 2 n1 n2) (hf : f_X12_canSuspect_26 T s0 μ = some r) (hk : FnZ X cX12_canSuspect RX12 3 T n1 n2 r) : Wp X cX12_canSuspect RX12 3 T μ n1 n2 26 [] [.int s0] := by
  unfold f_X12_canSuspect_26 at hf
  obtain ⟨v1, h2, hf⟩ := bnd hf
  refine Wp.zb' h2 (fun h2 => ?_)
  cases hf
  exact hk _ _ h2 dX12_canSuspect_26
set_option maxHeartbeats 4000000 in
set_option maxRecDepth 100000 in
theorem w_X12_canSuspect_25 {X : CX} {T : List Dsc} {n1 n2 : Nat} {μ : Mem} {r : (Int32 × Mem)} (hX : XR X 2 n1 n2) (hf : f_X12_canSuspect_25 T μ = some r) (hk : FnZ X cX12_canSuspect RX12 3 T n1 n2 r) : Wp X cX12_canSuspect RX12 3 T μ n1 n2 25 [] [] := by
  unfold f_X12_canSuspect_25 at hf
  refine Wp.iconst (pc := 25) (0 : Int32) (by decide) dX12_canSuspect_25 ?_
  exact w_X12_canSuspect_26 hX hf hk
set_option maxHeartbeats 4000000 in
set_option maxRecDepth 100000 in
theorem w_X12_canSuspect {X : CX} {T : List Dsc} {n1 n2 : Nat} {x0 : Nat} {x1 : Int32} {x2 : Int32} {μ : Mem} {r : (Int32 × Mem)} (hX : XR X 2 n1 n2) (hx0 : T[x0]? = some (.inl 11)) (hf : F_X12_canSuspect T x0 x1 x2 μ = some r) (hk : FnZ X cX12_canSuspect RX12 3 T n1 n2 r) : Wp X cX12_canSuspect RX12 3 T μ n1 n2 0 [(0, .ref x0), (1, .int x1), (2, .int x2)] [] := by
  unfold F_X12_canSuspect at hf
  refine Wp.iload_n (pc := 0) 1 rfl rfl dX12_canSuspect_0 ?_
  refine Wp.iconst (pc := 1) (0 : Int32) (by decide) dX12_canSuspect_1 ?_
  refine Wp.iconst (pc := 2) (2 : Int32) (by decide) dX12_canSuspect_2 ?_
  obtain ⟨c1, h2, hf⟩ := bnd hf
  refine Wp.callSi (pc := 3) (st := []) (as := [.int x1, .int (0 : Int32), .int (2 : Int32)]) (c_X12_in h2) ml_RX12_414 ms_X12_in mb_X12_in hX (Nat.le_of_ble_eq_true rfl) (by decide) rfl (by simp) dX12_canSuspect_3 rfl ?_
  refine Wp.if_eq (pc := 6) 25 dX12_canSuspect_6 (by decide) (fun hc3 => ?_) (fun hc3 => ?_)
  · rw [if_pos hc3] at hf
    refine Wp.lo' (lo' := []) [] rfl ?_
    exact w_X12_canSuspect_25 hX hf hk
  · rw [if_neg hc3] at hf
    refine Wp.iload_n (pc := 9) 2 rfl rfl dX12_canSuspect_9 ?_
    refine Wp.iconst (pc := 10) (0 : Int32) (by decide) dX12_canSuspect_10 ?_
    refine Wp.aload_n (pc := 11) 0 rfl rfl dX12_canSuspect_11 ?_
    refine Wp.getI (pc := 12) hx0 fk_RX12_314 rfl dX12_canSuspect_12 ?_
    obtain ⟨c4, h5, hf⟩ := bnd hf
    refine Wp.callSi (pc := 15) (st := []) (as := [.int x2, .int (0 : Int32), .int (gI c1.2 x0 79)]) (c_X12_in h5) ml_RX12_414 ms_X12_in mb_X12_in hX (Nat.le_of_ble_eq_true rfl) (by decide) rfl (by simp) dX12_canSuspect_15 rfl ?_
    refine Wp.if_eq (pc := 18) 25 dX12_canSuspect_18 (by decide) (fun hc6 => ?_) (fun hc6 => ?_)
    · rw [if_pos hc6] at hf
      refine Wp.lo' (lo' := []) [] rfl ?_
      exact w_X12_canSuspect_25 hX hf hk
    · rw [if_neg hc6] at hf
      refine Wp.iconst (pc := 21) (1 : Int32) (by decide) dX12_canSuspect_21 ?_
      refine Wp.goto (pc := 22) 26 dX12_canSuspect_22 (by decide) ?_
      refine Wp.lo' (lo' := []) [] rfl ?_
      exact w_X12_canSuspect_26 hX hf hk
theorem c_X12_canSuspect {T : List Dsc} {x0 : Nat} {x1 : Int32} {x2 : Int32} {μ : Mem} {r : (Int32 × Mem)} (hx0 : T[x0]? = some (.inl 11)) (hf : F_X12_canSuspect T x0 x1 x2 μ = some r) : Ct 2 yX12_canSuspect cX12_canSuspect 3 (some .boolean) T μ [.ref x0, .int x1, .int x2] (some (.int r.1)) r.2 := Ct.ofZ (by decide +kernel) (Nat.le_of_ble_eq_true rfl) (fun X hX hk => w_X12_canSuspect hX hx0 hf hk)
theorem dX12_fillSuspects_0 : decode cX12_fillSuspects 0 = .ok (.aload_n 0, 1) := by decide +kernel
theorem dX12_fillSuspects_1 : decode cX12_fillSuspects 1 = .ok (.iconst 0, 1) := by decide +kernel
theorem dX12_fillSuspects_2 : decode cX12_fillSuspects 2 = .ok (.putfield 506, 3) := by decide +kernel
theorem dX12_fillSuspects_5 : decode cX12_fillSuspects 5 = .ok (.iconst 0, 1) := by decide +kernel
theorem dX12_fillSuspects_6 : decode cX12_fillSuspects 6 = .ok (.istore_n 3, 1) := by decide +kernel
theorem dX12_fillSuspects_7 : decode cX12_fillSuspects 7 = .ok (.iload_n 3, 1) := by decide +kernel
theorem dX12_fillSuspects_8 : decode cX12_fillSuspects 8 = .ok (.iconst 1, 1) := by decide +kernel
theorem dX12_fillSuspects_9 : decode cX12_fillSuspects 9 = .ok (.aload_n 0, 1) := by decide +kernel
theorem dX12_fillSuspects_10 : decode cX12_fillSuspects 10 = .ok (.invokevirtual 390, 3) := by decide +kernel
theorem dX12_fillSuspects_13 : decode cX12_fillSuspects 13 = .ok (.ishl, 1) := by decide +kernel
theorem dX12_fillSuspects_14 : decode cX12_fillSuspects 14 = .ok (.if_icmp .ge 52, 3) := by decide +kernel
theorem dX12_fillSuspects_17 : decode cX12_fillSuspects 17 = .ok (.aload_n 0, 1) := by decide +kernel
theorem dX12_fillSuspects_18 : decode cX12_fillSuspects 18 = .ok (.iload_n 3, 1) := by decide +kernel
theorem dX12_fillSuspects_19 : decode cX12_fillSuspects 19 = .ok (.bipush 12, 2) := by decide +kernel
theorem dX12_fillSuspects_21 : decode cX12_fillSuspects 21 = .ok (.invokevirtual 472, 3) := by decide +kernel
theorem dX12_fillSuspects_24 : decode cX12_fillSuspects 24 = .ok (.iload_n 1, 1) := by decide +kernel
theorem dX12_fillSuspects_25 : decode cX12_fillSuspects 25 = .ok (.if_icmp .ne 35, 3) := by decide +kernel
theorem dX12_fillSuspects_28 : decode cX12_fillSuspects 28 = .ok (.aload_n 0, 1) := by decide +kernel
theorem dX12_fillSuspects_29 : decode cX12_fillSuspects 29 = .ok (.iload_n 3, 1) := by decide +kernel
theorem dX12_fillSuspects_30 : decode cX12_fillSuspects 30 = .ok (.iload_n 2, 1) := by decide +kernel
theorem dX12_fillSuspects_31 : decode cX12_fillSuspects 31 = .ok (.invokevirtual 509, 3) := by decide +kernel
theorem dX12_fillSuspects_34 : decode cX12_fillSuspects 34 = .ok (.ifCond .ne 6, 3) := by decide +kernel
theorem dX12_fillSuspects_37 : decode cX12_fillSuspects 37 = .ok (.goto 23, 3) := by decide +kernel
theorem dX12_fillSuspects_40 : decode cX12_fillSuspects 40 = .ok (.aload_n 0, 1) := by decide +kernel
theorem dX12_fillSuspects_41 : decode cX12_fillSuspects 41 = .ok (.getfield 185, 3) := by decide +kernel
theorem dX12_fillSuspects_44 : decode cX12_fillSuspects 44 = .ok (.aload_n 0, 1) := by decide +kernel
theorem dX12_fillSuspects_45 : decode cX12_fillSuspects 45 = .ok (.getfield 506, 3) := by decide +kernel
theorem dX12_fillSuspects_48 : decode cX12_fillSuspects 48 = .ok (.iload_n 3, 1) := by decide +kernel
theorem dX12_fillSuspects_49 : decode cX12_fillSuspects 49 = .ok (.iastore, 1) := by decide +kernel
theorem dX12_fillSuspects_50 : decode cX12_fillSuspects 50 = .ok (.aload_n 0, 1) := by decide +kernel
theorem dX12_fillSuspects_51 : decode cX12_fillSuspects 51 = .ok (.dup, 1) := by decide +kernel
theorem dX12_fillSuspects_52 : decode cX12_fillSuspects 52 = .ok (.getfield 506, 3) := by decide +kernel
theorem dX12_fillSuspects_55 : decode cX12_fillSuspects 55 = .ok (.iconst 1, 1) := by decide +kernel
theorem dX12_fillSuspects_56 : decode cX12_fillSuspects 56 = .ok (.iadd, 1) := by decide +kernel
theorem dX12_fillSuspects_57 : decode cX12_fillSuspects 57 = .ok (.putfield 506, 3) := by decide +kernel
theorem dX12_fillSuspects_60 : decode cX12_fillSuspects 60 = .ok (.iinc 3 1, 3) := by decide +kernel
theorem dX12_fillSuspects_63 : decode cX12_fillSuspects 63 = .ok (.goto (-56), 3) := by decide +kernel
theorem dX12_fillSuspects_66 : decode cX12_fillSuspects 66 = .ok (.return_, 1) := by decide +kernel
def k_X12_fillSuspects_7 (X : CX) (T : List Dsc) (n1 n2 : Nat) (x0 : Nat) (x1 : Int32) (x2 : Int32) (r : ((Int32 × Mem) ⊕ ((Mem)))) : Prop := match r with
  | .inl s => Wp X cX12_fillSuspects RX12 4 T s.2 n1 n2 7 [(0, .ref x0), (1, .int x1), (2, .int x2), (3, .int s.1)] []
  | .inr e => Wp X cX12_fillSuspects RX12 4 T e n1 n2 66 [] []
set_option maxHeartbeats 4000000 in
set_option maxRecDepth 100000 in
theorem w_X12_fillSuspects_60 {X : CX} {T : List Dsc} {n1 n2 : Nat} {x0 : Nat} {x1 : Int32} {x2 : Int32} {x3 : Int32} {μ : Mem} {r : ((Int32 × Mem) ⊕ ((Mem)))} (hX : XR X 10 n1 n2) (hx0 : T[x0]? = some (.inl 11)) (hf : f_X12_fillSuspects_60 T x0 x1 x2 x3 μ = some r) (hk : k_X12_fillSuspects_7 X T n1 n2 x0 x1 x2 r) : Wp X cX12_fillSuspects RX12 4 T μ n1 n2 60 [(0, .ref x0), (1, .int x1), (2, .int x2), (3, .int x3)] [] := by
  unfold f_X12_fillSuspects_60 at hf
  obtain ⟨v1, h2, hf⟩ := bnd hf
  refine Wp.iincN (pc := 60) (lo' := [(0, .ref x0), (1, .int x1), (2, .int x2), (3, .int v1)]) (1 : Int32) (by decide) h2 3 rfl [1, 2, 3, 0] rfl (by decide) dX12_fillSuspects_60 ?_
  refine Wp.goto (pc := 63) 7 dX12_fillSuspects_63 (by decide) ?_
  cases hf
  exact hk
set_option maxHeartbeats 4000000 in
set_option maxRecDepth 100000 in
theorem w_X12_fillSuspects_7 {X : CX} {T : List Dsc} {n1 n2 : Nat} {x0 : Nat} {x1 : Int32} {x2 : Int32} {x3 : Int32} {μ : Mem} {r : ((Int32 × Mem) ⊕ ((Mem)))} (hX : XR X 10 n1 n2) (hx0 : T[x0]? = some (.inl 11)) (hf : f_X12_fillSuspects_7 T x0 x1 x2 x3 μ = some r) (hk : k_X12_fillSuspects_7 X T n1 n2 x0 x1 x2 r) : Wp X cX12_fillSuspects RX12 4 T μ n1 n2 7 [(0, .ref x0), (1, .int x1), (2, .int x2), (3, .int x3)] [] := by
  unfold f_X12_fillSuspects_7 at hf
  refine Wp.iload_n (pc := 7) 3 rfl rfl dX12_fillSuspects_7 ?_
  refine Wp.iconst (pc := 8) (1 : Int32) (by decide) dX12_fillSuspects_8 ?_
  refine Wp.aload_n (pc := 9) 0 rfl rfl dX12_fillSuspects_9 ?_
  obtain ⟨c1, h2, hf⟩ := bnd hf
  refine Wp.callVi (pc := 10) (st := [.int (1 : Int32), .int x3]) (as := []) (c_X12_menNow hx0 h2) ml_RX12_390 mv_X12_menNow mb_X12_menNow hX (Nat.le_of_ble_eq_true rfl) (by decide) rfl hx0 rfl (by simp [Value.category]) dX12_fillSuspects_10 rfl ?_
  refine Wp.ishl (pc := 13) dX12_fillSuspects_13 ?_
  refine Wp.icmp_ge (pc := 14) 66 dX12_fillSuspects_14 (by decide) (fun hc3 => ?_) (fun hc3 => ?_)
  · rw [if_pos hc3] at hf
    refine Wp.lo' (lo' := []) [] rfl ?_
    cases hf
    exact hk
  · rw [if_neg hc3] at hf
    refine Wp.aload_n (pc := 17) 0 rfl rfl dX12_fillSuspects_17 ?_
    refine Wp.iload_n (pc := 18) 3 rfl rfl dX12_fillSuspects_18 ?_
    refine Wp.bipush (pc := 19) (12 : Int32) (by decide) dX12_fillSuspects_19 ?_
    obtain ⟨c4, h5, hf⟩ := bnd hf
    refine Wp.callVi (pc := 21) (st := []) (as := [.int x3, .int (12 : Int32)]) (c_X12_bits hx0 h5) ml_RX12_472 mv_X12_bits mb_X12_bits hX (Nat.le_of_ble_eq_true rfl) (by decide) rfl hx0 rfl (by simp) dX12_fillSuspects_21 rfl ?_
    refine Wp.iload_n (pc := 24) 1 rfl rfl dX12_fillSuspects_24 ?_
    refine Wp.icmp_ne (pc := 25) 60 dX12_fillSuspects_25 (by decide) (fun hc6 => ?_) (fun hc6 => ?_)
    · rw [if_neg hc6] at hf
      exact w_X12_fillSuspects_60 hX hx0 hf hk
    · rw [if_pos hc6] at hf
      refine Wp.aload_n (pc := 28) 0 rfl rfl dX12_fillSuspects_28 ?_
      refine Wp.iload_n (pc := 29) 3 rfl rfl dX12_fillSuspects_29 ?_
      refine Wp.iload_n (pc := 30) 2 rfl rfl dX12_fillSuspects_30 ?_
      obtain ⟨c7, h8, hf⟩ := bnd hf
      refine Wp.callVi (pc := 31) (st := []) (as := [.int x3, .int x2]) (c_X12_fits hx0 h8) ml_RX12_509 mv_X12_fits mb_X12_fits hX (Nat.le_of_ble_eq_true rfl) (by decide) rfl hx0 rfl (by simp) dX12_fillSuspects_31 rfl ?_
      refine Wp.if_ne (pc := 34) 40 dX12_fillSuspects_34 (by decide) (fun hc9 => ?_) (fun hc9 => ?_)
      · rw [if_neg hc9] at hf
        refine Wp.aload_n (pc := 40) 0 rfl rfl dX12_fillSuspects_40 ?_
        obtain ⟨a10, h11, hf⟩ := bnd hf
        refine Wp.getR (pc := 41) (gA_R h11) hx0 fk_RX12_185 rfl dX12_fillSuspects_41 ?_
        refine Wp.aload_n (pc := 44) 0 rfl rfl dX12_fillSuspects_44 ?_
        refine Wp.getI (pc := 45) hx0 fk_RX12_506 rfl dX12_fillSuspects_45 ?_
        refine Wp.iload_n (pc := 48) 3 rfl rfl dX12_fillSuspects_48 ?_
        obtain ⟨μ12, h13, hf⟩ := bnd hf
        refine Wp.iast (pc := 49) h13 (gA_T h11) dX12_fillSuspects_49 ?_
        refine Wp.aload_n (pc := 50) 0 rfl rfl dX12_fillSuspects_50 ?_
        refine Wp.dup (pc := 51) rfl dX12_fillSuspects_51 ?_
        refine Wp.getI (pc := 52) hx0 fk_RX12_506 rfl dX12_fillSuspects_52 ?_
        refine Wp.iconst (pc := 55) (1 : Int32) (by decide) dX12_fillSuspects_55 ?_
        refine Wp.iadd (pc := 56) dX12_fillSuspects_56 ?_
        obtain ⟨μ14, h15, hf⟩ := bnd hf
        refine Wp.ptI (pc := 57) h15 hx0 fk_RX12_506 ff_RX12_11_84 rfl dX12_fillSuspects_57 ?_
        exact w_X12_fillSuspects_60 hX hx0 hf hk
      · rw [if_pos hc9] at hf
        refine Wp.goto (pc := 37) 60 dX12_fillSuspects_37 (by decide) ?_
        exact w_X12_fillSuspects_60 hX hx0 hf hk
theorem wl_X12_fillSuspects_7 {X : CX} {T : List Dsc} {n1 n2 : Nat} {x0 : Nat} {x1 : Int32} {x2 : Int32} {x3 : Int32} {μ : Mem} {e : ((Mem))} (hX : XR X 10 n1 n2) (hx0 : T[x0]? = some (.inl 11)) (h : loop (g_X12_fillSuspects_7 T x0 x1 x2) (x3, μ) = some e) (he : Wp X cX12_fillSuspects RX12 4 T e n1 n2 66 [] []) : Wp X cX12_fillSuspects RX12 4 T μ n1 n2 7 [(0, .ref x0), (1, .int x1), (2, .int x2), (3, .int x3)] [] :=
  loop_ok (K := k_X12_fillSuspects_7 X T n1 n2 x0 x1 x2) (fun s r hf hk => w_X12_fillSuspects_7 hX hx0 hf hk) h he
set_option maxHeartbeats 4000000 in
set_option maxRecDepth 100000 in
theorem w_X12_fillSuspects {X : CX} {T : List Dsc} {n1 n2 : Nat} {x0 : Nat} {x1 : Int32} {x2 : Int32} {μ : Mem} {r : Mem} (hX : XR X 10 n1 n2) (hx0 : T[x0]? = some (.inl 11)) (hf : F_X12_fillSuspects T x0 x1 x2 μ = some r) (hk : FnV X cX12_fillSuspects RX12 4 T n1 n2 r) : Wp X cX12_fillSuspects RX12 4 T μ n1 n2 0 [(0, .ref x0), (1, .int x1), (2, .int x2)] [] := by
  unfold F_X12_fillSuspects at hf
  refine Wp.aload_n (pc := 0) 0 rfl rfl dX12_fillSuspects_0 ?_
  refine Wp.iconst (pc := 1) (0 : Int32) (by decide) dX12_fillSuspects_1 ?_
  obtain ⟨μ1, h2, hf⟩ := bnd hf
  refine Wp.ptI (pc := 2) h2 hx0 fk_RX12_506 ff_RX12_11_84 rfl dX12_fillSuspects_2 ?_
  refine Wp.iconst (pc := 5) (0 : Int32) (by decide) dX12_fillSuspects_5 ?_
  refine Wp.istore_n (pc := 6) (lo' := [(0, .ref x0), (1, .int x1), (2, .int x2), (3, .int (0 : Int32))]) [1, 2, 3, 0] rfl (by decide) rfl dX12_fillSuspects_6 ?_
  obtain ⟨e3, h4, hf⟩ := bnd hf
  refine wl_X12_fillSuspects_7 hX hx0 h4 ?_
  cases hf
  exact hk _ _ dX12_fillSuspects_66
theorem c_X12_fillSuspects {T : List Dsc} {x0 : Nat} {x1 : Int32} {x2 : Int32} {μ : Mem} {r : Mem} (hx0 : T[x0]? = some (.inl 11)) (hf : F_X12_fillSuspects T x0 x1 x2 μ = some r) : Ct 10 yX12_fillSuspects cX12_fillSuspects 4 none T μ [.ref x0, .int x1, .int x2] none r := Ct.ofV (by decide +kernel) (Nat.le_of_ble_eq_true rfl) (fun X hX hk => w_X12_fillSuspects hX hx0 hf hk)
theorem dX12_suspects_0 : decode cX12_suspects 0 = .ok (.aload_n 0, 1) := by decide +kernel
theorem dX12_suspects_1 : decode cX12_suspects 1 = .ok (.iload_n 1, 1) := by decide +kernel
theorem dX12_suspects_2 : decode cX12_suspects 2 = .ok (.iload_n 2, 1) := by decide +kernel
theorem dX12_suspects_3 : decode cX12_suspects 3 = .ok (.invokevirtual 512, 3) := by decide +kernel
theorem dX12_suspects_6 : decode cX12_suspects 6 = .ok (.ifCond .ne 5, 3) := by decide +kernel
theorem dX12_suspects_9 : decode cX12_suspects 9 = .ok (.iconst (-1), 1) := by decide +kernel
theorem dX12_suspects_10 : decode cX12_suspects 10 = .ok (.ireturn, 1) := by decide +kernel
theorem dX12_suspects_11 : decode cX12_suspects 11 = .ok (.aload_n 0, 1) := by decide +kernel
theorem dX12_suspects_12 : decode cX12_suspects 12 = .ok (.iload_n 1, 1) := by decide +kernel
theorem dX12_suspects_13 : decode cX12_suspects 13 = .ok (.iload_n 2, 1) := by decide +kernel
theorem dX12_suspects_14 : decode cX12_suspects 14 = .ok (.invokevirtual 515, 3) := by decide +kernel
theorem dX12_suspects_17 : decode cX12_suspects 17 = .ok (.aload_n 0, 1) := by decide +kernel
theorem dX12_suspects_18 : decode cX12_suspects 18 = .ok (.getfield 506, 3) := by decide +kernel
theorem dX12_suspects_21 : decode cX12_suspects 21 = .ok (.ireturn, 1) := by decide +kernel
set_option maxHeartbeats 4000000 in
set_option maxRecDepth 100000 in
theorem w_X12_suspects {X : CX} {T : List Dsc} {n1 n2 : Nat} {x0 : Nat} {x1 : Int32} {x2 : Int32} {μ : Mem} {r : (Int32 × Mem)} (hX : XR X 11 n1 n2) (hx0 : T[x0]? = some (.inl 11)) (hf : F_X12_suspects T x0 x1 x2 μ = some r) (hk : FnI X cX12_suspects RX12 3 T n1 n2 r) : Wp X cX12_suspects RX12 3 T μ n1 n2 0 [(0, .ref x0), (1, .int x1), (2, .int x2)] [] := by
  unfold F_X12_suspects at hf
  refine Wp.aload_n (pc := 0) 0 rfl rfl dX12_suspects_0 ?_
  refine Wp.iload_n (pc := 1) 1 rfl rfl dX12_suspects_1 ?_
  refine Wp.iload_n (pc := 2) 2 rfl rfl dX12_suspects_2 ?_
  obtain ⟨c1, h2, hf⟩ := bnd hf
  refine Wp.callVi (pc := 3) (st := []) (as := [.int x1, .int x2]) (c_X12_canSuspect hx0 h2) ml_RX12_512 mv_X12_canSuspect mb_X12_canSuspect hX (Nat.le_of_ble_eq_true rfl) (by decide) rfl hx0 rfl (by simp) dX12_suspects_3 rfl ?_
  refine Wp.if_ne (pc := 6) 11 dX12_suspects_6 (by decide) (fun hc3 => ?_) (fun hc3 => ?_)
  · rw [if_neg hc3] at hf
    refine Wp.aload_n (pc := 11) 0 rfl rfl dX12_suspects_11 ?_
    refine Wp.iload_n (pc := 12) 1 rfl rfl dX12_suspects_12 ?_
    refine Wp.iload_n (pc := 13) 2 rfl rfl dX12_suspects_13 ?_
    obtain ⟨c4, h5, hf⟩ := bnd hf
    refine Wp.callVv (pc := 14) (st := []) (as := [.int x1, .int x2]) (c_X12_fillSuspects hx0 h5) ml_RX12_515 mv_X12_fillSuspects mb_X12_fillSuspects hX (Nat.le_of_ble_eq_true rfl) (by decide) rfl hx0 rfl (by simp) dX12_suspects_14 rfl ?_
    refine Wp.aload_n (pc := 17) 0 rfl rfl dX12_suspects_17 ?_
    refine Wp.getI (pc := 18) hx0 fk_RX12_506 rfl dX12_suspects_18 ?_
    cases hf
    exact hk _ _ dX12_suspects_21
  · rw [if_pos hc3] at hf
    refine Wp.iconst (pc := 9) (-1 : Int32) (by decide) dX12_suspects_9 ?_
    cases hf
    exact hk _ _ dX12_suspects_10
theorem c_X12_suspects {T : List Dsc} {x0 : Nat} {x1 : Int32} {x2 : Int32} {μ : Mem} {r : (Int32 × Mem)} (hx0 : T[x0]? = some (.inl 11)) (hf : F_X12_suspects T x0 x1 x2 μ = some r) : Ct 11 yX12_suspects cX12_suspects 3 (some .int) T μ [.ref x0, .int x1, .int x2] (some (.int r.1)) r.2 := Ct.ofI (by decide +kernel) (Nat.le_of_ble_eq_true rfl) (fun X hX hk => w_X12_suspects hX hx0 hf hk)
theorem dX12_suspect_0 : decode cX12_suspect 0 = .ok (.aload_n 0, 1) := by decide +kernel
theorem dX12_suspect_1 : decode cX12_suspect 1 = .ok (.iload_n 1, 1) := by decide +kernel
theorem dX12_suspect_2 : decode cX12_suspect 2 = .ok (.iload_n 2, 1) := by decide +kernel
theorem dX12_suspect_3 : decode cX12_suspect 3 = .ok (.invokevirtual 512, 3) := by decide +kernel
theorem dX12_suspect_6 : decode cX12_suspect 6 = .ok (.ifCond .ne 5, 3) := by decide +kernel
theorem dX12_suspect_9 : decode cX12_suspect 9 = .ok (.iconst (-1), 1) := by decide +kernel
theorem dX12_suspect_10 : decode cX12_suspect 10 = .ok (.ireturn, 1) := by decide +kernel
theorem dX12_suspect_11 : decode cX12_suspect 11 = .ok (.aload_n 0, 1) := by decide +kernel
theorem dX12_suspect_12 : decode cX12_suspect 12 = .ok (.iload_n 1, 1) := by decide +kernel
theorem dX12_suspect_13 : decode cX12_suspect 13 = .ok (.iload_n 2, 1) := by decide +kernel
theorem dX12_suspect_14 : decode cX12_suspect 14 = .ok (.invokevirtual 515, 3) := by decide +kernel
theorem dX12_suspect_17 : decode cX12_suspect 17 = .ok (.iload_n 3, 1) := by decide +kernel
theorem dX12_suspect_18 : decode cX12_suspect 18 = .ok (.iconst 0, 1) := by decide +kernel
theorem dX12_suspect_19 : decode cX12_suspect 19 = .ok (.aload_n 0, 1) := by decide +kernel
theorem dX12_suspect_20 : decode cX12_suspect 20 = .ok (.getfield 506, 3) := by decide +kernel
theorem dX12_suspect_23 : decode cX12_suspect 23 = .ok (.iconst 1, 1) := by decide +kernel
theorem dX12_suspect_24 : decode cX12_suspect 24 = .ok (.isub, 1) := by decide +kernel
theorem dX12_suspect_25 : decode cX12_suspect 25 = .ok (.invokestatic 414, 3) := by decide +kernel
theorem dX12_suspect_28 : decode cX12_suspect 28 = .ok (.ifCond .eq 12, 3) := by decide +kernel
theorem dX12_suspect_31 : decode cX12_suspect 31 = .ok (.aload_n 0, 1) := by decide +kernel
theorem dX12_suspect_32 : decode cX12_suspect 32 = .ok (.getfield 185, 3) := by decide +kernel
theorem dX12_suspect_35 : decode cX12_suspect 35 = .ok (.iload_n 3, 1) := by decide +kernel
theorem dX12_suspect_36 : decode cX12_suspect 36 = .ok (.iaload, 1) := by decide +kernel
theorem dX12_suspect_37 : decode cX12_suspect 37 = .ok (.goto 4, 3) := by decide +kernel
theorem dX12_suspect_40 : decode cX12_suspect 40 = .ok (.iconst (-1), 1) := by decide +kernel
theorem dX12_suspect_41 : decode cX12_suspect 41 = .ok (.ireturn, 1) := by decide +kernel
set_option maxHeartbeats 4000000 in
set_option maxRecDepth 100000 in
theorem w_X12_suspect_41 {X : CX} {T : List Dsc} {n1 n2 : Nat} {s0 : Int32} {μ : Mem} {r : (Int32 × Mem)} (hX : XR X 11 n1 n2) (hf : f_X12_suspect_41 T s0 μ = some r) (hk : FnI X cX12_suspect RX12 4 T n1 n2 r) : Wp X cX12_suspect RX12 4 T μ n1 n2 41 [] [.int s0] := by
  unfold f_X12_suspect_41 at hf
  cases hf
  exact hk _ _ dX12_suspect_41
set_option maxHeartbeats 4000000 in
set_option maxRecDepth 100000 in
theorem w_X12_suspect {X : CX} {T : List Dsc} {n1 n2 : Nat} {x0 : Nat} {x1 : Int32} {x2 : Int32} {x3 : Int32} {μ : Mem} {r : (Int32 × Mem)} (hX : XR X 11 n1 n2) (hx0 : T[x0]? = some (.inl 11)) (hf : F_X12_suspect T x0 x1 x2 x3 μ = some r) (hk : FnI X cX12_suspect RX12 4 T n1 n2 r) : Wp X cX12_suspect RX12 4 T μ n1 n2 0 [(0, .ref x0), (1, .int x1), (2, .int x2), (3, .int x3)] [] := by
  unfold F_X12_suspect at hf
  refine Wp.aload_n (pc := 0) 0 rfl rfl dX12_suspect_0 ?_
  refine Wp.iload_n (pc := 1) 1 rfl rfl dX12_suspect_1 ?_
  refine Wp.iload_n (pc := 2) 2 rfl rfl dX12_suspect_2 ?_
  obtain ⟨c1, h2, hf⟩ := bnd hf
  refine Wp.callVi (pc := 3) (st := []) (as := [.int x1, .int x2]) (c_X12_canSuspect hx0 h2) ml_RX12_512 mv_X12_canSuspect mb_X12_canSuspect hX (Nat.le_of_ble_eq_true rfl) (by decide) rfl hx0 rfl (by simp) dX12_suspect_3 rfl ?_
  refine Wp.if_ne (pc := 6) 11 dX12_suspect_6 (by decide) (fun hc3 => ?_) (fun hc3 => ?_)
  · rw [if_neg hc3] at hf
    refine Wp.aload_n (pc := 11) 0 rfl rfl dX12_suspect_11 ?_
    refine Wp.iload_n (pc := 12) 1 rfl rfl dX12_suspect_12 ?_
    refine Wp.iload_n (pc := 13) 2 rfl rfl dX12_suspect_13 ?_
    obtain ⟨c4, h5, hf⟩ := bnd hf
    refine Wp.callVv (pc := 14) (st := []) (as := [.int x1, .int x2]) (c_X12_fillSuspects hx0 h5) ml_RX12_515 mv_X12_fillSuspects mb_X12_fillSuspects hX (Nat.le_of_ble_eq_true rfl) (by decide) rfl hx0 rfl (by simp) dX12_suspect_14 rfl ?_
    refine Wp.iload_n (pc := 17) 3 rfl rfl dX12_suspect_17 ?_
    refine Wp.iconst (pc := 18) (0 : Int32) (by decide) dX12_suspect_18 ?_
    refine Wp.aload_n (pc := 19) 0 rfl rfl dX12_suspect_19 ?_
    refine Wp.getI (pc := 20) hx0 fk_RX12_506 rfl dX12_suspect_20 ?_
    refine Wp.iconst (pc := 23) (1 : Int32) (by decide) dX12_suspect_23 ?_
    refine Wp.isub (pc := 24) dX12_suspect_24 ?_
    obtain ⟨c6, h7, hf⟩ := bnd hf
    refine Wp.callSi (pc := 25) (st := []) (as := [.int x3, .int (0 : Int32), .int ((gI c4 x0 84) - (1 : Int32))]) (c_X12_in h7) ml_RX12_414 ms_X12_in mb_X12_in hX (Nat.le_of_ble_eq_true rfl) (by decide) rfl (by simp) dX12_suspect_25 rfl ?_
    refine Wp.if_eq (pc := 28) 40 dX12_suspect_28 (by decide) (fun hc8 => ?_) (fun hc8 => ?_)
    · rw [if_pos hc8] at hf
      refine Wp.iconst (pc := 40) (-1 : Int32) (by decide) dX12_suspect_40 ?_
      refine Wp.lo' (lo' := []) [] rfl ?_
      exact w_X12_suspect_41 hX hf hk
    · rw [if_neg hc8] at hf
      refine Wp.aload_n (pc := 31) 0 rfl rfl dX12_suspect_31 ?_
      obtain ⟨a9, h10, hf⟩ := bnd hf
      refine Wp.getR (pc := 32) (gA_R h10) hx0 fk_RX12_185 rfl dX12_suspect_32 ?_
      refine Wp.iload_n (pc := 35) 3 rfl rfl dX12_suspect_35 ?_
      obtain ⟨v11, h12, hf⟩ := bnd hf
      refine Wp.iald (pc := 36) h12 (gA_T h10) dX12_suspect_36 ?_
      refine Wp.goto (pc := 37) 41 dX12_suspect_37 (by decide) ?_
      refine Wp.lo' (lo' := []) [] rfl ?_
      exact w_X12_suspect_41 hX hf hk
  · rw [if_pos hc3] at hf
    refine Wp.iconst (pc := 9) (-1 : Int32) (by decide) dX12_suspect_9 ?_
    cases hf
    exact hk _ _ dX12_suspect_10
theorem c_X12_suspect {T : List Dsc} {x0 : Nat} {x1 : Int32} {x2 : Int32} {x3 : Int32} {μ : Mem} {r : (Int32 × Mem)} (hx0 : T[x0]? = some (.inl 11)) (hf : F_X12_suspect T x0 x1 x2 x3 μ = some r) : Ct 11 yX12_suspect cX12_suspect 4 (some .int) T μ [.ref x0, .int x1, .int x2, .int x3] (some (.int r.1)) r.2 := Ct.ofI (by decide +kernel) (Nat.le_of_ble_eq_true rfl) (fun X hX hk => w_X12_suspect hX hx0 hf hk)
theorem dX12_greater_0 : decode cX12_greater 0 = .ok (.aload_n 0, 1) := by decide +kernel
theorem dX12_greater_1 : decode cX12_greater 1 = .ok (.getfield 155, 3) := by decide +kernel
theorem dX12_greater_4 : decode cX12_greater 4 = .ok (.iload_n 1, 1) := by decide +kernel
theorem dX12_greater_5 : decode cX12_greater 5 = .ok (.iaload, 1) := by decide +kernel
theorem dX12_greater_6 : decode cX12_greater 6 = .ok (.aload_n 0, 1) := by decide +kernel
theorem dX12_greater_7 : decode cX12_greater 7 = .ok (.getfield 506, 3) := by decide +kernel
theorem dX12_greater_10 : decode cX12_greater 10 = .ok (.aload_n 0, 1) := by decide +kernel
theorem dX12_greater_11 : decode cX12_greater 11 = .ok (.getfield 155, 3) := by decide +kernel
theorem dX12_greater_14 : decode cX12_greater 14 = .ok (.iload_n 1, 1) := by decide +kernel
theorem dX12_greater_15 : decode cX12_greater 15 = .ok (.iaload, 1) := by decide +kernel
theorem dX12_greater_16 : decode cX12_greater 16 = .ok (.isub, 1) := by decide +kernel
theorem dX12_greater_17 : decode cX12_greater 17 = .ok (.if_icmp .le 12, 3) := by decide +kernel
theorem dX12_greater_20 : decode cX12_greater 20 = .ok (.aload_n 0, 1) := by decide +kernel
theorem dX12_greater_21 : decode cX12_greater 21 = .ok (.getfield 155, 3) := by decide +kernel
theorem dX12_greater_24 : decode cX12_greater 24 = .ok (.iload_n 1, 1) := by decide +kernel
theorem dX12_greater_25 : decode cX12_greater 25 = .ok (.iaload, 1) := by decide +kernel
theorem dX12_greater_26 : decode cX12_greater 26 = .ok (.goto 14, 3) := by decide +kernel
theorem dX12_greater_29 : decode cX12_greater 29 = .ok (.aload_n 0, 1) := by decide +kernel
theorem dX12_greater_30 : decode cX12_greater 30 = .ok (.getfield 506, 3) := by decide +kernel
theorem dX12_greater_33 : decode cX12_greater 33 = .ok (.aload_n 0, 1) := by decide +kernel
theorem dX12_greater_34 : decode cX12_greater 34 = .ok (.getfield 155, 3) := by decide +kernel
theorem dX12_greater_37 : decode cX12_greater 37 = .ok (.iload_n 1, 1) := by decide +kernel
theorem dX12_greater_38 : decode cX12_greater 38 = .ok (.iaload, 1) := by decide +kernel
theorem dX12_greater_39 : decode cX12_greater 39 = .ok (.isub, 1) := by decide +kernel
theorem dX12_greater_40 : decode cX12_greater 40 = .ok (.ireturn, 1) := by decide +kernel
set_option maxHeartbeats 4000000 in
set_option maxRecDepth 100000 in
theorem w_X12_greater_40 {X : CX} {T : List Dsc} {n1 n2 : Nat} {s0 : Int32} {μ : Mem} {r : (Int32 × Mem)} (hX : XR X 1 n1 n2) (hf : f_X12_greater_40 T s0 μ = some r) (hk : FnI X cX12_greater RX12 2 T n1 n2 r) : Wp X cX12_greater RX12 2 T μ n1 n2 40 [] [.int s0] := by
  unfold f_X12_greater_40 at hf
  cases hf
  exact hk _ _ dX12_greater_40
set_option maxHeartbeats 4000000 in
set_option maxRecDepth 100000 in
theorem w_X12_greater {X : CX} {T : List Dsc} {n1 n2 : Nat} {x0 : Nat} {x1 : Int32} {μ : Mem} {r : (Int32 × Mem)} (hX : XR X 1 n1 n2) (hx0 : T[x0]? = some (.inl 11)) (hf : F_X12_greater T x0 x1 μ = some r) (hk : FnI X cX12_greater RX12 2 T n1 n2 r) : Wp X cX12_greater RX12 2 T μ n1 n2 0 [(0, .ref x0), (1, .int x1)] [] := by
  unfold F_X12_greater at hf
  refine Wp.aload_n (pc := 0) 0 rfl rfl dX12_greater_0 ?_
  obtain ⟨a1, h2, hf⟩ := bnd hf
  refine Wp.getR (pc := 1) (gA_R h2) hx0 fk_RX12_155 rfl dX12_greater_1 ?_
  refine Wp.iload_n (pc := 4) 1 rfl rfl dX12_greater_4 ?_
  obtain ⟨v3, h4, hf⟩ := bnd hf
  refine Wp.iald (pc := 5) h4 (gA_T h2) dX12_greater_5 ?_
  refine Wp.aload_n (pc := 6) 0 rfl rfl dX12_greater_6 ?_
  refine Wp.getI (pc := 7) hx0 fk_RX12_506 rfl dX12_greater_7 ?_
  refine Wp.aload_n (pc := 10) 0 rfl rfl dX12_greater_10 ?_
  obtain ⟨a5, h6, hf⟩ := bnd hf
  refine Wp.getR (pc := 11) (gA_R h6) hx0 fk_RX12_155 rfl dX12_greater_11 ?_
  refine Wp.iload_n (pc := 14) 1 rfl rfl dX12_greater_14 ?_
  obtain ⟨v7, h8, hf⟩ := bnd hf
  refine Wp.iald (pc := 15) h8 (gA_T h6) dX12_greater_15 ?_
  refine Wp.isub (pc := 16) dX12_greater_16 ?_
  refine Wp.icmp_le (pc := 17) 29 dX12_greater_17 (by decide) (fun hc9 => ?_) (fun hc9 => ?_)
  · rw [if_pos hc9] at hf
    refine Wp.aload_n (pc := 29) 0 rfl rfl dX12_greater_29 ?_
    refine Wp.getI (pc := 30) hx0 fk_RX12_506 rfl dX12_greater_30 ?_
    refine Wp.aload_n (pc := 33) 0 rfl rfl dX12_greater_33 ?_
    obtain ⟨a10, h11, hf⟩ := bnd hf
    refine Wp.getR (pc := 34) (gA_R h11) hx0 fk_RX12_155 rfl dX12_greater_34 ?_
    refine Wp.iload_n (pc := 37) 1 rfl rfl dX12_greater_37 ?_
    obtain ⟨v12, h13, hf⟩ := bnd hf
    refine Wp.iald (pc := 38) h13 (gA_T h11) dX12_greater_38 ?_
    refine Wp.isub (pc := 39) dX12_greater_39 ?_
    refine Wp.lo' (lo' := []) [] rfl ?_
    exact w_X12_greater_40 hX hf hk
  · rw [if_neg hc9] at hf
    refine Wp.aload_n (pc := 20) 0 rfl rfl dX12_greater_20 ?_
    obtain ⟨a14, h15, hf⟩ := bnd hf
    refine Wp.getR (pc := 21) (gA_R h15) hx0 fk_RX12_155 rfl dX12_greater_21 ?_
    refine Wp.iload_n (pc := 24) 1 rfl rfl dX12_greater_24 ?_
    obtain ⟨v16, h17, hf⟩ := bnd hf
    refine Wp.iald (pc := 25) h17 (gA_T h15) dX12_greater_25 ?_
    refine Wp.goto (pc := 26) 40 dX12_greater_26 (by decide) ?_
    refine Wp.lo' (lo' := []) [] rfl ?_
    exact w_X12_greater_40 hX hf hk
theorem c_X12_greater {T : List Dsc} {x0 : Nat} {x1 : Int32} {μ : Mem} {r : (Int32 × Mem)} (hx0 : T[x0]? = some (.inl 11)) (hf : F_X12_greater T x0 x1 μ = some r) : Ct 1 yX12_greater cX12_greater 2 (some .int) T μ [.ref x0, .int x1] (some (.int r.1)) r.2 := Ct.ofI (by decide +kernel) (Nat.le_of_ble_eq_true rfl) (fun X hX hk => w_X12_greater hX hx0 hf hk)
theorem dX12_check_0 : decode cX12_check 0 = .ok (.aload_n 0, 1) := by decide +kernel
theorem dX12_check_1 : decode cX12_check 1 = .ok (.iload_n 1, 1) := by decide +kernel
theorem dX12_check_2 : decode cX12_check 2 = .ok (.iload_n 2, 1) := by decide +kernel
theorem dX12_check_3 : decode cX12_check 3 = .ok (.invokevirtual 512, 3) := by decide +kernel
theorem dX12_check_6 : decode cX12_check 6 = .ok (.ifCond .eq 13, 3) := by decide +kernel
theorem dX12_check_9 : decode cX12_check 9 = .ok (.iload_n 3, 1) := by decide +kernel
theorem dX12_check_10 : decode cX12_check 10 = .ok (.iconst 0, 1) := by decide +kernel
theorem dX12_check_11 : decode cX12_check 11 = .ok (.bipush 99, 2) := by decide +kernel
theorem dX12_check_13 : decode cX12_check 13 = .ok (.invokestatic 414, 3) := by decide +kernel
theorem dX12_check_16 : decode cX12_check 16 = .ok (.ifCond .ne 5, 3) := by decide +kernel
theorem dX12_check_19 : decode cX12_check 19 = .ok (.iconst (-1), 1) := by decide +kernel
theorem dX12_check_20 : decode cX12_check 20 = .ok (.ireturn, 1) := by decide +kernel
theorem dX12_check_21 : decode cX12_check 21 = .ok (.aload_n 0, 1) := by decide +kernel
theorem dX12_check_22 : decode cX12_check 22 = .ok (.iload_n 1, 1) := by decide +kernel
theorem dX12_check_23 : decode cX12_check 23 = .ok (.iload_n 2, 1) := by decide +kernel
theorem dX12_check_24 : decode cX12_check 24 = .ok (.invokevirtual 515, 3) := by decide +kernel
theorem dX12_check_27 : decode cX12_check 27 = .ok (.aload_n 0, 1) := by decide +kernel
theorem dX12_check_28 : decode cX12_check 28 = .ok (.getfield 506, 3) := by decide +kernel
theorem dX12_check_31 : decode cX12_check 31 = .ok (.ifCond .eq 11, 3) := by decide +kernel
theorem dX12_check_34 : decode cX12_check 34 = .ok (.aload_n 0, 1) := by decide +kernel
theorem dX12_check_35 : decode cX12_check 35 = .ok (.invokevirtual 390, 3) := by decide +kernel
theorem dX12_check_38 : decode cX12_check 38 = .ok (.iconst 2, 1) := by decide +kernel
theorem dX12_check_39 : decode cX12_check 39 = .ok (.if_icmp .ge 6, 3) := by decide +kernel
theorem dX12_check_42 : decode cX12_check 42 = .ok (.bipush (-2), 2) := by decide +kernel
theorem dX12_check_44 : decode cX12_check 44 = .ok (.ireturn, 1) := by decide +kernel
theorem dX12_check_45 : decode cX12_check 45 = .ok (.iconst 0, 1) := by decide +kernel
theorem dX12_check_46 : decode cX12_check 46 = .ok (.istore 4, 2) := by decide +kernel
theorem dX12_check_48 : decode cX12_check 48 = .ok (.iload 4, 2) := by decide +kernel
theorem dX12_check_50 : decode cX12_check 50 = .ok (.bipush 12, 2) := by decide +kernel
theorem dX12_check_52 : decode cX12_check 52 = .ok (.if_icmp .ge 17, 3) := by decide +kernel
theorem dX12_check_55 : decode cX12_check 55 = .ok (.aload_n 0, 1) := by decide +kernel
theorem dX12_check_56 : decode cX12_check 56 = .ok (.getfield 155, 3) := by decide +kernel
theorem dX12_check_59 : decode cX12_check 59 = .ok (.iload 4, 2) := by decide +kernel
theorem dX12_check_61 : decode cX12_check 61 = .ok (.iconst 0, 1) := by decide +kernel
theorem dX12_check_62 : decode cX12_check 62 = .ok (.iastore, 1) := by decide +kernel
theorem dX12_check_63 : decode cX12_check 63 = .ok (.iinc 4 1, 3) := by decide +kernel
theorem dX12_check_66 : decode cX12_check 66 = .ok (.goto (-18), 3) := by decide +kernel
theorem dX12_check_69 : decode cX12_check 69 = .ok (.iconst 0, 1) := by decide +kernel
theorem dX12_check_70 : decode cX12_check 70 = .ok (.istore 4, 2) := by decide +kernel
theorem dX12_check_72 : decode cX12_check 72 = .ok (.iload 4, 2) := by decide +kernel
theorem dX12_check_74 : decode cX12_check 74 = .ok (.aload_n 0, 1) := by decide +kernel
theorem dX12_check_75 : decode cX12_check 75 = .ok (.getfield 506, 3) := by decide +kernel
theorem dX12_check_78 : decode cX12_check 78 = .ok (.if_icmp .ge 84, 3) := by decide +kernel
theorem dX12_check_81 : decode cX12_check 81 = .ok (.aload_n 0, 1) := by decide +kernel
theorem dX12_check_82 : decode cX12_check 82 = .ok (.aload_n 0, 1) := by decide +kernel
theorem dX12_check_83 : decode cX12_check 83 = .ok (.getfield 185, 3) := by decide +kernel
theorem dX12_check_86 : decode cX12_check 86 = .ok (.iload 4, 2) := by decide +kernel
theorem dX12_check_88 : decode cX12_check 88 = .ok (.iaload, 1) := by decide +kernel
theorem dX12_check_89 : decode cX12_check 89 = .ok (.invokevirtual 503, 3) := by decide +kernel
theorem dX12_check_92 : decode cX12_check 92 = .ok (.iconst 0, 1) := by decide +kernel
theorem dX12_check_93 : decode cX12_check 93 = .ok (.istore 5, 2) := by decide +kernel
theorem dX12_check_95 : decode cX12_check 95 = .ok (.iload 5, 2) := by decide +kernel
theorem dX12_check_97 : decode cX12_check 97 = .ok (.iload_n 3, 1) := by decide +kernel
theorem dX12_check_98 : decode cX12_check 98 = .ok (.if_icmp .ge 19, 3) := by decide +kernel
theorem dX12_check_101 : decode cX12_check 101 = .ok (.aload_n 0, 1) := by decide +kernel
theorem dX12_check_102 : decode cX12_check 102 = .ok (.aload_n 0, 1) := by decide +kernel
theorem dX12_check_103 : decode cX12_check 103 = .ok (.iload 5, 2) := by decide +kernel
theorem dX12_check_105 : decode cX12_check 105 = .ok (.invokevirtual 447, 3) := by decide +kernel
theorem dX12_check_108 : decode cX12_check 108 = .ok (.invokevirtual 450, 3) := by decide +kernel
theorem dX12_check_111 : decode cX12_check 111 = .ok (.iinc 5 1, 3) := by decide +kernel
theorem dX12_check_114 : decode cX12_check 114 = .ok (.goto (-19), 3) := by decide +kernel
theorem dX12_check_117 : decode cX12_check 117 = .ok (.aload_n 0, 1) := by decide +kernel
theorem dX12_check_118 : decode cX12_check 118 = .ok (.invokevirtual 453, 3) := by decide +kernel
theorem dX12_check_121 : decode cX12_check 121 = .ok (.istore 5, 2) := by decide +kernel
theorem dX12_check_123 : decode cX12_check 123 = .ok (.iconst 0, 1) := by decide +kernel
theorem dX12_check_124 : decode cX12_check 124 = .ok (.istore 6, 2) := by decide +kernel
theorem dX12_check_126 : decode cX12_check 126 = .ok (.iload 6, 2) := by decide +kernel
theorem dX12_check_128 : decode cX12_check 128 = .ok (.bipush 12, 2) := by decide +kernel
theorem dX12_check_130 : decode cX12_check 130 = .ok (.if_icmp .ge 26, 3) := by decide +kernel
theorem dX12_check_133 : decode cX12_check 133 = .ok (.aload_n 0, 1) := by decide +kernel
theorem dX12_check_134 : decode cX12_check 134 = .ok (.getfield 155, 3) := by decide +kernel
theorem dX12_check_137 : decode cX12_check 137 = .ok (.iload 6, 2) := by decide +kernel
theorem dX12_check_139 : decode cX12_check 139 = .ok (.dup2, 1) := by decide +kernel
theorem dX12_check_140 : decode cX12_check 140 = .ok (.iaload, 1) := by decide +kernel
theorem dX12_check_141 : decode cX12_check 141 = .ok (.iload 5, 2) := by decide +kernel
theorem dX12_check_143 : decode cX12_check 143 = .ok (.iload 6, 2) := by decide +kernel
theorem dX12_check_145 : decode cX12_check 145 = .ok (.ishr, 1) := by decide +kernel
theorem dX12_check_146 : decode cX12_check 146 = .ok (.iconst 1, 1) := by decide +kernel
theorem dX12_check_147 : decode cX12_check 147 = .ok (.iand, 1) := by decide +kernel
theorem dX12_check_148 : decode cX12_check 148 = .ok (.iadd, 1) := by decide +kernel
theorem dX12_check_149 : decode cX12_check 149 = .ok (.iastore, 1) := by decide +kernel
theorem dX12_check_150 : decode cX12_check 150 = .ok (.iinc 6 1, 3) := by decide +kernel
theorem dX12_check_153 : decode cX12_check 153 = .ok (.goto (-27), 3) := by decide +kernel
theorem dX12_check_156 : decode cX12_check 156 = .ok (.iinc 4 1, 3) := by decide +kernel
theorem dX12_check_159 : decode cX12_check 159 = .ok (.goto (-87), 3) := by decide +kernel
theorem dX12_check_162 : decode cX12_check 162 = .ok (.iconst 1, 1) := by decide +kernel
theorem dX12_check_163 : decode cX12_check 163 = .ok (.istore 4, 2) := by decide +kernel
theorem dX12_check_165 : decode cX12_check 165 = .ok (.iconst 2, 1) := by decide +kernel
theorem dX12_check_166 : decode cX12_check 166 = .ok (.istore 5, 2) := by decide +kernel
theorem dX12_check_168 : decode cX12_check 168 = .ok (.iload 5, 2) := by decide +kernel
theorem dX12_check_170 : decode cX12_check 170 = .ok (.aload_n 0, 1) := by decide +kernel
theorem dX12_check_171 : decode cX12_check 171 = .ok (.invokevirtual 390, 3) := by decide +kernel
theorem dX12_check_174 : decode cX12_check 174 = .ok (.if_icmp .ge 28, 3) := by decide +kernel
theorem dX12_check_177 : decode cX12_check 177 = .ok (.aload_n 0, 1) := by decide +kernel
theorem dX12_check_178 : decode cX12_check 178 = .ok (.iload 5, 2) := by decide +kernel
theorem dX12_check_180 : decode cX12_check 180 = .ok (.invokevirtual 518, 3) := by decide +kernel
theorem dX12_check_183 : decode cX12_check 183 = .ok (.aload_n 0, 1) := by decide +kernel
theorem dX12_check_184 : decode cX12_check 184 = .ok (.iload 4, 2) := by decide +kernel
theorem dX12_check_186 : decode cX12_check 186 = .ok (.invokevirtual 518, 3) := by decide +kernel
theorem dX12_check_189 : decode cX12_check 189 = .ok (.if_icmp .ge 7, 3) := by decide +kernel
theorem dX12_check_192 : decode cX12_check 192 = .ok (.iload 5, 2) := by decide +kernel
theorem dX12_check_194 : decode cX12_check 194 = .ok (.istore 4, 2) := by decide +kernel
theorem dX12_check_196 : decode cX12_check 196 = .ok (.iinc 5 1, 3) := by decide +kernel
theorem dX12_check_199 : decode cX12_check 199 = .ok (.goto (-31), 3) := by decide +kernel
theorem dX12_check_202 : decode cX12_check 202 = .ok (.iload 4, 2) := by decide +kernel
theorem dX12_check_204 : decode cX12_check 204 = .ok (.ireturn, 1) := by decide +kernel
def k_X12_check_48 (X : CX) (T : List Dsc) (n1 n2 : Nat) (x0 : Nat) (x3 : Int32) (r : ((Int32 × Mem) ⊕ ((Mem)))) : Prop := match r with
  | .inl s => Wp X cX12_check RX12 7 T s.2 n1 n2 48 [(0, .ref x0), (3, .int x3), (4, .int s.1)] []
  | .inr e => Wp X cX12_check RX12 7 T e n1 n2 69 [(0, .ref x0), (3, .int x3)] []
def k_X12_check_95 (X : CX) (T : List Dsc) (n1 n2 : Nat) (x0 : Nat) (x3 : Int32) (x4 : Int32) (r : ((Int32 × Mem) ⊕ ((Mem)))) : Prop := match r with
  | .inl s => Wp X cX12_check RX12 7 T s.2 n1 n2 95 [(0, .ref x0), (3, .int x3), (4, .int x4), (5, .int s.1)] []
  | .inr e => Wp X cX12_check RX12 7 T e n1 n2 117 [(0, .ref x0), (3, .int x3), (4, .int x4)] []
def k_X12_check_126 (X : CX) (T : List Dsc) (n1 n2 : Nat) (x0 : Nat) (x3 : Int32) (x4 : Int32) (x5 : Int32) (r : ((Int32 × Mem) ⊕ ((Mem)))) : Prop := match r with
  | .inl s => Wp X cX12_check RX12 7 T s.2 n1 n2 126 [(0, .ref x0), (3, .int x3), (4, .int x4), (5, .int x5), (6, .int s.1)] []
  | .inr e => Wp X cX12_check RX12 7 T e n1 n2 156 [(0, .ref x0), (3, .int x3), (4, .int x4)] []
def k_X12_check_72 (X : CX) (T : List Dsc) (n1 n2 : Nat) (x0 : Nat) (x3 : Int32) (r : ((Int32 × Mem) ⊕ ((Mem)))) : Prop := match r with
  | .inl s => Wp X cX12_check RX12 7 T s.2 n1 n2 72 [(0, .ref x0), (3, .int x3), (4, .int s.1)] []
  | .inr e => Wp X cX12_check RX12 7 T e n1 n2 162 [(0, .ref x0)] []
def k_X12_check_168 (X : CX) (T : List Dsc) (n1 n2 : Nat) (x0 : Nat) (r : ((Int32 × Int32 × Mem) ⊕ ((Int32 × Mem)))) : Prop := match r with
  | .inl s => Wp X cX12_check RX12 7 T s.2.2 n1 n2 168 [(0, .ref x0), (4, .int s.1), (5, .int s.2.1)] []
  | .inr e => Wp X cX12_check RX12 7 T e.2 n1 n2 202 [(4, .int e.1)] []
set_option maxHeartbeats 4000000 in
set_option maxRecDepth 100000 in
theorem w_X12_check_19 {X : CX} {T : List Dsc} {n1 n2 : Nat} {μ : Mem} {r : (Int32 × Mem)} (hX : XR X 11 n1 n2) (hf : f_X12_check_19 T μ = some r) (hk : FnI X cX12_check RX12 7 T n1 n2 r) : Wp X cX12_check RX12 7 T μ n1 n2 19 [] [] := by
  unfold f_X12_check_19 at hf
  refine Wp.iconst (pc := 19) (-1 : Int32) (by decide) dX12_check_19 ?_
  cases hf
  exact hk _ _ dX12_check_20
set_option maxHeartbeats 4000000 in
set_option maxRecDepth 100000 in
theorem w_X12_check_42 {X : CX} {T : List Dsc} {n1 n2 : Nat} {μ : Mem} {r : (Int32 × Mem)} (hX : XR X 11 n1 n2) (hf : f_X12_check_42 T μ = some r) (hk : FnI X cX12_check RX12 7 T n1 n2 r) : Wp X cX12_check RX12 7 T μ n1 n2 42 [] [] := by
  unfold f_X12_check_42 at hf
  refine Wp.bipush (pc := 42) (-2 : Int32) (by decide) dX12_check_42 ?_
  cases hf
  exact hk _ _ dX12_check_44
set_option maxHeartbeats 4000000 in
set_option maxRecDepth 100000 in
theorem w_X12_check_48 {X : CX} {T : List Dsc} {n1 n2 : Nat} {x0 : Nat} {x3 : Int32} {x4 : Int32} {μ : Mem} {r : ((Int32 × Mem) ⊕ ((Mem)))} (hX : XR X 11 n1 n2) (hx0 : T[x0]? = some (.inl 11)) (hf : f_X12_check_48 T x0 x3 x4 μ = some r) (hk : k_X12_check_48 X T n1 n2 x0 x3 r) : Wp X cX12_check RX12 7 T μ n1 n2 48 [(0, .ref x0), (3, .int x3), (4, .int x4)] [] := by
  unfold f_X12_check_48 at hf
  refine Wp.iload (pc := 48) 2 rfl dX12_check_48 ?_
  refine Wp.bipush (pc := 50) (12 : Int32) (by decide) dX12_check_50 ?_
  refine Wp.icmp_ge (pc := 52) 69 dX12_check_52 (by decide) (fun hc1 => ?_) (fun hc1 => ?_)
  · rw [if_pos hc1] at hf
    refine Wp.lo' (lo' := [(0, .ref x0), (3, .int x3)]) [0, 1] rfl ?_
    cases hf
    exact hk
  · rw [if_neg hc1] at hf
    refine Wp.aload_n (pc := 55) 0 rfl rfl dX12_check_55 ?_
    obtain ⟨a2, h3, hf⟩ := bnd hf
    refine Wp.getR (pc := 56) (gA_R h3) hx0 fk_RX12_155 rfl dX12_check_56 ?_
    refine Wp.iload (pc := 59) 2 rfl dX12_check_59 ?_
    refine Wp.iconst (pc := 61) (0 : Int32) (by decide) dX12_check_61 ?_
    obtain ⟨μ4, h5, hf⟩ := bnd hf
    refine Wp.iast (pc := 62) h5 (gA_T h3) dX12_check_62 ?_
    obtain ⟨v6, h7, hf⟩ := bnd hf
    refine Wp.iincN (pc := 63) (lo' := [(0, .ref x0), (3, .int x3), (4, .int v6)]) (1 : Int32) (by decide) h7 2 rfl [1, 2, 0] rfl (by decide) dX12_check_63 ?_
    refine Wp.goto (pc := 66) 48 dX12_check_66 (by decide) ?_
    cases hf
    exact hk
theorem wl_X12_check_48 {X : CX} {T : List Dsc} {n1 n2 : Nat} {x0 : Nat} {x3 : Int32} {x4 : Int32} {μ : Mem} {e : ((Mem))} (hX : XR X 11 n1 n2) (hx0 : T[x0]? = some (.inl 11)) (h : loop (g_X12_check_48 T x0 x3) (x4, μ) = some e) (he : Wp X cX12_check RX12 7 T e n1 n2 69 [(0, .ref x0), (3, .int x3)] []) : Wp X cX12_check RX12 7 T μ n1 n2 48 [(0, .ref x0), (3, .int x3), (4, .int x4)] [] :=
  loop_ok (K := k_X12_check_48 X T n1 n2 x0 x3) (fun s r hf hk => w_X12_check_48 hX hx0 hf hk) h he
set_option maxHeartbeats 4000000 in
set_option maxRecDepth 100000 in
theorem w_X12_check_95 {X : CX} {T : List Dsc} {n1 n2 : Nat} {x0 : Nat} {x3 : Int32} {x4 : Int32} {x5 : Int32} {μ : Mem} {r : ((Int32 × Mem) ⊕ ((Mem)))} (hX : XR X 11 n1 n2) (hx0 : T[x0]? = some (.inl 11)) (hf : f_X12_check_95 T x0 x3 x4 x5 μ = some r) (hk : k_X12_check_95 X T n1 n2 x0 x3 x4 r) : Wp X cX12_check RX12 7 T μ n1 n2 95 [(0, .ref x0), (3, .int x3), (4, .int x4), (5, .int x5)] [] := by
  unfold f_X12_check_95 at hf
  refine Wp.iload (pc := 95) 3 rfl dX12_check_95 ?_
  refine Wp.iload_n (pc := 97) 1 rfl rfl dX12_check_97 ?_
  refine Wp.icmp_ge (pc := 98) 117 dX12_check_98 (by decide) (fun hc1 => ?_) (fun hc1 => ?_)
  · rw [if_pos hc1] at hf
    refine Wp.lo' (lo' := [(0, .ref x0), (3, .int x3), (4, .int x4)]) [0, 1, 2] rfl ?_
    cases hf
    exact hk
  · rw [if_neg hc1] at hf
    refine Wp.aload_n (pc := 101) 0 rfl rfl dX12_check_101 ?_
    refine Wp.aload_n (pc := 102) 0 rfl rfl dX12_check_102 ?_
    refine Wp.iload (pc := 103) 3 rfl dX12_check_103 ?_
    obtain ⟨c2, h3, hf⟩ := bnd hf
    refine Wp.callVi (pc := 105) (st := [.ref x0]) (as := [.int x5]) (c_X12_isFog hx0 h3) ml_RX12_447 mv_X12_isFog mb_X12_isFog hX (Nat.le_of_ble_eq_true rfl) (by decide) rfl hx0 rfl (by simp [Value.category]) dX12_check_105 rfl ?_
    obtain ⟨c4, h5, hf⟩ := bnd hf
    refine Wp.callVv (pc := 108) (st := []) (as := [.int c2.1]) (c_X12_strikes hx0 h5) ml_RX12_450 mv_X12_strikes mb_X12_strikes hX (Nat.le_of_ble_eq_true rfl) (by decide) rfl hx0 rfl (by simp) dX12_check_108 rfl ?_
    obtain ⟨v6, h7, hf⟩ := bnd hf
    refine Wp.iincN (pc := 111) (lo' := [(0, .ref x0), (3, .int x3), (4, .int x4), (5, .int v6)]) (1 : Int32) (by decide) h7 3 rfl [1, 2, 3, 0] rfl (by decide) dX12_check_111 ?_
    refine Wp.goto (pc := 114) 95 dX12_check_114 (by decide) ?_
    cases hf
    exact hk
theorem wl_X12_check_95 {X : CX} {T : List Dsc} {n1 n2 : Nat} {x0 : Nat} {x3 : Int32} {x4 : Int32} {x5 : Int32} {μ : Mem} {e : ((Mem))} (hX : XR X 11 n1 n2) (hx0 : T[x0]? = some (.inl 11)) (h : loop (g_X12_check_95 T x0 x3 x4) (x5, μ) = some e) (he : Wp X cX12_check RX12 7 T e n1 n2 117 [(0, .ref x0), (3, .int x3), (4, .int x4)] []) : Wp X cX12_check RX12 7 T μ n1 n2 95 [(0, .ref x0), (3, .int x3), (4, .int x4), (5, .int x5)] [] :=
  loop_ok (K := k_X12_check_95 X T n1 n2 x0 x3 x4) (fun s r hf hk => w_X12_check_95 hX hx0 hf hk) h he
set_option maxHeartbeats 4000000 in
set_option maxRecDepth 100000 in
theorem w_X12_check_126 {X : CX} {T : List Dsc} {n1 n2 : Nat} {x0 : Nat} {x3 : Int32} {x4 : Int32} {x5 : Int32} {x6 : Int32} {μ : Mem} {r : ((Int32 × Mem) ⊕ ((Mem)))} (hX : XR X 11 n1 n2) (hx0 : T[x0]? = some (.inl 11)) (hf : f_X12_check_126 T x0 x3 x4 x5 x6 μ = some r) (hk : k_X12_check_126 X T n1 n2 x0 x3 x4 x5 r) : Wp X cX12_check RX12 7 T μ n1 n2 126 [(0, .ref x0), (3, .int x3), (4, .int x4), (5, .int x5), (6, .int x6)] [] := by
  unfold f_X12_check_126 at hf
  refine Wp.iload (pc := 126) 4 rfl dX12_check_126 ?_
  refine Wp.bipush (pc := 128) (12 : Int32) (by decide) dX12_check_128 ?_
  refine Wp.icmp_ge (pc := 130) 156 dX12_check_130 (by decide) (fun hc1 => ?_) (fun hc1 => ?_)
  · rw [if_pos hc1] at hf
    refine Wp.lo' (lo' := [(0, .ref x0), (3, .int x3), (4, .int x4)]) [0, 1, 2] rfl ?_
    cases hf
    exact hk
  · rw [if_neg hc1] at hf
    refine Wp.aload_n (pc := 133) 0 rfl rfl dX12_check_133 ?_
    obtain ⟨a2, h3, hf⟩ := bnd hf
    refine Wp.getR (pc := 134) (gA_R h3) hx0 fk_RX12_155 rfl dX12_check_134 ?_
    refine Wp.iload (pc := 137) 4 rfl dX12_check_137 ?_
    refine Wp.dup2 (pc := 139) rfl rfl dX12_check_139 ?_
    obtain ⟨v4, h5, hf⟩ := bnd hf
    refine Wp.iald (pc := 140) h5 (gA_T h3) dX12_check_140 ?_
    refine Wp.iload (pc := 141) 3 rfl dX12_check_141 ?_
    refine Wp.iload (pc := 143) 4 rfl dX12_check_143 ?_
    refine Wp.ishr (pc := 145) dX12_check_145 ?_
    refine Wp.iconst (pc := 146) (1 : Int32) (by decide) dX12_check_146 ?_
    refine Wp.iand (pc := 147) dX12_check_147 ?_
    refine Wp.iadd (pc := 148) dX12_check_148 ?_
    obtain ⟨μ6, h7, hf⟩ := bnd hf
    refine Wp.iast (pc := 149) h7 (gA_T h3) dX12_check_149 ?_
    obtain ⟨v8, h9, hf⟩ := bnd hf
    refine Wp.iincN (pc := 150) (lo' := [(0, .ref x0), (3, .int x3), (4, .int x4), (5, .int x5), (6, .int v8)]) (1 : Int32) (by decide) h9 4 rfl [1, 2, 3, 4, 0] rfl (by decide) dX12_check_150 ?_
    refine Wp.goto (pc := 153) 126 dX12_check_153 (by decide) ?_
    cases hf
    exact hk
theorem wl_X12_check_126 {X : CX} {T : List Dsc} {n1 n2 : Nat} {x0 : Nat} {x3 : Int32} {x4 : Int32} {x5 : Int32} {x6 : Int32} {μ : Mem} {e : ((Mem))} (hX : XR X 11 n1 n2) (hx0 : T[x0]? = some (.inl 11)) (h : loop (g_X12_check_126 T x0 x3 x4 x5) (x6, μ) = some e) (he : Wp X cX12_check RX12 7 T e n1 n2 156 [(0, .ref x0), (3, .int x3), (4, .int x4)] []) : Wp X cX12_check RX12 7 T μ n1 n2 126 [(0, .ref x0), (3, .int x3), (4, .int x4), (5, .int x5), (6, .int x6)] [] :=
  loop_ok (K := k_X12_check_126 X T n1 n2 x0 x3 x4 x5) (fun s r hf hk => w_X12_check_126 hX hx0 hf hk) h he
set_option maxHeartbeats 4000000 in
set_option maxRecDepth 100000 in
theorem w_X12_check_72 {X : CX} {T : List Dsc} {n1 n2 : Nat} {x0 : Nat} {x3 : Int32} {x4 : Int32} {μ : Mem} {r : ((Int32 × Mem) ⊕ ((Mem)))} (hX : XR X 11 n1 n2) (hx0 : T[x0]? = some (.inl 11)) (hf : f_X12_check_72 T x0 x3 x4 μ = some r) (hk : k_X12_check_72 X T n1 n2 x0 x3 r) : Wp X cX12_check RX12 7 T μ n1 n2 72 [(0, .ref x0), (3, .int x3), (4, .int x4)] [] := by
  unfold f_X12_check_72 at hf
  refine Wp.iload (pc := 72) 2 rfl dX12_check_72 ?_
  refine Wp.aload_n (pc := 74) 0 rfl rfl dX12_check_74 ?_
  refine Wp.getI (pc := 75) hx0 fk_RX12_506 rfl dX12_check_75 ?_
  refine Wp.icmp_ge (pc := 78) 162 dX12_check_78 (by decide) (fun hc1 => ?_) (fun hc1 => ?_)
  · rw [if_pos hc1] at hf
    refine Wp.lo' (lo' := [(0, .ref x0)]) [0] rfl ?_
    cases hf
    exact hk
  · rw [if_neg hc1] at hf
    refine Wp.aload_n (pc := 81) 0 rfl rfl dX12_check_81 ?_
    refine Wp.aload_n (pc := 82) 0 rfl rfl dX12_check_82 ?_
    obtain ⟨a2, h3, hf⟩ := bnd hf
    refine Wp.getR (pc := 83) (gA_R h3) hx0 fk_RX12_185 rfl dX12_check_83 ?_
    refine Wp.iload (pc := 86) 2 rfl dX12_check_86 ?_
    obtain ⟨v4, h5, hf⟩ := bnd hf
    refine Wp.iald (pc := 88) h5 (gA_T h3) dX12_check_88 ?_
    obtain ⟨c6, h7, hf⟩ := bnd hf
    refine Wp.callVv (pc := 89) (st := []) (as := [.int v4]) (c_X12_breaks hx0 h7) ml_RX12_503 mv_X12_breaks mb_X12_breaks hX (Nat.le_of_ble_eq_true rfl) (by decide) rfl hx0 rfl (by simp) dX12_check_89 rfl ?_
    refine Wp.iconst (pc := 92) (0 : Int32) (by decide) dX12_check_92 ?_
    refine Wp.istore (pc := 93) (lo' := [(0, .ref x0), (3, .int x3), (4, .int x4), (5, .int (0 : Int32))]) [1, 2, 3, 0] rfl (by decide) dX12_check_93 ?_
    obtain ⟨e8, h9, hf⟩ := bnd hf
    refine wl_X12_check_95 hX hx0 h9 ?_
    refine Wp.aload_n (pc := 117) 0 rfl rfl dX12_check_117 ?_
    obtain ⟨c10, h11, hf⟩ := bnd hf
    refine Wp.callVi (pc := 118) (st := []) (as := []) (c_X12_clashesNow hx0 h11) ml_RX12_453 mv_X12_clashesNow mb_X12_clashesNow hX (Nat.le_of_ble_eq_true rfl) (by decide) rfl hx0 rfl (by simp) dX12_check_118 rfl ?_
    refine Wp.istore (pc := 121) (lo' := [(0, .ref x0), (3, .int x3), (4, .int x4), (5, .int c10.1)]) [1, 2, 3, 0] rfl (by decide) dX12_check_121 ?_
    refine Wp.iconst (pc := 123) (0 : Int32) (by decide) dX12_check_123 ?_
    refine Wp.istore (pc := 124) (lo' := [(0, .ref x0), (3, .int x3), (4, .int x4), (5, .int c10.1), (6, .int (0 : Int32))]) [1, 2, 3, 4, 0] rfl (by decide) dX12_check_124 ?_
    obtain ⟨e12, h13, hf⟩ := bnd hf
    refine wl_X12_check_126 hX hx0 h13 ?_
    obtain ⟨v14, h15, hf⟩ := bnd hf
    refine Wp.iincN (pc := 156) (lo' := [(0, .ref x0), (3, .int x3), (4, .int v14)]) (1 : Int32) (by decide) h15 2 rfl [1, 2, 0] rfl (by decide) dX12_check_156 ?_
    refine Wp.goto (pc := 159) 72 dX12_check_159 (by decide) ?_
    cases hf
    exact hk
theorem wl_X12_check_72 {X : CX} {T : List Dsc} {n1 n2 : Nat} {x0 : Nat} {x3 : Int32} {x4 : Int32} {μ : Mem} {e : ((Mem))} (hX : XR X 11 n1 n2) (hx0 : T[x0]? = some (.inl 11)) (h : loop (g_X12_check_72 T x0 x3) (x4, μ) = some e) (he : Wp X cX12_check RX12 7 T e n1 n2 162 [(0, .ref x0)] []) : Wp X cX12_check RX12 7 T μ n1 n2 72 [(0, .ref x0), (3, .int x3), (4, .int x4)] [] :=
  loop_ok (K := k_X12_check_72 X T n1 n2 x0 x3) (fun s r hf hk => w_X12_check_72 hX hx0 hf hk) h he
set_option maxHeartbeats 4000000 in
set_option maxRecDepth 100000 in
theorem w_X12_check_196 {X : CX} {T : List Dsc} {n1 n2 : Nat} {x0 : Nat} {x4 : Int32} {x5 : Int32} {μ : Mem} {r : ((Int32 × Int32 × Mem) ⊕ ((Int32 × Mem)))} (hX : XR X 11 n1 n2) (hx0 : T[x0]? = some (.inl 11)) (hf : f_X12_check_196 T x0 x4 x5 μ = some r) (hk : k_X12_check_168 X T n1 n2 x0 r) : Wp X cX12_check RX12 7 T μ n1 n2 196 [(0, .ref x0), (4, .int x4), (5, .int x5)] [] := by
  unfold f_X12_check_196 at hf
  obtain ⟨v1, h2, hf⟩ := bnd hf
  refine Wp.iincN (pc := 196) (lo' := [(0, .ref x0), (4, .int x4), (5, .int v1)]) (1 : Int32) (by decide) h2 2 rfl [1, 2, 0] rfl (by decide) dX12_check_196 ?_
  refine Wp.goto (pc := 199) 168 dX12_check_199 (by decide) ?_
  cases hf
  exact hk
set_option maxHeartbeats 4000000 in
set_option maxRecDepth 100000 in
theorem w_X12_check_168 {X : CX} {T : List Dsc} {n1 n2 : Nat} {x0 : Nat} {x4 : Int32} {x5 : Int32} {μ : Mem} {r : ((Int32 × Int32 × Mem) ⊕ ((Int32 × Mem)))} (hX : XR X 11 n1 n2) (hx0 : T[x0]? = some (.inl 11)) (hf : f_X12_check_168 T x0 x4 x5 μ = some r) (hk : k_X12_check_168 X T n1 n2 x0 r) : Wp X cX12_check RX12 7 T μ n1 n2 168 [(0, .ref x0), (4, .int x4), (5, .int x5)] [] := by
  unfold f_X12_check_168 at hf
  refine Wp.iload (pc := 168) 2 rfl dX12_check_168 ?_
  refine Wp.aload_n (pc := 170) 0 rfl rfl dX12_check_170 ?_
  obtain ⟨c1, h2, hf⟩ := bnd hf
  refine Wp.callVi (pc := 171) (st := [.int x5]) (as := []) (c_X12_menNow hx0 h2) ml_RX12_390 mv_X12_menNow mb_X12_menNow hX (Nat.le_of_ble_eq_true rfl) (by decide) rfl hx0 rfl (by simp [Value.category]) dX12_check_171 rfl ?_
  refine Wp.icmp_ge (pc := 174) 202 dX12_check_174 (by decide) (fun hc3 => ?_) (fun hc3 => ?_)
  · rw [if_pos hc3] at hf
    refine Wp.lo' (lo' := [(4, .int x4)]) [1] rfl ?_
    cases hf
    exact hk
  · rw [if_neg hc3] at hf
    refine Wp.aload_n (pc := 177) 0 rfl rfl dX12_check_177 ?_
    refine Wp.iload (pc := 178) 2 rfl dX12_check_178 ?_
    obtain ⟨c4, h5, hf⟩ := bnd hf
    refine Wp.callVi (pc := 180) (st := []) (as := [.int x5]) (c_X12_greater hx0 h5) ml_RX12_518 mv_X12_greater mb_X12_greater hX (Nat.le_of_ble_eq_true rfl) (by decide) rfl hx0 rfl (by simp) dX12_check_180 rfl ?_
    refine Wp.aload_n (pc := 183) 0 rfl rfl dX12_check_183 ?_
    refine Wp.iload (pc := 184) 1 rfl dX12_check_184 ?_
    obtain ⟨c6, h7, hf⟩ := bnd hf
    refine Wp.callVi (pc := 186) (st := [.int c4.1]) (as := [.int x4]) (c_X12_greater hx0 h7) ml_RX12_518 mv_X12_greater mb_X12_greater hX (Nat.le_of_ble_eq_true rfl) (by decide) rfl hx0 rfl (by simp [Value.category]) dX12_check_186 rfl ?_
    refine Wp.icmp_ge (pc := 189) 196 dX12_check_189 (by decide) (fun hc8 => ?_) (fun hc8 => ?_)
    · rw [if_pos hc8] at hf
      exact w_X12_check_196 hX hx0 hf hk
    · rw [if_neg hc8] at hf
      refine Wp.iload (pc := 192) 2 rfl dX12_check_192 ?_
      refine Wp.istore (pc := 194) (lo' := [(0, .ref x0), (4, .int x5), (5, .int x5)]) [1, 0, 2] rfl (by decide) dX12_check_194 ?_
      exact w_X12_check_196 hX hx0 hf hk
theorem wl_X12_check_168 {X : CX} {T : List Dsc} {n1 n2 : Nat} {x0 : Nat} {x4 : Int32} {x5 : Int32} {μ : Mem} {e : ((Int32 × Mem))} (hX : XR X 11 n1 n2) (hx0 : T[x0]? = some (.inl 11)) (h : loop (g_X12_check_168 T x0) (x4, x5, μ) = some e) (he : Wp X cX12_check RX12 7 T e.2 n1 n2 202 [(4, .int e.1)] []) : Wp X cX12_check RX12 7 T μ n1 n2 168 [(0, .ref x0), (4, .int x4), (5, .int x5)] [] :=
  loop_ok (K := k_X12_check_168 X T n1 n2 x0) (fun s r hf hk => w_X12_check_168 hX hx0 hf hk) h he
set_option maxHeartbeats 4000000 in
set_option maxRecDepth 100000 in
theorem w_X12_check {X : CX} {T : List Dsc} {n1 n2 : Nat} {x0 : Nat} {x1 : Int32} {x2 : Int32} {x3 : Int32} {μ : Mem} {r : (Int32 × Mem)} (hX : XR X 11 n1 n2) (hx0 : T[x0]? = some (.inl 11)) (hf : F_X12_check T x0 x1 x2 x3 μ = some r) (hk : FnI X cX12_check RX12 7 T n1 n2 r) : Wp X cX12_check RX12 7 T μ n1 n2 0 [(0, .ref x0), (1, .int x1), (2, .int x2), (3, .int x3)] [] := by
  unfold F_X12_check at hf
  refine Wp.aload_n (pc := 0) 0 rfl rfl dX12_check_0 ?_
  refine Wp.iload_n (pc := 1) 1 rfl rfl dX12_check_1 ?_
  refine Wp.iload_n (pc := 2) 2 rfl rfl dX12_check_2 ?_
  obtain ⟨c1, h2, hf⟩ := bnd hf
  refine Wp.callVi (pc := 3) (st := []) (as := [.int x1, .int x2]) (c_X12_canSuspect hx0 h2) ml_RX12_512 mv_X12_canSuspect mb_X12_canSuspect hX (Nat.le_of_ble_eq_true rfl) (by decide) rfl hx0 rfl (by simp) dX12_check_3 rfl ?_
  refine Wp.if_eq (pc := 6) 19 dX12_check_6 (by decide) (fun hc3 => ?_) (fun hc3 => ?_)
  · rw [if_pos hc3] at hf
    refine Wp.lo' (lo' := []) [] rfl ?_
    exact w_X12_check_19 hX hf hk
  · rw [if_neg hc3] at hf
    refine Wp.iload_n (pc := 9) 3 rfl rfl dX12_check_9 ?_
    refine Wp.iconst (pc := 10) (0 : Int32) (by decide) dX12_check_10 ?_
    refine Wp.bipush (pc := 11) (99 : Int32) (by decide) dX12_check_11 ?_
    obtain ⟨c4, h5, hf⟩ := bnd hf
    refine Wp.callSi (pc := 13) (st := []) (as := [.int x3, .int (0 : Int32), .int (99 : Int32)]) (c_X12_in h5) ml_RX12_414 ms_X12_in mb_X12_in hX (Nat.le_of_ble_eq_true rfl) (by decide) rfl (by simp) dX12_check_13 rfl ?_
    refine Wp.if_ne (pc := 16) 21 dX12_check_16 (by decide) (fun hc6 => ?_) (fun hc6 => ?_)
    · rw [if_neg hc6] at hf
      refine Wp.aload_n (pc := 21) 0 rfl rfl dX12_check_21 ?_
      refine Wp.iload_n (pc := 22) 1 rfl rfl dX12_check_22 ?_
      refine Wp.iload_n (pc := 23) 2 rfl rfl dX12_check_23 ?_
      obtain ⟨c7, h8, hf⟩ := bnd hf
      refine Wp.callVv (pc := 24) (st := []) (as := [.int x1, .int x2]) (c_X12_fillSuspects hx0 h8) ml_RX12_515 mv_X12_fillSuspects mb_X12_fillSuspects hX (Nat.le_of_ble_eq_true rfl) (by decide) rfl hx0 rfl (by simp) dX12_check_24 rfl ?_
      refine Wp.aload_n (pc := 27) 0 rfl rfl dX12_check_27 ?_
      refine Wp.getI (pc := 28) hx0 fk_RX12_506 rfl dX12_check_28 ?_
      refine Wp.if_eq (pc := 31) 42 dX12_check_31 (by decide) (fun hc9 => ?_) (fun hc9 => ?_)
      · rw [if_pos hc9] at hf
        refine Wp.lo' (lo' := []) [] rfl ?_
        exact w_X12_check_42 hX hf hk
      · rw [if_neg hc9] at hf
        refine Wp.aload_n (pc := 34) 0 rfl rfl dX12_check_34 ?_
        obtain ⟨c10, h11, hf⟩ := bnd hf
        refine Wp.callVi (pc := 35) (st := []) (as := []) (c_X12_menNow hx0 h11) ml_RX12_390 mv_X12_menNow mb_X12_menNow hX (Nat.le_of_ble_eq_true rfl) (by decide) rfl hx0 rfl (by simp) dX12_check_35 rfl ?_
        refine Wp.iconst (pc := 38) (2 : Int32) (by decide) dX12_check_38 ?_
        refine Wp.icmp_ge (pc := 39) 45 dX12_check_39 (by decide) (fun hc12 => ?_) (fun hc12 => ?_)
        · rw [if_pos hc12] at hf
          refine Wp.iconst (pc := 45) (0 : Int32) (by decide) dX12_check_45 ?_
          refine Wp.istore (pc := 46) (lo' := [(0, .ref x0), (3, .int x3), (4, .int (0 : Int32))]) [1, 4, 0] rfl (by decide) dX12_check_46 ?_
          obtain ⟨e13, h14, hf⟩ := bnd hf
          refine wl_X12_check_48 hX hx0 h14 ?_
          refine Wp.iconst (pc := 69) (0 : Int32) (by decide) dX12_check_69 ?_
          refine Wp.istore (pc := 70) (lo' := [(0, .ref x0), (3, .int x3), (4, .int (0 : Int32))]) [1, 2, 0] rfl (by decide) dX12_check_70 ?_
          obtain ⟨e15, h16, hf⟩ := bnd hf
          refine wl_X12_check_72 hX hx0 h16 ?_
          refine Wp.iconst (pc := 162) (1 : Int32) (by decide) dX12_check_162 ?_
          refine Wp.istore (pc := 163) (lo' := [(0, .ref x0), (4, .int (1 : Int32))]) [1, 0] rfl (by decide) dX12_check_163 ?_
          refine Wp.iconst (pc := 165) (2 : Int32) (by decide) dX12_check_165 ?_
          refine Wp.istore (pc := 166) (lo' := [(0, .ref x0), (4, .int (1 : Int32)), (5, .int (2 : Int32))]) [1, 2, 0] rfl (by decide) dX12_check_166 ?_
          obtain ⟨e17, h18, hf⟩ := bnd hf
          refine wl_X12_check_168 hX hx0 h18 ?_
          refine Wp.iload (pc := 202) 0 rfl dX12_check_202 ?_
          cases hf
          exact hk _ _ dX12_check_204
        · rw [if_neg hc12] at hf
          refine Wp.lo' (lo' := []) [] rfl ?_
          exact w_X12_check_42 hX hf hk
    · rw [if_pos hc6] at hf
      refine Wp.lo' (lo' := []) [] rfl ?_
      exact w_X12_check_19 hX hf hk
theorem c_X12_check {T : List Dsc} {x0 : Nat} {x1 : Int32} {x2 : Int32} {x3 : Int32} {μ : Mem} {r : (Int32 × Mem)} (hx0 : T[x0]? = some (.inl 11)) (hf : F_X12_check T x0 x1 x2 x3 μ = some r) : Ct 11 yX12_check cX12_check 7 (some .int) T μ [.ref x0, .int x1, .int x2, .int x3] (some (.int r.1)) r.2 := Ct.ofI (by decide +kernel) (Nat.le_of_ble_eq_true rfl) (fun X hX hk => w_X12_check hX hx0 hf hk)
theorem dX12_hold_0 : decode cX12_hold 0 = .ok (.iload_n 1, 1) := by decide +kernel
theorem dX12_hold_1 : decode cX12_hold 1 = .ok (.iconst 0, 1) := by decide +kernel
theorem dX12_hold_2 : decode cX12_hold 2 = .ok (.iconst 2, 1) := by decide +kernel
theorem dX12_hold_3 : decode cX12_hold 3 = .ok (.invokestatic 414, 3) := by decide +kernel
theorem dX12_hold_6 : decode cX12_hold 6 = .ok (.ifCond .ne 5, 3) := by decide +kernel
theorem dX12_hold_9 : decode cX12_hold 9 = .ok (.iconst 0, 1) := by decide +kernel
theorem dX12_hold_10 : decode cX12_hold 10 = .ok (.ireturn, 1) := by decide +kernel
theorem dX12_hold_11 : decode cX12_hold 11 = .ok (.aload_n 0, 1) := by decide +kernel
theorem dX12_hold_12 : decode cX12_hold 12 = .ok (.getfield 188, 3) := by decide +kernel
theorem dX12_hold_15 : decode cX12_hold 15 = .ok (.iload_n 1, 1) := by decide +kernel
theorem dX12_hold_16 : decode cX12_hold 16 = .ok (.iconst 1, 1) := by decide +kernel
theorem dX12_hold_17 : decode cX12_hold 17 = .ok (.bastore, 1) := by decide +kernel
theorem dX12_hold_18 : decode cX12_hold 18 = .ok (.aload_n 0, 1) := by decide +kernel
theorem dX12_hold_19 : decode cX12_hold 19 = .ok (.getfield 200, 3) := by decide +kernel
theorem dX12_hold_22 : decode cX12_hold 22 = .ok (.iload_n 1, 1) := by decide +kernel
theorem dX12_hold_23 : decode cX12_hold 23 = .ok (.aload_n 0, 1) := by decide +kernel
theorem dX12_hold_24 : decode cX12_hold 24 = .ok (.getfield 209, 3) := by decide +kernel
theorem dX12_hold_27 : decode cX12_hold 27 = .ok (.iastore, 1) := by decide +kernel
theorem dX12_hold_28 : decode cX12_hold 28 = .ok (.aload_n 0, 1) := by decide +kernel
theorem dX12_hold_29 : decode cX12_hold 29 = .ok (.getfield 203, 3) := by decide +kernel
theorem dX12_hold_32 : decode cX12_hold 32 = .ok (.iload_n 1, 1) := by decide +kernel
theorem dX12_hold_33 : decode cX12_hold 33 = .ok (.aload_n 0, 1) := by decide +kernel
theorem dX12_hold_34 : decode cX12_hold 34 = .ok (.getfield 393, 3) := by decide +kernel
theorem dX12_hold_37 : decode cX12_hold 37 = .ok (.iastore, 1) := by decide +kernel
theorem dX12_hold_38 : decode cX12_hold 38 = .ok (.aload_n 0, 1) := by decide +kernel
theorem dX12_hold_39 : decode cX12_hold 39 = .ok (.getfield 206, 3) := by decide +kernel
theorem dX12_hold_42 : decode cX12_hold 42 = .ok (.iload_n 1, 1) := by decide +kernel
theorem dX12_hold_43 : decode cX12_hold 43 = .ok (.aload_n 0, 1) := by decide +kernel
theorem dX12_hold_44 : decode cX12_hold 44 = .ok (.getfield 396, 3) := by decide +kernel
theorem dX12_hold_47 : decode cX12_hold 47 = .ok (.iastore, 1) := by decide +kernel
theorem dX12_hold_48 : decode cX12_hold 48 = .ok (.iconst 0, 1) := by decide +kernel
theorem dX12_hold_49 : decode cX12_hold 49 = .ok (.istore_n 2, 1) := by decide +kernel
theorem dX12_hold_50 : decode cX12_hold 50 = .ok (.iload_n 2, 1) := by decide +kernel
theorem dX12_hold_51 : decode cX12_hold 51 = .ok (.bipush 12, 2) := by decide +kernel
theorem dX12_hold_53 : decode cX12_hold 53 = .ok (.if_icmp .ge 60, 3) := by decide +kernel
theorem dX12_hold_56 : decode cX12_hold 56 = .ok (.aload_n 0, 1) := by decide +kernel
theorem dX12_hold_57 : decode cX12_hold 57 = .ok (.getfield 191, 3) := by decide +kernel
theorem dX12_hold_60 : decode cX12_hold 60 = .ok (.bipush 12, 2) := by decide +kernel
theorem dX12_hold_62 : decode cX12_hold 62 = .ok (.iload_n 1, 1) := by decide +kernel
theorem dX12_hold_63 : decode cX12_hold 63 = .ok (.imul, 1) := by decide +kernel
theorem dX12_hold_64 : decode cX12_hold 64 = .ok (.iload_n 2, 1) := by decide +kernel
theorem dX12_hold_65 : decode cX12_hold 65 = .ok (.iadd, 1) := by decide +kernel
theorem dX12_hold_66 : decode cX12_hold 66 = .ok (.aload_n 0, 1) := by decide +kernel
theorem dX12_hold_67 : decode cX12_hold 67 = .ok (.getfield 128, 3) := by decide +kernel
theorem dX12_hold_70 : decode cX12_hold 70 = .ok (.iload_n 2, 1) := by decide +kernel
theorem dX12_hold_71 : decode cX12_hold 71 = .ok (.iaload, 1) := by decide +kernel
theorem dX12_hold_72 : decode cX12_hold 72 = .ok (.iastore, 1) := by decide +kernel
theorem dX12_hold_73 : decode cX12_hold 73 = .ok (.aload_n 0, 1) := by decide +kernel
theorem dX12_hold_74 : decode cX12_hold 74 = .ok (.getfield 194, 3) := by decide +kernel
theorem dX12_hold_77 : decode cX12_hold 77 = .ok (.bipush 12, 2) := by decide +kernel
theorem dX12_hold_79 : decode cX12_hold 79 = .ok (.iload_n 1, 1) := by decide +kernel
theorem dX12_hold_80 : decode cX12_hold 80 = .ok (.imul, 1) := by decide +kernel
theorem dX12_hold_81 : decode cX12_hold 81 = .ok (.iload_n 2, 1) := by decide +kernel
theorem dX12_hold_82 : decode cX12_hold 82 = .ok (.iadd, 1) := by decide +kernel
theorem dX12_hold_83 : decode cX12_hold 83 = .ok (.aload_n 0, 1) := by decide +kernel
theorem dX12_hold_84 : decode cX12_hold 84 = .ok (.getfield 131, 3) := by decide +kernel
theorem dX12_hold_87 : decode cX12_hold 87 = .ok (.iload_n 2, 1) := by decide +kernel
theorem dX12_hold_88 : decode cX12_hold 88 = .ok (.iaload, 1) := by decide +kernel
theorem dX12_hold_89 : decode cX12_hold 89 = .ok (.iastore, 1) := by decide +kernel
theorem dX12_hold_90 : decode cX12_hold 90 = .ok (.aload_n 0, 1) := by decide +kernel
theorem dX12_hold_91 : decode cX12_hold 91 = .ok (.getfield 197, 3) := by decide +kernel
theorem dX12_hold_94 : decode cX12_hold 94 = .ok (.bipush 12, 2) := by decide +kernel
theorem dX12_hold_96 : decode cX12_hold 96 = .ok (.iload_n 1, 1) := by decide +kernel
theorem dX12_hold_97 : decode cX12_hold 97 = .ok (.imul, 1) := by decide +kernel
theorem dX12_hold_98 : decode cX12_hold 98 = .ok (.iload_n 2, 1) := by decide +kernel
theorem dX12_hold_99 : decode cX12_hold 99 = .ok (.iadd, 1) := by decide +kernel
theorem dX12_hold_100 : decode cX12_hold 100 = .ok (.aload_n 0, 1) := by decide +kernel
theorem dX12_hold_101 : decode cX12_hold 101 = .ok (.getfield 134, 3) := by decide +kernel
theorem dX12_hold_104 : decode cX12_hold 104 = .ok (.iload_n 2, 1) := by decide +kernel
theorem dX12_hold_105 : decode cX12_hold 105 = .ok (.iaload, 1) := by decide +kernel
theorem dX12_hold_106 : decode cX12_hold 106 = .ok (.iastore, 1) := by decide +kernel
theorem dX12_hold_107 : decode cX12_hold 107 = .ok (.iinc 2 1, 3) := by decide +kernel
theorem dX12_hold_110 : decode cX12_hold 110 = .ok (.goto (-60), 3) := by decide +kernel
theorem dX12_hold_113 : decode cX12_hold 113 = .ok (.iconst 1, 1) := by decide +kernel
theorem dX12_hold_114 : decode cX12_hold 114 = .ok (.ireturn, 1) := by decide +kernel
def k_X12_hold_50 (X : CX) (T : List Dsc) (n1 n2 : Nat) (x0 : Nat) (x1 : Int32) (r : ((Int32 × Mem) ⊕ ((Mem)))) : Prop := match r with
  | .inl s => Wp X cX12_hold RX12 3 T s.2 n1 n2 50 [(0, .ref x0), (1, .int x1), (2, .int s.1)] []
  | .inr e => Wp X cX12_hold RX12 3 T e n1 n2 113 [] []
set_option maxHeartbeats 4000000 in
set_option maxRecDepth 100000 in
theorem w_X12_hold_50 {X : CX} {T : List Dsc} {n1 n2 : Nat} {x0 : Nat} {x1 : Int32} {x2 : Int32} {μ : Mem} {r : ((Int32 × Mem) ⊕ ((Mem)))} (hX : XR X 2 n1 n2) (hx0 : T[x0]? = some (.inl 11)) (hf : f_X12_hold_50 T x0 x1 x2 μ = some r) (hk : k_X12_hold_50 X T n1 n2 x0 x1 r) : Wp X cX12_hold RX12 3 T μ n1 n2 50 [(0, .ref x0), (1, .int x1), (2, .int x2)] [] := by
  unfold f_X12_hold_50 at hf
  refine Wp.iload_n (pc := 50) 2 rfl rfl dX12_hold_50 ?_
  refine Wp.bipush (pc := 51) (12 : Int32) (by decide) dX12_hold_51 ?_
  refine Wp.icmp_ge (pc := 53) 113 dX12_hold_53 (by decide) (fun hc1 => ?_) (fun hc1 => ?_)
  · rw [if_pos hc1] at hf
    refine Wp.lo' (lo' := []) [] rfl ?_
    cases hf
    exact hk
  · rw [if_neg hc1] at hf
    refine Wp.aload_n (pc := 56) 0 rfl rfl dX12_hold_56 ?_
    obtain ⟨a2, h3, hf⟩ := bnd hf
    refine Wp.getR (pc := 57) (gA_R h3) hx0 fk_RX12_191 rfl dX12_hold_57 ?_
    refine Wp.bipush (pc := 60) (12 : Int32) (by decide) dX12_hold_60 ?_
    refine Wp.iload_n (pc := 62) 1 rfl rfl dX12_hold_62 ?_
    refine Wp.imul (pc := 63) dX12_hold_63 ?_
    refine Wp.iload_n (pc := 64) 2 rfl rfl dX12_hold_64 ?_
    refine Wp.iadd (pc := 65) dX12_hold_65 ?_
    refine Wp.aload_n (pc := 66) 0 rfl rfl dX12_hold_66 ?_
    obtain ⟨a4, h5, hf⟩ := bnd hf
    refine Wp.getR (pc := 67) (gA_R h5) hx0 fk_RX12_128 rfl dX12_hold_67 ?_
    refine Wp.iload_n (pc := 70) 2 rfl rfl dX12_hold_70 ?_
    obtain ⟨v6, h7, hf⟩ := bnd hf
    refine Wp.iald (pc := 71) h7 (gA_T h5) dX12_hold_71 ?_
    obtain ⟨μ8, h9, hf⟩ := bnd hf
    refine Wp.iast (pc := 72) h9 (gA_T h3) dX12_hold_72 ?_
    refine Wp.aload_n (pc := 73) 0 rfl rfl dX12_hold_73 ?_
    obtain ⟨a10, h11, hf⟩ := bnd hf
    refine Wp.getR (pc := 74) (gA_R h11) hx0 fk_RX12_194 rfl dX12_hold_74 ?_
    refine Wp.bipush (pc := 77) (12 : Int32) (by decide) dX12_hold_77 ?_
    refine Wp.iload_n (pc := 79) 1 rfl rfl dX12_hold_79 ?_
    refine Wp.imul (pc := 80) dX12_hold_80 ?_
    refine Wp.iload_n (pc := 81) 2 rfl rfl dX12_hold_81 ?_
    refine Wp.iadd (pc := 82) dX12_hold_82 ?_
    refine Wp.aload_n (pc := 83) 0 rfl rfl dX12_hold_83 ?_
    obtain ⟨a12, h13, hf⟩ := bnd hf
    refine Wp.getR (pc := 84) (gA_R h13) hx0 fk_RX12_131 rfl dX12_hold_84 ?_
    refine Wp.iload_n (pc := 87) 2 rfl rfl dX12_hold_87 ?_
    obtain ⟨v14, h15, hf⟩ := bnd hf
    refine Wp.iald (pc := 88) h15 (gA_T h13) dX12_hold_88 ?_
    obtain ⟨μ16, h17, hf⟩ := bnd hf
    refine Wp.iast (pc := 89) h17 (gA_T h11) dX12_hold_89 ?_
    refine Wp.aload_n (pc := 90) 0 rfl rfl dX12_hold_90 ?_
    obtain ⟨a18, h19, hf⟩ := bnd hf
    refine Wp.getR (pc := 91) (gA_R h19) hx0 fk_RX12_197 rfl dX12_hold_91 ?_
    refine Wp.bipush (pc := 94) (12 : Int32) (by decide) dX12_hold_94 ?_
    refine Wp.iload_n (pc := 96) 1 rfl rfl dX12_hold_96 ?_
    refine Wp.imul (pc := 97) dX12_hold_97 ?_
    refine Wp.iload_n (pc := 98) 2 rfl rfl dX12_hold_98 ?_
    refine Wp.iadd (pc := 99) dX12_hold_99 ?_
    refine Wp.aload_n (pc := 100) 0 rfl rfl dX12_hold_100 ?_
    obtain ⟨a20, h21, hf⟩ := bnd hf
    refine Wp.getR (pc := 101) (gA_R h21) hx0 fk_RX12_134 rfl dX12_hold_101 ?_
    refine Wp.iload_n (pc := 104) 2 rfl rfl dX12_hold_104 ?_
    obtain ⟨v22, h23, hf⟩ := bnd hf
    refine Wp.iald (pc := 105) h23 (gA_T h21) dX12_hold_105 ?_
    obtain ⟨μ24, h25, hf⟩ := bnd hf
    refine Wp.iast (pc := 106) h25 (gA_T h19) dX12_hold_106 ?_
    obtain ⟨v26, h27, hf⟩ := bnd hf
    refine Wp.iincN (pc := 107) (lo' := [(0, .ref x0), (1, .int x1), (2, .int v26)]) (1 : Int32) (by decide) h27 2 rfl [1, 2, 0] rfl (by decide) dX12_hold_107 ?_
    refine Wp.goto (pc := 110) 50 dX12_hold_110 (by decide) ?_
    cases hf
    exact hk
theorem wl_X12_hold_50 {X : CX} {T : List Dsc} {n1 n2 : Nat} {x0 : Nat} {x1 : Int32} {x2 : Int32} {μ : Mem} {e : ((Mem))} (hX : XR X 2 n1 n2) (hx0 : T[x0]? = some (.inl 11)) (h : loop (g_X12_hold_50 T x0 x1) (x2, μ) = some e) (he : Wp X cX12_hold RX12 3 T e n1 n2 113 [] []) : Wp X cX12_hold RX12 3 T μ n1 n2 50 [(0, .ref x0), (1, .int x1), (2, .int x2)] [] :=
  loop_ok (K := k_X12_hold_50 X T n1 n2 x0 x1) (fun s r hf hk => w_X12_hold_50 hX hx0 hf hk) h he
set_option maxHeartbeats 4000000 in
set_option maxRecDepth 100000 in
theorem w_X12_hold {X : CX} {T : List Dsc} {n1 n2 : Nat} {x0 : Nat} {x1 : Int32} {μ : Mem} {r : (Int32 × Mem)} (hX : XR X 2 n1 n2) (hx0 : T[x0]? = some (.inl 11)) (hf : F_X12_hold T x0 x1 μ = some r) (hk : FnZ X cX12_hold RX12 3 T n1 n2 r) : Wp X cX12_hold RX12 3 T μ n1 n2 0 [(0, .ref x0), (1, .int x1)] [] := by
  unfold F_X12_hold at hf
  refine Wp.iload_n (pc := 0) 1 rfl rfl dX12_hold_0 ?_
  refine Wp.iconst (pc := 1) (0 : Int32) (by decide) dX12_hold_1 ?_
  refine Wp.iconst (pc := 2) (2 : Int32) (by decide) dX12_hold_2 ?_
  obtain ⟨c1, h2, hf⟩ := bnd hf
  refine Wp.callSi (pc := 3) (st := []) (as := [.int x1, .int (0 : Int32), .int (2 : Int32)]) (c_X12_in h2) ml_RX12_414 ms_X12_in mb_X12_in hX (Nat.le_of_ble_eq_true rfl) (by decide) rfl (by simp) dX12_hold_3 rfl ?_
  refine Wp.if_ne (pc := 6) 11 dX12_hold_6 (by decide) (fun hc3 => ?_) (fun hc3 => ?_)
  · rw [if_neg hc3] at hf
    refine Wp.aload_n (pc := 11) 0 rfl rfl dX12_hold_11 ?_
    obtain ⟨a4, h5, hf⟩ := bnd hf
    refine Wp.getR (pc := 12) (gA_R h5) hx0 fk_RX12_188 rfl dX12_hold_12 ?_
    refine Wp.iload_n (pc := 15) 1 rfl rfl dX12_hold_15 ?_
    refine Wp.iconst (pc := 16) (1 : Int32) (by decide) dX12_hold_16 ?_
    obtain ⟨μ6, h7, hf⟩ := bnd hf
    refine Wp.zast (pc := 17) (Or.inr rfl) h7 (gA_T h5) dX12_hold_17 ?_
    refine Wp.aload_n (pc := 18) 0 rfl rfl dX12_hold_18 ?_
    obtain ⟨a8, h9, hf⟩ := bnd hf
    refine Wp.getR (pc := 19) (gA_R h9) hx0 fk_RX12_200 rfl dX12_hold_19 ?_
    refine Wp.iload_n (pc := 22) 1 rfl rfl dX12_hold_22 ?_
    refine Wp.aload_n (pc := 23) 0 rfl rfl dX12_hold_23 ?_
    refine Wp.getI (pc := 24) hx0 fk_RX12_209 rfl dX12_hold_24 ?_
    obtain ⟨μ10, h11, hf⟩ := bnd hf
    refine Wp.iast (pc := 27) h11 (gA_T h9) dX12_hold_27 ?_
    refine Wp.aload_n (pc := 28) 0 rfl rfl dX12_hold_28 ?_
    obtain ⟨a12, h13, hf⟩ := bnd hf
    refine Wp.getR (pc := 29) (gA_R h13) hx0 fk_RX12_203 rfl dX12_hold_29 ?_
    refine Wp.iload_n (pc := 32) 1 rfl rfl dX12_hold_32 ?_
    refine Wp.aload_n (pc := 33) 0 rfl rfl dX12_hold_33 ?_
    refine Wp.getI (pc := 34) hx0 fk_RX12_393 rfl dX12_hold_34 ?_
    obtain ⟨μ14, h15, hf⟩ := bnd hf
    refine Wp.iast (pc := 37) h15 (gA_T h13) dX12_hold_37 ?_
    refine Wp.aload_n (pc := 38) 0 rfl rfl dX12_hold_38 ?_
    obtain ⟨a16, h17, hf⟩ := bnd hf
    refine Wp.getR (pc := 39) (gA_R h17) hx0 fk_RX12_206 rfl dX12_hold_39 ?_
    refine Wp.iload_n (pc := 42) 1 rfl rfl dX12_hold_42 ?_
    refine Wp.aload_n (pc := 43) 0 rfl rfl dX12_hold_43 ?_
    refine Wp.getI (pc := 44) hx0 fk_RX12_396 rfl dX12_hold_44 ?_
    obtain ⟨μ18, h19, hf⟩ := bnd hf
    refine Wp.iast (pc := 47) h19 (gA_T h17) dX12_hold_47 ?_
    refine Wp.iconst (pc := 48) (0 : Int32) (by decide) dX12_hold_48 ?_
    refine Wp.istore_n (pc := 49) (lo' := [(0, .ref x0), (1, .int x1), (2, .int (0 : Int32))]) [1, 2, 0] rfl (by decide) rfl dX12_hold_49 ?_
    obtain ⟨e20, h21, hf⟩ := bnd hf
    refine wl_X12_hold_50 hX hx0 h21 ?_
    refine Wp.iconst (pc := 113) (1 : Int32) (by decide) dX12_hold_113 ?_
    cases hf
    exact hk _ _ (Or.inr rfl) dX12_hold_114
  · rw [if_pos hc3] at hf
    refine Wp.iconst (pc := 9) (0 : Int32) (by decide) dX12_hold_9 ?_
    cases hf
    exact hk _ _ (Or.inl rfl) dX12_hold_10
theorem c_X12_hold {T : List Dsc} {x0 : Nat} {x1 : Int32} {μ : Mem} {r : (Int32 × Mem)} (hx0 : T[x0]? = some (.inl 11)) (hf : F_X12_hold T x0 x1 μ = some r) : Ct 2 yX12_hold cX12_hold 3 (some .boolean) T μ [.ref x0, .int x1] (some (.int r.1)) r.2 := Ct.ofZ (by decide +kernel) (Nat.le_of_ble_eq_true rfl) (fun X hX hk => w_X12_hold hX hx0 hf hk)
theorem dX12_restore_0 : decode cX12_restore 0 = .ok (.iload_n 1, 1) := by decide +kernel
theorem dX12_restore_1 : decode cX12_restore 1 = .ok (.iconst 0, 1) := by decide +kernel
theorem dX12_restore_2 : decode cX12_restore 2 = .ok (.iconst 2, 1) := by decide +kernel
theorem dX12_restore_3 : decode cX12_restore 3 = .ok (.invokestatic 414, 3) := by decide +kernel
theorem dX12_restore_6 : decode cX12_restore 6 = .ok (.ifCond .eq 12, 3) := by decide +kernel
theorem dX12_restore_9 : decode cX12_restore 9 = .ok (.aload_n 0, 1) := by decide +kernel
theorem dX12_restore_10 : decode cX12_restore 10 = .ok (.getfield 188, 3) := by decide +kernel
theorem dX12_restore_13 : decode cX12_restore 13 = .ok (.iload_n 1, 1) := by decide +kernel
theorem dX12_restore_14 : decode cX12_restore 14 = .ok (.baload, 1) := by decide +kernel
theorem dX12_restore_15 : decode cX12_restore 15 = .ok (.ifCond .ne 5, 3) := by decide +kernel
theorem dX12_restore_18 : decode cX12_restore 18 = .ok (.iconst 0, 1) := by decide +kernel
theorem dX12_restore_19 : decode cX12_restore 19 = .ok (.ireturn, 1) := by decide +kernel
theorem dX12_restore_20 : decode cX12_restore 20 = .ok (.aload_n 0, 1) := by decide +kernel
theorem dX12_restore_21 : decode cX12_restore 21 = .ok (.aload_n 0, 1) := by decide +kernel
theorem dX12_restore_22 : decode cX12_restore 22 = .ok (.getfield 200, 3) := by decide +kernel
theorem dX12_restore_25 : decode cX12_restore 25 = .ok (.iload_n 1, 1) := by decide +kernel
theorem dX12_restore_26 : decode cX12_restore 26 = .ok (.iaload, 1) := by decide +kernel
theorem dX12_restore_27 : decode cX12_restore 27 = .ok (.putfield 209, 3) := by decide +kernel
theorem dX12_restore_30 : decode cX12_restore 30 = .ok (.aload_n 0, 1) := by decide +kernel
theorem dX12_restore_31 : decode cX12_restore 31 = .ok (.aload_n 0, 1) := by decide +kernel
theorem dX12_restore_32 : decode cX12_restore 32 = .ok (.getfield 203, 3) := by decide +kernel
theorem dX12_restore_35 : decode cX12_restore 35 = .ok (.iload_n 1, 1) := by decide +kernel
theorem dX12_restore_36 : decode cX12_restore 36 = .ok (.iaload, 1) := by decide +kernel
theorem dX12_restore_37 : decode cX12_restore 37 = .ok (.putfield 393, 3) := by decide +kernel
theorem dX12_restore_40 : decode cX12_restore 40 = .ok (.aload_n 0, 1) := by decide +kernel
theorem dX12_restore_41 : decode cX12_restore 41 = .ok (.aload_n 0, 1) := by decide +kernel
theorem dX12_restore_42 : decode cX12_restore 42 = .ok (.getfield 206, 3) := by decide +kernel
theorem dX12_restore_45 : decode cX12_restore 45 = .ok (.iload_n 1, 1) := by decide +kernel
theorem dX12_restore_46 : decode cX12_restore 46 = .ok (.iaload, 1) := by decide +kernel
theorem dX12_restore_47 : decode cX12_restore 47 = .ok (.putfield 396, 3) := by decide +kernel
theorem dX12_restore_50 : decode cX12_restore 50 = .ok (.aload_n 0, 1) := by decide +kernel
theorem dX12_restore_51 : decode cX12_restore 51 = .ok (.iconst 0, 1) := by decide +kernel
theorem dX12_restore_52 : decode cX12_restore 52 = .ok (.putfield 311, 3) := by decide +kernel
theorem dX12_restore_55 : decode cX12_restore 55 = .ok (.iconst 0, 1) := by decide +kernel
theorem dX12_restore_56 : decode cX12_restore 56 = .ok (.istore_n 2, 1) := by decide +kernel
theorem dX12_restore_57 : decode cX12_restore 57 = .ok (.iload_n 2, 1) := by decide +kernel
theorem dX12_restore_58 : decode cX12_restore 58 = .ok (.bipush 12, 2) := by decide +kernel
theorem dX12_restore_60 : decode cX12_restore 60 = .ok (.if_icmp .ge 60, 3) := by decide +kernel
theorem dX12_restore_63 : decode cX12_restore 63 = .ok (.aload_n 0, 1) := by decide +kernel
theorem dX12_restore_64 : decode cX12_restore 64 = .ok (.getfield 128, 3) := by decide +kernel
theorem dX12_restore_67 : decode cX12_restore 67 = .ok (.iload_n 2, 1) := by decide +kernel
theorem dX12_restore_68 : decode cX12_restore 68 = .ok (.aload_n 0, 1) := by decide +kernel
theorem dX12_restore_69 : decode cX12_restore 69 = .ok (.getfield 191, 3) := by decide +kernel
theorem dX12_restore_72 : decode cX12_restore 72 = .ok (.bipush 12, 2) := by decide +kernel
theorem dX12_restore_74 : decode cX12_restore 74 = .ok (.iload_n 1, 1) := by decide +kernel
theorem dX12_restore_75 : decode cX12_restore 75 = .ok (.imul, 1) := by decide +kernel
theorem dX12_restore_76 : decode cX12_restore 76 = .ok (.iload_n 2, 1) := by decide +kernel
theorem dX12_restore_77 : decode cX12_restore 77 = .ok (.iadd, 1) := by decide +kernel
theorem dX12_restore_78 : decode cX12_restore 78 = .ok (.iaload, 1) := by decide +kernel
theorem dX12_restore_79 : decode cX12_restore 79 = .ok (.iastore, 1) := by decide +kernel
theorem dX12_restore_80 : decode cX12_restore 80 = .ok (.aload_n 0, 1) := by decide +kernel
theorem dX12_restore_81 : decode cX12_restore 81 = .ok (.getfield 131, 3) := by decide +kernel
theorem dX12_restore_84 : decode cX12_restore 84 = .ok (.iload_n 2, 1) := by decide +kernel
theorem dX12_restore_85 : decode cX12_restore 85 = .ok (.aload_n 0, 1) := by decide +kernel
theorem dX12_restore_86 : decode cX12_restore 86 = .ok (.getfield 194, 3) := by decide +kernel
theorem dX12_restore_89 : decode cX12_restore 89 = .ok (.bipush 12, 2) := by decide +kernel
theorem dX12_restore_91 : decode cX12_restore 91 = .ok (.iload_n 1, 1) := by decide +kernel
theorem dX12_restore_92 : decode cX12_restore 92 = .ok (.imul, 1) := by decide +kernel
theorem dX12_restore_93 : decode cX12_restore 93 = .ok (.iload_n 2, 1) := by decide +kernel
theorem dX12_restore_94 : decode cX12_restore 94 = .ok (.iadd, 1) := by decide +kernel
theorem dX12_restore_95 : decode cX12_restore 95 = .ok (.iaload, 1) := by decide +kernel
theorem dX12_restore_96 : decode cX12_restore 96 = .ok (.iastore, 1) := by decide +kernel
theorem dX12_restore_97 : decode cX12_restore 97 = .ok (.aload_n 0, 1) := by decide +kernel
theorem dX12_restore_98 : decode cX12_restore 98 = .ok (.getfield 134, 3) := by decide +kernel
theorem dX12_restore_101 : decode cX12_restore 101 = .ok (.iload_n 2, 1) := by decide +kernel
theorem dX12_restore_102 : decode cX12_restore 102 = .ok (.aload_n 0, 1) := by decide +kernel
theorem dX12_restore_103 : decode cX12_restore 103 = .ok (.getfield 197, 3) := by decide +kernel
theorem dX12_restore_106 : decode cX12_restore 106 = .ok (.bipush 12, 2) := by decide +kernel
theorem dX12_restore_108 : decode cX12_restore 108 = .ok (.iload_n 1, 1) := by decide +kernel
theorem dX12_restore_109 : decode cX12_restore 109 = .ok (.imul, 1) := by decide +kernel
theorem dX12_restore_110 : decode cX12_restore 110 = .ok (.iload_n 2, 1) := by decide +kernel
theorem dX12_restore_111 : decode cX12_restore 111 = .ok (.iadd, 1) := by decide +kernel
theorem dX12_restore_112 : decode cX12_restore 112 = .ok (.iaload, 1) := by decide +kernel
theorem dX12_restore_113 : decode cX12_restore 113 = .ok (.iastore, 1) := by decide +kernel
theorem dX12_restore_114 : decode cX12_restore 114 = .ok (.iinc 2 1, 3) := by decide +kernel
theorem dX12_restore_117 : decode cX12_restore 117 = .ok (.goto (-60), 3) := by decide +kernel
theorem dX12_restore_120 : decode cX12_restore 120 = .ok (.iconst 1, 1) := by decide +kernel
theorem dX12_restore_121 : decode cX12_restore 121 = .ok (.ireturn, 1) := by decide +kernel
def k_X12_restore_57 (X : CX) (T : List Dsc) (n1 n2 : Nat) (x0 : Nat) (x1 : Int32) (r : ((Int32 × Mem) ⊕ ((Mem)))) : Prop := match r with
  | .inl s => Wp X cX12_restore RX12 3 T s.2 n1 n2 57 [(0, .ref x0), (1, .int x1), (2, .int s.1)] []
  | .inr e => Wp X cX12_restore RX12 3 T e n1 n2 120 [] []
set_option maxHeartbeats 4000000 in
set_option maxRecDepth 100000 in
theorem w_X12_restore_18 {X : CX} {T : List Dsc} {n1 n2 : Nat} {μ : Mem} {r : (Int32 × Mem)} (hX : XR X 2 n1 n2) (hf : f_X12_restore_18 T μ = some r) (hk : FnZ X cX12_restore RX12 3 T n1 n2 r) : Wp X cX12_restore RX12 3 T μ n1 n2 18 [] [] := by
  unfold f_X12_restore_18 at hf
  refine Wp.iconst (pc := 18) (0 : Int32) (by decide) dX12_restore_18 ?_
  cases hf
  exact hk _ _ (Or.inl rfl) dX12_restore_19
set_option maxHeartbeats 4000000 in
set_option maxRecDepth 100000 in
theorem w_X12_restore_57 {X : CX} {T : List Dsc} {n1 n2 : Nat} {x0 : Nat} {x1 : Int32} {x2 : Int32} {μ : Mem} {r : ((Int32 × Mem) ⊕ ((Mem)))} (hX : XR X 2 n1 n2) (hx0 : T[x0]? = some (.inl 11)) (hf : f_X12_restore_57 T x0 x1 x2 μ = some r) (hk : k_X12_restore_57 X T n1 n2 x0 x1 r) : Wp X cX12_restore RX12 3 T μ n1 n2 57 [(0, .ref x0), (1, .int x1), (2, .int x2)] [] := by
  unfold f_X12_restore_57 at hf
  refine Wp.iload_n (pc := 57) 2 rfl rfl dX12_restore_57 ?_
  refine Wp.bipush (pc := 58) (12 : Int32) (by decide) dX12_restore_58 ?_
  refine Wp.icmp_ge (pc := 60) 120 dX12_restore_60 (by decide) (fun hc1 => ?_) (fun hc1 => ?_)
  · rw [if_pos hc1] at hf
    refine Wp.lo' (lo' := []) [] rfl ?_
    cases hf
    exact hk
  · rw [if_neg hc1] at hf
    refine Wp.aload_n (pc := 63) 0 rfl rfl dX12_restore_63 ?_
    obtain ⟨a2, h3, hf⟩ := bnd hf
    refine Wp.getR (pc := 64) (gA_R h3) hx0 fk_RX12_128 rfl dX12_restore_64 ?_
    refine Wp.iload_n (pc := 67) 2 rfl rfl dX12_restore_67 ?_
    refine Wp.aload_n (pc := 68) 0 rfl rfl dX12_restore_68 ?_
    obtain ⟨a4, h5, hf⟩ := bnd hf
    refine Wp.getR (pc := 69) (gA_R h5) hx0 fk_RX12_191 rfl dX12_restore_69 ?_
    refine Wp.bipush (pc := 72) (12 : Int32) (by decide) dX12_restore_72 ?_
    refine Wp.iload_n (pc := 74) 1 rfl rfl dX12_restore_74 ?_
    refine Wp.imul (pc := 75) dX12_restore_75 ?_
    refine Wp.iload_n (pc := 76) 2 rfl rfl dX12_restore_76 ?_
    refine Wp.iadd (pc := 77) dX12_restore_77 ?_
    obtain ⟨v6, h7, hf⟩ := bnd hf
    refine Wp.iald (pc := 78) h7 (gA_T h5) dX12_restore_78 ?_
    obtain ⟨μ8, h9, hf⟩ := bnd hf
    refine Wp.iast (pc := 79) h9 (gA_T h3) dX12_restore_79 ?_
    refine Wp.aload_n (pc := 80) 0 rfl rfl dX12_restore_80 ?_
    obtain ⟨a10, h11, hf⟩ := bnd hf
    refine Wp.getR (pc := 81) (gA_R h11) hx0 fk_RX12_131 rfl dX12_restore_81 ?_
    refine Wp.iload_n (pc := 84) 2 rfl rfl dX12_restore_84 ?_
    refine Wp.aload_n (pc := 85) 0 rfl rfl dX12_restore_85 ?_
    obtain ⟨a12, h13, hf⟩ := bnd hf
    refine Wp.getR (pc := 86) (gA_R h13) hx0 fk_RX12_194 rfl dX12_restore_86 ?_
    refine Wp.bipush (pc := 89) (12 : Int32) (by decide) dX12_restore_89 ?_
    refine Wp.iload_n (pc := 91) 1 rfl rfl dX12_restore_91 ?_
    refine Wp.imul (pc := 92) dX12_restore_92 ?_
    refine Wp.iload_n (pc := 93) 2 rfl rfl dX12_restore_93 ?_
    refine Wp.iadd (pc := 94) dX12_restore_94 ?_
    obtain ⟨v14, h15, hf⟩ := bnd hf
    refine Wp.iald (pc := 95) h15 (gA_T h13) dX12_restore_95 ?_
    obtain ⟨μ16, h17, hf⟩ := bnd hf
    refine Wp.iast (pc := 96) h17 (gA_T h11) dX12_restore_96 ?_
    refine Wp.aload_n (pc := 97) 0 rfl rfl dX12_restore_97 ?_
    obtain ⟨a18, h19, hf⟩ := bnd hf
    refine Wp.getR (pc := 98) (gA_R h19) hx0 fk_RX12_134 rfl dX12_restore_98 ?_
    refine Wp.iload_n (pc := 101) 2 rfl rfl dX12_restore_101 ?_
    refine Wp.aload_n (pc := 102) 0 rfl rfl dX12_restore_102 ?_
    obtain ⟨a20, h21, hf⟩ := bnd hf
    refine Wp.getR (pc := 103) (gA_R h21) hx0 fk_RX12_197 rfl dX12_restore_103 ?_
    refine Wp.bipush (pc := 106) (12 : Int32) (by decide) dX12_restore_106 ?_
    refine Wp.iload_n (pc := 108) 1 rfl rfl dX12_restore_108 ?_
    refine Wp.imul (pc := 109) dX12_restore_109 ?_
    refine Wp.iload_n (pc := 110) 2 rfl rfl dX12_restore_110 ?_
    refine Wp.iadd (pc := 111) dX12_restore_111 ?_
    obtain ⟨v22, h23, hf⟩ := bnd hf
    refine Wp.iald (pc := 112) h23 (gA_T h21) dX12_restore_112 ?_
    obtain ⟨μ24, h25, hf⟩ := bnd hf
    refine Wp.iast (pc := 113) h25 (gA_T h19) dX12_restore_113 ?_
    obtain ⟨v26, h27, hf⟩ := bnd hf
    refine Wp.iincN (pc := 114) (lo' := [(0, .ref x0), (1, .int x1), (2, .int v26)]) (1 : Int32) (by decide) h27 2 rfl [1, 2, 0] rfl (by decide) dX12_restore_114 ?_
    refine Wp.goto (pc := 117) 57 dX12_restore_117 (by decide) ?_
    cases hf
    exact hk
theorem wl_X12_restore_57 {X : CX} {T : List Dsc} {n1 n2 : Nat} {x0 : Nat} {x1 : Int32} {x2 : Int32} {μ : Mem} {e : ((Mem))} (hX : XR X 2 n1 n2) (hx0 : T[x0]? = some (.inl 11)) (h : loop (g_X12_restore_57 T x0 x1) (x2, μ) = some e) (he : Wp X cX12_restore RX12 3 T e n1 n2 120 [] []) : Wp X cX12_restore RX12 3 T μ n1 n2 57 [(0, .ref x0), (1, .int x1), (2, .int x2)] [] :=
  loop_ok (K := k_X12_restore_57 X T n1 n2 x0 x1) (fun s r hf hk => w_X12_restore_57 hX hx0 hf hk) h he
set_option maxHeartbeats 4000000 in
set_option maxRecDepth 100000 in
theorem w_X12_restore {X : CX} {T : List Dsc} {n1 n2 : Nat} {x0 : Nat} {x1 : Int32} {μ : Mem} {r : (Int32 × Mem)} (hX : XR X 2 n1 n2) (hx0 : T[x0]? = some (.inl 11)) (hf : F_X12_restore T x0 x1 μ = some r) (hk : FnZ X cX12_restore RX12 3 T n1 n2 r) : Wp X cX12_restore RX12 3 T μ n1 n2 0 [(0, .ref x0), (1, .int x1)] [] := by
  unfold F_X12_restore at hf
  refine Wp.iload_n (pc := 0) 1 rfl rfl dX12_restore_0 ?_
  refine Wp.iconst (pc := 1) (0 : Int32) (by decide) dX12_restore_1 ?_
  refine Wp.iconst (pc := 2) (2 : Int32) (by decide) dX12_restore_2 ?_
  obtain ⟨c1, h2, hf⟩ := bnd hf
  refine Wp.callSi (pc := 3) (st := []) (as := [.int x1, .int (0 : Int32), .int (2 : Int32)]) (c_X12_in h2) ml_RX12_414 ms_X12_in mb_X12_in hX (Nat.le_of_ble_eq_true rfl) (by decide) rfl (by simp) dX12_restore_3 rfl ?_
  refine Wp.if_eq (pc := 6) 18 dX12_restore_6 (by decide) (fun hc3 => ?_) (fun hc3 => ?_)
  · rw [if_pos hc3] at hf
    refine Wp.lo' (lo' := []) [] rfl ?_
    exact w_X12_restore_18 hX hf hk
  · rw [if_neg hc3] at hf
    refine Wp.aload_n (pc := 9) 0 rfl rfl dX12_restore_9 ?_
    obtain ⟨a4, h5, hf⟩ := bnd hf
    refine Wp.getR (pc := 10) (gA_R h5) hx0 fk_RX12_188 rfl dX12_restore_10 ?_
    refine Wp.iload_n (pc := 13) 1 rfl rfl dX12_restore_13 ?_
    obtain ⟨v6, h7, hf⟩ := bnd hf
    refine Wp.zald (pc := 14) h7 (gA_T h5) dX12_restore_14 ?_
    refine Wp.if_ne (pc := 15) 20 dX12_restore_15 (by decide) (fun hc8 => ?_) (fun hc8 => ?_)
    · rw [if_neg hc8] at hf
      refine Wp.aload_n (pc := 20) 0 rfl rfl dX12_restore_20 ?_
      refine Wp.aload_n (pc := 21) 0 rfl rfl dX12_restore_21 ?_
      obtain ⟨a9, h10, hf⟩ := bnd hf
      refine Wp.getR (pc := 22) (gA_R h10) hx0 fk_RX12_200 rfl dX12_restore_22 ?_
      refine Wp.iload_n (pc := 25) 1 rfl rfl dX12_restore_25 ?_
      obtain ⟨v11, h12, hf⟩ := bnd hf
      refine Wp.iald (pc := 26) h12 (gA_T h10) dX12_restore_26 ?_
      obtain ⟨μ13, h14, hf⟩ := bnd hf
      refine Wp.ptI (pc := 27) h14 hx0 fk_RX12_209 ff_RX12_11_58 rfl dX12_restore_27 ?_
      refine Wp.aload_n (pc := 30) 0 rfl rfl dX12_restore_30 ?_
      refine Wp.aload_n (pc := 31) 0 rfl rfl dX12_restore_31 ?_
      obtain ⟨a15, h16, hf⟩ := bnd hf
      refine Wp.getR (pc := 32) (gA_R h16) hx0 fk_RX12_203 rfl dX12_restore_32 ?_
      refine Wp.iload_n (pc := 35) 1 rfl rfl dX12_restore_35 ?_
      obtain ⟨v17, h18, hf⟩ := bnd hf
      refine Wp.iald (pc := 36) h18 (gA_T h16) dX12_restore_36 ?_
      obtain ⟨μ19, h20, hf⟩ := bnd hf
      refine Wp.ptI (pc := 37) h20 hx0 fk_RX12_393 ff_RX12_11_59 rfl dX12_restore_37 ?_
      refine Wp.aload_n (pc := 40) 0 rfl rfl dX12_restore_40 ?_
      refine Wp.aload_n (pc := 41) 0 rfl rfl dX12_restore_41 ?_
      obtain ⟨a21, h22, hf⟩ := bnd hf
      refine Wp.getR (pc := 42) (gA_R h22) hx0 fk_RX12_206 rfl dX12_restore_42 ?_
      refine Wp.iload_n (pc := 45) 1 rfl rfl dX12_restore_45 ?_
      obtain ⟨v23, h24, hf⟩ := bnd hf
      refine Wp.iald (pc := 46) h24 (gA_T h22) dX12_restore_46 ?_
      obtain ⟨μ25, h26, hf⟩ := bnd hf
      refine Wp.ptI (pc := 47) h26 hx0 fk_RX12_396 ff_RX12_11_60 rfl dX12_restore_47 ?_
      refine Wp.aload_n (pc := 50) 0 rfl rfl dX12_restore_50 ?_
      refine Wp.iconst (pc := 51) (0 : Int32) (by decide) dX12_restore_51 ?_
      obtain ⟨μ27, h28, hf⟩ := bnd hf
      refine Wp.ptI (pc := 52) h28 hx0 fk_RX12_311 ff_RX12_11_61 rfl dX12_restore_52 ?_
      refine Wp.iconst (pc := 55) (0 : Int32) (by decide) dX12_restore_55 ?_
      refine Wp.istore_n (pc := 56) (lo' := [(0, .ref x0), (1, .int x1), (2, .int (0 : Int32))]) [1, 2, 0] rfl (by decide) rfl dX12_restore_56 ?_
      obtain ⟨e29, h30, hf⟩ := bnd hf
      refine wl_X12_restore_57 hX hx0 h30 ?_
      refine Wp.iconst (pc := 120) (1 : Int32) (by decide) dX12_restore_120 ?_
      cases hf
      exact hk _ _ (Or.inr rfl) dX12_restore_121
    · rw [if_pos hc8] at hf
      refine Wp.lo' (lo' := []) [] rfl ?_
      exact w_X12_restore_18 hX hf hk
theorem c_X12_restore {T : List Dsc} {x0 : Nat} {x1 : Int32} {μ : Mem} {r : (Int32 × Mem)} (hx0 : T[x0]? = some (.inl 11)) (hf : F_X12_restore T x0 x1 μ = some r) : Ct 2 yX12_restore cX12_restore 3 (some .boolean) T μ [.ref x0, .int x1] (some (.int r.1)) r.2 := Ct.ofZ (by decide +kernel) (Nat.le_of_ble_eq_true rfl) (fun X hX hk => w_X12_restore hX hx0 hf hk)
theorem dX12_count_0 : decode cX12_count 0 = .ok (.iload_n 1, 1) := by decide +kernel
theorem dX12_count_1 : decode cX12_count 1 = .ok (.tableswitch 235 0 12 #[67, 77, 87, 92, 97, 115, 120, 148, 158, 163, 168, 173, 218], 67) := by decide +kernel
theorem dX12_count_68 : decode cX12_count 68 = .ok (.aload_n 0, 1) := by decide +kernel
theorem dX12_count_69 : decode cX12_count 69 = .ok (.getfield 46, 3) := by decide +kernel
theorem dX12_count_72 : decode cX12_count 72 = .ok (.aload_n 0, 1) := by decide +kernel
theorem dX12_count_73 : decode cX12_count 73 = .ok (.getfield 284, 3) := by decide +kernel
theorem dX12_count_76 : decode cX12_count 76 = .ok (.iaload, 1) := by decide +kernel
theorem dX12_count_77 : decode cX12_count 77 = .ok (.ireturn, 1) := by decide +kernel
theorem dX12_count_78 : decode cX12_count 78 = .ok (.aload_n 0, 1) := by decide +kernel
theorem dX12_count_79 : decode cX12_count 79 = .ok (.getfield 49, 3) := by decide +kernel
theorem dX12_count_82 : decode cX12_count 82 = .ok (.aload_n 0, 1) := by decide +kernel
theorem dX12_count_83 : decode cX12_count 83 = .ok (.getfield 284, 3) := by decide +kernel
theorem dX12_count_86 : decode cX12_count 86 = .ok (.iaload, 1) := by decide +kernel
theorem dX12_count_87 : decode cX12_count 87 = .ok (.ireturn, 1) := by decide +kernel
theorem dX12_count_88 : decode cX12_count 88 = .ok (.aload_n 0, 1) := by decide +kernel
theorem dX12_count_89 : decode cX12_count 89 = .ok (.invokevirtual 390, 3) := by decide +kernel
theorem dX12_count_92 : decode cX12_count 92 = .ok (.ireturn, 1) := by decide +kernel
theorem dX12_count_93 : decode cX12_count 93 = .ok (.aload_n 0, 1) := by decide +kernel
theorem dX12_count_94 : decode cX12_count 94 = .ok (.getfield 396, 3) := by decide +kernel
theorem dX12_count_97 : decode cX12_count 97 = .ok (.ireturn, 1) := by decide +kernel
theorem dX12_count_98 : decode cX12_count 98 = .ok (.aload_n 0, 1) := by decide +kernel
theorem dX12_count_99 : decode cX12_count 99 = .ok (.getfield 209, 3) := by decide +kernel
theorem dX12_count_102 : decode cX12_count 102 = .ok (.iconst (-1), 1) := by decide +kernel
theorem dX12_count_103 : decode cX12_count 103 = .ok (.if_icmp .ne 8, 3) := by decide +kernel
theorem dX12_count_106 : decode cX12_count 106 = .ok (.bipush (-2), 2) := by decide +kernel
theorem dX12_count_108 : decode cX12_count 108 = .ok (.goto 7, 3) := by decide +kernel
theorem dX12_count_111 : decode cX12_count 111 = .ok (.aload_n 0, 1) := by decide +kernel
theorem dX12_count_112 : decode cX12_count 112 = .ok (.getfield 209, 3) := by decide +kernel
theorem dX12_count_115 : decode cX12_count 115 = .ok (.ireturn, 1) := by decide +kernel
theorem dX12_count_116 : decode cX12_count 116 = .ok (.aload_n 0, 1) := by decide +kernel
theorem dX12_count_117 : decode cX12_count 117 = .ok (.getfield 393, 3) := by decide +kernel
theorem dX12_count_120 : decode cX12_count 120 = .ok (.ireturn, 1) := by decide +kernel
theorem dX12_count_121 : decode cX12_count 121 = .ok (.aload_n 0, 1) := by decide +kernel
theorem dX12_count_122 : decode cX12_count 122 = .ok (.getfield 85, 3) := by decide +kernel
theorem dX12_count_125 : decode cX12_count 125 = .ok (.aload_n 0, 1) := by decide +kernel
theorem dX12_count_126 : decode cX12_count 126 = .ok (.getfield 284, 3) := by decide +kernel
theorem dX12_count_129 : decode cX12_count 129 = .ok (.iaload, 1) := by decide +kernel
theorem dX12_count_130 : decode cX12_count 130 = .ok (.iconst (-1), 1) := by decide +kernel
theorem dX12_count_131 : decode cX12_count 131 = .ok (.if_icmp .ne 8, 3) := by decide +kernel
theorem dX12_count_134 : decode cX12_count 134 = .ok (.bipush (-2), 2) := by decide +kernel
theorem dX12_count_136 : decode cX12_count 136 = .ok (.goto 12, 3) := by decide +kernel
theorem dX12_count_139 : decode cX12_count 139 = .ok (.aload_n 0, 1) := by decide +kernel
theorem dX12_count_140 : decode cX12_count 140 = .ok (.getfield 85, 3) := by decide +kernel
theorem dX12_count_143 : decode cX12_count 143 = .ok (.aload_n 0, 1) := by decide +kernel
theorem dX12_count_144 : decode cX12_count 144 = .ok (.getfield 284, 3) := by decide +kernel
theorem dX12_count_147 : decode cX12_count 147 = .ok (.iaload, 1) := by decide +kernel
theorem dX12_count_148 : decode cX12_count 148 = .ok (.ireturn, 1) := by decide +kernel
theorem dX12_count_149 : decode cX12_count 149 = .ok (.aload_n 0, 1) := by decide +kernel
theorem dX12_count_150 : decode cX12_count 150 = .ok (.getfield 88, 3) := by decide +kernel
theorem dX12_count_153 : decode cX12_count 153 = .ok (.aload_n 0, 1) := by decide +kernel
theorem dX12_count_154 : decode cX12_count 154 = .ok (.getfield 284, 3) := by decide +kernel
theorem dX12_count_157 : decode cX12_count 157 = .ok (.iaload, 1) := by decide +kernel
theorem dX12_count_158 : decode cX12_count 158 = .ok (.ireturn, 1) := by decide +kernel
theorem dX12_count_159 : decode cX12_count 159 = .ok (.aload_n 0, 1) := by decide +kernel
theorem dX12_count_160 : decode cX12_count 160 = .ok (.getfield 216, 3) := by decide +kernel
theorem dX12_count_163 : decode cX12_count 163 = .ok (.ireturn, 1) := by decide +kernel
theorem dX12_count_164 : decode cX12_count 164 = .ok (.aload_n 0, 1) := by decide +kernel
theorem dX12_count_165 : decode cX12_count 165 = .ok (.getfield 311, 3) := by decide +kernel
theorem dX12_count_168 : decode cX12_count 168 = .ok (.ireturn, 1) := by decide +kernel
theorem dX12_count_169 : decode cX12_count 169 = .ok (.aload_n 0, 1) := by decide +kernel
theorem dX12_count_170 : decode cX12_count 170 = .ok (.getfield 314, 3) := by decide +kernel
theorem dX12_count_173 : decode cX12_count 173 = .ok (.ireturn, 1) := by decide +kernel
theorem dX12_count_174 : decode cX12_count 174 = .ok (.aload_n 0, 1) := by decide +kernel
theorem dX12_count_175 : decode cX12_count 175 = .ok (.getfield 188, 3) := by decide +kernel
theorem dX12_count_178 : decode cX12_count 178 = .ok (.iconst 0, 1) := by decide +kernel
theorem dX12_count_179 : decode cX12_count 179 = .ok (.baload, 1) := by decide +kernel
theorem dX12_count_180 : decode cX12_count 180 = .ok (.ifCond .eq 7, 3) := by decide +kernel
theorem dX12_count_183 : decode cX12_count 183 = .ok (.iconst 1, 1) := by decide +kernel
theorem dX12_count_184 : decode cX12_count 184 = .ok (.goto 4, 3) := by decide +kernel
theorem dX12_count_187 : decode cX12_count 187 = .ok (.iconst 0, 1) := by decide +kernel
theorem dX12_count_188 : decode cX12_count 188 = .ok (.aload_n 0, 1) := by decide +kernel
theorem dX12_count_189 : decode cX12_count 189 = .ok (.getfield 188, 3) := by decide +kernel
theorem dX12_count_192 : decode cX12_count 192 = .ok (.iconst 1, 1) := by decide +kernel
theorem dX12_count_193 : decode cX12_count 193 = .ok (.baload, 1) := by decide +kernel
theorem dX12_count_194 : decode cX12_count 194 = .ok (.ifCond .eq 7, 3) := by decide +kernel
theorem dX12_count_197 : decode cX12_count 197 = .ok (.iconst 1, 1) := by decide +kernel
theorem dX12_count_198 : decode cX12_count 198 = .ok (.goto 4, 3) := by decide +kernel
theorem dX12_count_201 : decode cX12_count 201 = .ok (.iconst 0, 1) := by decide +kernel
theorem dX12_count_202 : decode cX12_count 202 = .ok (.iadd, 1) := by decide +kernel
theorem dX12_count_203 : decode cX12_count 203 = .ok (.aload_n 0, 1) := by decide +kernel
theorem dX12_count_204 : decode cX12_count 204 = .ok (.getfield 188, 3) := by decide +kernel
theorem dX12_count_207 : decode cX12_count 207 = .ok (.iconst 2, 1) := by decide +kernel
theorem dX12_count_208 : decode cX12_count 208 = .ok (.baload, 1) := by decide +kernel
theorem dX12_count_209 : decode cX12_count 209 = .ok (.ifCond .eq 7, 3) := by decide +kernel
theorem dX12_count_212 : decode cX12_count 212 = .ok (.iconst 1, 1) := by decide +kernel
theorem dX12_count_213 : decode cX12_count 213 = .ok (.goto 4, 3) := by decide +kernel
theorem dX12_count_216 : decode cX12_count 216 = .ok (.iconst 0, 1) := by decide +kernel
theorem dX12_count_217 : decode cX12_count 217 = .ok (.iadd, 1) := by decide +kernel
theorem dX12_count_218 : decode cX12_count 218 = .ok (.ireturn, 1) := by decide +kernel
theorem dX12_count_219 : decode cX12_count 219 = .ok (.aload_n 0, 1) := by decide +kernel
theorem dX12_count_220 : decode cX12_count 220 = .ok (.aload_n 0, 1) := by decide +kernel
theorem dX12_count_221 : decode cX12_count 221 = .ok (.getfield 396, 3) := by decide +kernel
theorem dX12_count_224 : decode cX12_count 224 = .ok (.invokevirtual 447, 3) := by decide +kernel
theorem dX12_count_227 : decode cX12_count 227 = .ok (.ifCond .eq 7, 3) := by decide +kernel
theorem dX12_count_230 : decode cX12_count 230 = .ok (.iconst 1, 1) := by decide +kernel
theorem dX12_count_231 : decode cX12_count 231 = .ok (.goto 4, 3) := by decide +kernel
theorem dX12_count_234 : decode cX12_count 234 = .ok (.iconst 0, 1) := by decide +kernel
theorem dX12_count_235 : decode cX12_count 235 = .ok (.ireturn, 1) := by decide +kernel
theorem dX12_count_236 : decode cX12_count 236 = .ok (.iconst (-1), 1) := by decide +kernel
theorem dX12_count_237 : decode cX12_count 237 = .ok (.ireturn, 1) := by decide +kernel
set_option maxHeartbeats 4000000 in
set_option maxRecDepth 100000 in
theorem w_X12_count_115 {X : CX} {T : List Dsc} {n1 n2 : Nat} {s0 : Int32} {μ : Mem} {r : (Int32 × Mem)} (hX : XR X 3 n1 n2) (hf : f_X12_count_115 T s0 μ = some r) (hk : FnI X cX12_count RX12 2 T n1 n2 r) : Wp X cX12_count RX12 2 T μ n1 n2 115 [] [.int s0] := by
  unfold f_X12_count_115 at hf
  cases hf
  exact hk _ _ dX12_count_115
set_option maxHeartbeats 4000000 in
set_option maxRecDepth 100000 in
theorem w_X12_count_148 {X : CX} {T : List Dsc} {n1 n2 : Nat} {s0 : Int32} {μ : Mem} {r : (Int32 × Mem)} (hX : XR X 3 n1 n2) (hf : f_X12_count_148 T s0 μ = some r) (hk : FnI X cX12_count RX12 2 T n1 n2 r) : Wp X cX12_count RX12 2 T μ n1 n2 148 [] [.int s0] := by
  unfold f_X12_count_148 at hf
  cases hf
  exact hk _ _ dX12_count_148
set_option maxHeartbeats 4000000 in
set_option maxRecDepth 100000 in
theorem w_X12_count_217 {X : CX} {T : List Dsc} {n1 n2 : Nat} {s0 : Int32} {s1 : Int32} {μ : Mem} {r : (Int32 × Mem)} (hX : XR X 3 n1 n2) (hf : f_X12_count_217 T s0 s1 μ = some r) (hk : FnI X cX12_count RX12 2 T n1 n2 r) : Wp X cX12_count RX12 2 T μ n1 n2 217 [] [.int s1, .int s0] := by
  unfold f_X12_count_217 at hf
  refine Wp.iadd (pc := 217) dX12_count_217 ?_
  cases hf
  exact hk _ _ dX12_count_218
set_option maxHeartbeats 4000000 in
set_option maxRecDepth 100000 in
theorem w_X12_count_202 {X : CX} {T : List Dsc} {n1 n2 : Nat} {x0 : Nat} {s0 : Int32} {s1 : Int32} {μ : Mem} {r : (Int32 × Mem)} (hX : XR X 3 n1 n2) (hx0 : T[x0]? = some (.inl 11)) (hf : f_X12_count_202 T x0 s0 s1 μ = some r) (hk : FnI X cX12_count RX12 2 T n1 n2 r) : Wp X cX12_count RX12 2 T μ n1 n2 202 [(0, .ref x0)] [.int s1, .int s0] := by
  unfold f_X12_count_202 at hf
  refine Wp.iadd (pc := 202) dX12_count_202 ?_
  refine Wp.aload_n (pc := 203) 0 rfl rfl dX12_count_203 ?_
  obtain ⟨a1, h2, hf⟩ := bnd hf
  refine Wp.getR (pc := 204) (gA_R h2) hx0 fk_RX12_188 rfl dX12_count_204 ?_
  refine Wp.iconst (pc := 207) (2 : Int32) (by decide) dX12_count_207 ?_
  obtain ⟨v3, h4, hf⟩ := bnd hf
  refine Wp.zald (pc := 208) h4 (gA_T h2) dX12_count_208 ?_
  refine Wp.if_eq (pc := 209) 216 dX12_count_209 (by decide) (fun hc5 => ?_) (fun hc5 => ?_)
  · rw [if_pos hc5] at hf
    refine Wp.iconst (pc := 216) (0 : Int32) (by decide) dX12_count_216 ?_
    refine Wp.lo' (lo' := []) [] rfl ?_
    exact w_X12_count_217 hX hf hk
  · rw [if_neg hc5] at hf
    refine Wp.iconst (pc := 212) (1 : Int32) (by decide) dX12_count_212 ?_
    refine Wp.goto (pc := 213) 217 dX12_count_213 (by decide) ?_
    refine Wp.lo' (lo' := []) [] rfl ?_
    exact w_X12_count_217 hX hf hk
set_option maxHeartbeats 4000000 in
set_option maxRecDepth 100000 in
theorem w_X12_count_188 {X : CX} {T : List Dsc} {n1 n2 : Nat} {x0 : Nat} {s0 : Int32} {μ : Mem} {r : (Int32 × Mem)} (hX : XR X 3 n1 n2) (hx0 : T[x0]? = some (.inl 11)) (hf : f_X12_count_188 T x0 s0 μ = some r) (hk : FnI X cX12_count RX12 2 T n1 n2 r) : Wp X cX12_count RX12 2 T μ n1 n2 188 [(0, .ref x0)] [.int s0] := by
  unfold f_X12_count_188 at hf
  refine Wp.aload_n (pc := 188) 0 rfl rfl dX12_count_188 ?_
  obtain ⟨a1, h2, hf⟩ := bnd hf
  refine Wp.getR (pc := 189) (gA_R h2) hx0 fk_RX12_188 rfl dX12_count_189 ?_
  refine Wp.iconst (pc := 192) (1 : Int32) (by decide) dX12_count_192 ?_
  obtain ⟨v3, h4, hf⟩ := bnd hf
  refine Wp.zald (pc := 193) h4 (gA_T h2) dX12_count_193 ?_
  refine Wp.if_eq (pc := 194) 201 dX12_count_194 (by decide) (fun hc5 => ?_) (fun hc5 => ?_)
  · rw [if_pos hc5] at hf
    refine Wp.iconst (pc := 201) (0 : Int32) (by decide) dX12_count_201 ?_
    exact w_X12_count_202 hX hx0 hf hk
  · rw [if_neg hc5] at hf
    refine Wp.iconst (pc := 197) (1 : Int32) (by decide) dX12_count_197 ?_
    refine Wp.goto (pc := 198) 202 dX12_count_198 (by decide) ?_
    exact w_X12_count_202 hX hx0 hf hk
set_option maxHeartbeats 4000000 in
set_option maxRecDepth 100000 in
theorem w_X12_count_235 {X : CX} {T : List Dsc} {n1 n2 : Nat} {s0 : Int32} {μ : Mem} {r : (Int32 × Mem)} (hX : XR X 3 n1 n2) (hf : f_X12_count_235 T s0 μ = some r) (hk : FnI X cX12_count RX12 2 T n1 n2 r) : Wp X cX12_count RX12 2 T μ n1 n2 235 [] [.int s0] := by
  unfold f_X12_count_235 at hf
  cases hf
  exact hk _ _ dX12_count_235
set_option maxHeartbeats 4000000 in
set_option maxRecDepth 100000 in
theorem w_X12_count {X : CX} {T : List Dsc} {n1 n2 : Nat} {x0 : Nat} {x1 : Int32} {μ : Mem} {r : (Int32 × Mem)} (hX : XR X 3 n1 n2) (hx0 : T[x0]? = some (.inl 11)) (hf : F_X12_count T x0 x1 μ = some r) (hk : FnI X cX12_count RX12 2 T n1 n2 r) : Wp X cX12_count RX12 2 T μ n1 n2 0 [(0, .ref x0), (1, .int x1)] [] := by
  unfold F_X12_count at hf
  refine Wp.iload_n (pc := 0) 1 rfl rfl dX12_count_0 ?_
  by_cases hc1 : x1 = (0 : Int32)
  · rw [if_pos hc1] at hf
    refine Wp.swIn (pc := 1) 68 dX12_count_1 hc1 (by decide) (by decide) rfl (by decide) ?_
    refine Wp.aload_n (pc := 68) 0 rfl rfl dX12_count_68 ?_
    obtain ⟨a2, h3, hf⟩ := bnd hf
    refine Wp.getR (pc := 69) (gA_R h3) hx0 fk_RX12_46 rfl dX12_count_69 ?_
    refine Wp.aload_n (pc := 72) 0 rfl rfl dX12_count_72 ?_
    refine Wp.getI (pc := 73) hx0 fk_RX12_284 rfl dX12_count_73 ?_
    obtain ⟨v4, h5, hf⟩ := bnd hf
    refine Wp.iald (pc := 76) h5 (gA_T h3) dX12_count_76 ?_
    cases hf
    exact hk _ _ dX12_count_77
  · rw [if_neg hc1] at hf
    by_cases hc6 : x1 = (1 : Int32)
    · rw [if_pos hc6] at hf
      refine Wp.swIn (pc := 1) 78 dX12_count_1 hc6 (by decide) (by decide) rfl (by decide) ?_
      refine Wp.aload_n (pc := 78) 0 rfl rfl dX12_count_78 ?_
      obtain ⟨a7, h8, hf⟩ := bnd hf
      refine Wp.getR (pc := 79) (gA_R h8) hx0 fk_RX12_49 rfl dX12_count_79 ?_
      refine Wp.aload_n (pc := 82) 0 rfl rfl dX12_count_82 ?_
      refine Wp.getI (pc := 83) hx0 fk_RX12_284 rfl dX12_count_83 ?_
      obtain ⟨v9, h10, hf⟩ := bnd hf
      refine Wp.iald (pc := 86) h10 (gA_T h8) dX12_count_86 ?_
      cases hf
      exact hk _ _ dX12_count_87
    · rw [if_neg hc6] at hf
      by_cases hc11 : x1 = (2 : Int32)
      · rw [if_pos hc11] at hf
        refine Wp.swIn (pc := 1) 88 dX12_count_1 hc11 (by decide) (by decide) rfl (by decide) ?_
        refine Wp.aload_n (pc := 88) 0 rfl rfl dX12_count_88 ?_
        obtain ⟨c12, h13, hf⟩ := bnd hf
        refine Wp.callVi (pc := 89) (st := []) (as := []) (c_X12_menNow hx0 h13) ml_RX12_390 mv_X12_menNow mb_X12_menNow hX (Nat.le_of_ble_eq_true rfl) (by decide) rfl hx0 rfl (by simp) dX12_count_89 rfl ?_
        cases hf
        exact hk _ _ dX12_count_92
      · rw [if_neg hc11] at hf
        by_cases hc14 : x1 = (3 : Int32)
        · rw [if_pos hc14] at hf
          refine Wp.swIn (pc := 1) 93 dX12_count_1 hc14 (by decide) (by decide) rfl (by decide) ?_
          refine Wp.aload_n (pc := 93) 0 rfl rfl dX12_count_93 ?_
          refine Wp.getI (pc := 94) hx0 fk_RX12_396 rfl dX12_count_94 ?_
          cases hf
          exact hk _ _ dX12_count_97
        · rw [if_neg hc14] at hf
          by_cases hc15 : x1 = (4 : Int32)
          · rw [if_pos hc15] at hf
            refine Wp.swIn (pc := 1) 98 dX12_count_1 hc15 (by decide) (by decide) rfl (by decide) ?_
            refine Wp.aload_n (pc := 98) 0 rfl rfl dX12_count_98 ?_
            refine Wp.getI (pc := 99) hx0 fk_RX12_209 rfl dX12_count_99 ?_
            refine Wp.iconst (pc := 102) (-1 : Int32) (by decide) dX12_count_102 ?_
            refine Wp.icmp_ne (pc := 103) 111 dX12_count_103 (by decide) (fun hc16 => ?_) (fun hc16 => ?_)
            · rw [if_neg hc16] at hf
              refine Wp.aload_n (pc := 111) 0 rfl rfl dX12_count_111 ?_
              refine Wp.getI (pc := 112) hx0 fk_RX12_209 rfl dX12_count_112 ?_
              refine Wp.lo' (lo' := []) [] rfl ?_
              exact w_X12_count_115 hX hf hk
            · rw [if_pos hc16] at hf
              refine Wp.bipush (pc := 106) (-2 : Int32) (by decide) dX12_count_106 ?_
              refine Wp.goto (pc := 108) 115 dX12_count_108 (by decide) ?_
              refine Wp.lo' (lo' := []) [] rfl ?_
              exact w_X12_count_115 hX hf hk
          · rw [if_neg hc15] at hf
            by_cases hc17 : x1 = (5 : Int32)
            · rw [if_pos hc17] at hf
              refine Wp.swIn (pc := 1) 116 dX12_count_1 hc17 (by decide) (by decide) rfl (by decide) ?_
              refine Wp.aload_n (pc := 116) 0 rfl rfl dX12_count_116 ?_
              refine Wp.getI (pc := 117) hx0 fk_RX12_393 rfl dX12_count_117 ?_
              cases hf
              exact hk _ _ dX12_count_120
            · rw [if_neg hc17] at hf
              by_cases hc18 : x1 = (6 : Int32)
              · rw [if_pos hc18] at hf
                refine Wp.swIn (pc := 1) 121 dX12_count_1 hc18 (by decide) (by decide) rfl (by decide) ?_
                refine Wp.aload_n (pc := 121) 0 rfl rfl dX12_count_121 ?_
                obtain ⟨a19, h20, hf⟩ := bnd hf
                refine Wp.getR (pc := 122) (gA_R h20) hx0 fk_RX12_85 rfl dX12_count_122 ?_
                refine Wp.aload_n (pc := 125) 0 rfl rfl dX12_count_125 ?_
                refine Wp.getI (pc := 126) hx0 fk_RX12_284 rfl dX12_count_126 ?_
                obtain ⟨v21, h22, hf⟩ := bnd hf
                refine Wp.iald (pc := 129) h22 (gA_T h20) dX12_count_129 ?_
                refine Wp.iconst (pc := 130) (-1 : Int32) (by decide) dX12_count_130 ?_
                refine Wp.icmp_ne (pc := 131) 139 dX12_count_131 (by decide) (fun hc23 => ?_) (fun hc23 => ?_)
                · rw [if_neg hc23] at hf
                  refine Wp.aload_n (pc := 139) 0 rfl rfl dX12_count_139 ?_
                  obtain ⟨a24, h25, hf⟩ := bnd hf
                  refine Wp.getR (pc := 140) (gA_R h25) hx0 fk_RX12_85 rfl dX12_count_140 ?_
                  refine Wp.aload_n (pc := 143) 0 rfl rfl dX12_count_143 ?_
                  refine Wp.getI (pc := 144) hx0 fk_RX12_284 rfl dX12_count_144 ?_
                  obtain ⟨v26, h27, hf⟩ := bnd hf
                  refine Wp.iald (pc := 147) h27 (gA_T h25) dX12_count_147 ?_
                  refine Wp.lo' (lo' := []) [] rfl ?_
                  exact w_X12_count_148 hX hf hk
                · rw [if_pos hc23] at hf
                  refine Wp.bipush (pc := 134) (-2 : Int32) (by decide) dX12_count_134 ?_
                  refine Wp.goto (pc := 136) 148 dX12_count_136 (by decide) ?_
                  refine Wp.lo' (lo' := []) [] rfl ?_
                  exact w_X12_count_148 hX hf hk
              · rw [if_neg hc18] at hf
                by_cases hc28 : x1 = (7 : Int32)
                · rw [if_pos hc28] at hf
                  refine Wp.swIn (pc := 1) 149 dX12_count_1 hc28 (by decide) (by decide) rfl (by decide) ?_
                  refine Wp.aload_n (pc := 149) 0 rfl rfl dX12_count_149 ?_
                  obtain ⟨a29, h30, hf⟩ := bnd hf
                  refine Wp.getR (pc := 150) (gA_R h30) hx0 fk_RX12_88 rfl dX12_count_150 ?_
                  refine Wp.aload_n (pc := 153) 0 rfl rfl dX12_count_153 ?_
                  refine Wp.getI (pc := 154) hx0 fk_RX12_284 rfl dX12_count_154 ?_
                  obtain ⟨v31, h32, hf⟩ := bnd hf
                  refine Wp.iald (pc := 157) h32 (gA_T h30) dX12_count_157 ?_
                  cases hf
                  exact hk _ _ dX12_count_158
                · rw [if_neg hc28] at hf
                  by_cases hc33 : x1 = (8 : Int32)
                  · rw [if_pos hc33] at hf
                    refine Wp.swIn (pc := 1) 159 dX12_count_1 hc33 (by decide) (by decide) rfl (by decide) ?_
                    refine Wp.aload_n (pc := 159) 0 rfl rfl dX12_count_159 ?_
                    refine Wp.getI (pc := 160) hx0 fk_RX12_216 rfl dX12_count_160 ?_
                    cases hf
                    exact hk _ _ dX12_count_163
                  · rw [if_neg hc33] at hf
                    by_cases hc34 : x1 = (9 : Int32)
                    · rw [if_pos hc34] at hf
                      refine Wp.swIn (pc := 1) 164 dX12_count_1 hc34 (by decide) (by decide) rfl (by decide) ?_
                      refine Wp.aload_n (pc := 164) 0 rfl rfl dX12_count_164 ?_
                      refine Wp.getI (pc := 165) hx0 fk_RX12_311 rfl dX12_count_165 ?_
                      cases hf
                      exact hk _ _ dX12_count_168
                    · rw [if_neg hc34] at hf
                      by_cases hc35 : x1 = (10 : Int32)
                      · rw [if_pos hc35] at hf
                        refine Wp.swIn (pc := 1) 169 dX12_count_1 hc35 (by decide) (by decide) rfl (by decide) ?_
                        refine Wp.aload_n (pc := 169) 0 rfl rfl dX12_count_169 ?_
                        refine Wp.getI (pc := 170) hx0 fk_RX12_314 rfl dX12_count_170 ?_
                        cases hf
                        exact hk _ _ dX12_count_173
                      · rw [if_neg hc35] at hf
                        by_cases hc36 : x1 = (11 : Int32)
                        · rw [if_pos hc36] at hf
                          refine Wp.swIn (pc := 1) 174 dX12_count_1 hc36 (by decide) (by decide) rfl (by decide) ?_
                          refine Wp.aload_n (pc := 174) 0 rfl rfl dX12_count_174 ?_
                          obtain ⟨a37, h38, hf⟩ := bnd hf
                          refine Wp.getR (pc := 175) (gA_R h38) hx0 fk_RX12_188 rfl dX12_count_175 ?_
                          refine Wp.iconst (pc := 178) (0 : Int32) (by decide) dX12_count_178 ?_
                          obtain ⟨v39, h40, hf⟩ := bnd hf
                          refine Wp.zald (pc := 179) h40 (gA_T h38) dX12_count_179 ?_
                          refine Wp.if_eq (pc := 180) 187 dX12_count_180 (by decide) (fun hc41 => ?_) (fun hc41 => ?_)
                          · rw [if_pos hc41] at hf
                            refine Wp.iconst (pc := 187) (0 : Int32) (by decide) dX12_count_187 ?_
                            refine Wp.lo' (lo' := [(0, .ref x0)]) [0] rfl ?_
                            exact w_X12_count_188 hX hx0 hf hk
                          · rw [if_neg hc41] at hf
                            refine Wp.iconst (pc := 183) (1 : Int32) (by decide) dX12_count_183 ?_
                            refine Wp.goto (pc := 184) 188 dX12_count_184 (by decide) ?_
                            refine Wp.lo' (lo' := [(0, .ref x0)]) [0] rfl ?_
                            exact w_X12_count_188 hX hx0 hf hk
                        · rw [if_neg hc36] at hf
                          by_cases hc42 : x1 = (12 : Int32)
                          · rw [if_pos hc42] at hf
                            refine Wp.swIn (pc := 1) 219 dX12_count_1 hc42 (by decide) (by decide) rfl (by decide) ?_
                            refine Wp.aload_n (pc := 219) 0 rfl rfl dX12_count_219 ?_
                            refine Wp.aload_n (pc := 220) 0 rfl rfl dX12_count_220 ?_
                            refine Wp.getI (pc := 221) hx0 fk_RX12_396 rfl dX12_count_221 ?_
                            obtain ⟨c43, h44, hf⟩ := bnd hf
                            refine Wp.callVi (pc := 224) (st := []) (as := [.int (gI μ x0 60)]) (c_X12_isFog hx0 h44) ml_RX12_447 mv_X12_isFog mb_X12_isFog hX (Nat.le_of_ble_eq_true rfl) (by decide) rfl hx0 rfl (by simp) dX12_count_224 rfl ?_
                            refine Wp.if_eq (pc := 227) 234 dX12_count_227 (by decide) (fun hc45 => ?_) (fun hc45 => ?_)
                            · rw [if_pos hc45] at hf
                              refine Wp.iconst (pc := 234) (0 : Int32) (by decide) dX12_count_234 ?_
                              refine Wp.lo' (lo' := []) [] rfl ?_
                              exact w_X12_count_235 hX hf hk
                            · rw [if_neg hc45] at hf
                              refine Wp.iconst (pc := 230) (1 : Int32) (by decide) dX12_count_230 ?_
                              refine Wp.goto (pc := 231) 235 dX12_count_231 (by decide) ?_
                              refine Wp.lo' (lo' := []) [] rfl ?_
                              exact w_X12_count_235 hX hf hk
                          · rw [if_neg hc42] at hf
                            refine Wp.swOut (pc := 1) 236 dX12_count_1 (swx (fun k h1 h2 => ?_)) (by decide) ?_
                            · have z0 := lv_neT hc1 (a := 0) (by decide); have z1 := lv_neT hc6 (a := 1) (by decide); have z2 := lv_neT hc11 (a := 2) (by decide); have z3 := lv_neT hc14 (a := 3) (by decide); have z4 := lv_neT hc15 (a := 4) (by decide); have z5 := lv_neT hc17 (a := 5) (by decide); have z6 := lv_neT hc18 (a := 6) (by decide); have z7 := lv_neT hc28 (a := 7) (by decide); have z8 := lv_neT hc33 (a := 8) (by decide); have z9 := lv_neT hc34 (a := 9) (by decide); have z10 := lv_neT hc35 (a := 10) (by decide); have z11 := lv_neT hc36 (a := 11) (by decide); have z12 := lv_neT hc42 (a := 12) (by decide); omega
                            · skip
                              refine Wp.iconst (pc := 236) (-1 : Int32) (by decide) dX12_count_236 ?_
                              cases hf
                              exact hk _ _ dX12_count_237
theorem c_X12_count {T : List Dsc} {x0 : Nat} {x1 : Int32} {μ : Mem} {r : (Int32 × Mem)} (hx0 : T[x0]? = some (.inl 11)) (hf : F_X12_count T x0 x1 μ = some r) : Ct 3 yX12_count cX12_count 2 (some .int) T μ [.ref x0, .int x1] (some (.int r.1)) r.2 := Ct.ofI (by decide +kernel) (Nat.le_of_ble_eq_true rfl) (fun X hX hk => w_X12_count hX hx0 hf hk)
