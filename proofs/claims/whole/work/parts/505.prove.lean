/-! ===== prove, behind the making of its rows ===== -/
theorem fk_RX0_52 : FK RX0 52 0 3 := ⟨_, _, _, rfl, by decide, gw_tb 366 (by decide +kernel) rfl⟩
theorem fk_RX0_55 : FK RX0 55 0 4 := ⟨_, _, _, rfl, by decide, gw_tb 368 (by decide +kernel) rfl⟩
theorem ff_RX0_0_3 : FKf RX0 0 3 false := by
  intro C TT N h
  cases h
  exact ⟨rfl, fun h => by cases h⟩
theorem ff_RX0_0_4 : FKf RX0 0 4 false := by
  intro C TT N h
  cases h
  exact ⟨rfl, fun h => by cases h⟩
theorem ml_RX0_32 : ML RX0 32 yX0_addBench := gw_tb 895 (by decide +kernel) rfl
theorem ml_RX0_46 : ML RX0 46 yJ7_fill_53178 := gw_tb 902 (by decide +kernel) rfl
theorem ml_RX0_58 : ML RX0 58 yX0_follow := gw_tb 903 (by decide +kernel) rfl
theorem mm_RX0_62 : MM RX0 62 Lib.Math.max.name Lib.Math.max.code 2 := ⟨gw_tb 907 (by decide +kernel) rfl, gw_tb 731 (by decide +kernel) rfl, gw_tb 17 (by decide +kernel) rfl, gw_tb 732 (by decide +kernel) rfl⟩
theorem mb_X0_addBench : MB yX0_addBench cX0_addBench 10 none 3 := ⟨gw_tb 13 (by decide +kernel) rfl, gw_tb 898 (by decide +kernel) rfl, by decide +kernel, by decide +kernel, by decide +kernel⟩
theorem mv_X0_addBench : MV yX0_addBench := ⟨gw_tb 897 (by decide +kernel) rfl, gw_pr 40 (q := (yX0_addBench, 5)) (by decide +kernel) rfl⟩
theorem mb_X0_follow : MB yX0_follow cX0_follow 6 none 1 := ⟨gw_tb 13 (by decide +kernel) rfl, gw_tb 906 (by decide +kernel) rfl, by decide +kernel, by decide +kernel, by decide +kernel⟩
theorem mv_X0_follow : MV yX0_follow := ⟨gw_tb 905 (by decide +kernel) rfl, gw_pr 41 (q := (yX0_follow, 5)) (by decide +kernel) rfl⟩
theorem dX0_prove_32 : decode cX0_prove 32 = .ok (.aload_n 0, 1) := by decide +kernel
theorem dX0_prove_33 : decode cX0_prove 33 = .ok (.getfield 25, 3) := by decide +kernel
theorem dX0_prove_36 : decode cX0_prove 36 = .ok (.iconst 0, 1) := by decide +kernel
theorem dX0_prove_37 : decode cX0_prove 37 = .ok (.iconst 0, 1) := by decide +kernel
theorem dX0_prove_38 : decode cX0_prove 38 = .ok (.iastore, 1) := by decide +kernel
theorem dX0_prove_39 : decode cX0_prove 39 = .ok (.iconst 0, 1) := by decide +kernel
theorem dX0_prove_40 : decode cX0_prove 40 = .ok (.istore 4, 2) := by decide +kernel
theorem dX0_prove_42 : decode cX0_prove 42 = .ok (.iload 4, 2) := by decide +kernel
theorem dX0_prove_44 : decode cX0_prove 44 = .ok (.iload_n 2, 1) := by decide +kernel
theorem dX0_prove_45 : decode cX0_prove 45 = .ok (.if_icmp .ge 17, 3) := by decide +kernel
theorem dX0_prove_48 : decode cX0_prove 48 = .ok (.aload_n 0, 1) := by decide +kernel
theorem dX0_prove_49 : decode cX0_prove 49 = .ok (.iload_n 1, 1) := by decide +kernel
theorem dX0_prove_50 : decode cX0_prove 50 = .ok (.iload 4, 2) := by decide +kernel
theorem dX0_prove_52 : decode cX0_prove 52 = .ok (.iload_n 3, 1) := by decide +kernel
theorem dX0_prove_53 : decode cX0_prove 53 = .ok (.invokevirtual 32, 3) := by decide +kernel
theorem dX0_prove_56 : decode cX0_prove 56 = .ok (.iinc 4 1, 3) := by decide +kernel
theorem dX0_prove_59 : decode cX0_prove 59 = .ok (.goto (-17), 3) := by decide +kernel
theorem dX0_prove_62 : decode cX0_prove 62 = .ok (.aload_n 0, 1) := by decide +kernel
theorem dX0_prove_63 : decode cX0_prove 63 = .ok (.iload_n 2, 1) := by decide +kernel
theorem dX0_prove_64 : decode cX0_prove 64 = .ok (.invokevirtual 36, 3) := by decide +kernel
theorem dX0_prove_67 : decode cX0_prove 67 = .ok (.sipush 20736, 3) := by decide +kernel
theorem dX0_prove_70 : decode cX0_prove 70 = .ok (.invokestatic 40, 3) := by decide +kernel
theorem dX0_prove_73 : decode cX0_prove 73 = .ok (.istore 4, 2) := by decide +kernel
theorem dX0_prove_75 : decode cX0_prove 75 = .ok (.aload_n 0, 1) := by decide +kernel
theorem dX0_prove_76 : decode cX0_prove 76 = .ok (.getfield 29, 3) := by decide +kernel
theorem dX0_prove_79 : decode cX0_prove 79 = .ok (.iconst (-1), 1) := by decide +kernel
theorem dX0_prove_80 : decode cX0_prove 80 = .ok (.invokestatic 46, 3) := by decide +kernel
theorem dX0_prove_83 : decode cX0_prove 83 = .ok (.aload_n 0, 1) := by decide +kernel
theorem dX0_prove_84 : decode cX0_prove 84 = .ok (.iconst 0, 1) := by decide +kernel
theorem dX0_prove_85 : decode cX0_prove 85 = .ok (.putfield 52, 3) := by decide +kernel
theorem dX0_prove_88 : decode cX0_prove 88 = .ok (.aload_n 0, 1) := by decide +kernel
theorem dX0_prove_89 : decode cX0_prove 89 = .ok (.iconst 0, 1) := by decide +kernel
theorem dX0_prove_90 : decode cX0_prove 90 = .ok (.putfield 55, 3) := by decide +kernel
theorem dX0_prove_93 : decode cX0_prove 93 = .ok (.iconst 0, 1) := by decide +kernel
theorem dX0_prove_94 : decode cX0_prove 94 = .ok (.istore 5, 2) := by decide +kernel
theorem dX0_prove_96 : decode cX0_prove 96 = .ok (.iload 5, 2) := by decide +kernel
theorem dX0_prove_98 : decode cX0_prove 98 = .ok (.iload 4, 2) := by decide +kernel
theorem dX0_prove_100 : decode cX0_prove 100 = .ok (.if_icmp .ge 64, 3) := by decide +kernel
theorem dX0_prove_103 : decode cX0_prove 103 = .ok (.aload_n 0, 1) := by decide +kernel
theorem dX0_prove_104 : decode cX0_prove 104 = .ok (.getfield 29, 3) := by decide +kernel
theorem dX0_prove_107 : decode cX0_prove 107 = .ok (.iload 5, 2) := by decide +kernel
theorem dX0_prove_109 : decode cX0_prove 109 = .ok (.iaload, 1) := by decide +kernel
theorem dX0_prove_110 : decode cX0_prove 110 = .ok (.iconst (-1), 1) := by decide +kernel
theorem dX0_prove_111 : decode cX0_prove 111 = .ok (.if_icmp .ne 9, 3) := by decide +kernel
theorem dX0_prove_114 : decode cX0_prove 114 = .ok (.aload_n 0, 1) := by decide +kernel
theorem dX0_prove_115 : decode cX0_prove 115 = .ok (.iload 5, 2) := by decide +kernel
theorem dX0_prove_117 : decode cX0_prove 117 = .ok (.invokevirtual 58, 3) := by decide +kernel
theorem dX0_prove_120 : decode cX0_prove 120 = .ok (.aload_n 0, 1) := by decide +kernel
theorem dX0_prove_121 : decode cX0_prove 121 = .ok (.getfield 29, 3) := by decide +kernel
theorem dX0_prove_124 : decode cX0_prove 124 = .ok (.iload 5, 2) := by decide +kernel
theorem dX0_prove_126 : decode cX0_prove 126 = .ok (.iaload, 1) := by decide +kernel
theorem dX0_prove_127 : decode cX0_prove 127 = .ok (.ifCond .lt 31, 3) := by decide +kernel
theorem dX0_prove_130 : decode cX0_prove 130 = .ok (.aload_n 0, 1) := by decide +kernel
theorem dX0_prove_131 : decode cX0_prove 131 = .ok (.dup, 1) := by decide +kernel
theorem dX0_prove_132 : decode cX0_prove 132 = .ok (.getfield 52, 3) := by decide +kernel
theorem dX0_prove_135 : decode cX0_prove 135 = .ok (.iconst 1, 1) := by decide +kernel
theorem dX0_prove_136 : decode cX0_prove 136 = .ok (.iadd, 1) := by decide +kernel
theorem dX0_prove_137 : decode cX0_prove 137 = .ok (.putfield 52, 3) := by decide +kernel
theorem dX0_prove_140 : decode cX0_prove 140 = .ok (.aload_n 0, 1) := by decide +kernel
theorem dX0_prove_141 : decode cX0_prove 141 = .ok (.aload_n 0, 1) := by decide +kernel
theorem dX0_prove_142 : decode cX0_prove 142 = .ok (.getfield 55, 3) := by decide +kernel
theorem dX0_prove_145 : decode cX0_prove 145 = .ok (.aload_n 0, 1) := by decide +kernel
theorem dX0_prove_146 : decode cX0_prove 146 = .ok (.getfield 29, 3) := by decide +kernel
theorem dX0_prove_149 : decode cX0_prove 149 = .ok (.iload 5, 2) := by decide +kernel
theorem dX0_prove_151 : decode cX0_prove 151 = .ok (.iaload, 1) := by decide +kernel
theorem dX0_prove_152 : decode cX0_prove 152 = .ok (.invokestatic 62, 3) := by decide +kernel
theorem dX0_prove_155 : decode cX0_prove 155 = .ok (.putfield 55, 3) := by decide +kernel
theorem dX0_prove_158 : decode cX0_prove 158 = .ok (.iinc 5 1, 3) := by decide +kernel
theorem dX0_prove_161 : decode cX0_prove 161 = .ok (.goto (-65), 3) := by decide +kernel
theorem dX0_prove_164 : decode cX0_prove 164 = .ok (.return_, 1) := by decide +kernel
def k_X0_prove_42 (X : CX) (T : List Dsc) (R : RM) (n1 n2 : Nat) (x1 : Int32) (x2 : Int32) (x3 : Int32) (r : ((Int32 × M2) ⊕ ((M2)))) : Prop := match r with
  | .inl s => Wp X cX0_prove RX0 6 T (mk s.2 R) n1 n2 42 [(0, .ref 38), (1, .int x1), (2, .int x2), (3, .int x3), (4, .int s.1)] []
  | .inr e => Wp X cX0_prove RX0 6 T (mk e R) n1 n2 62 [(0, .ref 38), (2, .int x2)] []
def k_X0_prove_96 (X : CX) (T : List Dsc) (R : RM) (n1 n2 : Nat) (x4 : Int32) (r : ((Int32 × M2) ⊕ ((M2)))) : Prop := match r with
  | .inl s => Wp X cX0_prove RX0 6 T (mk s.2 R) n1 n2 96 [(0, .ref 38), (4, .int x4), (5, .int s.1)] []
  | .inr e => Wp X cX0_prove RX0 6 T (mk e R) n1 n2 164 [] []
set_option maxHeartbeats 4000000 in
set_option maxRecDepth 100000 in
theorem w_X0_prove_42 {X : CX} {T : List Dsc} {R : RM} {c e : Nat} {n1 n2 : Nat} {x1 : Int32} {x2 : Int32} {x3 : Int32} {x4 : Int32} {m : M2} {r : ((Int32 × M2) ⊕ ((M2)))} (hX : XR X 6 n1 n2) (hG : Geo T R c e) (hB : GeoB T R) (hf : f_prove_42 c x1 x2 x3 x4 m = some r) (hk : k_X0_prove_42 X T R n1 n2 x1 x2 x3 r) : Wp X cX0_prove RX0 6 T (mk m R) n1 n2 42 [(0, .ref 38), (1, .int x1), (2, .int x2), (3, .int x3), (4, .int x4)] [] := by
  unfold f_prove_42 at hf
  refine Wp.iload (pc := 42) 4 rfl dX0_prove_42 ?_
  refine Wp.iload_n (pc := 44) 2 rfl rfl dX0_prove_44 ?_
  refine Wp.icmp_ge (pc := 45) 62 dX0_prove_45 (by decide) (fun hc1 => ?_) (fun hc1 => ?_)
  · rw [if_pos hc1] at hf
    refine Wp.lo' (lo' := [(0, .ref 38), (2, .int x2)]) [0, 2] rfl ?_
    cases hf
    exact hk
  · rw [if_neg hc1] at hf
    refine Wp.aload_n (pc := 48) 0 rfl rfl dX0_prove_48 ?_
    refine Wp.iload_n (pc := 49) 1 rfl rfl dX0_prove_49 ?_
    refine Wp.iload (pc := 50) 4 rfl dX0_prove_50 ?_
    refine Wp.iload_n (pc := 52) 3 rfl rfl dX0_prove_52 ?_
    obtain ⟨c2, h3, hf⟩ := bnd hf
    refine Wp.callVv (pc := 53) (st := []) (as := [.int x1, .int x4, .int x3]) (c_X0_addBench hG hB h3) ml_RX0_32 mv_X0_addBench mb_X0_addBench hX (Nat.le_of_ble_eq_true rfl) (by decide) rfl (hG.t 38 rfl) rfl (by simp) dX0_prove_53 rfl ?_
    obtain ⟨v4, h5, hf⟩ := bnd hf
    refine Wp.iincN (pc := 56) (lo' := [(0, .ref 38), (1, .int x1), (2, .int x2), (3, .int x3), (4, .int v4)]) (1 : Int32) (by decide) h5 4 rfl [1, 2, 3, 4, 0] rfl (by decide) dX0_prove_56 ?_
    refine Wp.goto (pc := 59) 42 dX0_prove_59 (by decide) ?_
    cases hf
    exact hk
theorem wl_X0_prove_42 {X : CX} {T : List Dsc} {R : RM} {c e : Nat} {n1 n2 : Nat} {x1 : Int32} {x2 : Int32} {x3 : Int32} {x4 : Int32} {m : M2} {e1 : ((M2))} (hX : XR X 6 n1 n2) (hG : Geo T R c e) (hB : GeoB T R) (h : loop (g_prove_42 c x1 x2 x3) (x4, m) = some e1) (he : Wp X cX0_prove RX0 6 T (mk e1 R) n1 n2 62 [(0, .ref 38), (2, .int x2)] []) : Wp X cX0_prove RX0 6 T (mk m R) n1 n2 42 [(0, .ref 38), (1, .int x1), (2, .int x2), (3, .int x3), (4, .int x4)] [] :=
  loop_ok (K := k_X0_prove_42 X T R n1 n2 x1 x2 x3) (fun s r hf hk => w_X0_prove_42 hX hG hB hf hk) h he
set_option maxHeartbeats 4000000 in
set_option maxRecDepth 100000 in
theorem w_X0_prove_158 {X : CX} {T : List Dsc} {R : RM} {c e : Nat} {n1 n2 : Nat} {x4 : Int32} {x5 : Int32} {m : M2} {r : ((Int32 × M2) ⊕ ((M2)))} (hX : XR X 6 n1 n2) (hG : Geo T R c e) (hB : GeoB T R) (hf : f_prove_158 c x4 x5 m = some r) (hk : k_X0_prove_96 X T R n1 n2 x4 r) : Wp X cX0_prove RX0 6 T (mk m R) n1 n2 158 [(0, .ref 38), (4, .int x4), (5, .int x5)] [] := by
  unfold f_prove_158 at hf
  obtain ⟨v1, h2, hf⟩ := bnd hf
  refine Wp.iincN (pc := 158) (lo' := [(0, .ref 38), (4, .int x4), (5, .int v1)]) (1 : Int32) (by decide) h2 2 rfl [1, 2, 0] rfl (by decide) dX0_prove_158 ?_
  refine Wp.goto (pc := 161) 96 dX0_prove_161 (by decide) ?_
  cases hf
  exact hk
set_option maxHeartbeats 4000000 in
set_option maxRecDepth 100000 in
theorem w_X0_prove_120 {X : CX} {T : List Dsc} {R : RM} {c e : Nat} {n1 n2 : Nat} {x4 : Int32} {x5 : Int32} {m : M2} {r : ((Int32 × M2) ⊕ ((M2)))} (hX : XR X 6 n1 n2) (hG : Geo T R c e) (hB : GeoB T R) (hf : f_prove_120 c x4 x5 m = some r) (hk : k_X0_prove_96 X T R n1 n2 x4 r) : Wp X cX0_prove RX0 6 T (mk m R) n1 n2 120 [(0, .ref 38), (4, .int x4), (5, .int x5)] [] := by
  unfold f_prove_120 at hf
  refine Wp.aload_n (pc := 120) 0 rfl rfl dX0_prove_120 ?_
  refine Wp.getR2 (pc := 121) hB.2.1 (hG.t 38 rfl) fk_RX0_29 rfl dX0_prove_121 ?_
  refine Wp.iload (pc := 124) 2 rfl dX0_prove_124 ?_
  obtain ⟨v1, h2, hf⟩ := bnd hf
  refine Wp.iald2 (pc := 126) h2 hB.2.2.2 dX0_prove_126 ?_
  refine Wp.if_lt (pc := 127) 158 dX0_prove_127 (by decide) (fun hc3 => ?_) (fun hc3 => ?_)
  · rw [if_pos hc3] at hf
    exact w_X0_prove_158 hX hG hB hf hk
  · rw [if_neg hc3] at hf
    refine Wp.aload_n (pc := 130) 0 rfl rfl dX0_prove_130 ?_
    refine Wp.dup (pc := 131) rfl dX0_prove_131 ?_
    refine Wp.getI2 (pc := 132) (hG.t 38 rfl) fk_RX0_52 rfl dX0_prove_132 ?_
    refine Wp.iconst (pc := 135) (1 : Int32) (by decide) dX0_prove_135 ?_
    refine Wp.iadd (pc := 136) dX0_prove_136 ?_
    obtain ⟨m4, h5, hf⟩ := bnd hf
    refine Wp.ptI2 (pc := 137) h5 (hG.t 38 rfl) fk_RX0_52 ff_RX0_0_3 rfl dX0_prove_137 ?_
    refine Wp.aload_n (pc := 140) 0 rfl rfl dX0_prove_140 ?_
    refine Wp.aload_n (pc := 141) 0 rfl rfl dX0_prove_141 ?_
    refine Wp.getI2 (pc := 142) (hG.t 38 rfl) fk_RX0_55 rfl dX0_prove_142 ?_
    refine Wp.aload_n (pc := 145) 0 rfl rfl dX0_prove_145 ?_
    refine Wp.getR2 (pc := 146) hB.2.1 (hG.t 38 rfl) fk_RX0_29 rfl dX0_prove_146 ?_
    refine Wp.iload (pc := 149) 2 rfl dX0_prove_149 ?_
    obtain ⟨v6, h7, hf⟩ := bnd hf
    refine Wp.iald2 (pc := 151) h7 hB.2.2.2 dX0_prove_151 ?_
    refine Wp.mmax (pc := 152) mm_RX0_62 hX (Nat.le_of_ble_eq_true rfl) (by simp [Value.category]) dX0_prove_152 ?_
    obtain ⟨m8, h9, hf⟩ := bnd hf
    refine Wp.ptI2 (pc := 155) h9 (hG.t 38 rfl) fk_RX0_55 ff_RX0_0_4 rfl dX0_prove_155 ?_
    exact w_X0_prove_158 hX hG hB hf hk
set_option maxHeartbeats 4000000 in
set_option maxRecDepth 100000 in
theorem w_X0_prove_96 {X : CX} {T : List Dsc} {R : RM} {c e : Nat} {n1 n2 : Nat} {x4 : Int32} {x5 : Int32} {m : M2} {r : ((Int32 × M2) ⊕ ((M2)))} (hX : XR X 6 n1 n2) (hG : Geo T R c e) (hB : GeoB T R) (hf : f_prove_96 c x4 x5 m = some r) (hk : k_X0_prove_96 X T R n1 n2 x4 r) : Wp X cX0_prove RX0 6 T (mk m R) n1 n2 96 [(0, .ref 38), (4, .int x4), (5, .int x5)] [] := by
  unfold f_prove_96 at hf
  refine Wp.iload (pc := 96) 2 rfl dX0_prove_96 ?_
  refine Wp.iload (pc := 98) 1 rfl dX0_prove_98 ?_
  refine Wp.icmp_ge (pc := 100) 164 dX0_prove_100 (by decide) (fun hc1 => ?_) (fun hc1 => ?_)
  · rw [if_pos hc1] at hf
    refine Wp.lo' (lo' := []) [] rfl ?_
    cases hf
    exact hk
  · rw [if_neg hc1] at hf
    refine Wp.aload_n (pc := 103) 0 rfl rfl dX0_prove_103 ?_
    refine Wp.getR2 (pc := 104) hB.2.1 (hG.t 38 rfl) fk_RX0_29 rfl dX0_prove_104 ?_
    refine Wp.iload (pc := 107) 2 rfl dX0_prove_107 ?_
    obtain ⟨v2, h3, hf⟩ := bnd hf
    refine Wp.iald2 (pc := 109) h3 hB.2.2.2 dX0_prove_109 ?_
    refine Wp.iconst (pc := 110) (-1 : Int32) (by decide) dX0_prove_110 ?_
    refine Wp.icmp_ne (pc := 111) 120 dX0_prove_111 (by decide) (fun hc4 => ?_) (fun hc4 => ?_)
    · rw [if_neg hc4] at hf
      exact w_X0_prove_120 hX hG hB hf hk
    · rw [if_pos hc4] at hf
      refine Wp.aload_n (pc := 114) 0 rfl rfl dX0_prove_114 ?_
      refine Wp.iload (pc := 115) 2 rfl dX0_prove_115 ?_
      obtain ⟨c5, h6, hf⟩ := bnd hf
      refine Wp.callVv (pc := 117) (st := []) (as := [.int x5]) (c_X0_follow hG hB h6) ml_RX0_58 mv_X0_follow mb_X0_follow hX (Nat.le_of_ble_eq_true rfl) (by decide) rfl (hG.t 38 rfl) rfl (by simp) dX0_prove_117 rfl ?_
      exact w_X0_prove_120 hX hG hB hf hk
theorem wl_X0_prove_96 {X : CX} {T : List Dsc} {R : RM} {c e : Nat} {n1 n2 : Nat} {x4 : Int32} {x5 : Int32} {m : M2} {e1 : ((M2))} (hX : XR X 6 n1 n2) (hG : Geo T R c e) (hB : GeoB T R) (h : loop (g_prove_96 c x4) (x5, m) = some e1) (he : Wp X cX0_prove RX0 6 T (mk e1 R) n1 n2 164 [] []) : Wp X cX0_prove RX0 6 T (mk m R) n1 n2 96 [(0, .ref 38), (4, .int x4), (5, .int x5)] [] :=
  loop_ok (K := k_X0_prove_96 X T R n1 n2 x4) (fun s r hf hk => w_X0_prove_96 hX hG hB hf hk) h he
set_option maxHeartbeats 4000000 in
set_option maxRecDepth 100000 in
theorem w_prove_32 {X : CX} {T : List Dsc} {R : RM} {c e : Nat} {n1 n2 : Nat} {x1 : Int32} {x2 : Int32} {x3 : Int32} {m : M2} {r : M2} (hX : XR X 6 n1 n2) (hG : Geo T R c e) (hB : GeoB T R) (hf : f_prove_32 c x1 x2 x3 m = some r) (hk : FnV X cX0_prove RX0 6 T n1 n2 (mk r R)) : Wp X cX0_prove RX0 6 T (mk m R) n1 n2 32 [(0, .ref 38), (1, .int x1), (2, .int x2), (3, .int x3)] [] := by
  unfold f_prove_32 at hf
  refine Wp.aload_n (pc := 32) 0 rfl rfl dX0_prove_32 ?_
  refine Wp.getR2 (pc := 33) hB.1 (hG.t 38 rfl) fk_RX0_25 rfl dX0_prove_33 ?_
  refine Wp.iconst (pc := 36) (0 : Int32) (by decide) dX0_prove_36 ?_
  refine Wp.iconst (pc := 37) (0 : Int32) (by decide) dX0_prove_37 ?_
  obtain ⟨m1, h2, hf⟩ := bnd hf
  refine Wp.iast2 (pc := 38) h2 hB.2.2.1 dX0_prove_38 ?_
  refine Wp.iconst (pc := 39) (0 : Int32) (by decide) dX0_prove_39 ?_
  refine Wp.istore (pc := 40) (lo' := [(0, .ref 38), (1, .int x1), (2, .int x2), (3, .int x3), (4, .int (0 : Int32))]) [1, 2, 3, 4, 0] rfl (by decide) dX0_prove_40 ?_
  obtain ⟨e3, h4, hf⟩ := bnd hf
  refine wl_X0_prove_42 hX hG hB h4 ?_
  refine Wp.aload_n (pc := 62) 0 rfl rfl dX0_prove_62 ?_
  refine Wp.iload_n (pc := 63) 1 rfl rfl dX0_prove_63 ?_
  obtain ⟨c5, h6, hf⟩ := bnd hf
  refine Wp.callVi (pc := 64) (st := []) (as := [.int x2]) (c_X0_howMany hG h6) ml_RX0_36 mv_X0_howMany mb_X0_howMany hX (Nat.le_of_ble_eq_true rfl) (by decide) rfl (hG.t 38 rfl) rfl (by simp) dX0_prove_64 rfl ?_
  refine Wp.sipush (pc := 67) (20736 : Int32) (by decide) dX0_prove_67 ?_
  refine Wp.mmin (pc := 70) mm_RX0_40 hX (Nat.le_of_ble_eq_true rfl) (by simp) dX0_prove_70 ?_
  obtain ⟨v7, h8, hf⟩ := bnd hf
  refine Wp.nI' h8 ?_
  refine Wp.istore (pc := 73) (lo' := [(0, .ref 38), (4, .int v7)]) [1, 0] rfl (by decide) dX0_prove_73 ?_
  refine Wp.aload_n (pc := 75) 0 rfl rfl dX0_prove_75 ?_
  refine Wp.getR2 (pc := 76) hB.2.1 (hG.t 38 rfl) fk_RX0_29 rfl dX0_prove_76 ?_
  refine Wp.iconst (pc := 79) (-1 : Int32) (by decide) dX0_prove_79 ?_
  obtain ⟨c9, h10, hf⟩ := bnd hf
  refine Wp.callSv (pc := 80) (st := []) (as := [.ref 121, .int (-1 : Int32)]) (c_J7_fill_53178 hG hB.2.2.2 h10) ml_RX0_46 ms_J7_fill_53178 mb_J7_fill_53178 hX (Nat.le_of_ble_eq_true rfl) (by decide) rfl (by simp) dX0_prove_80 rfl ?_
  refine Wp.aload_n (pc := 83) 0 rfl rfl dX0_prove_83 ?_
  refine Wp.iconst (pc := 84) (0 : Int32) (by decide) dX0_prove_84 ?_
  obtain ⟨m11, h12, hf⟩ := bnd hf
  refine Wp.ptI2 (pc := 85) h12 (hG.t 38 rfl) fk_RX0_52 ff_RX0_0_3 rfl dX0_prove_85 ?_
  refine Wp.aload_n (pc := 88) 0 rfl rfl dX0_prove_88 ?_
  refine Wp.iconst (pc := 89) (0 : Int32) (by decide) dX0_prove_89 ?_
  obtain ⟨m13, h14, hf⟩ := bnd hf
  refine Wp.ptI2 (pc := 90) h14 (hG.t 38 rfl) fk_RX0_55 ff_RX0_0_4 rfl dX0_prove_90 ?_
  refine Wp.iconst (pc := 93) (0 : Int32) (by decide) dX0_prove_93 ?_
  refine Wp.istore (pc := 94) (lo' := [(0, .ref 38), (4, .int v7), (5, .int (0 : Int32))]) [1, 2, 0] rfl (by decide) dX0_prove_94 ?_
  obtain ⟨e15, h16, hf⟩ := bnd hf
  refine wl_X0_prove_96 hX hG hB h16 ?_
  cases hf
  exact hk _ _ dX0_prove_164
